/-! the class as functions: the program -/
theorem d_Pg_madeOf_0 : decode b_Pg_madeOf 0 = .ok (.iload_n 1, 1) := by decide +kernel
theorem d_Pg_madeOf_1 : decode b_Pg_madeOf 1 = .ok (.ifCond .ge 7, 3) := by decide +kernel
theorem d_Pg_madeOf_4 : decode b_Pg_madeOf 4 = .ok (.iconst 0, 1) := by decide +kernel
theorem d_Pg_madeOf_5 : decode b_Pg_madeOf 5 = .ok (.goto 9, 3) := by decide +kernel
theorem d_Pg_madeOf_8 : decode b_Pg_madeOf 8 = .ok (.aload_n 0, 1) := by decide +kernel
theorem d_Pg_madeOf_9 : decode b_Pg_madeOf 9 = .ok (.getfield 18, 3) := by decide +kernel
theorem d_Pg_madeOf_12 : decode b_Pg_madeOf 12 = .ok (.iload_n 1, 1) := by decide +kernel
theorem d_Pg_madeOf_13 : decode b_Pg_madeOf 13 = .ok (.iaload, 1) := by decide +kernel
theorem d_Pg_madeOf_14 : decode b_Pg_madeOf 14 = .ok (.ireturn, 1) := by decide +kernel
abbrev mt_Pg_madeOf : MT := (R_Pg, b_Pg_madeOf, 2, some .int)
theorem vf_Pg_madeOf : VF y_Pg_madeOf mt_Pg_madeOf 8 1 := ⟨im_Pg_madeOf, se_Pg_madeOf, in_Pg, co_Pg_madeOf, by decide +kernel, _, _, rfl⟩
def f_Pg_madeOf (γ : St) (a0 : Int) : Option (Int × St) :=
  if 0 ≤ a0 then
  (chk (inb a0 9001) (some (γ 78 a0, γ)))
  else
  (some (0, γ))
set_option maxHeartbeats 4000000 in
theorem c_Pg_madeOf {Γ : Ctx} (γ : St) (a0 : Int) (ha0 : i32 a0) : NC Γ BS y_Pg_madeOf mt_Pg_madeOf 6 240 [vR Γ 11, vI a0] γ (f_Pg_madeOf γ a0) := by
  refine nc_of (by decide) rfl (Nat.le_of_ble_eq_true rfl) ?_
  show SB Γ BS mt_Pg_madeOf (RmN 6 240) 0 0 (KN Γ BS mt_Pg_madeOf.2.2.2) 0 [(0, vR Γ 11), (1, vI a0)] [] γ _
  unfold f_Pg_madeOf
  refine sb_iload_n 1 d_Pg_madeOf_0 rfl ?_
  refine sb_if_ge 8 ha0 d_Pg_madeOf_1 (by decide) (fun _ => ?_) (fun _ => ?_)
  · refine sb_aload_n 0 d_Pg_madeOf_8 rfl ?_
    refine g_Pg_18 d_Pg_madeOf_9 ?_
    refine sb_iload_n 1 d_Pg_madeOf_12 rfl ?_
    refine al_S_78 d_Pg_madeOf_13 (fun _ c2 => ?_)
    exact sn_i rfl c2 d_Pg_madeOf_14
  · refine sb_iconst d_Pg_madeOf_4 ?_
    refine sb_goto 14 d_Pg_madeOf_5 (by decide) ?_
    exact sn_i rfl (by decide) d_Pg_madeOf_14
theorem d_Pg_addStep_0 : decode b_Pg_addStep 0 = .ok (.aload_n 0, 1) := by decide +kernel
theorem d_Pg_addStep_1 : decode b_Pg_addStep 1 = .ok (.getfield 25, 3) := by decide +kernel
theorem d_Pg_addStep_4 : decode b_Pg_addStep 4 = .ok (.aload_n 0, 1) := by decide +kernel
theorem d_Pg_addStep_5 : decode b_Pg_addStep 5 = .ok (.getfield 84, 3) := by decide +kernel
theorem d_Pg_addStep_8 : decode b_Pg_addStep 8 = .ok (.aload_n 0, 1) := by decide +kernel
theorem d_Pg_addStep_9 : decode b_Pg_addStep 9 = .ok (.getfield 49, 3) := by decide +kernel
theorem d_Pg_addStep_12 : decode b_Pg_addStep 12 = .ok (.getfield 95, 3) := by decide +kernel
theorem d_Pg_addStep_15 : decode b_Pg_addStep 15 = .ok (.iload_n 1, 1) := by decide +kernel
theorem d_Pg_addStep_16 : decode b_Pg_addStep 16 = .ok (.iaload, 1) := by decide +kernel
theorem d_Pg_addStep_17 : decode b_Pg_addStep 17 = .ok (.iastore, 1) := by decide +kernel
theorem d_Pg_addStep_18 : decode b_Pg_addStep 18 = .ok (.aload_n 0, 1) := by decide +kernel
theorem d_Pg_addStep_19 : decode b_Pg_addStep 19 = .ok (.getfield 25, 3) := by decide +kernel
theorem d_Pg_addStep_22 : decode b_Pg_addStep 22 = .ok (.aload_n 0, 1) := by decide +kernel
theorem d_Pg_addStep_23 : decode b_Pg_addStep 23 = .ok (.getfield 84, 3) := by decide +kernel
theorem d_Pg_addStep_26 : decode b_Pg_addStep 26 = .ok (.iconst 1, 1) := by decide +kernel
theorem d_Pg_addStep_27 : decode b_Pg_addStep 27 = .ok (.iadd, 1) := by decide +kernel
theorem d_Pg_addStep_28 : decode b_Pg_addStep 28 = .ok (.iload_n 1, 1) := by decide +kernel
theorem d_Pg_addStep_29 : decode b_Pg_addStep 29 = .ok (.iastore, 1) := by decide +kernel
theorem d_Pg_addStep_30 : decode b_Pg_addStep 30 = .ok (.aload_n 0, 1) := by decide +kernel
theorem d_Pg_addStep_31 : decode b_Pg_addStep 31 = .ok (.getfield 25, 3) := by decide +kernel
theorem d_Pg_addStep_34 : decode b_Pg_addStep 34 = .ok (.aload_n 0, 1) := by decide +kernel
theorem d_Pg_addStep_35 : decode b_Pg_addStep 35 = .ok (.getfield 84, 3) := by decide +kernel
theorem d_Pg_addStep_38 : decode b_Pg_addStep 38 = .ok (.iconst 2, 1) := by decide +kernel
theorem d_Pg_addStep_39 : decode b_Pg_addStep 39 = .ok (.iadd, 1) := by decide +kernel
theorem d_Pg_addStep_40 : decode b_Pg_addStep 40 = .ok (.aload_n 0, 1) := by decide +kernel
theorem d_Pg_addStep_41 : decode b_Pg_addStep 41 = .ok (.aload_n 0, 1) := by decide +kernel
theorem d_Pg_addStep_42 : decode b_Pg_addStep 42 = .ok (.getfield 49, 3) := by decide +kernel
theorem d_Pg_addStep_45 : decode b_Pg_addStep 45 = .ok (.getfield 98, 3) := by decide +kernel
theorem d_Pg_addStep_48 : decode b_Pg_addStep 48 = .ok (.iload_n 1, 1) := by decide +kernel
theorem d_Pg_addStep_49 : decode b_Pg_addStep 49 = .ok (.iaload, 1) := by decide +kernel
theorem d_Pg_addStep_50 : decode b_Pg_addStep 50 = .ok (.invokevirtual 108, 3) := by decide +kernel
theorem d_Pg_addStep_53 : decode b_Pg_addStep 53 = .ok (.iastore, 1) := by decide +kernel
theorem d_Pg_addStep_54 : decode b_Pg_addStep 54 = .ok (.aload_n 0, 1) := by decide +kernel
theorem d_Pg_addStep_55 : decode b_Pg_addStep 55 = .ok (.getfield 25, 3) := by decide +kernel
theorem d_Pg_addStep_58 : decode b_Pg_addStep 58 = .ok (.aload_n 0, 1) := by decide +kernel
theorem d_Pg_addStep_59 : decode b_Pg_addStep 59 = .ok (.getfield 84, 3) := by decide +kernel
theorem d_Pg_addStep_62 : decode b_Pg_addStep 62 = .ok (.iconst 3, 1) := by decide +kernel
theorem d_Pg_addStep_63 : decode b_Pg_addStep 63 = .ok (.iadd, 1) := by decide +kernel
theorem d_Pg_addStep_64 : decode b_Pg_addStep 64 = .ok (.aload_n 0, 1) := by decide +kernel
theorem d_Pg_addStep_65 : decode b_Pg_addStep 65 = .ok (.aload_n 0, 1) := by decide +kernel
theorem d_Pg_addStep_66 : decode b_Pg_addStep 66 = .ok (.getfield 49, 3) := by decide +kernel
theorem d_Pg_addStep_69 : decode b_Pg_addStep 69 = .ok (.getfield 112, 3) := by decide +kernel
theorem d_Pg_addStep_72 : decode b_Pg_addStep 72 = .ok (.iload_n 1, 1) := by decide +kernel
theorem d_Pg_addStep_73 : decode b_Pg_addStep 73 = .ok (.iaload, 1) := by decide +kernel
theorem d_Pg_addStep_74 : decode b_Pg_addStep 74 = .ok (.invokevirtual 108, 3) := by decide +kernel
theorem d_Pg_addStep_77 : decode b_Pg_addStep 77 = .ok (.iastore, 1) := by decide +kernel
theorem d_Pg_addStep_78 : decode b_Pg_addStep 78 = .ok (.aload_n 0, 1) := by decide +kernel
theorem d_Pg_addStep_79 : decode b_Pg_addStep 79 = .ok (.getfield 25, 3) := by decide +kernel
theorem d_Pg_addStep_82 : decode b_Pg_addStep 82 = .ok (.aload_n 0, 1) := by decide +kernel
theorem d_Pg_addStep_83 : decode b_Pg_addStep 83 = .ok (.getfield 84, 3) := by decide +kernel
theorem d_Pg_addStep_86 : decode b_Pg_addStep 86 = .ok (.iconst 4, 1) := by decide +kernel
theorem d_Pg_addStep_87 : decode b_Pg_addStep 87 = .ok (.iadd, 1) := by decide +kernel
theorem d_Pg_addStep_88 : decode b_Pg_addStep 88 = .ok (.aload_n 0, 1) := by decide +kernel
theorem d_Pg_addStep_89 : decode b_Pg_addStep 89 = .ok (.aload_n 0, 1) := by decide +kernel
theorem d_Pg_addStep_90 : decode b_Pg_addStep 90 = .ok (.getfield 49, 3) := by decide +kernel
theorem d_Pg_addStep_93 : decode b_Pg_addStep 93 = .ok (.getfield 115, 3) := by decide +kernel
theorem d_Pg_addStep_96 : decode b_Pg_addStep 96 = .ok (.iload_n 1, 1) := by decide +kernel
theorem d_Pg_addStep_97 : decode b_Pg_addStep 97 = .ok (.iaload, 1) := by decide +kernel
theorem d_Pg_addStep_98 : decode b_Pg_addStep 98 = .ok (.invokevirtual 108, 3) := by decide +kernel
theorem d_Pg_addStep_101 : decode b_Pg_addStep 101 = .ok (.iastore, 1) := by decide +kernel
theorem d_Pg_addStep_102 : decode b_Pg_addStep 102 = .ok (.aload_n 0, 1) := by decide +kernel
theorem d_Pg_addStep_103 : decode b_Pg_addStep 103 = .ok (.getfield 25, 3) := by decide +kernel
theorem d_Pg_addStep_106 : decode b_Pg_addStep 106 = .ok (.aload_n 0, 1) := by decide +kernel
theorem d_Pg_addStep_107 : decode b_Pg_addStep 107 = .ok (.getfield 84, 3) := by decide +kernel
theorem d_Pg_addStep_110 : decode b_Pg_addStep 110 = .ok (.iconst 5, 1) := by decide +kernel
theorem d_Pg_addStep_111 : decode b_Pg_addStep 111 = .ok (.iadd, 1) := by decide +kernel
theorem d_Pg_addStep_112 : decode b_Pg_addStep 112 = .ok (.aload_n 0, 1) := by decide +kernel
theorem d_Pg_addStep_113 : decode b_Pg_addStep 113 = .ok (.getfield 49, 3) := by decide +kernel
theorem d_Pg_addStep_116 : decode b_Pg_addStep 116 = .ok (.getfield 101, 3) := by decide +kernel
theorem d_Pg_addStep_119 : decode b_Pg_addStep 119 = .ok (.iload_n 1, 1) := by decide +kernel
theorem d_Pg_addStep_120 : decode b_Pg_addStep 120 = .ok (.iaload, 1) := by decide +kernel
theorem d_Pg_addStep_121 : decode b_Pg_addStep 121 = .ok (.iastore, 1) := by decide +kernel
theorem d_Pg_addStep_122 : decode b_Pg_addStep 122 = .ok (.aload_n 0, 1) := by decide +kernel
theorem d_Pg_addStep_123 : decode b_Pg_addStep 123 = .ok (.dup, 1) := by decide +kernel
theorem d_Pg_addStep_124 : decode b_Pg_addStep 124 = .ok (.getfield 84, 3) := by decide +kernel
theorem d_Pg_addStep_127 : decode b_Pg_addStep 127 = .ok (.bipush 6, 2) := by decide +kernel
theorem d_Pg_addStep_129 : decode b_Pg_addStep 129 = .ok (.iadd, 1) := by decide +kernel
theorem d_Pg_addStep_130 : decode b_Pg_addStep 130 = .ok (.putfield 84, 3) := by decide +kernel
theorem d_Pg_addStep_133 : decode b_Pg_addStep 133 = .ok (.return_, 1) := by decide +kernel
abbrev mt_Pg_addStep : MT := (R_Pg, b_Pg_addStep, 2, none)
theorem vf_Pg_addStep : VF y_Pg_addStep mt_Pg_addStep 8 1 := ⟨im_Pg_addStep, se_Pg_addStep, in_Pg, co_Pg_addStep, by decide +kernel, _, _, rfl⟩
def f_Pg_addStep (γ : St) (a0 : Int) : Option (Int × St) :=
  chk (inb a0 9001) (chk (inb (γ 11 9) 18000) (ap (setA γ 80 (γ 11 9) (γ 54 a0)) fun γ6 =>
  chk (i32 ((γ6 11 9) + 1)) (chk (inb ((γ6 11 9) + 1) 18000) (ap (setA γ6 80 ((γ6 11 9) + 1) a0) fun γ10 =>
  chk (i32 ((γ10 11 9) + 2)) (chk (inb a0 9001) (bndN (f_Pg_madeOf γ10 (γ10 55 a0)) fun r17 γ18 =>
  chk (inb ((γ10 11 9) + 2) 18000) (ap (setA γ18 80 ((γ10 11 9) + 2) r17) fun γ19 =>
  chk (i32 ((γ19 11 9) + 3)) (chk (inb a0 9001) (bndN (f_Pg_madeOf γ19 (γ19 56 a0)) fun r26 γ27 =>
  chk (inb ((γ19 11 9) + 3) 18000) (ap (setA γ27 80 ((γ19 11 9) + 3) r26) fun γ28 =>
  chk (i32 ((γ28 11 9) + 4)) (chk (inb a0 9001) (bndN (f_Pg_madeOf γ28 (γ28 57 a0)) fun r35 γ36 =>
  chk (inb ((γ28 11 9) + 4) 18000) (ap (setA γ36 80 ((γ28 11 9) + 4) r35) fun γ37 =>
  chk (i32 ((γ37 11 9) + 5)) (chk (inb a0 9001) (chk (inb ((γ37 11 9) + 5) 18000) (ap (setA γ37 80 ((γ37 11 9) + 5) (γ37 58 a0)) fun γ44 =>
  chk (i32 ((γ44 11 9) + 6)) (ap (setA γ44 11 9 ((γ44 11 9) + 6)) fun γ47 =>
  some (0, γ47))))))))))))))))))
set_option maxHeartbeats 4000000 in
theorem c_Pg_addStep {Γ : Ctx} (γ : St) (a0 : Int) (ha0 : i32 a0) : NC Γ BS y_Pg_addStep mt_Pg_addStep 7 261 [vR Γ 11, vI a0] γ (f_Pg_addStep γ a0) := by
  refine nc_of (by decide) rfl (Nat.le_of_ble_eq_true rfl) ?_
  show SB Γ BS mt_Pg_addStep (RmN 7 261) 0 0 (KN Γ BS mt_Pg_addStep.2.2.2) 0 [(0, vR Γ 11), (1, vI a0)] [] γ _
  unfold f_Pg_addStep
  refine sb_aload_n 0 d_Pg_addStep_0 rfl ?_
  refine g_Pg_25 d_Pg_addStep_1 ?_
  refine sb_aload_n 0 d_Pg_addStep_4 rfl ?_
  refine g_Pg_84 d_Pg_addStep_5 (fun c2 => ?_)
  refine sb_aload_n 0 d_Pg_addStep_8 rfl ?_
  refine g_Pg_49 d_Pg_addStep_9 ?_
  refine g_Pg_95 d_Pg_addStep_12 ?_
  refine sb_iload_n 1 d_Pg_addStep_15 rfl ?_
  refine al_S_54 d_Pg_addStep_16 (fun _ c5 => ?_)
  refine as_S_80 c5 d_Pg_addStep_17 (fun _ => ?_)
  refine sb_aps (fun γ6 => ?_)
  refine sb_aload_n 0 d_Pg_addStep_18 rfl ?_
  refine g_Pg_25 d_Pg_addStep_19 ?_
  refine sb_aload_n 0 d_Pg_addStep_22 rfl ?_
  refine g_Pg_84 d_Pg_addStep_23 (fun c8 => ?_)
  refine sb_iconst d_Pg_addStep_26 ?_
  refine sb_iadd d_Pg_addStep_27 ?_
  refine sb_chk (fun c9 => ?_)
  refine sb_iload_n 1 d_Pg_addStep_28 rfl ?_
  refine as_S_80 ha0 d_Pg_addStep_29 (fun _ => ?_)
  refine sb_aps (fun γ10 => ?_)
  refine sb_aload_n 0 d_Pg_addStep_30 rfl ?_
  refine g_Pg_25 d_Pg_addStep_31 ?_
  refine sb_aload_n 0 d_Pg_addStep_34 rfl ?_
  refine g_Pg_84 d_Pg_addStep_35 (fun c12 => ?_)
  refine sb_iconst d_Pg_addStep_38 ?_
  refine sb_iadd d_Pg_addStep_39 ?_
  refine sb_chk (fun c13 => ?_)
  refine sb_aload_n 0 d_Pg_addStep_40 rfl ?_
  refine sb_aload_n 0 d_Pg_addStep_41 rfl ?_
  refine g_Pg_49 d_Pg_addStep_42 ?_
  refine g_Pg_98 d_Pg_addStep_45 ?_
  refine sb_iload_n 1 d_Pg_addStep_48 rfl ?_
  refine al_S_55 d_Pg_addStep_49 (fun _ c16 => ?_)
  refine sb_cVi vf_Pg_madeOf (c_Pg_madeOf γ10 (γ10 55 a0) c16) rfl ml_Pg_108 (As := [vI (γ10 55 a0)]) rfl rfl (Nat.le_of_ble_eq_true rfl) ⟨by decide, by decide⟩ d_Pg_addStep_50 (fun r17 γ18 hr17 => ?_)
  refine as_S_80 hr17 d_Pg_addStep_53 (fun _ => ?_)
  refine sb_aps (fun γ19 => ?_)
  refine sb_aload_n 0 d_Pg_addStep_54 rfl ?_
  refine g_Pg_25 d_Pg_addStep_55 ?_
  refine sb_aload_n 0 d_Pg_addStep_58 rfl ?_
  refine g_Pg_84 d_Pg_addStep_59 (fun c21 => ?_)
  refine sb_iconst d_Pg_addStep_62 ?_
  refine sb_iadd d_Pg_addStep_63 ?_
  refine sb_chk (fun c22 => ?_)
  refine sb_aload_n 0 d_Pg_addStep_64 rfl ?_
  refine sb_aload_n 0 d_Pg_addStep_65 rfl ?_
  refine g_Pg_49 d_Pg_addStep_66 ?_
  refine g_Pg_112 d_Pg_addStep_69 ?_
  refine sb_iload_n 1 d_Pg_addStep_72 rfl ?_
  refine al_S_56 d_Pg_addStep_73 (fun _ c25 => ?_)
  refine sb_cVi vf_Pg_madeOf (c_Pg_madeOf γ19 (γ19 56 a0) c25) rfl ml_Pg_108 (As := [vI (γ19 56 a0)]) rfl rfl (Nat.le_of_ble_eq_true rfl) ⟨by decide, by decide⟩ d_Pg_addStep_74 (fun r26 γ27 hr26 => ?_)
  refine as_S_80 hr26 d_Pg_addStep_77 (fun _ => ?_)
  refine sb_aps (fun γ28 => ?_)
  refine sb_aload_n 0 d_Pg_addStep_78 rfl ?_
  refine g_Pg_25 d_Pg_addStep_79 ?_
  refine sb_aload_n 0 d_Pg_addStep_82 rfl ?_
  refine g_Pg_84 d_Pg_addStep_83 (fun c30 => ?_)
  refine sb_iconst d_Pg_addStep_86 ?_
  refine sb_iadd d_Pg_addStep_87 ?_
  refine sb_chk (fun c31 => ?_)
  refine sb_aload_n 0 d_Pg_addStep_88 rfl ?_
  refine sb_aload_n 0 d_Pg_addStep_89 rfl ?_
  refine g_Pg_49 d_Pg_addStep_90 ?_
  refine g_Pg_115 d_Pg_addStep_93 ?_
  refine sb_iload_n 1 d_Pg_addStep_96 rfl ?_
  refine al_S_57 d_Pg_addStep_97 (fun _ c34 => ?_)
  refine sb_cVi vf_Pg_madeOf (c_Pg_madeOf γ28 (γ28 57 a0) c34) rfl ml_Pg_108 (As := [vI (γ28 57 a0)]) rfl rfl (Nat.le_of_ble_eq_true rfl) ⟨by decide, by decide⟩ d_Pg_addStep_98 (fun r35 γ36 hr35 => ?_)
  refine as_S_80 hr35 d_Pg_addStep_101 (fun _ => ?_)
  refine sb_aps (fun γ37 => ?_)
  refine sb_aload_n 0 d_Pg_addStep_102 rfl ?_
  refine g_Pg_25 d_Pg_addStep_103 ?_
  refine sb_aload_n 0 d_Pg_addStep_106 rfl ?_
  refine g_Pg_84 d_Pg_addStep_107 (fun c39 => ?_)
  refine sb_iconst d_Pg_addStep_110 ?_
  refine sb_iadd d_Pg_addStep_111 ?_
  refine sb_chk (fun c40 => ?_)
  refine sb_aload_n 0 d_Pg_addStep_112 rfl ?_
  refine g_Pg_49 d_Pg_addStep_113 ?_
  refine g_Pg_101 d_Pg_addStep_116 ?_
  refine sb_iload_n 1 d_Pg_addStep_119 rfl ?_
  refine al_S_58 d_Pg_addStep_120 (fun _ c43 => ?_)
  refine as_S_80 c43 d_Pg_addStep_121 (fun _ => ?_)
  refine sb_aps (fun γ44 => ?_)
  refine sb_aload_n 0 d_Pg_addStep_122 rfl ?_
  refine sb_dup d_Pg_addStep_123 rfl ?_
  refine g_Pg_84 d_Pg_addStep_124 (fun c45 => ?_)
  refine sb_bipush d_Pg_addStep_127 (by decide) ?_
  refine sb_iadd d_Pg_addStep_129 ?_
  refine sb_chk (fun c46 => ?_)
  refine p_Pg_84 c46 d_Pg_addStep_130 ?_
  refine sb_aps (fun γ47 => ?_)
  exact sn_v rfl d_Pg_addStep_133
theorem d_Pg_buildSteps_0 : decode b_Pg_buildSteps 0 = .ok (.aload_n 0, 1) := by decide +kernel
theorem d_Pg_buildSteps_1 : decode b_Pg_buildSteps 1 = .ok (.iconst 0, 1) := by decide +kernel
theorem d_Pg_buildSteps_2 : decode b_Pg_buildSteps 2 = .ok (.putfield 84, 3) := by decide +kernel
theorem d_Pg_buildSteps_5 : decode b_Pg_buildSteps 5 = .ok (.iconst 0, 1) := by decide +kernel
theorem d_Pg_buildSteps_6 : decode b_Pg_buildSteps 6 = .ok (.istore_n 1, 1) := by decide +kernel
theorem d_Pg_buildSteps_7 : decode b_Pg_buildSteps 7 = .ok (.iload_n 1, 1) := by decide +kernel
theorem d_Pg_buildSteps_8 : decode b_Pg_buildSteps 8 = .ok (.aload_n 0, 1) := by decide +kernel
theorem d_Pg_buildSteps_9 : decode b_Pg_buildSteps 9 = .ok (.getfield 53, 3) := by decide +kernel
theorem d_Pg_buildSteps_12 : decode b_Pg_buildSteps 12 = .ok (.getfield 87, 3) := by decide +kernel
theorem d_Pg_buildSteps_15 : decode b_Pg_buildSteps 15 = .ok (.if_icmp .ge 121, 3) := by decide +kernel
theorem d_Pg_buildSteps_18 : decode b_Pg_buildSteps 18 = .ok (.aload_n 0, 1) := by decide +kernel
theorem d_Pg_buildSteps_19 : decode b_Pg_buildSteps 19 = .ok (.getfield 53, 3) := by decide +kernel
theorem d_Pg_buildSteps_22 : decode b_Pg_buildSteps 22 = .ok (.getfield 92, 3) := by decide +kernel
theorem d_Pg_buildSteps_25 : decode b_Pg_buildSteps 25 = .ok (.iload_n 1, 1) := by decide +kernel
theorem d_Pg_buildSteps_26 : decode b_Pg_buildSteps 26 = .ok (.iaload, 1) := by decide +kernel
theorem d_Pg_buildSteps_27 : decode b_Pg_buildSteps 27 = .ok (.istore_n 2, 1) := by decide +kernel
theorem d_Pg_buildSteps_28 : decode b_Pg_buildSteps 28 = .ok (.aload_n 0, 1) := by decide +kernel
theorem d_Pg_buildSteps_29 : decode b_Pg_buildSteps 29 = .ok (.getfield 18, 3) := by decide +kernel
theorem d_Pg_buildSteps_32 : decode b_Pg_buildSteps 32 = .ok (.iload_n 2, 1) := by decide +kernel
theorem d_Pg_buildSteps_33 : decode b_Pg_buildSteps 33 = .ok (.iload_n 2, 1) := by decide +kernel
theorem d_Pg_buildSteps_34 : decode b_Pg_buildSteps 34 = .ok (.iastore, 1) := by decide +kernel
theorem d_Pg_buildSteps_35 : decode b_Pg_buildSteps 35 = .ok (.aload_n 0, 1) := by decide +kernel
theorem d_Pg_buildSteps_36 : decode b_Pg_buildSteps 36 = .ok (.getfield 22, 3) := by decide +kernel
theorem d_Pg_buildSteps_39 : decode b_Pg_buildSteps 39 = .ok (.iload_n 2, 1) := by decide +kernel
theorem d_Pg_buildSteps_40 : decode b_Pg_buildSteps 40 = .ok (.iconst 0, 1) := by decide +kernel
theorem d_Pg_buildSteps_41 : decode b_Pg_buildSteps 41 = .ok (.iastore, 1) := by decide +kernel
theorem d_Pg_buildSteps_42 : decode b_Pg_buildSteps 42 = .ok (.aload_n 0, 1) := by decide +kernel
theorem d_Pg_buildSteps_43 : decode b_Pg_buildSteps 43 = .ok (.getfield 49, 3) := by decide +kernel
theorem d_Pg_buildSteps_46 : decode b_Pg_buildSteps 46 = .ok (.getfield 95, 3) := by decide +kernel
theorem d_Pg_buildSteps_49 : decode b_Pg_buildSteps 49 = .ok (.iload_n 2, 1) := by decide +kernel
theorem d_Pg_buildSteps_50 : decode b_Pg_buildSteps 50 = .ok (.iaload, 1) := by decide +kernel
theorem d_Pg_buildSteps_51 : decode b_Pg_buildSteps 51 = .ok (.iconst 2, 1) := by decide +kernel
theorem d_Pg_buildSteps_52 : decode b_Pg_buildSteps 52 = .ok (.if_icmp .ne 42, 3) := by decide +kernel
theorem d_Pg_buildSteps_55 : decode b_Pg_buildSteps 55 = .ok (.aload_n 0, 1) := by decide +kernel
theorem d_Pg_buildSteps_56 : decode b_Pg_buildSteps 56 = .ok (.getfield 18, 3) := by decide +kernel
theorem d_Pg_buildSteps_59 : decode b_Pg_buildSteps 59 = .ok (.iload_n 2, 1) := by decide +kernel
theorem d_Pg_buildSteps_60 : decode b_Pg_buildSteps 60 = .ok (.aload_n 0, 1) := by decide +kernel
theorem d_Pg_buildSteps_61 : decode b_Pg_buildSteps 61 = .ok (.getfield 49, 3) := by decide +kernel
theorem d_Pg_buildSteps_64 : decode b_Pg_buildSteps 64 = .ok (.getfield 98, 3) := by decide +kernel
theorem d_Pg_buildSteps_67 : decode b_Pg_buildSteps 67 = .ok (.iload_n 2, 1) := by decide +kernel
theorem d_Pg_buildSteps_68 : decode b_Pg_buildSteps 68 = .ok (.iaload, 1) := by decide +kernel
theorem d_Pg_buildSteps_69 : decode b_Pg_buildSteps 69 = .ok (.ifCond .ge 7, 3) := by decide +kernel
theorem d_Pg_buildSteps_72 : decode b_Pg_buildSteps 72 = .ok (.iload_n 2, 1) := by decide +kernel
theorem d_Pg_buildSteps_73 : decode b_Pg_buildSteps 73 = .ok (.goto 17, 3) := by decide +kernel
theorem d_Pg_buildSteps_76 : decode b_Pg_buildSteps 76 = .ok (.aload_n 0, 1) := by decide +kernel
theorem d_Pg_buildSteps_77 : decode b_Pg_buildSteps 77 = .ok (.getfield 18, 3) := by decide +kernel
theorem d_Pg_buildSteps_80 : decode b_Pg_buildSteps 80 = .ok (.aload_n 0, 1) := by decide +kernel
theorem d_Pg_buildSteps_81 : decode b_Pg_buildSteps 81 = .ok (.getfield 49, 3) := by decide +kernel
theorem d_Pg_buildSteps_84 : decode b_Pg_buildSteps 84 = .ok (.getfield 98, 3) := by decide +kernel
theorem d_Pg_buildSteps_87 : decode b_Pg_buildSteps 87 = .ok (.iload_n 2, 1) := by decide +kernel
theorem d_Pg_buildSteps_88 : decode b_Pg_buildSteps 88 = .ok (.iaload, 1) := by decide +kernel
theorem d_Pg_buildSteps_89 : decode b_Pg_buildSteps 89 = .ok (.iaload, 1) := by decide +kernel
theorem d_Pg_buildSteps_90 : decode b_Pg_buildSteps 90 = .ok (.iastore, 1) := by decide +kernel
theorem d_Pg_buildSteps_91 : decode b_Pg_buildSteps 91 = .ok (.goto 39, 3) := by decide +kernel
theorem d_Pg_buildSteps_94 : decode b_Pg_buildSteps 94 = .ok (.aload_n 0, 1) := by decide +kernel
theorem d_Pg_buildSteps_95 : decode b_Pg_buildSteps 95 = .ok (.getfield 49, 3) := by decide +kernel
theorem d_Pg_buildSteps_98 : decode b_Pg_buildSteps 98 = .ok (.getfield 95, 3) := by decide +kernel
theorem d_Pg_buildSteps_101 : decode b_Pg_buildSteps 101 = .ok (.iload_n 2, 1) := by decide +kernel
theorem d_Pg_buildSteps_102 : decode b_Pg_buildSteps 102 = .ok (.iaload, 1) := by decide +kernel
theorem d_Pg_buildSteps_103 : decode b_Pg_buildSteps 103 = .ok (.iconst 3, 1) := by decide +kernel
theorem d_Pg_buildSteps_104 : decode b_Pg_buildSteps 104 = .ok (.if_icmp .ne 21, 3) := by decide +kernel
theorem d_Pg_buildSteps_107 : decode b_Pg_buildSteps 107 = .ok (.aload_n 0, 1) := by decide +kernel
theorem d_Pg_buildSteps_108 : decode b_Pg_buildSteps 108 = .ok (.getfield 22, 3) := by decide +kernel
theorem d_Pg_buildSteps_111 : decode b_Pg_buildSteps 111 = .ok (.iload_n 2, 1) := by decide +kernel
theorem d_Pg_buildSteps_112 : decode b_Pg_buildSteps 112 = .ok (.aload_n 0, 1) := by decide +kernel
theorem d_Pg_buildSteps_113 : decode b_Pg_buildSteps 113 = .ok (.getfield 49, 3) := by decide +kernel
theorem d_Pg_buildSteps_116 : decode b_Pg_buildSteps 116 = .ok (.getfield 101, 3) := by decide +kernel
theorem d_Pg_buildSteps_119 : decode b_Pg_buildSteps 119 = .ok (.iload_n 2, 1) := by decide +kernel
theorem d_Pg_buildSteps_120 : decode b_Pg_buildSteps 120 = .ok (.iaload, 1) := by decide +kernel
theorem d_Pg_buildSteps_121 : decode b_Pg_buildSteps 121 = .ok (.iastore, 1) := by decide +kernel
theorem d_Pg_buildSteps_122 : decode b_Pg_buildSteps 122 = .ok (.goto 8, 3) := by decide +kernel
theorem d_Pg_buildSteps_125 : decode b_Pg_buildSteps 125 = .ok (.aload_n 0, 1) := by decide +kernel
theorem d_Pg_buildSteps_126 : decode b_Pg_buildSteps 126 = .ok (.iload_n 2, 1) := by decide +kernel
theorem d_Pg_buildSteps_127 : decode b_Pg_buildSteps 127 = .ok (.invokevirtual 104, 3) := by decide +kernel
theorem d_Pg_buildSteps_130 : decode b_Pg_buildSteps 130 = .ok (.iinc 1 1, 3) := by decide +kernel
theorem d_Pg_buildSteps_133 : decode b_Pg_buildSteps 133 = .ok (.goto (-126), 3) := by decide +kernel
theorem d_Pg_buildSteps_136 : decode b_Pg_buildSteps 136 = .ok (.return_, 1) := by decide +kernel
abbrev mt_Pg_buildSteps : MT := (R_Pg, b_Pg_buildSteps, 3, none)
theorem vf_Pg_buildSteps : VF y_Pg_buildSteps mt_Pg_buildSteps 8 0 := ⟨im_Pg_buildSteps, se_Pg_buildSteps, in_Pg, co_Pg_buildSteps, by decide +kernel, _, _, rfl⟩
def f_Pg_buildSteps_b130 (k7 : St → Int → Option (Int × St)) (γ : St) (x1 : Int) : Option (Int × St) :=
  chk (i32 (x1 + 1)) (k7 γ (x1 + 1))
def f_Pg_buildSteps_b90 (k7 : St → Int → Option (Int × St)) (γ : St) (x4 : Int) (x5 : Int) (x6 : Int) : Option (Int × St) :=
  chk (inb x6 9001) (ap (setA γ 78 x6 x5) fun γ7 =>
  f_Pg_buildSteps_b130 k7 γ7 x4)
def f_Pg_buildSteps_L7 : Nat → St → Int → Option (Int × St)
  | 0, _, _ => none
  | n + 1, γ, x9 =>
  if (γ 10 11) ≤ x9 then
  (some (0, γ))
  else
  (chk (inb x9 9001) (ap (γ 75 x9) fun x15 =>
  chk (inb x15 9001) (ap (setA γ 78 x15 x15) fun γ17 =>
  chk (inb x15 9001) (ap (setA γ17 79 x15 0) fun γ19 =>
  chk (inb x15 9001) (if (γ19 54 x15) ≠ 2 then
  (chk (inb x15 9001) (if (γ19 54 x15) ≠ 3 then
  (bndN (f_Pg_addStep γ19 x15) fun _ γ27 =>
  f_Pg_buildSteps_b130 (f_Pg_buildSteps_L7 n) γ27 x9)
  else
  (chk (inb x15 9001) (chk (inb x15 9001) (ap (setA γ19 79 x15 (γ19 58 x15)) fun γ32 =>
  f_Pg_buildSteps_b130 (f_Pg_buildSteps_L7 n) γ32 x9)))))
  else
  (chk (inb x15 9001) (if 0 ≤ (γ19 55 x15) then
  (chk (inb x15 9001) (chk (inb (γ19 55 x15) 9001) (f_Pg_buildSteps_b90 (f_Pg_buildSteps_L7 n) γ19 x9 (γ19 78 (γ19 55 x15)) x15)))
  else
  (f_Pg_buildSteps_b90 (f_Pg_buildSteps_L7 n) γ19 x9 x15 x15))))))))
def f_Pg_buildSteps (γ : St) : Option (Int × St) :=
  ap (setA γ 11 9 0) fun γ42 =>
  f_Pg_buildSteps_L7  FU γ42 0
set_option maxHeartbeats 4000000 in
theorem s_Pg_buildSteps_b130 {Γ : Ctx} {k7 : St → Int → Option (Int × St)} (hk7 : ∀ (γ : St) (x3 : Int), i32 x3 → SB Γ BS mt_Pg_buildSteps (RmN 8 282) 0 0 (KN Γ BS mt_Pg_buildSteps.2.2.2) 7 [(0, vR Γ 11), (1, vI x3)] [] γ (k7 γ x3)) : ∀ (γ : St) (x1 : Int), i32 x1 → SB Γ BS mt_Pg_buildSteps (RmN 8 282) 0 0 (KN Γ BS mt_Pg_buildSteps.2.2.2) 130 [(0, vR Γ 11), (1, vI x1)] [] γ (f_Pg_buildSteps_b130 k7 γ x1) := by
  intro γ x1 hx1
  unfold f_Pg_buildSteps_b130
  refine sb_iinc 1 [(1, vI (x1 + 1)), (0, vR Γ 11)] d_Pg_buildSteps_130 rfl (by decide) rfl ?_
  refine sb_chk (fun c2 => ?_)
  refine sb_goto 7 d_Pg_buildSteps_133 (by decide) ?_
  exact sb_lv [1, 0] rfl (hk7 γ (x1 + 1) c2)
set_option maxHeartbeats 4000000 in
theorem s_Pg_buildSteps_b90 {Γ : Ctx} {k7 : St → Int → Option (Int × St)} (hk7 : ∀ (γ : St) (x8 : Int), i32 x8 → SB Γ BS mt_Pg_buildSteps (RmN 8 282) 0 0 (KN Γ BS mt_Pg_buildSteps.2.2.2) 7 [(0, vR Γ 11), (1, vI x8)] [] γ (k7 γ x8)) : ∀ (γ : St) (x4 : Int) (x5 : Int) (x6 : Int), i32 x4 → i32 x5 → i32 x6 → SB Γ BS mt_Pg_buildSteps (RmN 8 282) 0 0 (KN Γ BS mt_Pg_buildSteps.2.2.2) 90 [(0, vR Γ 11), (1, vI x4)] [vI x5, vI x6, vR Γ 78] γ (f_Pg_buildSteps_b90 k7 γ x4 x5 x6) := by
  intro γ x4 x5 x6 hx4 hx5 hx6
  unfold f_Pg_buildSteps_b90
  refine as_S_78 hx5 d_Pg_buildSteps_90 (fun _ => ?_)
  refine sb_aps (fun γ7 => ?_)
  refine sb_goto 130 d_Pg_buildSteps_91 (by decide) ?_
  exact sb_lv [0, 1] rfl (s_Pg_buildSteps_b130 hk7 γ7 x4 hx4)
set_option maxHeartbeats 4000000 in
theorem s_Pg_buildSteps_L7 {Γ : Ctx} : ∀ (n : Nat) (γ : St) (x9 : Int), i32 x9 → SB Γ BS mt_Pg_buildSteps (RmN 8 282) 0 0 (KN Γ BS mt_Pg_buildSteps.2.2.2) 7 [(0, vR Γ 11), (1, vI x9)] [] γ (f_Pg_buildSteps_L7 n γ x9) := by
  intro n
  induction n with
  | zero => intros; exact sb_none
  | succ n ih =>
    intro γ x9 hx9
    unfold f_Pg_buildSteps_L7
    refine sb_iload_n 1 d_Pg_buildSteps_7 rfl ?_
    refine sb_aload_n 0 d_Pg_buildSteps_8 rfl ?_
    refine g_Pg_53 d_Pg_buildSteps_9 ?_
    refine g_Pg_87 d_Pg_buildSteps_12 (fun c11 => ?_)
    refine sb_icmp_ge 136 hx9 c11 d_Pg_buildSteps_15 (by decide) (fun _ => ?_) (fun _ => ?_)
    · exact sn_v rfl d_Pg_buildSteps_136
    · refine sb_aload_n 0 d_Pg_buildSteps_18 rfl ?_
      refine g_Pg_53 d_Pg_buildSteps_19 ?_
      refine g_Pg_92 d_Pg_buildSteps_22 ?_
      refine sb_iload_n 1 d_Pg_buildSteps_25 rfl ?_
      refine al_S_75 d_Pg_buildSteps_26 (fun _ c14 => ?_)
      refine sb_istore_n [(2, vI (γ 75 x9)), (0, vR Γ 11), (1, vI x9)] d_Pg_buildSteps_27 (by decide) rfl ?_
      refine sb_nme (e := γ 75 x9) (fun x15 => [(2, vI x15), (0, vR Γ 11), (1, vI x9)]) c14 (fun x15 hx15 => ?_)
      refine sb_aload_n 1 d_Pg_buildSteps_28 rfl ?_
      refine g_Pg_18 d_Pg_buildSteps_29 ?_
      refine sb_iload_n 0 d_Pg_buildSteps_32 rfl ?_
      refine sb_iload_n 0 d_Pg_buildSteps_33 rfl ?_
      refine as_S_78 hx15 d_Pg_buildSteps_34 (fun _ => ?_)
      refine sb_aps (fun γ17 => ?_)
      refine sb_aload_n 1 d_Pg_buildSteps_35 rfl ?_
      refine g_Pg_22 d_Pg_buildSteps_36 ?_
      refine sb_iload_n 0 d_Pg_buildSteps_39 rfl ?_
      refine sb_iconst d_Pg_buildSteps_40 ?_
      refine as_S_79 (by decide) d_Pg_buildSteps_41 (fun _ => ?_)
      refine sb_aps (fun γ19 => ?_)
      refine sb_aload_n 1 d_Pg_buildSteps_42 rfl ?_
      refine g_Pg_49 d_Pg_buildSteps_43 ?_
      refine g_Pg_95 d_Pg_buildSteps_46 ?_
      refine sb_iload_n 0 d_Pg_buildSteps_49 rfl ?_
      refine al_S_54 d_Pg_buildSteps_50 (fun _ c22 => ?_)
      refine sb_iconst d_Pg_buildSteps_51 ?_
      refine sb_icmp_ne 94 c22 (by decide) d_Pg_buildSteps_52 (by decide) (fun _ => ?_) (fun _ => ?_)
      · refine sb_aload_n 1 d_Pg_buildSteps_94 rfl ?_
        refine g_Pg_49 d_Pg_buildSteps_95 ?_
        refine g_Pg_95 d_Pg_buildSteps_98 ?_
        refine sb_iload_n 0 d_Pg_buildSteps_101 rfl ?_
        refine al_S_54 d_Pg_buildSteps_102 (fun _ c25 => ?_)
        refine sb_iconst d_Pg_buildSteps_103 ?_
        refine sb_icmp_ne 125 c25 (by decide) d_Pg_buildSteps_104 (by decide) (fun _ => ?_) (fun _ => ?_)
        · refine sb_aload_n 1 d_Pg_buildSteps_125 rfl ?_
          refine sb_iload_n 0 d_Pg_buildSteps_126 rfl ?_
          refine sb_cVv vf_Pg_addStep (c_Pg_addStep γ19 x15 hx15) rfl ml_Pg_104 (As := [vI x15]) rfl rfl (Nat.le_of_ble_eq_true rfl) ⟨by decide, by decide⟩ d_Pg_buildSteps_127 (fun _ γ27 => ?_)
          exact sb_lv [1, 2] rfl (s_Pg_buildSteps_b130 ih γ27 x9 hx9)
        · refine sb_aload_n 1 d_Pg_buildSteps_107 rfl ?_
          refine g_Pg_22 d_Pg_buildSteps_108 ?_
          refine sb_iload_n 0 d_Pg_buildSteps_111 rfl ?_
          refine sb_aload_n 1 d_Pg_buildSteps_112 rfl ?_
          refine g_Pg_49 d_Pg_buildSteps_113 ?_
          refine g_Pg_101 d_Pg_buildSteps_116 ?_
          refine sb_iload_n 0 d_Pg_buildSteps_119 rfl ?_
          refine al_S_58 d_Pg_buildSteps_120 (fun _ c31 => ?_)
          refine as_S_79 c31 d_Pg_buildSteps_121 (fun _ => ?_)
          refine sb_aps (fun γ32 => ?_)
          refine sb_goto 130 d_Pg_buildSteps_122 (by decide) ?_
          exact sb_lv [1, 2] rfl (s_Pg_buildSteps_b130 ih γ32 x9 hx9)
      · refine sb_aload_n 1 d_Pg_buildSteps_55 rfl ?_
        refine g_Pg_18 d_Pg_buildSteps_56 ?_
        refine sb_iload_n 0 d_Pg_buildSteps_59 rfl ?_
        refine sb_aload_n 1 d_Pg_buildSteps_60 rfl ?_
        refine g_Pg_49 d_Pg_buildSteps_61 ?_
        refine g_Pg_98 d_Pg_buildSteps_64 ?_
        refine sb_iload_n 0 d_Pg_buildSteps_67 rfl ?_
        refine al_S_55 d_Pg_buildSteps_68 (fun _ c36 => ?_)
        refine sb_if_ge 76 c36 d_Pg_buildSteps_69 (by decide) (fun _ => ?_) (fun _ => ?_)
        · refine sb_aload_n 1 d_Pg_buildSteps_76 rfl ?_
          refine g_Pg_18 d_Pg_buildSteps_77 ?_
          refine sb_aload_n 1 d_Pg_buildSteps_80 rfl ?_
          refine g_Pg_49 d_Pg_buildSteps_81 ?_
          refine g_Pg_98 d_Pg_buildSteps_84 ?_
          refine sb_iload_n 0 d_Pg_buildSteps_87 rfl ?_
          refine al_S_55 d_Pg_buildSteps_88 (fun _ c40 => ?_)
          refine al_S_78 d_Pg_buildSteps_89 (fun _ c41 => ?_)
          exact sb_lv [1, 2] rfl (s_Pg_buildSteps_b90 ih γ19 x9 (γ19 78 (γ19 55 x15)) x15 hx9 c41 hx15)
        · refine sb_iload_n 0 d_Pg_buildSteps_72 rfl ?_
          refine sb_goto 90 d_Pg_buildSteps_73 (by decide) ?_
          exact sb_lv [1, 2] rfl (s_Pg_buildSteps_b90 ih γ19 x9 x15 x15 hx9 hx15 hx15)
set_option maxHeartbeats 4000000 in
theorem c_Pg_buildSteps {Γ : Ctx} (γ : St) : NC Γ BS y_Pg_buildSteps mt_Pg_buildSteps 8 282 [vR Γ 11] γ (f_Pg_buildSteps γ) := by
  refine nc_of (by decide) rfl (Nat.le_of_ble_eq_true rfl) ?_
  show SB Γ BS mt_Pg_buildSteps (RmN 8 282) 0 0 (KN Γ BS mt_Pg_buildSteps.2.2.2) 0 [(0, vR Γ 11)] [] γ _
  unfold f_Pg_buildSteps
  refine sb_aload_n 0 d_Pg_buildSteps_0 rfl ?_
  refine sb_iconst d_Pg_buildSteps_1 ?_
  refine p_Pg_84 (by decide) d_Pg_buildSteps_2 ?_
  refine sb_aps (fun γ42 => ?_)
  refine sb_iconst d_Pg_buildSteps_5 ?_
  refine sb_istore_n [(1, vI 0), (0, vR Γ 11)] d_Pg_buildSteps_6 (by decide) rfl ?_
  exact sb_lv [1, 0] rfl (s_Pg_buildSteps_L7  FU γ42 0 (by decide))
theorem d_Pg_numberClocks_0 : decode b_Pg_numberClocks 0 = .ok (.aload_n 0, 1) := by decide +kernel
theorem d_Pg_numberClocks_1 : decode b_Pg_numberClocks 1 = .ok (.getfield 34, 3) := by decide +kernel
theorem d_Pg_numberClocks_4 : decode b_Pg_numberClocks 4 = .ok (.iconst 0, 1) := by decide +kernel
theorem d_Pg_numberClocks_5 : decode b_Pg_numberClocks 5 = .ok (.iconst 0, 1) := by decide +kernel
theorem d_Pg_numberClocks_6 : decode b_Pg_numberClocks 6 = .ok (.iastore, 1) := by decide +kernel
theorem d_Pg_numberClocks_7 : decode b_Pg_numberClocks 7 = .ok (.aload_n 0, 1) := by decide +kernel
theorem d_Pg_numberClocks_8 : decode b_Pg_numberClocks 8 = .ok (.getfield 46, 3) := by decide +kernel
theorem d_Pg_numberClocks_11 : decode b_Pg_numberClocks 11 = .ok (.iconst 0, 1) := by decide +kernel
theorem d_Pg_numberClocks_12 : decode b_Pg_numberClocks 12 = .ok (.iconst 1, 1) := by decide +kernel
theorem d_Pg_numberClocks_13 : decode b_Pg_numberClocks 13 = .ok (.iastore, 1) := by decide +kernel
theorem d_Pg_numberClocks_14 : decode b_Pg_numberClocks 14 = .ok (.iconst 0, 1) := by decide +kernel
theorem d_Pg_numberClocks_15 : decode b_Pg_numberClocks 15 = .ok (.istore_n 2, 1) := by decide +kernel
theorem d_Pg_numberClocks_16 : decode b_Pg_numberClocks 16 = .ok (.iconst 1, 1) := by decide +kernel
theorem d_Pg_numberClocks_17 : decode b_Pg_numberClocks 17 = .ok (.istore_n 3, 1) := by decide +kernel
theorem d_Pg_numberClocks_18 : decode b_Pg_numberClocks 18 = .ok (.iload_n 3, 1) := by decide +kernel
theorem d_Pg_numberClocks_19 : decode b_Pg_numberClocks 19 = .ok (.iload_n 1, 1) := by decide +kernel
theorem d_Pg_numberClocks_20 : decode b_Pg_numberClocks 20 = .ok (.if_icmp .ge 80, 3) := by decide +kernel
theorem d_Pg_numberClocks_23 : decode b_Pg_numberClocks 23 = .ok (.aload_n 0, 1) := by decide +kernel
theorem d_Pg_numberClocks_24 : decode b_Pg_numberClocks 24 = .ok (.getfield 34, 3) := by decide +kernel
theorem d_Pg_numberClocks_27 : decode b_Pg_numberClocks 27 = .ok (.iload_n 3, 1) := by decide +kernel
theorem d_Pg_numberClocks_28 : decode b_Pg_numberClocks 28 = .ok (.iaload, 1) := by decide +kernel
theorem d_Pg_numberClocks_29 : decode b_Pg_numberClocks 29 = .ok (.iconst 1, 1) := by decide +kernel
theorem d_Pg_numberClocks_30 : decode b_Pg_numberClocks 30 = .ok (.if_icmp .ne 64, 3) := by decide +kernel
theorem d_Pg_numberClocks_33 : decode b_Pg_numberClocks 33 = .ok (.iinc 2 1, 3) := by decide +kernel
theorem d_Pg_numberClocks_36 : decode b_Pg_numberClocks 36 = .ok (.aload_n 0, 1) := by decide +kernel
theorem d_Pg_numberClocks_37 : decode b_Pg_numberClocks 37 = .ok (.getfield 34, 3) := by decide +kernel
theorem d_Pg_numberClocks_40 : decode b_Pg_numberClocks 40 = .ok (.iload_n 3, 1) := by decide +kernel
theorem d_Pg_numberClocks_41 : decode b_Pg_numberClocks 41 = .ok (.iload_n 2, 1) := by decide +kernel
theorem d_Pg_numberClocks_42 : decode b_Pg_numberClocks 42 = .ok (.iastore, 1) := by decide +kernel
theorem d_Pg_numberClocks_43 : decode b_Pg_numberClocks 43 = .ok (.iload_n 3, 1) := by decide +kernel
theorem d_Pg_numberClocks_44 : decode b_Pg_numberClocks 44 = .ok (.invokestatic 136, 3) := by decide +kernel
theorem d_Pg_numberClocks_47 : decode b_Pg_numberClocks 47 = .ok (.istore 4, 2) := by decide +kernel
theorem d_Pg_numberClocks_49 : decode b_Pg_numberClocks 49 = .ok (.aload_n 0, 1) := by decide +kernel
theorem d_Pg_numberClocks_50 : decode b_Pg_numberClocks 50 = .ok (.getfield 37, 3) := by decide +kernel
theorem d_Pg_numberClocks_53 : decode b_Pg_numberClocks 53 = .ok (.iload_n 2, 1) := by decide +kernel
theorem d_Pg_numberClocks_54 : decode b_Pg_numberClocks 54 = .ok (.aload_n 0, 1) := by decide +kernel
theorem d_Pg_numberClocks_55 : decode b_Pg_numberClocks 55 = .ok (.getfield 34, 3) := by decide +kernel
theorem d_Pg_numberClocks_58 : decode b_Pg_numberClocks 58 = .ok (.aload_n 0, 1) := by decide +kernel
theorem d_Pg_numberClocks_59 : decode b_Pg_numberClocks 59 = .ok (.getfield 49, 3) := by decide +kernel
theorem d_Pg_numberClocks_62 : decode b_Pg_numberClocks 62 = .ok (.getfield 127, 3) := by decide +kernel
theorem d_Pg_numberClocks_65 : decode b_Pg_numberClocks 65 = .ok (.iload 4, 2) := by decide +kernel
theorem d_Pg_numberClocks_67 : decode b_Pg_numberClocks 67 = .ok (.iaload, 1) := by decide +kernel
theorem d_Pg_numberClocks_68 : decode b_Pg_numberClocks 68 = .ok (.iaload, 1) := by decide +kernel
theorem d_Pg_numberClocks_69 : decode b_Pg_numberClocks 69 = .ok (.iastore, 1) := by decide +kernel
theorem d_Pg_numberClocks_70 : decode b_Pg_numberClocks 70 = .ok (.aload_n 0, 1) := by decide +kernel
theorem d_Pg_numberClocks_71 : decode b_Pg_numberClocks 71 = .ok (.getfield 40, 3) := by decide +kernel
theorem d_Pg_numberClocks_74 : decode b_Pg_numberClocks 74 = .ok (.iload_n 2, 1) := by decide +kernel
theorem d_Pg_numberClocks_75 : decode b_Pg_numberClocks 75 = .ok (.aload_n 0, 1) := by decide +kernel
theorem d_Pg_numberClocks_76 : decode b_Pg_numberClocks 76 = .ok (.getfield 18, 3) := by decide +kernel
theorem d_Pg_numberClocks_79 : decode b_Pg_numberClocks 79 = .ok (.iload 4, 2) := by decide +kernel
theorem d_Pg_numberClocks_81 : decode b_Pg_numberClocks 81 = .ok (.iaload, 1) := by decide +kernel
theorem d_Pg_numberClocks_82 : decode b_Pg_numberClocks 82 = .ok (.iastore, 1) := by decide +kernel
theorem d_Pg_numberClocks_83 : decode b_Pg_numberClocks 83 = .ok (.aload_n 0, 1) := by decide +kernel
theorem d_Pg_numberClocks_84 : decode b_Pg_numberClocks 84 = .ok (.getfield 43, 3) := by decide +kernel
theorem d_Pg_numberClocks_87 : decode b_Pg_numberClocks 87 = .ok (.iload_n 2, 1) := by decide +kernel
theorem d_Pg_numberClocks_88 : decode b_Pg_numberClocks 88 = .ok (.iload_n 3, 1) := by decide +kernel
theorem d_Pg_numberClocks_89 : decode b_Pg_numberClocks 89 = .ok (.iconst 1, 1) := by decide +kernel
theorem d_Pg_numberClocks_90 : decode b_Pg_numberClocks 90 = .ok (.isub, 1) := by decide +kernel
theorem d_Pg_numberClocks_91 : decode b_Pg_numberClocks 91 = .ok (.iconst 1, 1) := by decide +kernel
theorem d_Pg_numberClocks_92 : decode b_Pg_numberClocks 92 = .ok (.iand, 1) := by decide +kernel
theorem d_Pg_numberClocks_93 : decode b_Pg_numberClocks 93 = .ok (.iastore, 1) := by decide +kernel
theorem d_Pg_numberClocks_94 : decode b_Pg_numberClocks 94 = .ok (.iinc 3 1, 3) := by decide +kernel
theorem d_Pg_numberClocks_97 : decode b_Pg_numberClocks 97 = .ok (.goto (-79), 3) := by decide +kernel
theorem d_Pg_numberClocks_100 : decode b_Pg_numberClocks 100 = .ok (.return_, 1) := by decide +kernel
abbrev mt_Pg_numberClocks : MT := (R_Pg, b_Pg_numberClocks, 5, none)
theorem vf_Pg_numberClocks : VF y_Pg_numberClocks mt_Pg_numberClocks 8 1 := ⟨im_Pg_numberClocks, se_Pg_numberClocks, in_Pg, co_Pg_numberClocks, by decide +kernel, _, _, rfl⟩
def f_Pg_numberClocks_b94 (k18 : St → Int → Int → Int → Option (Int × St)) (γ : St) (x1 : Int) (x2 : Int) (x3 : Int) : Option (Int × St) :=
  chk (i32 (x3 + 1)) (k18 γ x1 x2 (x3 + 1))
def f_Pg_numberClocks_L18 : Nat → St → Int → Int → Int → Option (Int × St)
  | 0, _, _, _, _ => none
  | n + 1, γ, x8, x9, x10 =>
  if x8 ≤ x10 then
  (some (0, γ))
  else
  (chk (inb x10 12001) (if (γ 83 x10) ≠ 1 then
  (f_Pg_numberClocks_b94 (f_Pg_numberClocks_L18 n) γ x8 x9 x10)
  else
  (chk (i32 (x9 + 1)) (chk (inb x10 12001) (ap (setA γ 83 x10 (x9 + 1)) fun γ15 =>
  bndN (f_Sl_slotOfC γ15 x10) fun r16 γ17 =>
  chk (inb r16 6000) (chk (inb (γ17 59 r16) 12001) (chk (inb (x9 + 1) 12001) (ap (setA γ17 84 (x9 + 1) (γ17 83 (γ17 59 r16))) fun γ24 =>
  chk (inb r16 9001) (chk (inb (x9 + 1) 12001) (ap (setA γ24 85 (x9 + 1) (γ24 78 r16)) fun γ28 =>
  chk (i32 (x10 - 1)) (chk (inb (x9 + 1) 12001) (ap (setA γ28 86 (x9 + 1) (iand (x10 - 1) 1)) fun γ31 =>
  f_Pg_numberClocks_b94 (f_Pg_numberClocks_L18 n) γ31 x8 (x9 + 1) x10))))))))))))
def f_Pg_numberClocks (γ : St) (a0 : Int) : Option (Int × St) :=
  chk (inb 0 12001) (ap (setA γ 83 0 0) fun γ33 =>
  chk (inb 0 12001) (ap (setA γ33 87 0 1) fun γ35 =>
  f_Pg_numberClocks_L18  FU γ35 a0 0 1))
set_option maxHeartbeats 4000000 in
theorem s_Pg_numberClocks_b94 {Γ : Ctx} {k18 : St → Int → Int → Int → Option (Int × St)} (hk18 : ∀ (γ : St) (x5 : Int) (x6 : Int) (x7 : Int), i32 x5 → i32 x6 → i32 x7 → SB Γ BS mt_Pg_numberClocks (RmN 7 260) 0 0 (KN Γ BS mt_Pg_numberClocks.2.2.2) 18 [(0, vR Γ 11), (1, vI x5), (2, vI x6), (3, vI x7)] [] γ (k18 γ x5 x6 x7)) : ∀ (γ : St) (x1 : Int) (x2 : Int) (x3 : Int), i32 x1 → i32 x2 → i32 x3 → SB Γ BS mt_Pg_numberClocks (RmN 7 260) 0 0 (KN Γ BS mt_Pg_numberClocks.2.2.2) 94 [(0, vR Γ 11), (1, vI x1), (2, vI x2), (3, vI x3)] [] γ (f_Pg_numberClocks_b94 k18 γ x1 x2 x3) := by
  intro γ x1 x2 x3 hx1 hx2 hx3
  unfold f_Pg_numberClocks_b94
  refine sb_iinc 3 [(3, vI (x3 + 1)), (0, vR Γ 11), (1, vI x1), (2, vI x2)] d_Pg_numberClocks_94 rfl (by decide) rfl ?_
  refine sb_chk (fun c4 => ?_)
  refine sb_goto 18 d_Pg_numberClocks_97 (by decide) ?_
  exact sb_lv [1, 2, 3, 0] rfl (hk18 γ x1 x2 (x3 + 1) hx1 hx2 c4)
set_option maxHeartbeats 4000000 in
theorem s_Pg_numberClocks_L18 {Γ : Ctx} : ∀ (n : Nat) (γ : St) (x8 : Int) (x9 : Int) (x10 : Int), i32 x8 → i32 x9 → i32 x10 → SB Γ BS mt_Pg_numberClocks (RmN 7 260) 0 0 (KN Γ BS mt_Pg_numberClocks.2.2.2) 18 [(0, vR Γ 11), (1, vI x8), (2, vI x9), (3, vI x10)] [] γ (f_Pg_numberClocks_L18 n γ x8 x9 x10) := by
  intro n
  induction n with
  | zero => intros; exact sb_none
  | succ n ih =>
    intro γ x8 x9 x10 hx8 hx9 hx10
    unfold f_Pg_numberClocks_L18
    refine sb_iload_n 3 d_Pg_numberClocks_18 rfl ?_
    refine sb_iload_n 1 d_Pg_numberClocks_19 rfl ?_
    refine sb_icmp_ge 100 hx10 hx8 d_Pg_numberClocks_20 (by decide) (fun _ => ?_) (fun _ => ?_)
    · exact sn_v rfl d_Pg_numberClocks_100
    · refine sb_aload_n 0 d_Pg_numberClocks_23 rfl ?_
      refine g_Pg_34 d_Pg_numberClocks_24 ?_
      refine sb_iload_n 3 d_Pg_numberClocks_27 rfl ?_
      refine al_S_83 d_Pg_numberClocks_28 (fun _ c12 => ?_)
      refine sb_iconst d_Pg_numberClocks_29 ?_
      refine sb_icmp_ne 94 c12 (by decide) d_Pg_numberClocks_30 (by decide) (fun _ => ?_) (fun _ => ?_)
      · exact sb_lv [0, 1, 2, 3] rfl (s_Pg_numberClocks_b94 ih γ x8 x9 x10 hx8 hx9 hx10)
      · refine sb_iinc 2 [(2, vI (x9 + 1)), (0, vR Γ 11), (1, vI x8), (3, vI x10)] d_Pg_numberClocks_33 rfl (by decide) rfl ?_
        refine sb_chk (fun c13 => ?_)
        refine sb_aload_n 1 d_Pg_numberClocks_36 rfl ?_
        refine g_Pg_34 d_Pg_numberClocks_37 ?_
        refine sb_iload_n 3 d_Pg_numberClocks_40 rfl ?_
        refine sb_iload_n 0 d_Pg_numberClocks_41 rfl ?_
        refine as_S_83 c13 d_Pg_numberClocks_42 (fun _ => ?_)
        refine sb_aps (fun γ15 => ?_)
        refine sb_iload_n 3 d_Pg_numberClocks_43 rfl ?_
        refine sb_cJi vf_Sl_slotOfC (c_Sl_slotOfC γ15 x10 hx10) ml_Pg_136 (As := [vI x10]) rfl rfl (Nat.le_of_ble_eq_true rfl) ⟨by decide, by decide⟩ d_Pg_numberClocks_44 (fun r16 γ17 hr16 => ?_)
        refine sb_istore [(4, vI r16), (2, vI (x9 + 1)), (0, vR Γ 11), (1, vI x8), (3, vI x10)] d_Pg_numberClocks_47 (by decide) rfl ?_
        refine sb_aload_n 2 d_Pg_numberClocks_49 rfl ?_
        refine g_Pg_37 d_Pg_numberClocks_50 ?_
        refine sb_iload_n 1 d_Pg_numberClocks_53 rfl ?_
        refine sb_aload_n 2 d_Pg_numberClocks_54 rfl ?_
        refine g_Pg_34 d_Pg_numberClocks_55 ?_
        refine sb_aload_n 2 d_Pg_numberClocks_58 rfl ?_
        refine g_Pg_49 d_Pg_numberClocks_59 ?_
        refine g_Pg_127 d_Pg_numberClocks_62 ?_
        refine sb_iload 0 d_Pg_numberClocks_65 rfl ?_
        refine al_S_59 d_Pg_numberClocks_67 (fun _ c22 => ?_)
        refine al_S_83 d_Pg_numberClocks_68 (fun _ c23 => ?_)
        refine as_S_84 c23 d_Pg_numberClocks_69 (fun _ => ?_)
        refine sb_aps (fun γ24 => ?_)
        refine sb_aload_n 2 d_Pg_numberClocks_70 rfl ?_
        refine g_Pg_40 d_Pg_numberClocks_71 ?_
        refine sb_iload_n 1 d_Pg_numberClocks_74 rfl ?_
        refine sb_aload_n 2 d_Pg_numberClocks_75 rfl ?_
        refine g_Pg_18 d_Pg_numberClocks_76 ?_
        refine sb_iload 0 d_Pg_numberClocks_79 rfl ?_
        refine al_S_78 d_Pg_numberClocks_81 (fun _ c27 => ?_)
        refine as_S_85 c27 d_Pg_numberClocks_82 (fun _ => ?_)
        refine sb_aps (fun γ28 => ?_)
        refine sb_aload_n 2 d_Pg_numberClocks_83 rfl ?_
        refine g_Pg_43 d_Pg_numberClocks_84 ?_
        refine sb_iload_n 1 d_Pg_numberClocks_87 rfl ?_
        refine sb_iload_n 4 d_Pg_numberClocks_88 rfl ?_
        refine sb_iconst d_Pg_numberClocks_89 ?_
        refine sb_isub d_Pg_numberClocks_90 ?_
        refine sb_chk (fun c30 => ?_)
        refine sb_iconst d_Pg_numberClocks_91 ?_
        refine sb_iand d_Pg_numberClocks_92 ?_
        refine as_S_86 (iand_b _ _) d_Pg_numberClocks_93 (fun _ => ?_)
        refine sb_aps (fun γ31 => ?_)
        exact sb_lv [2, 3, 1, 4] rfl (s_Pg_numberClocks_b94 ih γ31 x8 (x9 + 1) x10 hx8 c13 hx10)
set_option maxHeartbeats 4000000 in
theorem c_Pg_numberClocks {Γ : Ctx} (γ : St) (a0 : Int) (ha0 : i32 a0) : NC Γ BS y_Pg_numberClocks mt_Pg_numberClocks 7 260 [vR Γ 11, vI a0] γ (f_Pg_numberClocks γ a0) := by
  refine nc_of (by decide) rfl (Nat.le_of_ble_eq_true rfl) ?_
  show SB Γ BS mt_Pg_numberClocks (RmN 7 260) 0 0 (KN Γ BS mt_Pg_numberClocks.2.2.2) 0 [(0, vR Γ 11), (1, vI a0)] [] γ _
  unfold f_Pg_numberClocks
  refine sb_aload_n 0 d_Pg_numberClocks_0 rfl ?_
  refine g_Pg_34 d_Pg_numberClocks_1 ?_
  refine sb_iconst d_Pg_numberClocks_4 ?_
  refine sb_iconst d_Pg_numberClocks_5 ?_
  refine as_S_83 (by decide) d_Pg_numberClocks_6 (fun _ => ?_)
  refine sb_aps (fun γ33 => ?_)
  refine sb_aload_n 0 d_Pg_numberClocks_7 rfl ?_
  refine g_Pg_46 d_Pg_numberClocks_8 ?_
  refine sb_iconst d_Pg_numberClocks_11 ?_
  refine sb_iconst d_Pg_numberClocks_12 ?_
  refine as_S_87 (by decide) d_Pg_numberClocks_13 (fun _ => ?_)
  refine sb_aps (fun γ35 => ?_)
  refine sb_iconst d_Pg_numberClocks_14 ?_
  refine sb_istore_n [(2, vI 0), (0, vR Γ 11), (1, vI a0)] d_Pg_numberClocks_15 (by decide) rfl ?_
  refine sb_iconst d_Pg_numberClocks_16 ?_
  refine sb_istore_n [(3, vI 1), (2, vI 0), (0, vR Γ 11), (1, vI a0)] d_Pg_numberClocks_17 (by decide) rfl ?_
  exact sb_lv [2, 3, 1, 0] rfl (s_Pg_numberClocks_L18  FU γ35 a0 0 1 ha0 (by decide) (by decide))
theorem d_Pg_buildClocks_0 : decode b_Pg_buildClocks 0 = .ok (.iconst 2, 1) := by decide +kernel
theorem d_Pg_buildClocks_1 : decode b_Pg_buildClocks 1 = .ok (.aload_n 0, 1) := by decide +kernel
theorem d_Pg_buildClocks_2 : decode b_Pg_buildClocks 2 = .ok (.getfield 49, 3) := by decide +kernel
theorem d_Pg_buildClocks_5 : decode b_Pg_buildClocks 5 = .ok (.getfield 118, 3) := by decide +kernel
theorem d_Pg_buildClocks_8 : decode b_Pg_buildClocks 8 = .ok (.imul, 1) := by decide +kernel
theorem d_Pg_buildClocks_9 : decode b_Pg_buildClocks 9 = .ok (.iconst 1, 1) := by decide +kernel
theorem d_Pg_buildClocks_10 : decode b_Pg_buildClocks 10 = .ok (.iadd, 1) := by decide +kernel
theorem d_Pg_buildClocks_11 : decode b_Pg_buildClocks 11 = .ok (.istore_n 1, 1) := by decide +kernel
theorem d_Pg_buildClocks_12 : decode b_Pg_buildClocks 12 = .ok (.aload_n 0, 1) := by decide +kernel
theorem d_Pg_buildClocks_13 : decode b_Pg_buildClocks 13 = .ok (.getfield 34, 3) := by decide +kernel
theorem d_Pg_buildClocks_16 : decode b_Pg_buildClocks 16 = .ok (.iconst 0, 1) := by decide +kernel
theorem d_Pg_buildClocks_17 : decode b_Pg_buildClocks 17 = .ok (.iload_n 1, 1) := by decide +kernel
theorem d_Pg_buildClocks_18 : decode b_Pg_buildClocks 18 = .ok (.iconst 0, 1) := by decide +kernel
theorem d_Pg_buildClocks_19 : decode b_Pg_buildClocks 19 = .ok (.invokestatic 121, 3) := by decide +kernel
theorem d_Pg_buildClocks_22 : decode b_Pg_buildClocks 22 = .ok (.iconst 0, 1) := by decide +kernel
theorem d_Pg_buildClocks_23 : decode b_Pg_buildClocks 23 = .ok (.istore_n 2, 1) := by decide +kernel
theorem d_Pg_buildClocks_24 : decode b_Pg_buildClocks 24 = .ok (.iload_n 2, 1) := by decide +kernel
theorem d_Pg_buildClocks_25 : decode b_Pg_buildClocks 25 = .ok (.aload_n 0, 1) := by decide +kernel
theorem d_Pg_buildClocks_26 : decode b_Pg_buildClocks 26 = .ok (.getfield 49, 3) := by decide +kernel
theorem d_Pg_buildClocks_29 : decode b_Pg_buildClocks 29 = .ok (.getfield 118, 3) := by decide +kernel
theorem d_Pg_buildClocks_32 : decode b_Pg_buildClocks 32 = .ok (.if_icmp .ge 24, 3) := by decide +kernel
theorem d_Pg_buildClocks_35 : decode b_Pg_buildClocks 35 = .ok (.aload_n 0, 1) := by decide +kernel
theorem d_Pg_buildClocks_36 : decode b_Pg_buildClocks 36 = .ok (.getfield 34, 3) := by decide +kernel
theorem d_Pg_buildClocks_39 : decode b_Pg_buildClocks 39 = .ok (.aload_n 0, 1) := by decide +kernel
theorem d_Pg_buildClocks_40 : decode b_Pg_buildClocks 40 = .ok (.getfield 49, 3) := by decide +kernel
theorem d_Pg_buildClocks_43 : decode b_Pg_buildClocks 43 = .ok (.getfield 127, 3) := by decide +kernel
theorem d_Pg_buildClocks_46 : decode b_Pg_buildClocks 46 = .ok (.iload_n 2, 1) := by decide +kernel
theorem d_Pg_buildClocks_47 : decode b_Pg_buildClocks 47 = .ok (.iaload, 1) := by decide +kernel
theorem d_Pg_buildClocks_48 : decode b_Pg_buildClocks 48 = .ok (.iconst 1, 1) := by decide +kernel
theorem d_Pg_buildClocks_49 : decode b_Pg_buildClocks 49 = .ok (.iastore, 1) := by decide +kernel
theorem d_Pg_buildClocks_50 : decode b_Pg_buildClocks 50 = .ok (.iinc 2 1, 3) := by decide +kernel
theorem d_Pg_buildClocks_53 : decode b_Pg_buildClocks 53 = .ok (.goto (-29), 3) := by decide +kernel
theorem d_Pg_buildClocks_56 : decode b_Pg_buildClocks 56 = .ok (.iconst 0, 1) := by decide +kernel
theorem d_Pg_buildClocks_57 : decode b_Pg_buildClocks 57 = .ok (.istore_n 2, 1) := by decide +kernel
theorem d_Pg_buildClocks_58 : decode b_Pg_buildClocks 58 = .ok (.iload_n 2, 1) := by decide +kernel
theorem d_Pg_buildClocks_59 : decode b_Pg_buildClocks 59 = .ok (.aload_n 0, 1) := by decide +kernel
theorem d_Pg_buildClocks_60 : decode b_Pg_buildClocks 60 = .ok (.getfield 49, 3) := by decide +kernel
theorem d_Pg_buildClocks_63 : decode b_Pg_buildClocks 63 = .ok (.getfield 70, 3) := by decide +kernel
theorem d_Pg_buildClocks_66 : decode b_Pg_buildClocks 66 = .ok (.if_icmp .ge 24, 3) := by decide +kernel
theorem d_Pg_buildClocks_69 : decode b_Pg_buildClocks 69 = .ok (.aload_n 0, 1) := by decide +kernel
theorem d_Pg_buildClocks_70 : decode b_Pg_buildClocks 70 = .ok (.getfield 34, 3) := by decide +kernel
theorem d_Pg_buildClocks_73 : decode b_Pg_buildClocks 73 = .ok (.aload_n 0, 1) := by decide +kernel
theorem d_Pg_buildClocks_74 : decode b_Pg_buildClocks 74 = .ok (.getfield 49, 3) := by decide +kernel
theorem d_Pg_buildClocks_77 : decode b_Pg_buildClocks 77 = .ok (.getfield 78, 3) := by decide +kernel
theorem d_Pg_buildClocks_80 : decode b_Pg_buildClocks 80 = .ok (.iload_n 2, 1) := by decide +kernel
theorem d_Pg_buildClocks_81 : decode b_Pg_buildClocks 81 = .ok (.iaload, 1) := by decide +kernel
theorem d_Pg_buildClocks_82 : decode b_Pg_buildClocks 82 = .ok (.iconst 1, 1) := by decide +kernel
theorem d_Pg_buildClocks_83 : decode b_Pg_buildClocks 83 = .ok (.iastore, 1) := by decide +kernel
theorem d_Pg_buildClocks_84 : decode b_Pg_buildClocks 84 = .ok (.iinc 2 1, 3) := by decide +kernel
theorem d_Pg_buildClocks_87 : decode b_Pg_buildClocks 87 = .ok (.goto (-29), 3) := by decide +kernel
theorem d_Pg_buildClocks_90 : decode b_Pg_buildClocks 90 = .ok (.aload_n 0, 1) := by decide +kernel
theorem d_Pg_buildClocks_91 : decode b_Pg_buildClocks 91 = .ok (.iconst 1, 1) := by decide +kernel
theorem d_Pg_buildClocks_92 : decode b_Pg_buildClocks 92 = .ok (.putfield 130, 3) := by decide +kernel
theorem d_Pg_buildClocks_95 : decode b_Pg_buildClocks 95 = .ok (.iconst 1, 1) := by decide +kernel
theorem d_Pg_buildClocks_96 : decode b_Pg_buildClocks 96 = .ok (.istore_n 2, 1) := by decide +kernel
theorem d_Pg_buildClocks_97 : decode b_Pg_buildClocks 97 = .ok (.iload_n 2, 1) := by decide +kernel
theorem d_Pg_buildClocks_98 : decode b_Pg_buildClocks 98 = .ok (.iload_n 1, 1) := by decide +kernel
theorem d_Pg_buildClocks_99 : decode b_Pg_buildClocks 99 = .ok (.if_icmp .ge 24, 3) := by decide +kernel
theorem d_Pg_buildClocks_102 : decode b_Pg_buildClocks 102 = .ok (.aload_n 0, 1) := by decide +kernel
theorem d_Pg_buildClocks_103 : decode b_Pg_buildClocks 103 = .ok (.dup, 1) := by decide +kernel
theorem d_Pg_buildClocks_104 : decode b_Pg_buildClocks 104 = .ok (.getfield 130, 3) := by decide +kernel
theorem d_Pg_buildClocks_107 : decode b_Pg_buildClocks 107 = .ok (.aload_n 0, 1) := by decide +kernel
theorem d_Pg_buildClocks_108 : decode b_Pg_buildClocks 108 = .ok (.getfield 34, 3) := by decide +kernel
theorem d_Pg_buildClocks_111 : decode b_Pg_buildClocks 111 = .ok (.iload_n 2, 1) := by decide +kernel
theorem d_Pg_buildClocks_112 : decode b_Pg_buildClocks 112 = .ok (.iaload, 1) := by decide +kernel
theorem d_Pg_buildClocks_113 : decode b_Pg_buildClocks 113 = .ok (.iadd, 1) := by decide +kernel
theorem d_Pg_buildClocks_114 : decode b_Pg_buildClocks 114 = .ok (.putfield 130, 3) := by decide +kernel
theorem d_Pg_buildClocks_117 : decode b_Pg_buildClocks 117 = .ok (.iinc 2 1, 3) := by decide +kernel
theorem d_Pg_buildClocks_120 : decode b_Pg_buildClocks 120 = .ok (.goto (-23), 3) := by decide +kernel
theorem d_Pg_buildClocks_123 : decode b_Pg_buildClocks 123 = .ok (.aload_n 0, 1) := by decide +kernel
theorem d_Pg_buildClocks_124 : decode b_Pg_buildClocks 124 = .ok (.iload_n 1, 1) := by decide +kernel
theorem d_Pg_buildClocks_125 : decode b_Pg_buildClocks 125 = .ok (.invokevirtual 133, 3) := by decide +kernel
theorem d_Pg_buildClocks_128 : decode b_Pg_buildClocks 128 = .ok (.return_, 1) := by decide +kernel
abbrev mt_Pg_buildClocks : MT := (R_Pg, b_Pg_buildClocks, 3, none)
theorem vf_Pg_buildClocks : VF y_Pg_buildClocks mt_Pg_buildClocks 8 0 := ⟨im_Pg_buildClocks, se_Pg_buildClocks, in_Pg, co_Pg_buildClocks, by decide +kernel, _, _, rfl⟩
def f_Pg_buildClocks_b123 (γ : St) (x1 : Int) : Option (Int × St) :=
  bndN (f_Pg_numberClocks γ x1) fun _ γ3 =>
  some (0, γ3)
def f_Pg_buildClocks_L97 (e123 : St → Int → Option (Int × St)) : Nat → St → Int → Int → Option (Int × St)
  | 0, _, _, _ => none
  | n + 1, γ, x4, x5 =>
  if x4 ≤ x5 then
  (e123 γ x4)
  else
  (chk (inb x5 12001) (chk (i32 ((γ 11 17) + (γ 83 x5))) (ap (setA γ 11 17 ((γ 11 17) + (γ 83 x5))) fun γ10 =>
  chk (i32 (x5 + 1)) ((f_Pg_buildClocks_L97 e123 n) γ10 x4 (x5 + 1)))))
def f_Pg_buildClocks_b90 (γ : St) (x13 : Int) : Option (Int × St) :=
  ap (setA γ 11 17 1) fun γ14 =>
  f_Pg_buildClocks_L97 (f_Pg_buildClocks_b123) FU γ14 x13 1
def f_Pg_buildClocks_L58 (e90 : St → Int → Option (Int × St)) : Nat → St → Int → Int → Option (Int × St)
  | 0, _, _, _ => none
  | n + 1, γ, x15, x16 =>
  if (γ 8 11) ≤ x16 then
  (e90 γ x15)
  else
  (chk (inb x16 6000) (chk (inb (γ 62 x16) 12001) (ap (setA γ 83 (γ 62 x16) 1) fun γ23 =>
  chk (i32 (x16 + 1)) ((f_Pg_buildClocks_L58 e90 n) γ23 x15 (x16 + 1)))))
def f_Pg_buildClocks_b56 (γ : St) (x26 : Int) : Option (Int × St) :=
  f_Pg_buildClocks_L58 (f_Pg_buildClocks_b90) FU γ x26 0
def f_Pg_buildClocks_L24 (e56 : St → Int → Option (Int × St)) : Nat → St → Int → Int → Option (Int × St)
  | 0, _, _, _ => none
  | n + 1, γ, x27, x28 =>
  if (γ 8 8) ≤ x28 then
  (e56 γ x27)
  else
  (chk (inb x28 6000) (chk (inb (γ 59 x28) 12001) (ap (setA γ 83 (γ 59 x28) 1) fun γ35 =>
  chk (i32 (x28 + 1)) ((f_Pg_buildClocks_L24 e56 n) γ35 x27 (x28 + 1)))))
def f_Pg_buildClocks (γ : St) : Option (Int × St) :=
  chk (i32 (2 * (γ 8 8))) (chk (i32 ((2 * (γ 8 8)) + 1)) (ap ((2 * (γ 8 8)) + 1) fun x42 =>
  chk (0 ≤ x42 ∧ (0 : Int) ≤ 0 ∧ x42 ≤ 12001) (ap (flA γ 83 0 x42 0) fun γ44 =>
  f_Pg_buildClocks_L24 (f_Pg_buildClocks_b56) FU γ44 x42 0)))
set_option maxHeartbeats 4000000 in
theorem s_Pg_buildClocks_b123 {Γ : Ctx} : ∀ (γ : St) (x1 : Int), i32 x1 → SB Γ BS mt_Pg_buildClocks (RmN 8 284) 0 0 (KN Γ BS mt_Pg_buildClocks.2.2.2) 123 [(0, vR Γ 11), (1, vI x1)] [] γ (f_Pg_buildClocks_b123 γ x1) := by
  intro γ x1 hx1
  unfold f_Pg_buildClocks_b123
  refine sb_aload_n 0 d_Pg_buildClocks_123 rfl ?_
  refine sb_iload_n 1 d_Pg_buildClocks_124 rfl ?_
  refine sb_cVv vf_Pg_numberClocks (c_Pg_numberClocks γ x1 hx1) rfl ml_Pg_133 (As := [vI x1]) rfl rfl (Nat.le_of_ble_eq_true rfl) ⟨by decide, by decide⟩ d_Pg_buildClocks_125 (fun _ γ3 => ?_)
  exact sn_v rfl d_Pg_buildClocks_128
set_option maxHeartbeats 4000000 in
theorem s_Pg_buildClocks_L97 {Γ : Ctx} {e123 : St → Int → Option (Int × St)} (he123 : ∀ (γ : St) (x12 : Int), i32 x12 → SB Γ BS mt_Pg_buildClocks (RmN 8 284) 0 0 (KN Γ BS mt_Pg_buildClocks.2.2.2) 123 [(0, vR Γ 11), (1, vI x12)] [] γ (e123 γ x12)) : ∀ (n : Nat) (γ : St) (x4 : Int) (x5 : Int), i32 x4 → i32 x5 → SB Γ BS mt_Pg_buildClocks (RmN 8 284) 0 0 (KN Γ BS mt_Pg_buildClocks.2.2.2) 97 [(0, vR Γ 11), (1, vI x4), (2, vI x5)] [] γ (f_Pg_buildClocks_L97 e123 n γ x4 x5) := by
  intro n
  induction n with
  | zero => intros; exact sb_none
  | succ n ih =>
    intro γ x4 x5 hx4 hx5
    unfold f_Pg_buildClocks_L97
    refine sb_iload_n 2 d_Pg_buildClocks_97 rfl ?_
    refine sb_iload_n 1 d_Pg_buildClocks_98 rfl ?_
    refine sb_icmp_ge 123 hx5 hx4 d_Pg_buildClocks_99 (by decide) (fun _ => ?_) (fun _ => ?_)
    · exact sb_lv [0, 1] rfl (he123 γ x4 hx4)
    · refine sb_aload_n 0 d_Pg_buildClocks_102 rfl ?_
      refine sb_dup d_Pg_buildClocks_103 rfl ?_
      refine g_Pg_130 d_Pg_buildClocks_104 (fun c6 => ?_)
      refine sb_aload_n 0 d_Pg_buildClocks_107 rfl ?_
      refine g_Pg_34 d_Pg_buildClocks_108 ?_
      refine sb_iload_n 2 d_Pg_buildClocks_111 rfl ?_
      refine al_S_83 d_Pg_buildClocks_112 (fun _ c8 => ?_)
      refine sb_iadd d_Pg_buildClocks_113 ?_
      refine sb_chk (fun c9 => ?_)
      refine p_Pg_130 c9 d_Pg_buildClocks_114 ?_
      refine sb_aps (fun γ10 => ?_)
      refine sb_iinc 2 [(2, vI (x5 + 1)), (0, vR Γ 11), (1, vI x4)] d_Pg_buildClocks_117 rfl (by decide) rfl ?_
      refine sb_chk (fun c11 => ?_)
      refine sb_goto 97 d_Pg_buildClocks_120 (by decide) ?_
      exact sb_lv [1, 2, 0] rfl (ih γ10 x4 (x5 + 1) hx4 c11)
set_option maxHeartbeats 4000000 in
theorem s_Pg_buildClocks_b90 {Γ : Ctx} : ∀ (γ : St) (x13 : Int), i32 x13 → SB Γ BS mt_Pg_buildClocks (RmN 8 284) 0 0 (KN Γ BS mt_Pg_buildClocks.2.2.2) 90 [(0, vR Γ 11), (1, vI x13)] [] γ (f_Pg_buildClocks_b90 γ x13) := by
  intro γ x13 hx13
  unfold f_Pg_buildClocks_b90
  refine sb_aload_n 0 d_Pg_buildClocks_90 rfl ?_
  refine sb_iconst d_Pg_buildClocks_91 ?_
  refine p_Pg_130 (by decide) d_Pg_buildClocks_92 ?_
  refine sb_aps (fun γ14 => ?_)
  refine sb_iconst d_Pg_buildClocks_95 ?_
  refine sb_istore_n [(2, vI 1), (0, vR Γ 11), (1, vI x13)] d_Pg_buildClocks_96 (by decide) rfl ?_
  exact sb_lv [1, 2, 0] rfl (s_Pg_buildClocks_L97 (s_Pg_buildClocks_b123) FU γ14 x13 1 hx13 (by decide))
set_option maxHeartbeats 4000000 in
theorem s_Pg_buildClocks_L58 {Γ : Ctx} {e90 : St → Int → Option (Int × St)} (he90 : ∀ (γ : St) (x25 : Int), i32 x25 → SB Γ BS mt_Pg_buildClocks (RmN 8 284) 0 0 (KN Γ BS mt_Pg_buildClocks.2.2.2) 90 [(0, vR Γ 11), (1, vI x25)] [] γ (e90 γ x25)) : ∀ (n : Nat) (γ : St) (x15 : Int) (x16 : Int), i32 x15 → i32 x16 → SB Γ BS mt_Pg_buildClocks (RmN 8 284) 0 0 (KN Γ BS mt_Pg_buildClocks.2.2.2) 58 [(0, vR Γ 11), (1, vI x15), (2, vI x16)] [] γ (f_Pg_buildClocks_L58 e90 n γ x15 x16) := by
  intro n
  induction n with
  | zero => intros; exact sb_none
  | succ n ih =>
    intro γ x15 x16 hx15 hx16
    unfold f_Pg_buildClocks_L58
    refine sb_iload_n 2 d_Pg_buildClocks_58 rfl ?_
    refine sb_aload_n 0 d_Pg_buildClocks_59 rfl ?_
    refine g_Pg_49 d_Pg_buildClocks_60 ?_
    refine g_Pg_70 d_Pg_buildClocks_63 (fun c18 => ?_)
    refine sb_icmp_ge 90 hx16 c18 d_Pg_buildClocks_66 (by decide) (fun _ => ?_) (fun _ => ?_)
    · exact sb_lv [0, 1] rfl (he90 γ x15 hx15)
    · refine sb_aload_n 0 d_Pg_buildClocks_69 rfl ?_
      refine g_Pg_34 d_Pg_buildClocks_70 ?_
      refine sb_aload_n 0 d_Pg_buildClocks_73 rfl ?_
      refine g_Pg_49 d_Pg_buildClocks_74 ?_
      refine g_Pg_78 d_Pg_buildClocks_77 ?_
      refine sb_iload_n 2 d_Pg_buildClocks_80 rfl ?_
      refine al_S_62 d_Pg_buildClocks_81 (fun _ c22 => ?_)
      refine sb_iconst d_Pg_buildClocks_82 ?_
      refine as_S_83 (by decide) d_Pg_buildClocks_83 (fun _ => ?_)
      refine sb_aps (fun γ23 => ?_)
      refine sb_iinc 2 [(2, vI (x16 + 1)), (0, vR Γ 11), (1, vI x15)] d_Pg_buildClocks_84 rfl (by decide) rfl ?_
      refine sb_chk (fun c24 => ?_)
      refine sb_goto 58 d_Pg_buildClocks_87 (by decide) ?_
      exact sb_lv [1, 2, 0] rfl (ih γ23 x15 (x16 + 1) hx15 c24)
set_option maxHeartbeats 4000000 in
theorem s_Pg_buildClocks_b56 {Γ : Ctx} : ∀ (γ : St) (x26 : Int), i32 x26 → SB Γ BS mt_Pg_buildClocks (RmN 8 284) 0 0 (KN Γ BS mt_Pg_buildClocks.2.2.2) 56 [(0, vR Γ 11), (1, vI x26)] [] γ (f_Pg_buildClocks_b56 γ x26) := by
  intro γ x26 hx26
  unfold f_Pg_buildClocks_b56
  refine sb_iconst d_Pg_buildClocks_56 ?_
  refine sb_istore_n [(2, vI 0), (0, vR Γ 11), (1, vI x26)] d_Pg_buildClocks_57 (by decide) rfl ?_
  exact sb_lv [1, 2, 0] rfl (s_Pg_buildClocks_L58 (s_Pg_buildClocks_b90) FU γ x26 0 hx26 (by decide))
set_option maxHeartbeats 4000000 in
theorem s_Pg_buildClocks_L24 {Γ : Ctx} {e56 : St → Int → Option (Int × St)} (he56 : ∀ (γ : St) (x37 : Int), i32 x37 → SB Γ BS mt_Pg_buildClocks (RmN 8 284) 0 0 (KN Γ BS mt_Pg_buildClocks.2.2.2) 56 [(0, vR Γ 11), (1, vI x37)] [] γ (e56 γ x37)) : ∀ (n : Nat) (γ : St) (x27 : Int) (x28 : Int), i32 x27 → i32 x28 → SB Γ BS mt_Pg_buildClocks (RmN 8 284) 0 0 (KN Γ BS mt_Pg_buildClocks.2.2.2) 24 [(0, vR Γ 11), (1, vI x27), (2, vI x28)] [] γ (f_Pg_buildClocks_L24 e56 n γ x27 x28) := by
  intro n
  induction n with
  | zero => intros; exact sb_none
  | succ n ih =>
    intro γ x27 x28 hx27 hx28
    unfold f_Pg_buildClocks_L24
    refine sb_iload_n 2 d_Pg_buildClocks_24 rfl ?_
    refine sb_aload_n 0 d_Pg_buildClocks_25 rfl ?_
    refine g_Pg_49 d_Pg_buildClocks_26 ?_
    refine g_Pg_118 d_Pg_buildClocks_29 (fun c30 => ?_)
    refine sb_icmp_ge 56 hx28 c30 d_Pg_buildClocks_32 (by decide) (fun _ => ?_) (fun _ => ?_)
    · exact sb_lv [0, 1] rfl (he56 γ x27 hx27)
    · refine sb_aload_n 0 d_Pg_buildClocks_35 rfl ?_
      refine g_Pg_34 d_Pg_buildClocks_36 ?_
      refine sb_aload_n 0 d_Pg_buildClocks_39 rfl ?_
      refine g_Pg_49 d_Pg_buildClocks_40 ?_
      refine g_Pg_127 d_Pg_buildClocks_43 ?_
      refine sb_iload_n 2 d_Pg_buildClocks_46 rfl ?_
      refine al_S_59 d_Pg_buildClocks_47 (fun _ c34 => ?_)
      refine sb_iconst d_Pg_buildClocks_48 ?_
      refine as_S_83 (by decide) d_Pg_buildClocks_49 (fun _ => ?_)
      refine sb_aps (fun γ35 => ?_)
      refine sb_iinc 2 [(2, vI (x28 + 1)), (0, vR Γ 11), (1, vI x27)] d_Pg_buildClocks_50 rfl (by decide) rfl ?_
      refine sb_chk (fun c36 => ?_)
      refine sb_goto 24 d_Pg_buildClocks_53 (by decide) ?_
      exact sb_lv [1, 2, 0] rfl (ih γ35 x27 (x28 + 1) hx27 c36)
set_option maxHeartbeats 4000000 in
theorem c_Pg_buildClocks {Γ : Ctx} (γ : St) : NC Γ BS y_Pg_buildClocks mt_Pg_buildClocks 8 284 [vR Γ 11] γ (f_Pg_buildClocks γ) := by
  refine nc_of (by decide) rfl (Nat.le_of_ble_eq_true rfl) ?_
  show SB Γ BS mt_Pg_buildClocks (RmN 8 284) 0 0 (KN Γ BS mt_Pg_buildClocks.2.2.2) 0 [(0, vR Γ 11)] [] γ _
  unfold f_Pg_buildClocks
  refine sb_iconst d_Pg_buildClocks_0 ?_
  refine sb_aload_n 0 d_Pg_buildClocks_1 rfl ?_
  refine g_Pg_49 d_Pg_buildClocks_2 ?_
  refine g_Pg_118 d_Pg_buildClocks_5 (fun c39 => ?_)
  refine sb_imul d_Pg_buildClocks_8 ?_
  refine sb_chk (fun c40 => ?_)
  refine sb_iconst d_Pg_buildClocks_9 ?_
  refine sb_iadd d_Pg_buildClocks_10 ?_
  refine sb_chk (fun c41 => ?_)
  refine sb_istore_n [(1, vI ((2 * (γ 8 8)) + 1)), (0, vR Γ 11)] d_Pg_buildClocks_11 (by decide) rfl ?_
  refine sb_nme (e := (2 * (γ 8 8)) + 1) (fun x42 => [(1, vI x42), (0, vR Γ 11)]) c41 (fun x42 hx42 => ?_)
  refine sb_aload_n 1 d_Pg_buildClocks_12 rfl ?_
  refine g_Pg_34 d_Pg_buildClocks_13 ?_
  refine sb_iconst d_Pg_buildClocks_16 ?_
  refine sb_iload_n 0 d_Pg_buildClocks_17 rfl ?_
  refine sb_iconst d_Pg_buildClocks_18 ?_
  refine sb_fill1 rfl rfl (by decide) (by decide) hx42 (by decide) ml_Pg_121 (Nat.le_of_ble_eq_true rfl) ⟨by decide, by decide⟩ d_Pg_buildClocks_19 (fun γ44 => ?_)
  refine sb_iconst d_Pg_buildClocks_22 ?_
  refine sb_istore_n [(2, vI 0), (1, vI x42), (0, vR Γ 11)] d_Pg_buildClocks_23 (by decide) rfl ?_
  exact sb_lv [2, 1, 0] rfl (s_Pg_buildClocks_L24 (s_Pg_buildClocks_b56) FU γ44 x42 0 hx42 (by decide))
theorem d_Pg_clear_0 : decode b_Pg_clear 0 = .ok (.aload_n 0, 1) := by decide +kernel
theorem d_Pg_clear_1 : decode b_Pg_clear 1 = .ok (.getfield 28, 3) := by decide +kernel
theorem d_Pg_clear_4 : decode b_Pg_clear 4 = .ok (.iconst 0, 1) := by decide +kernel
theorem d_Pg_clear_5 : decode b_Pg_clear 5 = .ok (.aload_n 0, 1) := by decide +kernel
theorem d_Pg_clear_6 : decode b_Pg_clear 6 = .ok (.getfield 49, 3) := by decide +kernel
theorem d_Pg_clear_9 : decode b_Pg_clear 9 = .ok (.getfield 70, 3) := by decide +kernel
theorem d_Pg_clear_12 : decode b_Pg_clear 12 = .ok (.iconst 0, 1) := by decide +kernel
theorem d_Pg_clear_13 : decode b_Pg_clear 13 = .ok (.invokestatic 121, 3) := by decide +kernel
theorem d_Pg_clear_16 : decode b_Pg_clear 16 = .ok (.return_, 1) := by decide +kernel
abbrev mt_Pg_clear : MT := (R_Pg, b_Pg_clear, 1, none)
theorem vf_Pg_clear : VF y_Pg_clear mt_Pg_clear 8 0 := ⟨im_Pg_clear, se_Pg_clear, in_Pg, co_Pg_clear, by decide +kernel, _, _, rfl⟩
def f_Pg_clear (γ : St) : Option (Int × St) :=
  chk (0 ≤ (γ 8 11) ∧ (0 : Int) ≤ 0 ∧ (γ 8 11) ≤ 6000) (ap (flA γ 81 0 (γ 8 11) 0) fun γ4 =>
  some (0, γ4))
set_option maxHeartbeats 4000000 in
theorem c_Pg_clear {Γ : Ctx} (γ : St) : NC Γ BS y_Pg_clear mt_Pg_clear 6 240 [vR Γ 11] γ (f_Pg_clear γ) := by
  refine nc_of (by decide) rfl (Nat.le_of_ble_eq_true rfl) ?_
  show SB Γ BS mt_Pg_clear (RmN 6 240) 0 0 (KN Γ BS mt_Pg_clear.2.2.2) 0 [(0, vR Γ 11)] [] γ _
  unfold f_Pg_clear
  refine sb_aload_n 0 d_Pg_clear_0 rfl ?_
  refine g_Pg_28 d_Pg_clear_1 ?_
  refine sb_iconst d_Pg_clear_4 ?_
  refine sb_aload_n 0 d_Pg_clear_5 rfl ?_
  refine g_Pg_49 d_Pg_clear_6 ?_
  refine g_Pg_70 d_Pg_clear_9 (fun c3 => ?_)
  refine sb_iconst d_Pg_clear_12 ?_
  refine sb_fill1 rfl rfl (by decide) (by decide) c3 (by decide) ml_Pg_121 (Nat.le_of_ble_eq_true rfl) ⟨by decide, by decide⟩ d_Pg_clear_13 (fun γ4 => ?_)
  exact sn_v rfl d_Pg_clear_16
theorem d_Pg_build_0 : decode b_Pg_build 0 = .ok (.aload_n 0, 1) := by decide +kernel
theorem d_Pg_build_1 : decode b_Pg_build 1 = .ok (.iload_n 1, 1) := by decide +kernel
theorem d_Pg_build_2 : decode b_Pg_build 2 = .ok (.putfield 57, 3) := by decide +kernel
theorem d_Pg_build_5 : decode b_Pg_build 5 = .ok (.aload_n 0, 1) := by decide +kernel
theorem d_Pg_build_6 : decode b_Pg_build 6 = .ok (.iload_n 2, 1) := by decide +kernel
theorem d_Pg_build_7 : decode b_Pg_build 7 = .ok (.putfield 61, 3) := by decide +kernel
theorem d_Pg_build_10 : decode b_Pg_build 10 = .ok (.aload_n 0, 1) := by decide +kernel
theorem d_Pg_build_11 : decode b_Pg_build 11 = .ok (.invokevirtual 64, 3) := by decide +kernel
theorem d_Pg_build_14 : decode b_Pg_build 14 = .ok (.aload_n 0, 1) := by decide +kernel
theorem d_Pg_build_15 : decode b_Pg_build 15 = .ok (.invokevirtual 67, 3) := by decide +kernel
theorem d_Pg_build_18 : decode b_Pg_build 18 = .ok (.iconst 0, 1) := by decide +kernel
theorem d_Pg_build_19 : decode b_Pg_build 19 = .ok (.istore_n 3, 1) := by decide +kernel
theorem d_Pg_build_20 : decode b_Pg_build 20 = .ok (.iload_n 3, 1) := by decide +kernel
theorem d_Pg_build_21 : decode b_Pg_build 21 = .ok (.aload_n 0, 1) := by decide +kernel
theorem d_Pg_build_22 : decode b_Pg_build 22 = .ok (.getfield 49, 3) := by decide +kernel
theorem d_Pg_build_25 : decode b_Pg_build 25 = .ok (.getfield 70, 3) := by decide +kernel
theorem d_Pg_build_28 : decode b_Pg_build 28 = .ok (.if_icmp .ge 55, 3) := by decide +kernel
theorem d_Pg_build_31 : decode b_Pg_build 31 = .ok (.aload_n 0, 1) := by decide +kernel
theorem d_Pg_build_32 : decode b_Pg_build 32 = .ok (.getfield 49, 3) := by decide +kernel
theorem d_Pg_build_35 : decode b_Pg_build 35 = .ok (.getfield 75, 3) := by decide +kernel
theorem d_Pg_build_38 : decode b_Pg_build 38 = .ok (.iload_n 3, 1) := by decide +kernel
theorem d_Pg_build_39 : decode b_Pg_build 39 = .ok (.aload_n 0, 1) := by decide +kernel
theorem d_Pg_build_40 : decode b_Pg_build 40 = .ok (.getfield 18, 3) := by decide +kernel
theorem d_Pg_build_43 : decode b_Pg_build 43 = .ok (.aload_n 0, 1) := by decide +kernel
theorem d_Pg_build_44 : decode b_Pg_build 44 = .ok (.getfield 49, 3) := by decide +kernel
theorem d_Pg_build_47 : decode b_Pg_build 47 = .ok (.getfield 75, 3) := by decide +kernel
theorem d_Pg_build_50 : decode b_Pg_build 50 = .ok (.iload_n 3, 1) := by decide +kernel
theorem d_Pg_build_51 : decode b_Pg_build 51 = .ok (.iaload, 1) := by decide +kernel
theorem d_Pg_build_52 : decode b_Pg_build 52 = .ok (.iaload, 1) := by decide +kernel
theorem d_Pg_build_53 : decode b_Pg_build 53 = .ok (.iastore, 1) := by decide +kernel
theorem d_Pg_build_54 : decode b_Pg_build 54 = .ok (.aload_n 0, 1) := by decide +kernel
theorem d_Pg_build_55 : decode b_Pg_build 55 = .ok (.getfield 49, 3) := by decide +kernel
theorem d_Pg_build_58 : decode b_Pg_build 58 = .ok (.getfield 78, 3) := by decide +kernel
theorem d_Pg_build_61 : decode b_Pg_build 61 = .ok (.iload_n 3, 1) := by decide +kernel
theorem d_Pg_build_62 : decode b_Pg_build 62 = .ok (.aload_n 0, 1) := by decide +kernel
theorem d_Pg_build_63 : decode b_Pg_build 63 = .ok (.getfield 34, 3) := by decide +kernel
theorem d_Pg_build_66 : decode b_Pg_build 66 = .ok (.aload_n 0, 1) := by decide +kernel
theorem d_Pg_build_67 : decode b_Pg_build 67 = .ok (.getfield 49, 3) := by decide +kernel
theorem d_Pg_build_70 : decode b_Pg_build 70 = .ok (.getfield 78, 3) := by decide +kernel
theorem d_Pg_build_73 : decode b_Pg_build 73 = .ok (.iload_n 3, 1) := by decide +kernel
theorem d_Pg_build_74 : decode b_Pg_build 74 = .ok (.iaload, 1) := by decide +kernel
theorem d_Pg_build_75 : decode b_Pg_build 75 = .ok (.iaload, 1) := by decide +kernel
theorem d_Pg_build_76 : decode b_Pg_build 76 = .ok (.iastore, 1) := by decide +kernel
theorem d_Pg_build_77 : decode b_Pg_build 77 = .ok (.iinc 3 1, 3) := by decide +kernel
theorem d_Pg_build_80 : decode b_Pg_build 80 = .ok (.goto (-60), 3) := by decide +kernel
theorem d_Pg_build_83 : decode b_Pg_build 83 = .ok (.aload_n 0, 1) := by decide +kernel
theorem d_Pg_build_84 : decode b_Pg_build 84 = .ok (.invokevirtual 81, 3) := by decide +kernel
theorem d_Pg_build_87 : decode b_Pg_build 87 = .ok (.return_, 1) := by decide +kernel
abbrev mt_Pg_build : MT := (R_Pg, b_Pg_build, 4, none)
theorem vf_Pg_build : VF y_Pg_build mt_Pg_build 8 2 := ⟨im_Pg_build, se_Pg_build, in_Pg, co_Pg_build, by decide +kernel, _, _, rfl⟩
def f_Pg_build_b83 (γ : St) : Option (Int × St) :=
  bndN (f_Pg_clear γ) fun _ γ2 =>
  some (0, γ2)
def f_Pg_build_L20 (e83 : St → Option (Int × St)) : Nat → St → Int → Option (Int × St)
  | 0, _, _ => none
  | n + 1, γ, x3 =>
  if (γ 8 11) ≤ x3 then
  (e83 γ )
  else
  (chk (inb x3 6000) (chk (inb (γ 61 x3) 9001) (chk (inb x3 6000) (ap (setA γ 61 x3 (γ 78 (γ 61 x3))) fun γ13 =>
  chk (inb x3 6000) (chk (inb (γ13 62 x3) 12001) (chk (inb x3 6000) (ap (setA γ13 62 x3 (γ13 83 (γ13 62 x3))) fun γ21 =>
  chk (i32 (x3 + 1)) ((f_Pg_build_L20 e83 n) γ21 (x3 + 1)))))))))
def f_Pg_build (γ : St) (a0 : Int) (a1 : Int) : Option (Int × St) :=
  ap (setA γ 11 4 a0) fun γ23 =>
  ap (setA γ23 11 5 a1) fun γ24 =>
  bndN (f_Pg_buildSteps γ24) fun _ γ26 =>
  bndN (f_Pg_buildClocks γ26) fun _ γ28 =>
  f_Pg_build_L20 (f_Pg_build_b83) FU γ28 0
set_option maxHeartbeats 4000000 in
theorem s_Pg_build_b83 {Γ : Ctx} : ∀ (γ : St), SB Γ BS mt_Pg_build (RmN 9 306) 0 0 (KN Γ BS mt_Pg_build.2.2.2) 83 [(0, vR Γ 11)] [] γ (f_Pg_build_b83 γ ) := by
  intro γ
  unfold f_Pg_build_b83
  refine sb_aload_n 0 d_Pg_build_83 rfl ?_
  refine sb_cVv vf_Pg_clear (c_Pg_clear γ  ) rfl ml_Pg_81 (As := []) rfl rfl (Nat.le_of_ble_eq_true rfl) ⟨by decide, by decide⟩ d_Pg_build_84 (fun _ γ2 => ?_)
  exact sn_v rfl d_Pg_build_87
set_option maxHeartbeats 4000000 in
theorem s_Pg_build_L20 {Γ : Ctx} {e83 : St → Option (Int × St)} (he83 : ∀ (γ : St), SB Γ BS mt_Pg_build (RmN 9 306) 0 0 (KN Γ BS mt_Pg_build.2.2.2) 83 [(0, vR Γ 11)] [] γ (e83 γ )) : ∀ (n : Nat) (γ : St) (x3 : Int), i32 x3 → SB Γ BS mt_Pg_build (RmN 9 306) 0 0 (KN Γ BS mt_Pg_build.2.2.2) 20 [(0, vR Γ 11), (3, vI x3)] [] γ (f_Pg_build_L20 e83 n γ x3) := by
  intro n
  induction n with
  | zero => intros; exact sb_none
  | succ n ih =>
    intro γ x3 hx3
    unfold f_Pg_build_L20
    refine sb_iload_n 1 d_Pg_build_20 rfl ?_
    refine sb_aload_n 0 d_Pg_build_21 rfl ?_
    refine g_Pg_49 d_Pg_build_22 ?_
    refine g_Pg_70 d_Pg_build_25 (fun c5 => ?_)
    refine sb_icmp_ge 83 hx3 c5 d_Pg_build_28 (by decide) (fun _ => ?_) (fun _ => ?_)
    · exact sb_lv [0] rfl (he83 γ  )
    · refine sb_aload_n 0 d_Pg_build_31 rfl ?_
      refine g_Pg_49 d_Pg_build_32 ?_
      refine g_Pg_75 d_Pg_build_35 ?_
      refine sb_iload_n 1 d_Pg_build_38 rfl ?_
      refine sb_aload_n 0 d_Pg_build_39 rfl ?_
      refine g_Pg_18 d_Pg_build_40 ?_
      refine sb_aload_n 0 d_Pg_build_43 rfl ?_
      refine g_Pg_49 d_Pg_build_44 ?_
      refine g_Pg_75 d_Pg_build_47 ?_
      refine sb_iload_n 1 d_Pg_build_50 rfl ?_
      refine al_S_61 d_Pg_build_51 (fun _ c11 => ?_)
      refine al_S_78 d_Pg_build_52 (fun _ c12 => ?_)
      refine as_S_61 c12 d_Pg_build_53 (fun _ => ?_)
      refine sb_aps (fun γ13 => ?_)
      refine sb_aload_n 0 d_Pg_build_54 rfl ?_
      refine g_Pg_49 d_Pg_build_55 ?_
      refine g_Pg_78 d_Pg_build_58 ?_
      refine sb_iload_n 1 d_Pg_build_61 rfl ?_
      refine sb_aload_n 0 d_Pg_build_62 rfl ?_
      refine g_Pg_34 d_Pg_build_63 ?_
      refine sb_aload_n 0 d_Pg_build_66 rfl ?_
      refine g_Pg_49 d_Pg_build_67 ?_
      refine g_Pg_78 d_Pg_build_70 ?_
      refine sb_iload_n 1 d_Pg_build_73 rfl ?_
      refine al_S_62 d_Pg_build_74 (fun _ c19 => ?_)
      refine al_S_83 d_Pg_build_75 (fun _ c20 => ?_)
      refine as_S_62 c20 d_Pg_build_76 (fun _ => ?_)
      refine sb_aps (fun γ21 => ?_)
      refine sb_iinc 1 [(3, vI (x3 + 1)), (0, vR Γ 11)] d_Pg_build_77 rfl (by decide) rfl ?_
      refine sb_chk (fun c22 => ?_)
      refine sb_goto 20 d_Pg_build_80 (by decide) ?_
      exact sb_lv [1, 0] rfl (ih γ21 (x3 + 1) c22)
set_option maxHeartbeats 4000000 in
theorem c_Pg_build {Γ : Ctx} (γ : St) (a0 : Int) (a1 : Int) (ha0 : i32 a0) (ha1 : i32 a1) : NC Γ BS y_Pg_build mt_Pg_build 9 306 [vR Γ 11, vI a0, vI a1] γ (f_Pg_build γ a0 a1) := by
  refine nc_of (by decide) rfl (Nat.le_of_ble_eq_true rfl) ?_
  show SB Γ BS mt_Pg_build (RmN 9 306) 0 0 (KN Γ BS mt_Pg_build.2.2.2) 0 [(0, vR Γ 11), (1, vI a0), (2, vI a1)] [] γ _
  unfold f_Pg_build
  refine sb_aload_n 0 d_Pg_build_0 rfl ?_
  refine sb_iload_n 1 d_Pg_build_1 rfl ?_
  refine p_Pg_57 ha0 d_Pg_build_2 ?_
  refine sb_aps (fun γ23 => ?_)
  refine sb_aload_n 0 d_Pg_build_5 rfl ?_
  refine sb_iload_n 2 d_Pg_build_6 rfl ?_
  refine p_Pg_61 ha1 d_Pg_build_7 ?_
  refine sb_aps (fun γ24 => ?_)
  refine sb_aload_n 0 d_Pg_build_10 rfl ?_
  refine sb_cVv vf_Pg_buildSteps (c_Pg_buildSteps γ24  ) rfl ml_Pg_64 (As := []) rfl rfl (Nat.le_of_ble_eq_true rfl) ⟨by decide, by decide⟩ d_Pg_build_11 (fun _ γ26 => ?_)
  refine sb_aload_n 0 d_Pg_build_14 rfl ?_
  refine sb_cVv vf_Pg_buildClocks (c_Pg_buildClocks γ26  ) rfl ml_Pg_67 (As := []) rfl rfl (Nat.le_of_ble_eq_true rfl) ⟨by decide, by decide⟩ d_Pg_build_15 (fun _ γ28 => ?_)
  refine sb_iconst d_Pg_build_18 ?_
  refine sb_istore_n [(3, vI 0), (0, vR Γ 11), (1, vI a0), (2, vI a1)] d_Pg_build_19 (by decide) rfl ?_
  exact sb_lv [1, 0] rfl (s_Pg_build_L20 (s_Pg_build_b83) FU γ28 0 (by decide))
theorem d_Pg_result_0 : decode b_Pg_result 0 = .ok (.aload_n 0, 1) := by decide +kernel
theorem d_Pg_result_1 : decode b_Pg_result 1 = .ok (.getfield 22, 3) := by decide +kernel
theorem d_Pg_result_4 : decode b_Pg_result 4 = .ok (.aload_n 0, 1) := by decide +kernel
theorem d_Pg_result_5 : decode b_Pg_result 5 = .ok (.getfield 25, 3) := by decide +kernel
theorem d_Pg_result_8 : decode b_Pg_result 8 = .ok (.iload_n 1, 1) := by decide +kernel
theorem d_Pg_result_9 : decode b_Pg_result 9 = .ok (.iconst 2, 1) := by decide +kernel
theorem d_Pg_result_10 : decode b_Pg_result 10 = .ok (.iadd, 1) := by decide +kernel
theorem d_Pg_result_11 : decode b_Pg_result 11 = .ok (.iaload, 1) := by decide +kernel
theorem d_Pg_result_12 : decode b_Pg_result 12 = .ok (.iaload, 1) := by decide +kernel
theorem d_Pg_result_13 : decode b_Pg_result 13 = .ok (.istore_n 2, 1) := by decide +kernel
theorem d_Pg_result_14 : decode b_Pg_result 14 = .ok (.aload_n 0, 1) := by decide +kernel
theorem d_Pg_result_15 : decode b_Pg_result 15 = .ok (.getfield 22, 3) := by decide +kernel
theorem d_Pg_result_18 : decode b_Pg_result 18 = .ok (.aload_n 0, 1) := by decide +kernel
theorem d_Pg_result_19 : decode b_Pg_result 19 = .ok (.getfield 25, 3) := by decide +kernel
theorem d_Pg_result_22 : decode b_Pg_result 22 = .ok (.iload_n 1, 1) := by decide +kernel
theorem d_Pg_result_23 : decode b_Pg_result 23 = .ok (.iconst 3, 1) := by decide +kernel
theorem d_Pg_result_24 : decode b_Pg_result 24 = .ok (.iadd, 1) := by decide +kernel
theorem d_Pg_result_25 : decode b_Pg_result 25 = .ok (.iaload, 1) := by decide +kernel
theorem d_Pg_result_26 : decode b_Pg_result 26 = .ok (.iaload, 1) := by decide +kernel
theorem d_Pg_result_27 : decode b_Pg_result 27 = .ok (.istore_n 3, 1) := by decide +kernel
theorem d_Pg_result_28 : decode b_Pg_result 28 = .ok (.aload_n 0, 1) := by decide +kernel
theorem d_Pg_result_29 : decode b_Pg_result 29 = .ok (.getfield 25, 3) := by decide +kernel
theorem d_Pg_result_32 : decode b_Pg_result 32 = .ok (.iload_n 1, 1) := by decide +kernel
theorem d_Pg_result_33 : decode b_Pg_result 33 = .ok (.iconst 5, 1) := by decide +kernel
theorem d_Pg_result_34 : decode b_Pg_result 34 = .ok (.iadd, 1) := by decide +kernel
theorem d_Pg_result_35 : decode b_Pg_result 35 = .ok (.iaload, 1) := by decide +kernel
theorem d_Pg_result_36 : decode b_Pg_result 36 = .ok (.istore 4, 2) := by decide +kernel
theorem d_Pg_result_38 : decode b_Pg_result 38 = .ok (.aload_n 0, 1) := by decide +kernel
theorem d_Pg_result_39 : decode b_Pg_result 39 = .ok (.getfield 25, 3) := by decide +kernel
theorem d_Pg_result_42 : decode b_Pg_result 42 = .ok (.iload_n 1, 1) := by decide +kernel
theorem d_Pg_result_43 : decode b_Pg_result 43 = .ok (.iaload, 1) := by decide +kernel
theorem d_Pg_result_44 : decode b_Pg_result 44 = .ok (.tableswitch 358 9 42 #[234, 245, 256, 267, 278, 289, 226, 230, 198, 318, 312, 358, 358, 358, 358, 358, 358, 358, 358, 155, 300, 304, 308, 358, 358, 358, 159, 167, 334, 202, 214, 358, 358, 152], 152) := by decide +kernel
theorem d_Pg_result_196 : decode b_Pg_result 196 = .ok (.iload_n 2, 1) := by decide +kernel
theorem d_Pg_result_197 : decode b_Pg_result 197 = .ok (.ineg, 1) := by decide +kernel
theorem d_Pg_result_198 : decode b_Pg_result 198 = .ok (.ireturn, 1) := by decide +kernel
theorem d_Pg_result_199 : decode b_Pg_result 199 = .ok (.iconst 1, 1) := by decide +kernel
theorem d_Pg_result_200 : decode b_Pg_result 200 = .ok (.iload_n 2, 1) := by decide +kernel
theorem d_Pg_result_201 : decode b_Pg_result 201 = .ok (.isub, 1) := by decide +kernel
theorem d_Pg_result_202 : decode b_Pg_result 202 = .ok (.ireturn, 1) := by decide +kernel
theorem d_Pg_result_203 : decode b_Pg_result 203 = .ok (.aload_n 0, 1) := by decide +kernel
theorem d_Pg_result_204 : decode b_Pg_result 204 = .ok (.getfield 28, 3) := by decide +kernel
theorem d_Pg_result_207 : decode b_Pg_result 207 = .ok (.iload 4, 2) := by decide +kernel
theorem d_Pg_result_209 : decode b_Pg_result 209 = .ok (.iaload, 1) := by decide +kernel
theorem d_Pg_result_210 : decode b_Pg_result 210 = .ok (.ireturn, 1) := by decide +kernel
theorem d_Pg_result_211 : decode b_Pg_result 211 = .ok (.iload_n 3, 1) := by decide +kernel
theorem d_Pg_result_212 : decode b_Pg_result 212 = .ok (.aload_n 0, 1) := by decide +kernel
theorem d_Pg_result_213 : decode b_Pg_result 213 = .ok (.getfield 43, 3) := by decide +kernel
theorem d_Pg_result_216 : decode b_Pg_result 216 = .ok (.aload_n 0, 1) := by decide +kernel
theorem d_Pg_result_217 : decode b_Pg_result 217 = .ok (.getfield 49, 3) := by decide +kernel
theorem d_Pg_result_220 : decode b_Pg_result 220 = .ok (.getfield 78, 3) := by decide +kernel
theorem d_Pg_result_223 : decode b_Pg_result 223 = .ok (.iload 4, 2) := by decide +kernel
theorem d_Pg_result_225 : decode b_Pg_result 225 = .ok (.iaload, 1) := by decide +kernel
theorem d_Pg_result_226 : decode b_Pg_result 226 = .ok (.iaload, 1) := by decide +kernel
theorem d_Pg_result_227 : decode b_Pg_result 227 = .ok (.if_icmp .ne 7, 3) := by decide +kernel
theorem d_Pg_result_230 : decode b_Pg_result 230 = .ok (.iload_n 2, 1) := by decide +kernel
theorem d_Pg_result_231 : decode b_Pg_result 231 = .ok (.goto 10, 3) := by decide +kernel
theorem d_Pg_result_234 : decode b_Pg_result 234 = .ok (.aload_n 0, 1) := by decide +kernel
theorem d_Pg_result_235 : decode b_Pg_result 235 = .ok (.getfield 28, 3) := by decide +kernel
theorem d_Pg_result_238 : decode b_Pg_result 238 = .ok (.iload 4, 2) := by decide +kernel
theorem d_Pg_result_240 : decode b_Pg_result 240 = .ok (.iaload, 1) := by decide +kernel
theorem d_Pg_result_241 : decode b_Pg_result 241 = .ok (.ireturn, 1) := by decide +kernel
theorem d_Pg_result_242 : decode b_Pg_result 242 = .ok (.iload_n 2, 1) := by decide +kernel
theorem d_Pg_result_243 : decode b_Pg_result 243 = .ok (.iload_n 3, 1) := by decide +kernel
theorem d_Pg_result_244 : decode b_Pg_result 244 = .ok (.imul, 1) := by decide +kernel
theorem d_Pg_result_245 : decode b_Pg_result 245 = .ok (.ireturn, 1) := by decide +kernel
theorem d_Pg_result_246 : decode b_Pg_result 246 = .ok (.iload_n 3, 1) := by decide +kernel
theorem d_Pg_result_247 : decode b_Pg_result 247 = .ok (.ifCond .ne 7, 3) := by decide +kernel
theorem d_Pg_result_250 : decode b_Pg_result 250 = .ok (.iconst 0, 1) := by decide +kernel
theorem d_Pg_result_251 : decode b_Pg_result 251 = .ok (.goto 6, 3) := by decide +kernel
theorem d_Pg_result_254 : decode b_Pg_result 254 = .ok (.iload_n 2, 1) := by decide +kernel
theorem d_Pg_result_255 : decode b_Pg_result 255 = .ok (.iload_n 3, 1) := by decide +kernel
theorem d_Pg_result_256 : decode b_Pg_result 256 = .ok (.idiv, 1) := by decide +kernel
theorem d_Pg_result_257 : decode b_Pg_result 257 = .ok (.ireturn, 1) := by decide +kernel
theorem d_Pg_result_258 : decode b_Pg_result 258 = .ok (.iload_n 3, 1) := by decide +kernel
theorem d_Pg_result_259 : decode b_Pg_result 259 = .ok (.ifCond .ne 7, 3) := by decide +kernel
theorem d_Pg_result_262 : decode b_Pg_result 262 = .ok (.iconst 0, 1) := by decide +kernel
theorem d_Pg_result_263 : decode b_Pg_result 263 = .ok (.goto 6, 3) := by decide +kernel
theorem d_Pg_result_266 : decode b_Pg_result 266 = .ok (.iload_n 2, 1) := by decide +kernel
theorem d_Pg_result_267 : decode b_Pg_result 267 = .ok (.iload_n 3, 1) := by decide +kernel
theorem d_Pg_result_268 : decode b_Pg_result 268 = .ok (.irem, 1) := by decide +kernel
theorem d_Pg_result_269 : decode b_Pg_result 269 = .ok (.ireturn, 1) := by decide +kernel
theorem d_Pg_result_270 : decode b_Pg_result 270 = .ok (.iload_n 2, 1) := by decide +kernel
theorem d_Pg_result_271 : decode b_Pg_result 271 = .ok (.iload_n 3, 1) := by decide +kernel
theorem d_Pg_result_272 : decode b_Pg_result 272 = .ok (.iadd, 1) := by decide +kernel
theorem d_Pg_result_273 : decode b_Pg_result 273 = .ok (.ireturn, 1) := by decide +kernel
theorem d_Pg_result_274 : decode b_Pg_result 274 = .ok (.iload_n 2, 1) := by decide +kernel
theorem d_Pg_result_275 : decode b_Pg_result 275 = .ok (.iload_n 3, 1) := by decide +kernel
theorem d_Pg_result_276 : decode b_Pg_result 276 = .ok (.isub, 1) := by decide +kernel
theorem d_Pg_result_277 : decode b_Pg_result 277 = .ok (.ireturn, 1) := by decide +kernel
theorem d_Pg_result_278 : decode b_Pg_result 278 = .ok (.iload_n 2, 1) := by decide +kernel
theorem d_Pg_result_279 : decode b_Pg_result 279 = .ok (.iload_n 3, 1) := by decide +kernel
theorem d_Pg_result_280 : decode b_Pg_result 280 = .ok (.if_icmp .ne 7, 3) := by decide +kernel
theorem d_Pg_result_283 : decode b_Pg_result 283 = .ok (.iconst 1, 1) := by decide +kernel
theorem d_Pg_result_284 : decode b_Pg_result 284 = .ok (.goto 4, 3) := by decide +kernel
theorem d_Pg_result_287 : decode b_Pg_result 287 = .ok (.iconst 0, 1) := by decide +kernel
theorem d_Pg_result_288 : decode b_Pg_result 288 = .ok (.ireturn, 1) := by decide +kernel
theorem d_Pg_result_289 : decode b_Pg_result 289 = .ok (.iload_n 2, 1) := by decide +kernel
theorem d_Pg_result_290 : decode b_Pg_result 290 = .ok (.iload_n 3, 1) := by decide +kernel
theorem d_Pg_result_291 : decode b_Pg_result 291 = .ok (.if_icmp .eq 7, 3) := by decide +kernel
theorem d_Pg_result_294 : decode b_Pg_result 294 = .ok (.iconst 1, 1) := by decide +kernel
theorem d_Pg_result_295 : decode b_Pg_result 295 = .ok (.goto 4, 3) := by decide +kernel
theorem d_Pg_result_298 : decode b_Pg_result 298 = .ok (.iconst 0, 1) := by decide +kernel
theorem d_Pg_result_299 : decode b_Pg_result 299 = .ok (.ireturn, 1) := by decide +kernel
theorem d_Pg_result_300 : decode b_Pg_result 300 = .ok (.iload_n 2, 1) := by decide +kernel
theorem d_Pg_result_301 : decode b_Pg_result 301 = .ok (.iload_n 3, 1) := by decide +kernel
theorem d_Pg_result_302 : decode b_Pg_result 302 = .ok (.if_icmp .ge 7, 3) := by decide +kernel
theorem d_Pg_result_305 : decode b_Pg_result 305 = .ok (.iconst 1, 1) := by decide +kernel
theorem d_Pg_result_306 : decode b_Pg_result 306 = .ok (.goto 4, 3) := by decide +kernel
theorem d_Pg_result_309 : decode b_Pg_result 309 = .ok (.iconst 0, 1) := by decide +kernel
theorem d_Pg_result_310 : decode b_Pg_result 310 = .ok (.ireturn, 1) := by decide +kernel
theorem d_Pg_result_311 : decode b_Pg_result 311 = .ok (.iload_n 2, 1) := by decide +kernel
theorem d_Pg_result_312 : decode b_Pg_result 312 = .ok (.iload_n 3, 1) := by decide +kernel
theorem d_Pg_result_313 : decode b_Pg_result 313 = .ok (.if_icmp .gt 7, 3) := by decide +kernel
theorem d_Pg_result_316 : decode b_Pg_result 316 = .ok (.iconst 1, 1) := by decide +kernel
theorem d_Pg_result_317 : decode b_Pg_result 317 = .ok (.goto 4, 3) := by decide +kernel
theorem d_Pg_result_320 : decode b_Pg_result 320 = .ok (.iconst 0, 1) := by decide +kernel
theorem d_Pg_result_321 : decode b_Pg_result 321 = .ok (.ireturn, 1) := by decide +kernel
theorem d_Pg_result_322 : decode b_Pg_result 322 = .ok (.iload_n 2, 1) := by decide +kernel
theorem d_Pg_result_323 : decode b_Pg_result 323 = .ok (.iload_n 3, 1) := by decide +kernel
theorem d_Pg_result_324 : decode b_Pg_result 324 = .ok (.if_icmp .le 7, 3) := by decide +kernel
theorem d_Pg_result_327 : decode b_Pg_result 327 = .ok (.iconst 1, 1) := by decide +kernel
theorem d_Pg_result_328 : decode b_Pg_result 328 = .ok (.goto 4, 3) := by decide +kernel
theorem d_Pg_result_331 : decode b_Pg_result 331 = .ok (.iconst 0, 1) := by decide +kernel
theorem d_Pg_result_332 : decode b_Pg_result 332 = .ok (.ireturn, 1) := by decide +kernel
theorem d_Pg_result_333 : decode b_Pg_result 333 = .ok (.iload_n 2, 1) := by decide +kernel
theorem d_Pg_result_334 : decode b_Pg_result 334 = .ok (.iload_n 3, 1) := by decide +kernel
theorem d_Pg_result_335 : decode b_Pg_result 335 = .ok (.if_icmp .lt 7, 3) := by decide +kernel
theorem d_Pg_result_338 : decode b_Pg_result 338 = .ok (.iconst 1, 1) := by decide +kernel
theorem d_Pg_result_339 : decode b_Pg_result 339 = .ok (.goto 4, 3) := by decide +kernel
theorem d_Pg_result_342 : decode b_Pg_result 342 = .ok (.iconst 0, 1) := by decide +kernel
theorem d_Pg_result_343 : decode b_Pg_result 343 = .ok (.ireturn, 1) := by decide +kernel
theorem d_Pg_result_344 : decode b_Pg_result 344 = .ok (.iload_n 2, 1) := by decide +kernel
theorem d_Pg_result_345 : decode b_Pg_result 345 = .ok (.iload_n 3, 1) := by decide +kernel
theorem d_Pg_result_346 : decode b_Pg_result 346 = .ok (.iand, 1) := by decide +kernel
theorem d_Pg_result_347 : decode b_Pg_result 347 = .ok (.ireturn, 1) := by decide +kernel
theorem d_Pg_result_348 : decode b_Pg_result 348 = .ok (.iload_n 2, 1) := by decide +kernel
theorem d_Pg_result_349 : decode b_Pg_result 349 = .ok (.iload_n 3, 1) := by decide +kernel
theorem d_Pg_result_350 : decode b_Pg_result 350 = .ok (.ior, 1) := by decide +kernel
theorem d_Pg_result_351 : decode b_Pg_result 351 = .ok (.ireturn, 1) := by decide +kernel
theorem d_Pg_result_352 : decode b_Pg_result 352 = .ok (.iload_n 2, 1) := by decide +kernel
theorem d_Pg_result_353 : decode b_Pg_result 353 = .ok (.iload_n 3, 1) := by decide +kernel
theorem d_Pg_result_354 : decode b_Pg_result 354 = .ok (.ixor, 1) := by decide +kernel
theorem d_Pg_result_355 : decode b_Pg_result 355 = .ok (.ireturn, 1) := by decide +kernel
theorem d_Pg_result_356 : decode b_Pg_result 356 = .ok (.iconst 1, 1) := by decide +kernel
theorem d_Pg_result_357 : decode b_Pg_result 357 = .ok (.iload_n 2, 1) := by decide +kernel
theorem d_Pg_result_358 : decode b_Pg_result 358 = .ok (.isub, 1) := by decide +kernel
theorem d_Pg_result_359 : decode b_Pg_result 359 = .ok (.iload_n 3, 1) := by decide +kernel
theorem d_Pg_result_360 : decode b_Pg_result 360 = .ok (.ior, 1) := by decide +kernel
theorem d_Pg_result_361 : decode b_Pg_result 361 = .ok (.ireturn, 1) := by decide +kernel
theorem d_Pg_result_362 : decode b_Pg_result 362 = .ok (.aload_n 0, 1) := by decide +kernel
theorem d_Pg_result_363 : decode b_Pg_result 363 = .ok (.getfield 28, 3) := by decide +kernel
theorem d_Pg_result_366 : decode b_Pg_result 366 = .ok (.iload 4, 2) := by decide +kernel
theorem d_Pg_result_368 : decode b_Pg_result 368 = .ok (.iaload, 1) := by decide +kernel
theorem d_Pg_result_369 : decode b_Pg_result 369 = .ok (.ifCond .ne 7, 3) := by decide +kernel
theorem d_Pg_result_372 : decode b_Pg_result 372 = .ok (.iload_n 2, 1) := by decide +kernel
theorem d_Pg_result_373 : decode b_Pg_result 373 = .ok (.goto 4, 3) := by decide +kernel
theorem d_Pg_result_376 : decode b_Pg_result 376 = .ok (.iload_n 3, 1) := by decide +kernel
theorem d_Pg_result_377 : decode b_Pg_result 377 = .ok (.ireturn, 1) := by decide +kernel
theorem d_Pg_result_378 : decode b_Pg_result 378 = .ok (.aload_n 0, 1) := by decide +kernel
theorem d_Pg_result_379 : decode b_Pg_result 379 = .ok (.getfield 28, 3) := by decide +kernel
theorem d_Pg_result_382 : decode b_Pg_result 382 = .ok (.iload 4, 2) := by decide +kernel
theorem d_Pg_result_384 : decode b_Pg_result 384 = .ok (.iaload, 1) := by decide +kernel
theorem d_Pg_result_385 : decode b_Pg_result 385 = .ok (.ifCond .ne 7, 3) := by decide +kernel
theorem d_Pg_result_388 : decode b_Pg_result 388 = .ok (.iload_n 2, 1) := by decide +kernel
theorem d_Pg_result_389 : decode b_Pg_result 389 = .ok (.goto 12, 3) := by decide +kernel
theorem d_Pg_result_392 : decode b_Pg_result 392 = .ok (.aload_n 0, 1) := by decide +kernel
theorem d_Pg_result_393 : decode b_Pg_result 393 = .ok (.getfield 28, 3) := by decide +kernel
theorem d_Pg_result_396 : decode b_Pg_result 396 = .ok (.iload 4, 2) := by decide +kernel
theorem d_Pg_result_398 : decode b_Pg_result 398 = .ok (.iconst 1, 1) := by decide +kernel
theorem d_Pg_result_399 : decode b_Pg_result 399 = .ok (.iadd, 1) := by decide +kernel
theorem d_Pg_result_400 : decode b_Pg_result 400 = .ok (.iaload, 1) := by decide +kernel
theorem d_Pg_result_401 : decode b_Pg_result 401 = .ok (.ireturn, 1) := by decide +kernel
theorem d_Pg_result_402 : decode b_Pg_result 402 = .ok (.iload_n 2, 1) := by decide +kernel
theorem d_Pg_result_403 : decode b_Pg_result 403 = .ok (.iconst 1, 1) := by decide +kernel
theorem d_Pg_result_404 : decode b_Pg_result 404 = .ok (.if_icmp .ne 7, 3) := by decide +kernel
theorem d_Pg_result_407 : decode b_Pg_result 407 = .ok (.iload_n 3, 1) := by decide +kernel
theorem d_Pg_result_408 : decode b_Pg_result 408 = .ok (.goto 16, 3) := by decide +kernel
theorem d_Pg_result_411 : decode b_Pg_result 411 = .ok (.aload_n 0, 1) := by decide +kernel
theorem d_Pg_result_412 : decode b_Pg_result 412 = .ok (.getfield 22, 3) := by decide +kernel
theorem d_Pg_result_415 : decode b_Pg_result 415 = .ok (.aload_n 0, 1) := by decide +kernel
theorem d_Pg_result_416 : decode b_Pg_result 416 = .ok (.getfield 25, 3) := by decide +kernel
theorem d_Pg_result_419 : decode b_Pg_result 419 = .ok (.iload_n 1, 1) := by decide +kernel
theorem d_Pg_result_420 : decode b_Pg_result 420 = .ok (.iconst 4, 1) := by decide +kernel
theorem d_Pg_result_421 : decode b_Pg_result 421 = .ok (.iadd, 1) := by decide +kernel
theorem d_Pg_result_422 : decode b_Pg_result 422 = .ok (.iaload, 1) := by decide +kernel
theorem d_Pg_result_423 : decode b_Pg_result 423 = .ok (.iaload, 1) := by decide +kernel
theorem d_Pg_result_424 : decode b_Pg_result 424 = .ok (.ireturn, 1) := by decide +kernel
abbrev mt_Pg_result : MT := (R_Pg, b_Pg_result, 5, some .int)
theorem vf_Pg_result : VF y_Pg_result mt_Pg_result 8 1 := ⟨im_Pg_result, se_Pg_result, in_Pg, co_Pg_result, by decide +kernel, _, _, rfl⟩
def f_Pg_result (γ : St) (a0 : Int) : Option (Int × St) :=
  chk (i32 (a0 + 2)) (chk (inb (a0 + 2) 18000) (chk (inb (γ 80 (a0 + 2)) 9001) (ap (γ 79 (γ 80 (a0 + 2))) fun x6 =>
  chk (i32 (a0 + 3)) (chk (inb (a0 + 3) 18000) (chk (inb (γ 80 (a0 + 3)) 9001) (ap (γ 79 (γ 80 (a0 + 3))) fun x12 =>
  chk (i32 (a0 + 5)) (chk (inb (a0 + 5) 18000) (ap (γ 80 (a0 + 5)) fun x16 =>
  chk (inb a0 18000) (if (γ 80 a0) = 9 then
  (if x6 ≠ x12 then
  (some (0, γ))
  else
  (some (1, γ)))
  else if (γ 80 a0) = 10 then
  (if x6 = x12 then
  (some (0, γ))
  else
  (some (1, γ)))
  else if (γ 80 a0) = 11 then
  (if x12 ≤ x6 then
  (some (0, γ))
  else
  (some (1, γ)))
  else if (γ 80 a0) = 12 then
  (if x12 < x6 then
  (some (0, γ))
  else
  (some (1, γ)))
  else if (γ 80 a0) = 13 then
  (if x6 ≤ x12 then
  (some (0, γ))
  else
  (some (1, γ)))
  else if (γ 80 a0) = 14 then
  (if x6 < x12 then
  (some (0, γ))
  else
  (some (1, γ)))
  else if (γ 80 a0) = 15 then
  (some (wr (x6 + x12), γ))
  else if (γ 80 a0) = 16 then
  (some (wr (x6 - x12), γ))
  else if (γ 80 a0) = 17 then
  (some (wr (x6 * x12), γ))
  else if (γ 80 a0) = 18 then
  (chk (inb x16 6000) (if (γ 81 x16) ≠ 0 then
  (some (x12, γ))
  else
  (some (x6, γ))))
  else if (γ 80 a0) = 19 then
  (some (ior (wr (1 - x6)) x12, γ))
  else if (γ 80 a0) = 28 then
  (some (wr (1 - x6), γ))
  else if (γ 80 a0) = 29 then
  (some (iand x6 x12, γ))
  else if (γ 80 a0) = 30 then
  (some (ior x6 x12, γ))
  else if (γ 80 a0) = 31 then
  (some (ixor x6 x12, γ))
  else if (γ 80 a0) = 35 then
  (chk (inb x16 6000) (some (γ 81 x16, γ)))
  else if (γ 80 a0) = 36 then
  (chk (inb x16 6000) (chk (inb (γ 62 x16) 12001) (if x12 ≠ (γ 86 (γ 62 x16)) then
  (chk (inb x16 6000) (some (γ 81 x16, γ)))
  else
  (some (x6, γ)))))
  else if (γ 80 a0) = 37 then
  (chk (inb x16 6000) (if (γ 81 x16) ≠ 0 then
  (chk (i32 (x16 + 1)) (chk (inb (x16 + 1) 6000) (some (γ 81 (x16 + 1), γ))))
  else
  (some (x6, γ))))
  else if (γ 80 a0) = 38 then
  (if x12 ≠ 0 then
  (chk ((x12 : Int) ≠ 0) (some (idiv x6 x12, γ)))
  else
  (some (0, γ)))
  else if (γ 80 a0) = 39 then
  (if x12 ≠ 0 then
  (chk ((x12 : Int) ≠ 0) (some (irem x6 x12, γ)))
  else
  (some (0, γ)))
  else if (γ 80 a0) = 42 then
  (some (wr (-x6), γ))
  else (if x6 ≠ 1 then
  (chk (i32 (a0 + 4)) (chk (inb (a0 + 4) 18000) (chk (inb (γ 80 (a0 + 4)) 9001) (some (γ 79 (γ 80 (a0 + 4)), γ)))))
  else
  (some (x12, γ))))))))))))
set_option maxHeartbeats 4000000 in
theorem c_Pg_result {Γ : Ctx} (γ : St) (a0 : Int) (ha0 : i32 a0) : NC Γ BS y_Pg_result mt_Pg_result 6 240 [vR Γ 11, vI a0] γ (f_Pg_result γ a0) := by
  refine nc_of (by decide) rfl (Nat.le_of_ble_eq_true rfl) ?_
  show SB Γ BS mt_Pg_result (RmN 6 240) 0 0 (KN Γ BS mt_Pg_result.2.2.2) 0 [(0, vR Γ 11), (1, vI a0)] [] γ _
  unfold f_Pg_result
  refine sb_aload_n 0 d_Pg_result_0 rfl ?_
  refine g_Pg_22 d_Pg_result_1 ?_
  refine sb_aload_n 0 d_Pg_result_4 rfl ?_
  refine g_Pg_25 d_Pg_result_5 ?_
  refine sb_iload_n 1 d_Pg_result_8 rfl ?_
  refine sb_iconst d_Pg_result_9 ?_
  refine sb_iadd d_Pg_result_10 ?_
  refine sb_chk (fun c3 => ?_)
  refine al_S_80 d_Pg_result_11 (fun _ c4 => ?_)
  refine al_S_79 d_Pg_result_12 (fun _ c5 => ?_)
  refine sb_istore_n [(2, vI (γ 79 (γ 80 (a0 + 2)))), (0, vR Γ 11), (1, vI a0)] d_Pg_result_13 (by decide) rfl ?_
  refine sb_nme (e := γ 79 (γ 80 (a0 + 2))) (fun x6 => [(2, vI x6), (0, vR Γ 11), (1, vI a0)]) c5 (fun x6 hx6 => ?_)
  refine sb_aload_n 1 d_Pg_result_14 rfl ?_
  refine g_Pg_22 d_Pg_result_15 ?_
  refine sb_aload_n 1 d_Pg_result_18 rfl ?_
  refine g_Pg_25 d_Pg_result_19 ?_
  refine sb_iload_n 2 d_Pg_result_22 rfl ?_
  refine sb_iconst d_Pg_result_23 ?_
  refine sb_iadd d_Pg_result_24 ?_
  refine sb_chk (fun c9 => ?_)
  refine al_S_80 d_Pg_result_25 (fun _ c10 => ?_)
  refine al_S_79 d_Pg_result_26 (fun _ c11 => ?_)
  refine sb_istore_n [(3, vI (γ 79 (γ 80 (a0 + 3)))), (2, vI x6), (0, vR Γ 11), (1, vI a0)] d_Pg_result_27 (by decide) rfl ?_
  refine sb_nme (e := γ 79 (γ 80 (a0 + 3))) (fun x12 => [(3, vI x12), (2, vI x6), (0, vR Γ 11), (1, vI a0)]) c11 (fun x12 hx12 => ?_)
  refine sb_aload_n 2 d_Pg_result_28 rfl ?_
  refine g_Pg_25 d_Pg_result_29 ?_
  refine sb_iload_n 3 d_Pg_result_32 rfl ?_
  refine sb_iconst d_Pg_result_33 ?_
  refine sb_iadd d_Pg_result_34 ?_
  refine sb_chk (fun c14 => ?_)
  refine al_S_80 d_Pg_result_35 (fun _ c15 => ?_)
  refine sb_istore [(4, vI (γ 80 (a0 + 5))), (3, vI x12), (2, vI x6), (0, vR Γ 11), (1, vI a0)] d_Pg_result_36 (by decide) rfl ?_
  refine sb_nme (e := γ 80 (a0 + 5)) (fun x16 => [(4, vI x16), (3, vI x12), (2, vI x6), (0, vR Γ 11), (1, vI a0)]) c15 (fun x16 hx16 => ?_)
  refine sb_aload_n 3 d_Pg_result_38 rfl ?_
  refine g_Pg_25 d_Pg_result_39 ?_
  refine sb_iload_n 4 d_Pg_result_42 rfl ?_
  refine al_S_80 d_Pg_result_43 (fun _ c18 => ?_)
  refine sb_tc (off := 234) 9 278 c18 d_Pg_result_44 (by decide) (by decide) (fun _ => ?_) (fun n19 => ?_)
  · refine sb_iload_n 2 d_Pg_result_278 rfl ?_
    refine sb_iload_n 1 d_Pg_result_279 rfl ?_
    refine sb_icmp_ne 287 hx6 hx12 d_Pg_result_280 (by decide) (fun _ => ?_) (fun _ => ?_)
    · refine sb_iconst d_Pg_result_287 ?_
      exact sn_i rfl (by decide) d_Pg_result_288
    · refine sb_iconst d_Pg_result_283 ?_
      refine sb_goto 288 d_Pg_result_284 (by decide) ?_
      exact sn_i rfl (by decide) d_Pg_result_288
  refine sb_tc (off := 245) 10 289 c18 d_Pg_result_44 (by decide) (by decide) (fun _ => ?_) (fun n20 => ?_)
  · refine sb_iload_n 2 d_Pg_result_289 rfl ?_
    refine sb_iload_n 1 d_Pg_result_290 rfl ?_
    refine sb_icmp_eq 298 hx6 hx12 d_Pg_result_291 (by decide) (fun _ => ?_) (fun _ => ?_)
    · refine sb_iconst d_Pg_result_298 ?_
      exact sn_i rfl (by decide) d_Pg_result_299
    · refine sb_iconst d_Pg_result_294 ?_
      refine sb_goto 299 d_Pg_result_295 (by decide) ?_
      exact sn_i rfl (by decide) d_Pg_result_299
  refine sb_tc (off := 256) 11 300 c18 d_Pg_result_44 (by decide) (by decide) (fun _ => ?_) (fun n21 => ?_)
  · refine sb_iload_n 2 d_Pg_result_300 rfl ?_
    refine sb_iload_n 1 d_Pg_result_301 rfl ?_
    refine sb_icmp_ge 309 hx6 hx12 d_Pg_result_302 (by decide) (fun _ => ?_) (fun _ => ?_)
    · refine sb_iconst d_Pg_result_309 ?_
      exact sn_i rfl (by decide) d_Pg_result_310
    · refine sb_iconst d_Pg_result_305 ?_
      refine sb_goto 310 d_Pg_result_306 (by decide) ?_
      exact sn_i rfl (by decide) d_Pg_result_310
  refine sb_tc (off := 267) 12 311 c18 d_Pg_result_44 (by decide) (by decide) (fun _ => ?_) (fun n22 => ?_)
  · refine sb_iload_n 2 d_Pg_result_311 rfl ?_
    refine sb_iload_n 1 d_Pg_result_312 rfl ?_
    refine sb_icmp_gt 320 hx6 hx12 d_Pg_result_313 (by decide) (fun _ => ?_) (fun _ => ?_)
    · refine sb_iconst d_Pg_result_320 ?_
      exact sn_i rfl (by decide) d_Pg_result_321
    · refine sb_iconst d_Pg_result_316 ?_
      refine sb_goto 321 d_Pg_result_317 (by decide) ?_
      exact sn_i rfl (by decide) d_Pg_result_321
  refine sb_tc (off := 278) 13 322 c18 d_Pg_result_44 (by decide) (by decide) (fun _ => ?_) (fun n23 => ?_)
  · refine sb_iload_n 2 d_Pg_result_322 rfl ?_
    refine sb_iload_n 1 d_Pg_result_323 rfl ?_
    refine sb_icmp_le 331 hx6 hx12 d_Pg_result_324 (by decide) (fun _ => ?_) (fun _ => ?_)
    · refine sb_iconst d_Pg_result_331 ?_
      exact sn_i rfl (by decide) d_Pg_result_332
    · refine sb_iconst d_Pg_result_327 ?_
      refine sb_goto 332 d_Pg_result_328 (by decide) ?_
      exact sn_i rfl (by decide) d_Pg_result_332
  refine sb_tc (off := 289) 14 333 c18 d_Pg_result_44 (by decide) (by decide) (fun _ => ?_) (fun n24 => ?_)
  · refine sb_iload_n 2 d_Pg_result_333 rfl ?_
    refine sb_iload_n 1 d_Pg_result_334 rfl ?_
    refine sb_icmp_lt 342 hx6 hx12 d_Pg_result_335 (by decide) (fun _ => ?_) (fun _ => ?_)
    · refine sb_iconst d_Pg_result_342 ?_
      exact sn_i rfl (by decide) d_Pg_result_343
    · refine sb_iconst d_Pg_result_338 ?_
      refine sb_goto 343 d_Pg_result_339 (by decide) ?_
      exact sn_i rfl (by decide) d_Pg_result_343
  refine sb_tc (off := 226) 15 270 c18 d_Pg_result_44 (by decide) (by decide) (fun _ => ?_) (fun n25 => ?_)
  · refine sb_iload_n 2 d_Pg_result_270 rfl ?_
    refine sb_iload_n 1 d_Pg_result_271 rfl ?_
    refine sb_iadd d_Pg_result_272 ?_
    refine sb_wr ?_
    exact sn_i rfl (wr_b _) d_Pg_result_273
  refine sb_tc (off := 230) 16 274 c18 d_Pg_result_44 (by decide) (by decide) (fun _ => ?_) (fun n26 => ?_)
  · refine sb_iload_n 2 d_Pg_result_274 rfl ?_
    refine sb_iload_n 1 d_Pg_result_275 rfl ?_
    refine sb_isub d_Pg_result_276 ?_
    refine sb_wr ?_
    exact sn_i rfl (wr_b _) d_Pg_result_277
  refine sb_tc (off := 198) 17 242 c18 d_Pg_result_44 (by decide) (by decide) (fun _ => ?_) (fun n27 => ?_)
  · refine sb_iload_n 2 d_Pg_result_242 rfl ?_
    refine sb_iload_n 1 d_Pg_result_243 rfl ?_
    refine sb_imul d_Pg_result_244 ?_
    refine sb_wr ?_
    exact sn_i rfl (wr_b _) d_Pg_result_245
  refine sb_tc (off := 318) 18 362 c18 d_Pg_result_44 (by decide) (by decide) (fun _ => ?_) (fun n30 => ?_)
  · refine sb_aload_n 3 d_Pg_result_362 rfl ?_
    refine g_Pg_28 d_Pg_result_363 ?_
    refine sb_iload 0 d_Pg_result_366 rfl ?_
    refine al_S_81 d_Pg_result_368 (fun _ c29 => ?_)
    refine sb_if_ne 376 c29 d_Pg_result_369 (by decide) (fun _ => ?_) (fun _ => ?_)
    · refine sb_iload_n 1 d_Pg_result_376 rfl ?_
      exact sn_i rfl hx12 d_Pg_result_377
    · refine sb_iload_n 2 d_Pg_result_372 rfl ?_
      refine sb_goto 377 d_Pg_result_373 (by decide) ?_
      exact sn_i rfl hx6 d_Pg_result_377
  refine sb_tc (off := 312) 19 356 c18 d_Pg_result_44 (by decide) (by decide) (fun _ => ?_) (fun n31 => ?_)
  · refine sb_iconst d_Pg_result_356 ?_
    refine sb_iload_n 2 d_Pg_result_357 rfl ?_
    refine sb_isub d_Pg_result_358 ?_
    refine sb_wr ?_
    refine sb_iload_n 1 d_Pg_result_359 rfl ?_
    refine sb_ior d_Pg_result_360 ?_
    exact sn_i rfl (ior_b _ _) d_Pg_result_361
  refine sb_tc (off := 155) 28 199 c18 d_Pg_result_44 (by decide) (by decide) (fun _ => ?_) (fun n32 => ?_)
  · refine sb_iconst d_Pg_result_199 ?_
    refine sb_iload_n 2 d_Pg_result_200 rfl ?_
    refine sb_isub d_Pg_result_201 ?_
    refine sb_wr ?_
    exact sn_i rfl (wr_b _) d_Pg_result_202
  refine sb_tc (off := 300) 29 344 c18 d_Pg_result_44 (by decide) (by decide) (fun _ => ?_) (fun n33 => ?_)
  · refine sb_iload_n 2 d_Pg_result_344 rfl ?_
    refine sb_iload_n 1 d_Pg_result_345 rfl ?_
    refine sb_iand d_Pg_result_346 ?_
    exact sn_i rfl (iand_b _ _) d_Pg_result_347
  refine sb_tc (off := 304) 30 348 c18 d_Pg_result_44 (by decide) (by decide) (fun _ => ?_) (fun n34 => ?_)
  · refine sb_iload_n 2 d_Pg_result_348 rfl ?_
    refine sb_iload_n 1 d_Pg_result_349 rfl ?_
    refine sb_ior d_Pg_result_350 ?_
    exact sn_i rfl (ior_b _ _) d_Pg_result_351
  refine sb_tc (off := 308) 31 352 c18 d_Pg_result_44 (by decide) (by decide) (fun _ => ?_) (fun n35 => ?_)
  · refine sb_iload_n 2 d_Pg_result_352 rfl ?_
    refine sb_iload_n 1 d_Pg_result_353 rfl ?_
    refine sb_ixor d_Pg_result_354 ?_
    exact sn_i rfl (ixor_b _ _) d_Pg_result_355
  refine sb_tc (off := 159) 35 203 c18 d_Pg_result_44 (by decide) (by decide) (fun _ => ?_) (fun n38 => ?_)
  · refine sb_aload_n 3 d_Pg_result_203 rfl ?_
    refine g_Pg_28 d_Pg_result_204 ?_
    refine sb_iload 0 d_Pg_result_207 rfl ?_
    refine al_S_81 d_Pg_result_209 (fun _ c37 => ?_)
    exact sn_i rfl c37 d_Pg_result_210
  refine sb_tc (off := 167) 36 211 c18 d_Pg_result_44 (by decide) (by decide) (fun _ => ?_) (fun n46 => ?_)
  · refine sb_iload_n 1 d_Pg_result_211 rfl ?_
    refine sb_aload_n 3 d_Pg_result_212 rfl ?_
    refine g_Pg_43 d_Pg_result_213 ?_
    refine sb_aload_n 3 d_Pg_result_216 rfl ?_
    refine g_Pg_49 d_Pg_result_217 ?_
    refine g_Pg_78 d_Pg_result_220 ?_
    refine sb_iload 0 d_Pg_result_223 rfl ?_
    refine al_S_62 d_Pg_result_225 (fun _ c42 => ?_)
    refine al_S_86 d_Pg_result_226 (fun _ c43 => ?_)
    refine sb_icmp_ne 234 hx12 c43 d_Pg_result_227 (by decide) (fun _ => ?_) (fun _ => ?_)
    · refine sb_aload_n 3 d_Pg_result_234 rfl ?_
      refine g_Pg_28 d_Pg_result_235 ?_
      refine sb_iload 0 d_Pg_result_238 rfl ?_
      refine al_S_81 d_Pg_result_240 (fun _ c45 => ?_)
      exact sn_i rfl c45 d_Pg_result_241
    · refine sb_iload_n 2 d_Pg_result_230 rfl ?_
      refine sb_goto 241 d_Pg_result_231 (by decide) ?_
      exact sn_i rfl hx6 d_Pg_result_241
  refine sb_tc (off := 334) 37 378 c18 d_Pg_result_44 (by decide) (by decide) (fun _ => ?_) (fun n52 => ?_)
  · refine sb_aload_n 3 d_Pg_result_378 rfl ?_
    refine g_Pg_28 d_Pg_result_379 ?_
    refine sb_iload 0 d_Pg_result_382 rfl ?_
    refine al_S_81 d_Pg_result_384 (fun _ c48 => ?_)
    refine sb_if_ne 392 c48 d_Pg_result_385 (by decide) (fun _ => ?_) (fun _ => ?_)
    · refine sb_aload_n 3 d_Pg_result_392 rfl ?_
      refine g_Pg_28 d_Pg_result_393 ?_
      refine sb_iload 0 d_Pg_result_396 rfl ?_
      refine sb_iconst d_Pg_result_398 ?_
      refine sb_iadd d_Pg_result_399 ?_
      refine sb_chk (fun c50 => ?_)
      refine al_S_81 d_Pg_result_400 (fun _ c51 => ?_)
      exact sn_i rfl c51 d_Pg_result_401
    · refine sb_iload_n 2 d_Pg_result_388 rfl ?_
      refine sb_goto 401 d_Pg_result_389 (by decide) ?_
      exact sn_i rfl hx6 d_Pg_result_401
  refine sb_tc (off := 202) 38 246 c18 d_Pg_result_44 (by decide) (by decide) (fun _ => ?_) (fun n53 => ?_)
  · refine sb_iload_n 1 d_Pg_result_246 rfl ?_
    refine sb_if_ne 254 hx12 d_Pg_result_247 (by decide) (fun _ => ?_) (fun _ => ?_)
    · refine sb_iload_n 2 d_Pg_result_254 rfl ?_
      refine sb_iload_n 1 d_Pg_result_255 rfl ?_
      refine sb_idiv hx12 d_Pg_result_256 (fun _ => ?_)
      exact sn_i rfl (idiv_b _ _) d_Pg_result_257
    · refine sb_iconst d_Pg_result_250 ?_
      refine sb_goto 257 d_Pg_result_251 (by decide) ?_
      exact sn_i rfl (by decide) d_Pg_result_257
  refine sb_tc (off := 214) 39 258 c18 d_Pg_result_44 (by decide) (by decide) (fun _ => ?_) (fun n54 => ?_)
  · refine sb_iload_n 1 d_Pg_result_258 rfl ?_
    refine sb_if_ne 266 hx12 d_Pg_result_259 (by decide) (fun _ => ?_) (fun _ => ?_)
    · refine sb_iload_n 2 d_Pg_result_266 rfl ?_
      refine sb_iload_n 1 d_Pg_result_267 rfl ?_
      refine sb_irem hx12 d_Pg_result_268 (fun _ => ?_)
      exact sn_i rfl (irem_b _ _) d_Pg_result_269
    · refine sb_iconst d_Pg_result_262 ?_
      refine sb_goto 269 d_Pg_result_263 (by decide) ?_
      exact sn_i rfl (by decide) d_Pg_result_269
  refine sb_tc (off := 152) 42 196 c18 d_Pg_result_44 (by decide) (by decide) (fun _ => ?_) (fun n55 => ?_)
  · refine sb_iload_n 2 d_Pg_result_196 rfl ?_
    refine sb_ineg d_Pg_result_197 ?_
    refine sb_wr ?_
    exact sn_i rfl (wr_b _) d_Pg_result_198
  refine sb_tg (off := 358) 20 402 c18 d_Pg_result_44 (by decide) (by decide) (fun _ => ?_) (fun n61 => ?_)
  · refine sb_iload_n 2 d_Pg_result_402 rfl ?_
    refine sb_iconst d_Pg_result_403 ?_
    refine sb_icmp_ne 411 hx6 (by decide) d_Pg_result_404 (by decide) (fun _ => ?_) (fun _ => ?_)
    · refine sb_aload_n 3 d_Pg_result_411 rfl ?_
      refine g_Pg_22 d_Pg_result_412 ?_
      refine sb_aload_n 3 d_Pg_result_415 rfl ?_
      refine g_Pg_25 d_Pg_result_416 ?_
      refine sb_iload_n 4 d_Pg_result_419 rfl ?_
      refine sb_iconst d_Pg_result_420 ?_
      refine sb_iadd d_Pg_result_421 ?_
      refine sb_chk (fun c58 => ?_)
      refine al_S_80 d_Pg_result_422 (fun _ c59 => ?_)
      refine al_S_79 d_Pg_result_423 (fun _ c60 => ?_)
      exact sn_i rfl c60 d_Pg_result_424
    · refine sb_iload_n 1 d_Pg_result_407 rfl ?_
      refine sb_goto 424 d_Pg_result_408 (by decide) ?_
      exact sn_i rfl hx12 d_Pg_result_424
  refine sb_tg (off := 358) 21 402 c18 d_Pg_result_44 (by decide) (by decide) (fun _ => ?_) (fun n62 => ?_)
  · refine sb_iload_n 2 d_Pg_result_402 rfl ?_
    refine sb_iconst d_Pg_result_403 ?_
    refine sb_icmp_ne 411 hx6 (by decide) d_Pg_result_404 (by decide) (fun _ => ?_) (fun _ => ?_)
    · refine sb_aload_n 3 d_Pg_result_411 rfl ?_
      refine g_Pg_22 d_Pg_result_412 ?_
      refine sb_aload_n 3 d_Pg_result_415 rfl ?_
      refine g_Pg_25 d_Pg_result_416 ?_
      refine sb_iload_n 4 d_Pg_result_419 rfl ?_
      refine sb_iconst d_Pg_result_420 ?_
      refine sb_iadd d_Pg_result_421 ?_
      refine sb_chk (fun c58 => ?_)
      refine al_S_80 d_Pg_result_422 (fun _ c59 => ?_)
      refine al_S_79 d_Pg_result_423 (fun _ c60 => ?_)
      exact sn_i rfl c60 d_Pg_result_424
    · refine sb_iload_n 1 d_Pg_result_407 rfl ?_
      refine sb_goto 424 d_Pg_result_408 (by decide) ?_
      exact sn_i rfl hx12 d_Pg_result_424
  refine sb_tg (off := 358) 22 402 c18 d_Pg_result_44 (by decide) (by decide) (fun _ => ?_) (fun n63 => ?_)
  · refine sb_iload_n 2 d_Pg_result_402 rfl ?_
    refine sb_iconst d_Pg_result_403 ?_
    refine sb_icmp_ne 411 hx6 (by decide) d_Pg_result_404 (by decide) (fun _ => ?_) (fun _ => ?_)
    · refine sb_aload_n 3 d_Pg_result_411 rfl ?_
      refine g_Pg_22 d_Pg_result_412 ?_
      refine sb_aload_n 3 d_Pg_result_415 rfl ?_
      refine g_Pg_25 d_Pg_result_416 ?_
      refine sb_iload_n 4 d_Pg_result_419 rfl ?_
      refine sb_iconst d_Pg_result_420 ?_
      refine sb_iadd d_Pg_result_421 ?_
      refine sb_chk (fun c58 => ?_)
      refine al_S_80 d_Pg_result_422 (fun _ c59 => ?_)
      refine al_S_79 d_Pg_result_423 (fun _ c60 => ?_)
      exact sn_i rfl c60 d_Pg_result_424
    · refine sb_iload_n 1 d_Pg_result_407 rfl ?_
      refine sb_goto 424 d_Pg_result_408 (by decide) ?_
      exact sn_i rfl hx12 d_Pg_result_424
  refine sb_tg (off := 358) 23 402 c18 d_Pg_result_44 (by decide) (by decide) (fun _ => ?_) (fun n64 => ?_)
  · refine sb_iload_n 2 d_Pg_result_402 rfl ?_
    refine sb_iconst d_Pg_result_403 ?_
    refine sb_icmp_ne 411 hx6 (by decide) d_Pg_result_404 (by decide) (fun _ => ?_) (fun _ => ?_)
    · refine sb_aload_n 3 d_Pg_result_411 rfl ?_
      refine g_Pg_22 d_Pg_result_412 ?_
      refine sb_aload_n 3 d_Pg_result_415 rfl ?_
      refine g_Pg_25 d_Pg_result_416 ?_
      refine sb_iload_n 4 d_Pg_result_419 rfl ?_
      refine sb_iconst d_Pg_result_420 ?_
      refine sb_iadd d_Pg_result_421 ?_
      refine sb_chk (fun c58 => ?_)
      refine al_S_80 d_Pg_result_422 (fun _ c59 => ?_)
      refine al_S_79 d_Pg_result_423 (fun _ c60 => ?_)
      exact sn_i rfl c60 d_Pg_result_424
    · refine sb_iload_n 1 d_Pg_result_407 rfl ?_
      refine sb_goto 424 d_Pg_result_408 (by decide) ?_
      exact sn_i rfl hx12 d_Pg_result_424
  refine sb_tg (off := 358) 24 402 c18 d_Pg_result_44 (by decide) (by decide) (fun _ => ?_) (fun n65 => ?_)
  · refine sb_iload_n 2 d_Pg_result_402 rfl ?_
    refine sb_iconst d_Pg_result_403 ?_
    refine sb_icmp_ne 411 hx6 (by decide) d_Pg_result_404 (by decide) (fun _ => ?_) (fun _ => ?_)
    · refine sb_aload_n 3 d_Pg_result_411 rfl ?_
      refine g_Pg_22 d_Pg_result_412 ?_
      refine sb_aload_n 3 d_Pg_result_415 rfl ?_
      refine g_Pg_25 d_Pg_result_416 ?_
      refine sb_iload_n 4 d_Pg_result_419 rfl ?_
      refine sb_iconst d_Pg_result_420 ?_
      refine sb_iadd d_Pg_result_421 ?_
      refine sb_chk (fun c58 => ?_)
      refine al_S_80 d_Pg_result_422 (fun _ c59 => ?_)
      refine al_S_79 d_Pg_result_423 (fun _ c60 => ?_)
      exact sn_i rfl c60 d_Pg_result_424
    · refine sb_iload_n 1 d_Pg_result_407 rfl ?_
      refine sb_goto 424 d_Pg_result_408 (by decide) ?_
      exact sn_i rfl hx12 d_Pg_result_424
  refine sb_tg (off := 358) 25 402 c18 d_Pg_result_44 (by decide) (by decide) (fun _ => ?_) (fun n66 => ?_)
  · refine sb_iload_n 2 d_Pg_result_402 rfl ?_
    refine sb_iconst d_Pg_result_403 ?_
    refine sb_icmp_ne 411 hx6 (by decide) d_Pg_result_404 (by decide) (fun _ => ?_) (fun _ => ?_)
    · refine sb_aload_n 3 d_Pg_result_411 rfl ?_
      refine g_Pg_22 d_Pg_result_412 ?_
      refine sb_aload_n 3 d_Pg_result_415 rfl ?_
      refine g_Pg_25 d_Pg_result_416 ?_
      refine sb_iload_n 4 d_Pg_result_419 rfl ?_
      refine sb_iconst d_Pg_result_420 ?_
      refine sb_iadd d_Pg_result_421 ?_
      refine sb_chk (fun c58 => ?_)
      refine al_S_80 d_Pg_result_422 (fun _ c59 => ?_)
      refine al_S_79 d_Pg_result_423 (fun _ c60 => ?_)
      exact sn_i rfl c60 d_Pg_result_424
    · refine sb_iload_n 1 d_Pg_result_407 rfl ?_
      refine sb_goto 424 d_Pg_result_408 (by decide) ?_
      exact sn_i rfl hx12 d_Pg_result_424
  refine sb_tg (off := 358) 26 402 c18 d_Pg_result_44 (by decide) (by decide) (fun _ => ?_) (fun n67 => ?_)
  · refine sb_iload_n 2 d_Pg_result_402 rfl ?_
    refine sb_iconst d_Pg_result_403 ?_
    refine sb_icmp_ne 411 hx6 (by decide) d_Pg_result_404 (by decide) (fun _ => ?_) (fun _ => ?_)
    · refine sb_aload_n 3 d_Pg_result_411 rfl ?_
      refine g_Pg_22 d_Pg_result_412 ?_
      refine sb_aload_n 3 d_Pg_result_415 rfl ?_
      refine g_Pg_25 d_Pg_result_416 ?_
      refine sb_iload_n 4 d_Pg_result_419 rfl ?_
      refine sb_iconst d_Pg_result_420 ?_
      refine sb_iadd d_Pg_result_421 ?_
      refine sb_chk (fun c58 => ?_)
      refine al_S_80 d_Pg_result_422 (fun _ c59 => ?_)
      refine al_S_79 d_Pg_result_423 (fun _ c60 => ?_)
      exact sn_i rfl c60 d_Pg_result_424
    · refine sb_iload_n 1 d_Pg_result_407 rfl ?_
      refine sb_goto 424 d_Pg_result_408 (by decide) ?_
      exact sn_i rfl hx12 d_Pg_result_424
  refine sb_tg (off := 358) 27 402 c18 d_Pg_result_44 (by decide) (by decide) (fun _ => ?_) (fun n68 => ?_)
  · refine sb_iload_n 2 d_Pg_result_402 rfl ?_
    refine sb_iconst d_Pg_result_403 ?_
    refine sb_icmp_ne 411 hx6 (by decide) d_Pg_result_404 (by decide) (fun _ => ?_) (fun _ => ?_)
    · refine sb_aload_n 3 d_Pg_result_411 rfl ?_
      refine g_Pg_22 d_Pg_result_412 ?_
      refine sb_aload_n 3 d_Pg_result_415 rfl ?_
      refine g_Pg_25 d_Pg_result_416 ?_
      refine sb_iload_n 4 d_Pg_result_419 rfl ?_
      refine sb_iconst d_Pg_result_420 ?_
      refine sb_iadd d_Pg_result_421 ?_
      refine sb_chk (fun c58 => ?_)
      refine al_S_80 d_Pg_result_422 (fun _ c59 => ?_)
      refine al_S_79 d_Pg_result_423 (fun _ c60 => ?_)
      exact sn_i rfl c60 d_Pg_result_424
    · refine sb_iload_n 1 d_Pg_result_407 rfl ?_
      refine sb_goto 424 d_Pg_result_408 (by decide) ?_
      exact sn_i rfl hx12 d_Pg_result_424
  refine sb_tg (off := 358) 32 402 c18 d_Pg_result_44 (by decide) (by decide) (fun _ => ?_) (fun n69 => ?_)
  · refine sb_iload_n 2 d_Pg_result_402 rfl ?_
    refine sb_iconst d_Pg_result_403 ?_
    refine sb_icmp_ne 411 hx6 (by decide) d_Pg_result_404 (by decide) (fun _ => ?_) (fun _ => ?_)
    · refine sb_aload_n 3 d_Pg_result_411 rfl ?_
      refine g_Pg_22 d_Pg_result_412 ?_
      refine sb_aload_n 3 d_Pg_result_415 rfl ?_
      refine g_Pg_25 d_Pg_result_416 ?_
      refine sb_iload_n 4 d_Pg_result_419 rfl ?_
      refine sb_iconst d_Pg_result_420 ?_
      refine sb_iadd d_Pg_result_421 ?_
      refine sb_chk (fun c58 => ?_)
      refine al_S_80 d_Pg_result_422 (fun _ c59 => ?_)
      refine al_S_79 d_Pg_result_423 (fun _ c60 => ?_)
      exact sn_i rfl c60 d_Pg_result_424
    · refine sb_iload_n 1 d_Pg_result_407 rfl ?_
      refine sb_goto 424 d_Pg_result_408 (by decide) ?_
      exact sn_i rfl hx12 d_Pg_result_424
  refine sb_tg (off := 358) 33 402 c18 d_Pg_result_44 (by decide) (by decide) (fun _ => ?_) (fun n70 => ?_)
  · refine sb_iload_n 2 d_Pg_result_402 rfl ?_
    refine sb_iconst d_Pg_result_403 ?_
    refine sb_icmp_ne 411 hx6 (by decide) d_Pg_result_404 (by decide) (fun _ => ?_) (fun _ => ?_)
    · refine sb_aload_n 3 d_Pg_result_411 rfl ?_
      refine g_Pg_22 d_Pg_result_412 ?_
      refine sb_aload_n 3 d_Pg_result_415 rfl ?_
      refine g_Pg_25 d_Pg_result_416 ?_
      refine sb_iload_n 4 d_Pg_result_419 rfl ?_
      refine sb_iconst d_Pg_result_420 ?_
      refine sb_iadd d_Pg_result_421 ?_
      refine sb_chk (fun c58 => ?_)
      refine al_S_80 d_Pg_result_422 (fun _ c59 => ?_)
      refine al_S_79 d_Pg_result_423 (fun _ c60 => ?_)
      exact sn_i rfl c60 d_Pg_result_424
    · refine sb_iload_n 1 d_Pg_result_407 rfl ?_
      refine sb_goto 424 d_Pg_result_408 (by decide) ?_
      exact sn_i rfl hx12 d_Pg_result_424
  refine sb_tg (off := 358) 34 402 c18 d_Pg_result_44 (by decide) (by decide) (fun _ => ?_) (fun n71 => ?_)
  · refine sb_iload_n 2 d_Pg_result_402 rfl ?_
    refine sb_iconst d_Pg_result_403 ?_
    refine sb_icmp_ne 411 hx6 (by decide) d_Pg_result_404 (by decide) (fun _ => ?_) (fun _ => ?_)
    · refine sb_aload_n 3 d_Pg_result_411 rfl ?_
      refine g_Pg_22 d_Pg_result_412 ?_
      refine sb_aload_n 3 d_Pg_result_415 rfl ?_
      refine g_Pg_25 d_Pg_result_416 ?_
      refine sb_iload_n 4 d_Pg_result_419 rfl ?_
      refine sb_iconst d_Pg_result_420 ?_
      refine sb_iadd d_Pg_result_421 ?_
      refine sb_chk (fun c58 => ?_)
      refine al_S_80 d_Pg_result_422 (fun _ c59 => ?_)
      refine al_S_79 d_Pg_result_423 (fun _ c60 => ?_)
      exact sn_i rfl c60 d_Pg_result_424
    · refine sb_iload_n 1 d_Pg_result_407 rfl ?_
      refine sb_goto 424 d_Pg_result_408 (by decide) ?_
      exact sn_i rfl hx12 d_Pg_result_424
  refine sb_tg (off := 358) 40 402 c18 d_Pg_result_44 (by decide) (by decide) (fun _ => ?_) (fun n72 => ?_)
  · refine sb_iload_n 2 d_Pg_result_402 rfl ?_
    refine sb_iconst d_Pg_result_403 ?_
    refine sb_icmp_ne 411 hx6 (by decide) d_Pg_result_404 (by decide) (fun _ => ?_) (fun _ => ?_)
    · refine sb_aload_n 3 d_Pg_result_411 rfl ?_
      refine g_Pg_22 d_Pg_result_412 ?_
      refine sb_aload_n 3 d_Pg_result_415 rfl ?_
      refine g_Pg_25 d_Pg_result_416 ?_
      refine sb_iload_n 4 d_Pg_result_419 rfl ?_
      refine sb_iconst d_Pg_result_420 ?_
      refine sb_iadd d_Pg_result_421 ?_
      refine sb_chk (fun c58 => ?_)
      refine al_S_80 d_Pg_result_422 (fun _ c59 => ?_)
      refine al_S_79 d_Pg_result_423 (fun _ c60 => ?_)
      exact sn_i rfl c60 d_Pg_result_424
    · refine sb_iload_n 1 d_Pg_result_407 rfl ?_
      refine sb_goto 424 d_Pg_result_408 (by decide) ?_
      exact sn_i rfl hx12 d_Pg_result_424
  refine sb_tg (off := 358) 41 402 c18 d_Pg_result_44 (by decide) (by decide) (fun _ => ?_) (fun n73 => ?_)
  · refine sb_iload_n 2 d_Pg_result_402 rfl ?_
    refine sb_iconst d_Pg_result_403 ?_
    refine sb_icmp_ne 411 hx6 (by decide) d_Pg_result_404 (by decide) (fun _ => ?_) (fun _ => ?_)
    · refine sb_aload_n 3 d_Pg_result_411 rfl ?_
      refine g_Pg_22 d_Pg_result_412 ?_
      refine sb_aload_n 3 d_Pg_result_415 rfl ?_
      refine g_Pg_25 d_Pg_result_416 ?_
      refine sb_iload_n 4 d_Pg_result_419 rfl ?_
      refine sb_iconst d_Pg_result_420 ?_
      refine sb_iadd d_Pg_result_421 ?_
      refine sb_chk (fun c58 => ?_)
      refine al_S_80 d_Pg_result_422 (fun _ c59 => ?_)
      refine al_S_79 d_Pg_result_423 (fun _ c60 => ?_)
      exact sn_i rfl c60 d_Pg_result_424
    · refine sb_iload_n 1 d_Pg_result_407 rfl ?_
      refine sb_goto 424 d_Pg_result_408 (by decide) ?_
      exact sn_i rfl hx12 d_Pg_result_424
  refine sb_td 402 c18 d_Pg_result_44 (by omega) (by decide) ?_
  refine sb_iload_n 2 d_Pg_result_402 rfl ?_
  refine sb_iconst d_Pg_result_403 ?_
  refine sb_icmp_ne 411 hx6 (by decide) d_Pg_result_404 (by decide) (fun _ => ?_) (fun _ => ?_)
  · refine sb_aload_n 3 d_Pg_result_411 rfl ?_
    refine g_Pg_22 d_Pg_result_412 ?_
    refine sb_aload_n 3 d_Pg_result_415 rfl ?_
    refine g_Pg_25 d_Pg_result_416 ?_
    refine sb_iload_n 4 d_Pg_result_419 rfl ?_
    refine sb_iconst d_Pg_result_420 ?_
    refine sb_iadd d_Pg_result_421 ?_
    refine sb_chk (fun c58 => ?_)
    refine al_S_80 d_Pg_result_422 (fun _ c59 => ?_)
    refine al_S_79 d_Pg_result_423 (fun _ c60 => ?_)
    exact sn_i rfl c60 d_Pg_result_424
  · refine sb_iload_n 1 d_Pg_result_407 rfl ?_
    refine sb_goto 424 d_Pg_result_408 (by decide) ?_
    exact sn_i rfl hx12 d_Pg_result_424
theorem d_Pg_turnClocks_0 : decode b_Pg_turnClocks 0 = .ok (.iconst 1, 1) := by decide +kernel
theorem d_Pg_turnClocks_1 : decode b_Pg_turnClocks 1 = .ok (.istore_n 1, 1) := by decide +kernel
theorem d_Pg_turnClocks_2 : decode b_Pg_turnClocks 2 = .ok (.iload_n 1, 1) := by decide +kernel
theorem d_Pg_turnClocks_3 : decode b_Pg_turnClocks 3 = .ok (.aload_n 0, 1) := by decide +kernel
theorem d_Pg_turnClocks_4 : decode b_Pg_turnClocks 4 = .ok (.getfield 130, 3) := by decide +kernel
theorem d_Pg_turnClocks_7 : decode b_Pg_turnClocks 7 = .ok (.if_icmp .ge 50, 3) := by decide +kernel
theorem d_Pg_turnClocks_10 : decode b_Pg_turnClocks 10 = .ok (.aload_n 0, 1) := by decide +kernel
theorem d_Pg_turnClocks_11 : decode b_Pg_turnClocks 11 = .ok (.getfield 46, 3) := by decide +kernel
theorem d_Pg_turnClocks_14 : decode b_Pg_turnClocks 14 = .ok (.iload_n 1, 1) := by decide +kernel
theorem d_Pg_turnClocks_15 : decode b_Pg_turnClocks 15 = .ok (.aload_n 0, 1) := by decide +kernel
theorem d_Pg_turnClocks_16 : decode b_Pg_turnClocks 16 = .ok (.getfield 22, 3) := by decide +kernel
theorem d_Pg_turnClocks_19 : decode b_Pg_turnClocks 19 = .ok (.aload_n 0, 1) := by decide +kernel
theorem d_Pg_turnClocks_20 : decode b_Pg_turnClocks 20 = .ok (.getfield 40, 3) := by decide +kernel
theorem d_Pg_turnClocks_23 : decode b_Pg_turnClocks 23 = .ok (.iload_n 1, 1) := by decide +kernel
theorem d_Pg_turnClocks_24 : decode b_Pg_turnClocks 24 = .ok (.iaload, 1) := by decide +kernel
theorem d_Pg_turnClocks_25 : decode b_Pg_turnClocks 25 = .ok (.iaload, 1) := by decide +kernel
theorem d_Pg_turnClocks_26 : decode b_Pg_turnClocks 26 = .ok (.aload_n 0, 1) := by decide +kernel
theorem d_Pg_turnClocks_27 : decode b_Pg_turnClocks 27 = .ok (.getfield 43, 3) := by decide +kernel
theorem d_Pg_turnClocks_30 : decode b_Pg_turnClocks 30 = .ok (.iload_n 1, 1) := by decide +kernel
theorem d_Pg_turnClocks_31 : decode b_Pg_turnClocks 31 = .ok (.iaload, 1) := by decide +kernel
theorem d_Pg_turnClocks_32 : decode b_Pg_turnClocks 32 = .ok (.if_icmp .ne 17, 3) := by decide +kernel
theorem d_Pg_turnClocks_35 : decode b_Pg_turnClocks 35 = .ok (.aload_n 0, 1) := by decide +kernel
theorem d_Pg_turnClocks_36 : decode b_Pg_turnClocks 36 = .ok (.getfield 46, 3) := by decide +kernel
theorem d_Pg_turnClocks_39 : decode b_Pg_turnClocks 39 = .ok (.aload_n 0, 1) := by decide +kernel
theorem d_Pg_turnClocks_40 : decode b_Pg_turnClocks 40 = .ok (.getfield 37, 3) := by decide +kernel
theorem d_Pg_turnClocks_43 : decode b_Pg_turnClocks 43 = .ok (.iload_n 1, 1) := by decide +kernel
theorem d_Pg_turnClocks_44 : decode b_Pg_turnClocks 44 = .ok (.iaload, 1) := by decide +kernel
theorem d_Pg_turnClocks_45 : decode b_Pg_turnClocks 45 = .ok (.iaload, 1) := by decide +kernel
theorem d_Pg_turnClocks_46 : decode b_Pg_turnClocks 46 = .ok (.goto 4, 3) := by decide +kernel
theorem d_Pg_turnClocks_49 : decode b_Pg_turnClocks 49 = .ok (.iconst 0, 1) := by decide +kernel
theorem d_Pg_turnClocks_50 : decode b_Pg_turnClocks 50 = .ok (.iastore, 1) := by decide +kernel
theorem d_Pg_turnClocks_51 : decode b_Pg_turnClocks 51 = .ok (.iinc 1 1, 3) := by decide +kernel
theorem d_Pg_turnClocks_54 : decode b_Pg_turnClocks 54 = .ok (.goto (-52), 3) := by decide +kernel
theorem d_Pg_turnClocks_57 : decode b_Pg_turnClocks 57 = .ok (.return_, 1) := by decide +kernel
abbrev mt_Pg_turnClocks : MT := (R_Pg, b_Pg_turnClocks, 2, none)
theorem vf_Pg_turnClocks : VF y_Pg_turnClocks mt_Pg_turnClocks 8 0 := ⟨im_Pg_turnClocks, se_Pg_turnClocks, in_Pg, co_Pg_turnClocks, by decide +kernel, _, _, rfl⟩
def f_Pg_turnClocks_b50 (k2 : St → Int → Option (Int × St)) (γ : St) (x1 : Int) (x2 : Int) (x3 : Int) : Option (Int × St) :=
  chk (inb x3 12001) (ap (setA γ 87 x3 x2) fun γ4 =>
  chk (i32 (x1 + 1)) (k2 γ4 (x1 + 1)))
def f_Pg_turnClocks_L2 : Nat → St → Int → Option (Int × St)
  | 0, _, _ => none
  | n + 1, γ, x7 =>
  if (γ 11 17) ≤ x7 then
  (some (0, γ))
  else
  (chk (inb x7 12001) (chk (inb (γ 85 x7) 9001) (chk (inb x7 12001) (if (γ 79 (γ 85 x7)) ≠ (γ 86 x7) then
  (f_Pg_turnClocks_b50 (f_Pg_turnClocks_L2 n) γ x7 0 x7)
  else
  (chk (inb x7 12001) (chk (inb (γ 84 x7) 12001) (f_Pg_turnClocks_b50 (f_Pg_turnClocks_L2 n) γ x7 (γ 87 (γ 84 x7)) x7)))))))
def f_Pg_turnClocks (γ : St) : Option (Int × St) :=
  f_Pg_turnClocks_L2  FU γ 1
set_option maxHeartbeats 4000000 in
theorem s_Pg_turnClocks_b50 {Γ : Ctx} {k2 : St → Int → Option (Int × St)} (hk2 : ∀ (γ : St) (x6 : Int), i32 x6 → SB Γ BS mt_Pg_turnClocks (RmN 6 240) 0 0 (KN Γ BS mt_Pg_turnClocks.2.2.2) 2 [(0, vR Γ 11), (1, vI x6)] [] γ (k2 γ x6)) : ∀ (γ : St) (x1 : Int) (x2 : Int) (x3 : Int), i32 x1 → i32 x2 → i32 x3 → SB Γ BS mt_Pg_turnClocks (RmN 6 240) 0 0 (KN Γ BS mt_Pg_turnClocks.2.2.2) 50 [(0, vR Γ 11), (1, vI x1)] [vI x2, vI x3, vR Γ 87] γ (f_Pg_turnClocks_b50 k2 γ x1 x2 x3) := by
  intro γ x1 x2 x3 hx1 hx2 hx3
  unfold f_Pg_turnClocks_b50
  refine as_S_87 hx2 d_Pg_turnClocks_50 (fun _ => ?_)
  refine sb_aps (fun γ4 => ?_)
  refine sb_iinc 1 [(1, vI (x1 + 1)), (0, vR Γ 11)] d_Pg_turnClocks_51 rfl (by decide) rfl ?_
  refine sb_chk (fun c5 => ?_)
  refine sb_goto 2 d_Pg_turnClocks_54 (by decide) ?_
  exact sb_lv [1, 0] rfl (hk2 γ4 (x1 + 1) c5)
set_option maxHeartbeats 4000000 in
theorem s_Pg_turnClocks_L2 {Γ : Ctx} : ∀ (n : Nat) (γ : St) (x7 : Int), i32 x7 → SB Γ BS mt_Pg_turnClocks (RmN 6 240) 0 0 (KN Γ BS mt_Pg_turnClocks.2.2.2) 2 [(0, vR Γ 11), (1, vI x7)] [] γ (f_Pg_turnClocks_L2 n γ x7) := by
  intro n
  induction n with
  | zero => intros; exact sb_none
  | succ n ih =>
    intro γ x7 hx7
    unfold f_Pg_turnClocks_L2
    refine sb_iload_n 1 d_Pg_turnClocks_2 rfl ?_
    refine sb_aload_n 0 d_Pg_turnClocks_3 rfl ?_
    refine g_Pg_130 d_Pg_turnClocks_4 (fun c8 => ?_)
    refine sb_icmp_ge 57 hx7 c8 d_Pg_turnClocks_7 (by decide) (fun _ => ?_) (fun _ => ?_)
    · exact sn_v rfl d_Pg_turnClocks_57
    · refine sb_aload_n 0 d_Pg_turnClocks_10 rfl ?_
      refine g_Pg_46 d_Pg_turnClocks_11 ?_
      refine sb_iload_n 1 d_Pg_turnClocks_14 rfl ?_
      refine sb_aload_n 0 d_Pg_turnClocks_15 rfl ?_
      refine g_Pg_22 d_Pg_turnClocks_16 ?_
      refine sb_aload_n 0 d_Pg_turnClocks_19 rfl ?_
      refine g_Pg_40 d_Pg_turnClocks_20 ?_
      refine sb_iload_n 1 d_Pg_turnClocks_23 rfl ?_
      refine al_S_85 d_Pg_turnClocks_24 (fun _ c12 => ?_)
      refine al_S_79 d_Pg_turnClocks_25 (fun _ c13 => ?_)
      refine sb_aload_n 0 d_Pg_turnClocks_26 rfl ?_
      refine g_Pg_43 d_Pg_turnClocks_27 ?_
      refine sb_iload_n 1 d_Pg_turnClocks_30 rfl ?_
      refine al_S_86 d_Pg_turnClocks_31 (fun _ c15 => ?_)
      refine sb_icmp_ne 49 c13 c15 d_Pg_turnClocks_32 (by decide) (fun _ => ?_) (fun _ => ?_)
      · refine sb_iconst d_Pg_turnClocks_49 ?_
        exact sb_lv [0, 1] rfl (s_Pg_turnClocks_b50 ih γ x7 0 x7 hx7 (by decide) hx7)
      · refine sb_aload_n 0 d_Pg_turnClocks_35 rfl ?_
        refine g_Pg_46 d_Pg_turnClocks_36 ?_
        refine sb_aload_n 0 d_Pg_turnClocks_39 rfl ?_
        refine g_Pg_37 d_Pg_turnClocks_40 ?_
        refine sb_iload_n 1 d_Pg_turnClocks_43 rfl ?_
        refine al_S_84 d_Pg_turnClocks_44 (fun _ c18 => ?_)
        refine al_S_87 d_Pg_turnClocks_45 (fun _ c19 => ?_)
        refine sb_goto 50 d_Pg_turnClocks_46 (by decide) ?_
        exact sb_lv [0, 1] rfl (s_Pg_turnClocks_b50 ih γ x7 (γ 87 (γ 84 x7)) x7 hx7 c19 hx7)
set_option maxHeartbeats 4000000 in
theorem c_Pg_turnClocks {Γ : Ctx} (γ : St) : NC Γ BS y_Pg_turnClocks mt_Pg_turnClocks 6 240 [vR Γ 11] γ (f_Pg_turnClocks γ) := by
  refine nc_of (by decide) rfl (Nat.le_of_ble_eq_true rfl) ?_
  show SB Γ BS mt_Pg_turnClocks (RmN 6 240) 0 0 (KN Γ BS mt_Pg_turnClocks.2.2.2) 0 [(0, vR Γ 11)] [] γ _
  unfold f_Pg_turnClocks
  refine sb_iconst d_Pg_turnClocks_0 ?_
  refine sb_istore_n [(1, vI 1), (0, vR Γ 11)] d_Pg_turnClocks_1 (by decide) rfl ?_
  exact sb_lv [1, 0] rfl (s_Pg_turnClocks_L2  FU γ 1 (by decide))
theorem d_Pg_fillCells_0 : decode b_Pg_fillCells 0 = .ok (.iconst 0, 1) := by decide +kernel
theorem d_Pg_fillCells_1 : decode b_Pg_fillCells 1 = .ok (.istore_n 1, 1) := by decide +kernel
theorem d_Pg_fillCells_2 : decode b_Pg_fillCells 2 = .ok (.iload_n 1, 1) := by decide +kernel
theorem d_Pg_fillCells_3 : decode b_Pg_fillCells 3 = .ok (.aload_n 0, 1) := by decide +kernel
theorem d_Pg_fillCells_4 : decode b_Pg_fillCells 4 = .ok (.getfield 49, 3) := by decide +kernel
theorem d_Pg_fillCells_7 : decode b_Pg_fillCells 7 = .ok (.getfield 70, 3) := by decide +kernel
theorem d_Pg_fillCells_10 : decode b_Pg_fillCells 10 = .ok (.if_icmp .ge 47, 3) := by decide +kernel
theorem d_Pg_fillCells_13 : decode b_Pg_fillCells 13 = .ok (.aload_n 0, 1) := by decide +kernel
theorem d_Pg_fillCells_14 : decode b_Pg_fillCells 14 = .ok (.getfield 46, 3) := by decide +kernel
theorem d_Pg_fillCells_17 : decode b_Pg_fillCells 17 = .ok (.aload_n 0, 1) := by decide +kernel
theorem d_Pg_fillCells_18 : decode b_Pg_fillCells 18 = .ok (.getfield 49, 3) := by decide +kernel
theorem d_Pg_fillCells_21 : decode b_Pg_fillCells 21 = .ok (.getfield 78, 3) := by decide +kernel
theorem d_Pg_fillCells_24 : decode b_Pg_fillCells 24 = .ok (.iload_n 1, 1) := by decide +kernel
theorem d_Pg_fillCells_25 : decode b_Pg_fillCells 25 = .ok (.iaload, 1) := by decide +kernel
theorem d_Pg_fillCells_26 : decode b_Pg_fillCells 26 = .ok (.iaload, 1) := by decide +kernel
theorem d_Pg_fillCells_27 : decode b_Pg_fillCells 27 = .ok (.iconst 1, 1) := by decide +kernel
theorem d_Pg_fillCells_28 : decode b_Pg_fillCells 28 = .ok (.if_icmp .ne 23, 3) := by decide +kernel
theorem d_Pg_fillCells_31 : decode b_Pg_fillCells 31 = .ok (.aload_n 0, 1) := by decide +kernel
theorem d_Pg_fillCells_32 : decode b_Pg_fillCells 32 = .ok (.getfield 28, 3) := by decide +kernel
theorem d_Pg_fillCells_35 : decode b_Pg_fillCells 35 = .ok (.iload_n 1, 1) := by decide +kernel
theorem d_Pg_fillCells_36 : decode b_Pg_fillCells 36 = .ok (.aload_n 0, 1) := by decide +kernel
theorem d_Pg_fillCells_37 : decode b_Pg_fillCells 37 = .ok (.getfield 22, 3) := by decide +kernel
theorem d_Pg_fillCells_40 : decode b_Pg_fillCells 40 = .ok (.aload_n 0, 1) := by decide +kernel
theorem d_Pg_fillCells_41 : decode b_Pg_fillCells 41 = .ok (.getfield 49, 3) := by decide +kernel
theorem d_Pg_fillCells_44 : decode b_Pg_fillCells 44 = .ok (.getfield 75, 3) := by decide +kernel
theorem d_Pg_fillCells_47 : decode b_Pg_fillCells 47 = .ok (.iload_n 1, 1) := by decide +kernel
theorem d_Pg_fillCells_48 : decode b_Pg_fillCells 48 = .ok (.iaload, 1) := by decide +kernel
theorem d_Pg_fillCells_49 : decode b_Pg_fillCells 49 = .ok (.iaload, 1) := by decide +kernel
theorem d_Pg_fillCells_50 : decode b_Pg_fillCells 50 = .ok (.iastore, 1) := by decide +kernel
theorem d_Pg_fillCells_51 : decode b_Pg_fillCells 51 = .ok (.iinc 1 1, 3) := by decide +kernel
theorem d_Pg_fillCells_54 : decode b_Pg_fillCells 54 = .ok (.goto (-52), 3) := by decide +kernel
theorem d_Pg_fillCells_57 : decode b_Pg_fillCells 57 = .ok (.return_, 1) := by decide +kernel
abbrev mt_Pg_fillCells : MT := (R_Pg, b_Pg_fillCells, 2, none)
theorem vf_Pg_fillCells : VF y_Pg_fillCells mt_Pg_fillCells 8 0 := ⟨im_Pg_fillCells, se_Pg_fillCells, in_Pg, co_Pg_fillCells, by decide +kernel, _, _, rfl⟩
def f_Pg_fillCells_b51 (k2 : St → Int → Option (Int × St)) (γ : St) (x1 : Int) : Option (Int × St) :=
  chk (i32 (x1 + 1)) (k2 γ (x1 + 1))
def f_Pg_fillCells_L2 : Nat → St → Int → Option (Int × St)
  | 0, _, _ => none
  | n + 1, γ, x4 =>
  if (γ 8 11) ≤ x4 then
  (some (0, γ))
  else
  (chk (inb x4 6000) (chk (inb (γ 62 x4) 12001) (if (γ 87 (γ 62 x4)) ≠ 1 then
  (f_Pg_fillCells_b51 (f_Pg_fillCells_L2 n) γ x4)
  else
  (chk (inb x4 6000) (chk (inb (γ 61 x4) 9001) (chk (inb x4 6000) (ap (setA γ 81 x4 (γ 79 (γ 61 x4))) fun γ18 =>
  f_Pg_fillCells_b51 (f_Pg_fillCells_L2 n) γ18 x4)))))))
def f_Pg_fillCells (γ : St) : Option (Int × St) :=
  f_Pg_fillCells_L2  FU γ 0
set_option maxHeartbeats 4000000 in
theorem s_Pg_fillCells_b51 {Γ : Ctx} {k2 : St → Int → Option (Int × St)} (hk2 : ∀ (γ : St) (x3 : Int), i32 x3 → SB Γ BS mt_Pg_fillCells (RmN 6 240) 0 0 (KN Γ BS mt_Pg_fillCells.2.2.2) 2 [(0, vR Γ 11), (1, vI x3)] [] γ (k2 γ x3)) : ∀ (γ : St) (x1 : Int), i32 x1 → SB Γ BS mt_Pg_fillCells (RmN 6 240) 0 0 (KN Γ BS mt_Pg_fillCells.2.2.2) 51 [(0, vR Γ 11), (1, vI x1)] [] γ (f_Pg_fillCells_b51 k2 γ x1) := by
  intro γ x1 hx1
  unfold f_Pg_fillCells_b51
  refine sb_iinc 1 [(1, vI (x1 + 1)), (0, vR Γ 11)] d_Pg_fillCells_51 rfl (by decide) rfl ?_
  refine sb_chk (fun c2 => ?_)
  refine sb_goto 2 d_Pg_fillCells_54 (by decide) ?_
  exact sb_lv [1, 0] rfl (hk2 γ (x1 + 1) c2)
set_option maxHeartbeats 4000000 in
theorem s_Pg_fillCells_L2 {Γ : Ctx} : ∀ (n : Nat) (γ : St) (x4 : Int), i32 x4 → SB Γ BS mt_Pg_fillCells (RmN 6 240) 0 0 (KN Γ BS mt_Pg_fillCells.2.2.2) 2 [(0, vR Γ 11), (1, vI x4)] [] γ (f_Pg_fillCells_L2 n γ x4) := by
  intro n
  induction n with
  | zero => intros; exact sb_none
  | succ n ih =>
    intro γ x4 hx4
    unfold f_Pg_fillCells_L2
    refine sb_iload_n 1 d_Pg_fillCells_2 rfl ?_
    refine sb_aload_n 0 d_Pg_fillCells_3 rfl ?_
    refine g_Pg_49 d_Pg_fillCells_4 ?_
    refine g_Pg_70 d_Pg_fillCells_7 (fun c6 => ?_)
    refine sb_icmp_ge 57 hx4 c6 d_Pg_fillCells_10 (by decide) (fun _ => ?_) (fun _ => ?_)
    · exact sn_v rfl d_Pg_fillCells_57
    · refine sb_aload_n 0 d_Pg_fillCells_13 rfl ?_
      refine g_Pg_46 d_Pg_fillCells_14 ?_
      refine sb_aload_n 0 d_Pg_fillCells_17 rfl ?_
      refine g_Pg_49 d_Pg_fillCells_18 ?_
      refine g_Pg_78 d_Pg_fillCells_21 ?_
      refine sb_iload_n 1 d_Pg_fillCells_24 rfl ?_
      refine al_S_62 d_Pg_fillCells_25 (fun _ c10 => ?_)
      refine al_S_87 d_Pg_fillCells_26 (fun _ c11 => ?_)
      refine sb_iconst d_Pg_fillCells_27 ?_
      refine sb_icmp_ne 51 c11 (by decide) d_Pg_fillCells_28 (by decide) (fun _ => ?_) (fun _ => ?_)
      · exact sb_lv [0, 1] rfl (s_Pg_fillCells_b51 ih γ x4 hx4)
      · refine sb_aload_n 0 d_Pg_fillCells_31 rfl ?_
        refine g_Pg_28 d_Pg_fillCells_32 ?_
        refine sb_iload_n 1 d_Pg_fillCells_35 rfl ?_
        refine sb_aload_n 0 d_Pg_fillCells_36 rfl ?_
        refine g_Pg_22 d_Pg_fillCells_37 ?_
        refine sb_aload_n 0 d_Pg_fillCells_40 rfl ?_
        refine g_Pg_49 d_Pg_fillCells_41 ?_
        refine g_Pg_75 d_Pg_fillCells_44 ?_
        refine sb_iload_n 1 d_Pg_fillCells_47 rfl ?_
        refine al_S_61 d_Pg_fillCells_48 (fun _ c16 => ?_)
        refine al_S_79 d_Pg_fillCells_49 (fun _ c17 => ?_)
        refine as_S_81 c17 d_Pg_fillCells_50 (fun _ => ?_)
        refine sb_aps (fun γ18 => ?_)
        exact sb_lv [0, 1] rfl (s_Pg_fillCells_b51 ih γ18 x4 hx4)
set_option maxHeartbeats 4000000 in
theorem c_Pg_fillCells {Γ : Ctx} (γ : St) : NC Γ BS y_Pg_fillCells mt_Pg_fillCells 6 240 [vR Γ 11] γ (f_Pg_fillCells γ) := by
  refine nc_of (by decide) rfl (Nat.le_of_ble_eq_true rfl) ?_
  show SB Γ BS mt_Pg_fillCells (RmN 6 240) 0 0 (KN Γ BS mt_Pg_fillCells.2.2.2) 0 [(0, vR Γ 11)] [] γ _
  unfold f_Pg_fillCells
  refine sb_iconst d_Pg_fillCells_0 ?_
  refine sb_istore_n [(1, vI 0), (0, vR Γ 11)] d_Pg_fillCells_1 (by decide) rfl ?_
  exact sb_lv [1, 0] rfl (s_Pg_fillCells_L2  FU γ 0 (by decide))
theorem d_Pg_run_0 : decode b_Pg_run 0 = .ok (.iconst 0, 1) := by decide +kernel
theorem d_Pg_run_1 : decode b_Pg_run 1 = .ok (.istore_n 3, 1) := by decide +kernel
theorem d_Pg_run_2 : decode b_Pg_run 2 = .ok (.iload_n 3, 1) := by decide +kernel
theorem d_Pg_run_3 : decode b_Pg_run 3 = .ok (.aload_n 0, 1) := by decide +kernel
theorem d_Pg_run_4 : decode b_Pg_run 4 = .ok (.getfield 57, 3) := by decide +kernel
theorem d_Pg_run_7 : decode b_Pg_run 7 = .ok (.if_icmp .ge 18, 3) := by decide +kernel
theorem d_Pg_run_10 : decode b_Pg_run 10 = .ok (.aload_n 0, 1) := by decide +kernel
theorem d_Pg_run_11 : decode b_Pg_run 11 = .ok (.getfield 22, 3) := by decide +kernel
theorem d_Pg_run_14 : decode b_Pg_run 14 = .ok (.iload_n 3, 1) := by decide +kernel
theorem d_Pg_run_15 : decode b_Pg_run 15 = .ok (.aload_n 1, 1) := by decide +kernel
theorem d_Pg_run_16 : decode b_Pg_run 16 = .ok (.iload_n 3, 1) := by decide +kernel
theorem d_Pg_run_17 : decode b_Pg_run 17 = .ok (.iaload, 1) := by decide +kernel
theorem d_Pg_run_18 : decode b_Pg_run 18 = .ok (.iastore, 1) := by decide +kernel
theorem d_Pg_run_19 : decode b_Pg_run 19 = .ok (.iinc 3 1, 3) := by decide +kernel
theorem d_Pg_run_22 : decode b_Pg_run 22 = .ok (.goto (-20), 3) := by decide +kernel
theorem d_Pg_run_25 : decode b_Pg_run 25 = .ok (.iconst 0, 1) := by decide +kernel
theorem d_Pg_run_26 : decode b_Pg_run 26 = .ok (.istore_n 3, 1) := by decide +kernel
theorem d_Pg_run_27 : decode b_Pg_run 27 = .ok (.iload_n 3, 1) := by decide +kernel
theorem d_Pg_run_28 : decode b_Pg_run 28 = .ok (.iload_n 2, 1) := by decide +kernel
theorem d_Pg_run_29 : decode b_Pg_run 29 = .ok (.if_icmp .ge 55, 3) := by decide +kernel
theorem d_Pg_run_32 : decode b_Pg_run 32 = .ok (.iconst 0, 1) := by decide +kernel
theorem d_Pg_run_33 : decode b_Pg_run 33 = .ok (.istore 4, 2) := by decide +kernel
theorem d_Pg_run_35 : decode b_Pg_run 35 = .ok (.iload 4, 2) := by decide +kernel
theorem d_Pg_run_37 : decode b_Pg_run 37 = .ok (.aload_n 0, 1) := by decide +kernel
theorem d_Pg_run_38 : decode b_Pg_run 38 = .ok (.getfield 84, 3) := by decide +kernel
theorem d_Pg_run_41 : decode b_Pg_run 41 = .ok (.if_icmp .ge 29, 3) := by decide +kernel
theorem d_Pg_run_44 : decode b_Pg_run 44 = .ok (.aload_n 0, 1) := by decide +kernel
theorem d_Pg_run_45 : decode b_Pg_run 45 = .ok (.getfield 22, 3) := by decide +kernel
theorem d_Pg_run_48 : decode b_Pg_run 48 = .ok (.aload_n 0, 1) := by decide +kernel
theorem d_Pg_run_49 : decode b_Pg_run 49 = .ok (.getfield 25, 3) := by decide +kernel
theorem d_Pg_run_52 : decode b_Pg_run 52 = .ok (.iload 4, 2) := by decide +kernel
theorem d_Pg_run_54 : decode b_Pg_run 54 = .ok (.iconst 1, 1) := by decide +kernel
theorem d_Pg_run_55 : decode b_Pg_run 55 = .ok (.iadd, 1) := by decide +kernel
theorem d_Pg_run_56 : decode b_Pg_run 56 = .ok (.iaload, 1) := by decide +kernel
theorem d_Pg_run_57 : decode b_Pg_run 57 = .ok (.aload_n 0, 1) := by decide +kernel
theorem d_Pg_run_58 : decode b_Pg_run 58 = .ok (.iload 4, 2) := by decide +kernel
theorem d_Pg_run_60 : decode b_Pg_run 60 = .ok (.invokevirtual 139, 3) := by decide +kernel
theorem d_Pg_run_63 : decode b_Pg_run 63 = .ok (.iastore, 1) := by decide +kernel
theorem d_Pg_run_64 : decode b_Pg_run 64 = .ok (.iinc 4 6, 3) := by decide +kernel
theorem d_Pg_run_67 : decode b_Pg_run 67 = .ok (.goto (-32), 3) := by decide +kernel
theorem d_Pg_run_70 : decode b_Pg_run 70 = .ok (.aload_n 0, 1) := by decide +kernel
theorem d_Pg_run_71 : decode b_Pg_run 71 = .ok (.invokevirtual 142, 3) := by decide +kernel
theorem d_Pg_run_74 : decode b_Pg_run 74 = .ok (.aload_n 0, 1) := by decide +kernel
theorem d_Pg_run_75 : decode b_Pg_run 75 = .ok (.invokevirtual 145, 3) := by decide +kernel
theorem d_Pg_run_78 : decode b_Pg_run 78 = .ok (.iinc 3 1, 3) := by decide +kernel
theorem d_Pg_run_81 : decode b_Pg_run 81 = .ok (.goto (-54), 3) := by decide +kernel
theorem d_Pg_run_84 : decode b_Pg_run 84 = .ok (.iconst 0, 1) := by decide +kernel
theorem d_Pg_run_85 : decode b_Pg_run 85 = .ok (.istore_n 3, 1) := by decide +kernel
theorem d_Pg_run_86 : decode b_Pg_run 86 = .ok (.iload_n 3, 1) := by decide +kernel
theorem d_Pg_run_87 : decode b_Pg_run 87 = .ok (.aload_n 0, 1) := by decide +kernel
theorem d_Pg_run_88 : decode b_Pg_run 88 = .ok (.getfield 61, 3) := by decide +kernel
theorem d_Pg_run_91 : decode b_Pg_run 91 = .ok (.if_icmp .ge 56, 3) := by decide +kernel
theorem d_Pg_run_94 : decode b_Pg_run 94 = .ok (.aload_n 0, 1) := by decide +kernel
theorem d_Pg_run_95 : decode b_Pg_run 95 = .ok (.getfield 9, 3) := by decide +kernel
theorem d_Pg_run_98 : decode b_Pg_run 98 = .ok (.iload_n 3, 1) := by decide +kernel
theorem d_Pg_run_99 : decode b_Pg_run 99 = .ok (.aload_n 0, 1) := by decide +kernel
theorem d_Pg_run_100 : decode b_Pg_run 100 = .ok (.getfield 46, 3) := by decide +kernel
theorem d_Pg_run_103 : decode b_Pg_run 103 = .ok (.aload_n 0, 1) := by decide +kernel
theorem d_Pg_run_104 : decode b_Pg_run 104 = .ok (.getfield 34, 3) := by decide +kernel
theorem d_Pg_run_107 : decode b_Pg_run 107 = .ok (.aload_n 0, 1) := by decide +kernel
theorem d_Pg_run_108 : decode b_Pg_run 108 = .ok (.getfield 49, 3) := by decide +kernel
theorem d_Pg_run_111 : decode b_Pg_run 111 = .ok (.getfield 127, 3) := by decide +kernel
theorem d_Pg_run_114 : decode b_Pg_run 114 = .ok (.iload_n 3, 1) := by decide +kernel
theorem d_Pg_run_115 : decode b_Pg_run 115 = .ok (.iaload, 1) := by decide +kernel
theorem d_Pg_run_116 : decode b_Pg_run 116 = .ok (.iaload, 1) := by decide +kernel
theorem d_Pg_run_117 : decode b_Pg_run 117 = .ok (.iaload, 1) := by decide +kernel
theorem d_Pg_run_118 : decode b_Pg_run 118 = .ok (.iconst 1, 1) := by decide +kernel
theorem d_Pg_run_119 : decode b_Pg_run 119 = .ok (.if_icmp .ne 18, 3) := by decide +kernel
theorem d_Pg_run_122 : decode b_Pg_run 122 = .ok (.aload_n 0, 1) := by decide +kernel
theorem d_Pg_run_123 : decode b_Pg_run 123 = .ok (.getfield 22, 3) := by decide +kernel
theorem d_Pg_run_126 : decode b_Pg_run 126 = .ok (.aload_n 0, 1) := by decide +kernel
theorem d_Pg_run_127 : decode b_Pg_run 127 = .ok (.getfield 18, 3) := by decide +kernel
theorem d_Pg_run_130 : decode b_Pg_run 130 = .ok (.iload_n 3, 1) := by decide +kernel
theorem d_Pg_run_131 : decode b_Pg_run 131 = .ok (.iaload, 1) := by decide +kernel
theorem d_Pg_run_132 : decode b_Pg_run 132 = .ok (.iaload, 1) := by decide +kernel
theorem d_Pg_run_133 : decode b_Pg_run 133 = .ok (.i2l, 1) := by decide +kernel
theorem d_Pg_run_134 : decode b_Pg_run 134 = .ok (.goto 6, 3) := by decide +kernel
theorem d_Pg_run_137 : decode b_Pg_run 137 = .ok (.ldc2_w 148, 3) := by decide +kernel
theorem d_Pg_run_140 : decode b_Pg_run 140 = .ok (.lastore, 1) := by decide +kernel
theorem d_Pg_run_141 : decode b_Pg_run 141 = .ok (.iinc 3 1, 3) := by decide +kernel
theorem d_Pg_run_144 : decode b_Pg_run 144 = .ok (.goto (-58), 3) := by decide +kernel
theorem d_Pg_run_147 : decode b_Pg_run 147 = .ok (.return_, 1) := by decide +kernel
abbrev mt_Pg_run : MT := (R_Pg, b_Pg_run, 5, none)
theorem vf_Pg_run : VF y_Pg_run mt_Pg_run 8 2 := ⟨im_Pg_run, se_Pg_run, in_Pg, co_Pg_run, by decide +kernel, _, _, rfl⟩
def f_Pg_run_b140 (k86 : St → Int → Option (Int × St)) (γ : St) (x1 : Int) (x2 : Int) (x3 : Int) : Option (Int × St) :=
  chk (inb x3 99) (ap (setA γ 76 x3 x2) fun γ4 =>
  chk (i32 (x1 + 1)) (k86 γ4 (x1 + 1)))
def f_Pg_run_L86 : Nat → St → Int → Option (Int × St)
  | 0, _, _ => none
  | n + 1, γ, x7 =>
  if (γ 11 5) ≤ x7 then
  (some (0, γ))
  else
  (chk (inb x7 6000) (chk (inb (γ 59 x7) 12001) (chk (inb (γ 83 (γ 59 x7)) 12001) (if (γ 87 (γ 83 (γ 59 x7))) ≠ 1 then
  (f_Pg_run_b140 (f_Pg_run_L86 n) γ x7 1099511627776 x7)
  else
  (chk (inb x7 9001) (chk (inb (γ 78 x7) 9001) (f_Pg_run_b140 (f_Pg_run_L86 n) γ x7 (γ 79 (γ 78 x7)) x7)))))))
def f_Pg_run_b84 (γ : St) : Option (Int × St) :=
  f_Pg_run_L86  FU γ 0
def f_Pg_run_b70 (k27 : St → Int → Int → Option (Int × St)) (e84 : St → Option (Int × St)) (γ : St) (x21 : Int) (x22 : Int) : Option (Int × St) :=
  bndN (f_Pg_turnClocks γ) fun _ γ24 =>
  bndN (f_Pg_fillCells γ24) fun _ γ26 =>
  chk (i32 (x22 + 1)) (k27 γ26 x21 (x22 + 1))
def f_Pg_run_L35 (e70 : St → Int → Int → Option (Int × St)) : Nat → St → Int → Int → Int → Option (Int × St)
  | 0, _, _, _, _ => none
  | n + 1, γ, x30, x31, x32 =>
  if (γ 11 9) ≤ x32 then
  (e70 γ x30 x31)
  else
  (chk (i32 (x32 + 1)) (chk (inb (x32 + 1) 18000) (bndN (f_Pg_result γ x32) fun r38 γ39 =>
  chk (inb (γ 80 (x32 + 1)) 9001) (ap (setA γ39 79 (γ 80 (x32 + 1)) r38) fun γ40 =>
  chk (i32 (x32 + 6)) ((f_Pg_run_L35 e70 n) γ40 x30 x31 (x32 + 6))))))
def f_Pg_run_L27 (e84 : St → Option (Int × St)) : Nat → St → Int → Int → Option (Int × St)
  | 0, _, _, _ => none
  | n + 1, γ, x44, x45 =>
  if x44 ≤ x45 then
  (e84 γ )
  else
  (f_Pg_run_L35 (f_Pg_run_b70 (f_Pg_run_L27 e84 n) e84) FU γ x44 x45 0)
def f_Pg_run_b25 (γ : St) (x46 : Int) : Option (Int × St) :=
  f_Pg_run_L27 (f_Pg_run_b84) FU γ x46 0
def f_Pg_run_L2 (e25 : St → Int → Option (Int × St)) : Nat → St → Int → Int → Option (Int × St)
  | 0, _, _, _ => none
  | n + 1, γ, x47, x48 =>
  if (γ 11 4) ≤ x48 then
  (e25 γ x47)
  else
  (chk (inb x48 99) (chk (inb x48 9001) (ap (setA γ 79 x48 (γ 12 x48)) fun γ52 =>
  chk (i32 (x48 + 1)) ((f_Pg_run_L2 e25 n) γ52 x47 (x48 + 1)))))
def f_Pg_run (γ : St) (a1 : Int) : Option (Int × St) :=
  f_Pg_run_L2 (f_Pg_run_b25) FU γ a1 0
set_option maxHeartbeats 4000000 in
theorem s_Pg_run_b140 {Γ : Ctx} {k86 : St → Int → Option (Int × St)} (hk86 : ∀ (γ : St) (x6 : Int), i32 x6 → SB Γ BS mt_Pg_run (RmN 7 264) 0 0 (KN Γ BS mt_Pg_run.2.2.2) 86 [(0, vR Γ 11), (3, vI x6)] [] γ (k86 γ x6)) : ∀ (γ : St) (x1 : Int) (x2 : Int) (x3 : Int), i32 x1 → i32 x3 → SB Γ BS mt_Pg_run (RmN 7 264) 0 0 (KN Γ BS mt_Pg_run.2.2.2) 140 [(0, vR Γ 11), (3, vI x1)] [.long (iL x2), vI x3, vR Γ 76] γ (f_Pg_run_b140 k86 γ x1 x2 x3) := by
  intro γ x1 x2 x3 hx1 hx3
  unfold f_Pg_run_b140
  refine as_S_76 d_Pg_run_140 (fun _ => ?_)
  refine sb_aps (fun γ4 => ?_)
  refine sb_iinc 1 [(3, vI (x1 + 1)), (0, vR Γ 11)] d_Pg_run_141 rfl (by decide) rfl ?_
  refine sb_chk (fun c5 => ?_)
  refine sb_goto 86 d_Pg_run_144 (by decide) ?_
  exact sb_lv [1, 0] rfl (hk86 γ4 (x1 + 1) c5)
set_option maxHeartbeats 4000000 in
theorem s_Pg_run_L86 {Γ : Ctx} : ∀ (n : Nat) (γ : St) (x7 : Int), i32 x7 → SB Γ BS mt_Pg_run (RmN 7 264) 0 0 (KN Γ BS mt_Pg_run.2.2.2) 86 [(0, vR Γ 11), (3, vI x7)] [] γ (f_Pg_run_L86 n γ x7) := by
  intro n
  induction n with
  | zero => intros; exact sb_none
  | succ n ih =>
    intro γ x7 hx7
    unfold f_Pg_run_L86
    refine sb_iload_n 1 d_Pg_run_86 rfl ?_
    refine sb_aload_n 0 d_Pg_run_87 rfl ?_
    refine g_Pg_61 d_Pg_run_88 (fun c8 => ?_)
    refine sb_icmp_ge 147 hx7 c8 d_Pg_run_91 (by decide) (fun _ => ?_) (fun _ => ?_)
    · exact sn_v rfl d_Pg_run_147
    · refine sb_aload_n 0 d_Pg_run_94 rfl ?_
      refine g_Pg_9 d_Pg_run_95 ?_
      refine sb_iload_n 1 d_Pg_run_98 rfl ?_
      refine sb_aload_n 0 d_Pg_run_99 rfl ?_
      refine g_Pg_46 d_Pg_run_100 ?_
      refine sb_aload_n 0 d_Pg_run_103 rfl ?_
      refine g_Pg_34 d_Pg_run_104 ?_
      refine sb_aload_n 0 d_Pg_run_107 rfl ?_
      refine g_Pg_49 d_Pg_run_108 ?_
      refine g_Pg_127 d_Pg_run_111 ?_
      refine sb_iload_n 1 d_Pg_run_114 rfl ?_
      refine al_S_59 d_Pg_run_115 (fun _ c14 => ?_)
      refine al_S_83 d_Pg_run_116 (fun _ c15 => ?_)
      refine al_S_87 d_Pg_run_117 (fun _ c16 => ?_)
      refine sb_iconst d_Pg_run_118 ?_
      refine sb_icmp_ne 137 c16 (by decide) d_Pg_run_119 (by decide) (fun _ => ?_) (fun _ => ?_)
      · refine sb_ldc2S 1099511627776 (by decide +kernel) rfl d_Pg_run_137 ?_
        exact sb_lv [0, 1] rfl (s_Pg_run_b140 ih γ x7 1099511627776 x7 hx7 hx7)
      · refine sb_aload_n 0 d_Pg_run_122 rfl ?_
        refine g_Pg_22 d_Pg_run_123 ?_
        refine sb_aload_n 0 d_Pg_run_126 rfl ?_
        refine g_Pg_18 d_Pg_run_127 ?_
        refine sb_iload_n 1 d_Pg_run_130 rfl ?_
        refine al_S_78 d_Pg_run_131 (fun _ c19 => ?_)
        refine al_S_79 d_Pg_run_132 (fun _ c20 => ?_)
        refine sb_i2l c20 d_Pg_run_133 ?_
        refine sb_goto 140 d_Pg_run_134 (by decide) ?_
        exact sb_lv [0, 1] rfl (s_Pg_run_b140 ih γ x7 (γ 79 (γ 78 x7)) x7 hx7 hx7)
set_option maxHeartbeats 4000000 in
theorem s_Pg_run_b84 {Γ : Ctx} : ∀ (γ : St), SB Γ BS mt_Pg_run (RmN 7 264) 0 0 (KN Γ BS mt_Pg_run.2.2.2) 84 [(0, vR Γ 11)] [] γ (f_Pg_run_b84 γ ) := by
  intro γ
  unfold f_Pg_run_b84
  refine sb_iconst d_Pg_run_84 ?_
  refine sb_istore_n [(3, vI 0), (0, vR Γ 11)] d_Pg_run_85 (by decide) rfl ?_
  exact sb_lv [1, 0] rfl (s_Pg_run_L86  FU γ 0 (by decide))
set_option maxHeartbeats 4000000 in
theorem s_Pg_run_b70 {Γ : Ctx} {k27 : St → Int → Int → Option (Int × St)} {e84 : St → Option (Int × St)} (hk27 : ∀ (γ : St) (x28 : Int) (x29 : Int), i32 x28 → i32 x29 → SB Γ BS mt_Pg_run (RmN 7 264) 0 0 (KN Γ BS mt_Pg_run.2.2.2) 27 [(0, vR Γ 11), (2, vI x28), (3, vI x29)] [] γ (k27 γ x28 x29)) (he84 : ∀ (γ : St), SB Γ BS mt_Pg_run (RmN 7 264) 0 0 (KN Γ BS mt_Pg_run.2.2.2) 84 [(0, vR Γ 11)] [] γ (e84 γ )) : ∀ (γ : St) (x21 : Int) (x22 : Int), i32 x21 → i32 x22 → SB Γ BS mt_Pg_run (RmN 7 264) 0 0 (KN Γ BS mt_Pg_run.2.2.2) 70 [(0, vR Γ 11), (2, vI x21), (3, vI x22)] [] γ (f_Pg_run_b70 k27 e84 γ x21 x22) := by
  intro γ x21 x22 hx21 hx22
  unfold f_Pg_run_b70
  refine sb_aload_n 0 d_Pg_run_70 rfl ?_
  refine sb_cVv vf_Pg_turnClocks (c_Pg_turnClocks γ  ) rfl ml_Pg_142 (As := []) rfl rfl (Nat.le_of_ble_eq_true rfl) ⟨by decide, by decide⟩ d_Pg_run_71 (fun _ γ24 => ?_)
  refine sb_aload_n 0 d_Pg_run_74 rfl ?_
  refine sb_cVv vf_Pg_fillCells (c_Pg_fillCells γ24  ) rfl ml_Pg_145 (As := []) rfl rfl (Nat.le_of_ble_eq_true rfl) ⟨by decide, by decide⟩ d_Pg_run_75 (fun _ γ26 => ?_)
  refine sb_iinc 2 [(3, vI (x22 + 1)), (0, vR Γ 11), (2, vI x21)] d_Pg_run_78 rfl (by decide) rfl ?_
  refine sb_chk (fun c27 => ?_)
  refine sb_goto 27 d_Pg_run_81 (by decide) ?_
  exact sb_lv [1, 2, 0] rfl (hk27 γ26 x21 (x22 + 1) hx21 c27)
set_option maxHeartbeats 4000000 in
theorem s_Pg_run_L35 {Γ : Ctx} {e70 : St → Int → Int → Option (Int × St)} (he70 : ∀ (γ : St) (x42 : Int) (x43 : Int), i32 x42 → i32 x43 → SB Γ BS mt_Pg_run (RmN 7 264) 0 0 (KN Γ BS mt_Pg_run.2.2.2) 70 [(0, vR Γ 11), (2, vI x42), (3, vI x43)] [] γ (e70 γ x42 x43)) : ∀ (n : Nat) (γ : St) (x30 : Int) (x31 : Int) (x32 : Int), i32 x30 → i32 x31 → i32 x32 → SB Γ BS mt_Pg_run (RmN 7 264) 0 0 (KN Γ BS mt_Pg_run.2.2.2) 35 [(0, vR Γ 11), (2, vI x30), (3, vI x31), (4, vI x32)] [] γ (f_Pg_run_L35 e70 n γ x30 x31 x32) := by
  intro n
  induction n with
  | zero => intros; exact sb_none
  | succ n ih =>
    intro γ x30 x31 x32 hx30 hx31 hx32
    unfold f_Pg_run_L35
    refine sb_iload 3 d_Pg_run_35 rfl ?_
    refine sb_aload_n 0 d_Pg_run_37 rfl ?_
    refine g_Pg_84 d_Pg_run_38 (fun c33 => ?_)
    refine sb_icmp_ge 70 hx32 c33 d_Pg_run_41 (by decide) (fun _ => ?_) (fun _ => ?_)
    · exact sb_lv [0, 1, 2] rfl (he70 γ x30 x31 hx30 hx31)
    · refine sb_aload_n 0 d_Pg_run_44 rfl ?_
      refine g_Pg_22 d_Pg_run_45 ?_
      refine sb_aload_n 0 d_Pg_run_48 rfl ?_
      refine g_Pg_25 d_Pg_run_49 ?_
      refine sb_iload 3 d_Pg_run_52 rfl ?_
      refine sb_iconst d_Pg_run_54 ?_
      refine sb_iadd d_Pg_run_55 ?_
      refine sb_chk (fun c36 => ?_)
      refine al_S_80 d_Pg_run_56 (fun _ c37 => ?_)
      refine sb_aload_n 0 d_Pg_run_57 rfl ?_
      refine sb_iload 3 d_Pg_run_58 rfl ?_
      refine sb_cVi vf_Pg_result (c_Pg_result γ x32 hx32) rfl ml_Pg_139 (As := [vI x32]) rfl rfl (Nat.le_of_ble_eq_true rfl) ⟨by decide, by decide⟩ d_Pg_run_60 (fun r38 γ39 hr38 => ?_)
      refine as_S_79 hr38 d_Pg_run_63 (fun _ => ?_)
      refine sb_aps (fun γ40 => ?_)
      refine sb_iinc 3 [(4, vI (x32 + 6)), (0, vR Γ 11), (2, vI x30), (3, vI x31)] d_Pg_run_64 rfl (by decide) rfl ?_
      refine sb_chk (fun c41 => ?_)
      refine sb_goto 35 d_Pg_run_67 (by decide) ?_
      exact sb_lv [1, 2, 3, 0] rfl (ih γ40 x30 x31 (x32 + 6) hx30 hx31 c41)
set_option maxHeartbeats 4000000 in
theorem s_Pg_run_L27 {Γ : Ctx} {e84 : St → Option (Int × St)} (he84 : ∀ (γ : St), SB Γ BS mt_Pg_run (RmN 7 264) 0 0 (KN Γ BS mt_Pg_run.2.2.2) 84 [(0, vR Γ 11)] [] γ (e84 γ )) : ∀ (n : Nat) (γ : St) (x44 : Int) (x45 : Int), i32 x44 → i32 x45 → SB Γ BS mt_Pg_run (RmN 7 264) 0 0 (KN Γ BS mt_Pg_run.2.2.2) 27 [(0, vR Γ 11), (2, vI x44), (3, vI x45)] [] γ (f_Pg_run_L27 e84 n γ x44 x45) := by
  intro n
  induction n with
  | zero => intros; exact sb_none
  | succ n ih =>
    intro γ x44 x45 hx44 hx45
    unfold f_Pg_run_L27
    refine sb_iload_n 2 d_Pg_run_27 rfl ?_
    refine sb_iload_n 1 d_Pg_run_28 rfl ?_
    refine sb_icmp_ge 84 hx45 hx44 d_Pg_run_29 (by decide) (fun _ => ?_) (fun _ => ?_)
    · exact sb_lv [0] rfl (he84 γ  )
    · refine sb_iconst d_Pg_run_32 ?_
      refine sb_istore [(4, vI 0), (0, vR Γ 11), (2, vI x44), (3, vI x45)] d_Pg_run_33 (by decide) rfl ?_
      exact sb_lv [1, 2, 3, 0] rfl (s_Pg_run_L35 (s_Pg_run_b70 ih he84) FU γ x44 x45 0 hx44 hx45 (by decide))
set_option maxHeartbeats 4000000 in
theorem s_Pg_run_b25 {Γ : Ctx} : ∀ (γ : St) (x46 : Int), i32 x46 → SB Γ BS mt_Pg_run (RmN 7 264) 0 0 (KN Γ BS mt_Pg_run.2.2.2) 25 [(0, vR Γ 11), (2, vI x46)] [] γ (f_Pg_run_b25 γ x46) := by
  intro γ x46 hx46
  unfold f_Pg_run_b25
  refine sb_iconst d_Pg_run_25 ?_
  refine sb_istore_n [(3, vI 0), (0, vR Γ 11), (2, vI x46)] d_Pg_run_26 (by decide) rfl ?_
  exact sb_lv [1, 2, 0] rfl (s_Pg_run_L27 (s_Pg_run_b84) FU γ x46 0 hx46 (by decide))
set_option maxHeartbeats 4000000 in
theorem s_Pg_run_L2 {Γ : Ctx} {e25 : St → Int → Option (Int × St)} (he25 : ∀ (γ : St) (x54 : Int), i32 x54 → SB Γ BS mt_Pg_run (RmN 7 264) 0 0 (KN Γ BS mt_Pg_run.2.2.2) 25 [(0, vR Γ 11), (2, vI x54)] [] γ (e25 γ x54)) : ∀ (n : Nat) (γ : St) (x47 : Int) (x48 : Int), i32 x47 → i32 x48 → SB Γ BS mt_Pg_run (RmN 7 264) 0 0 (KN Γ BS mt_Pg_run.2.2.2) 2 [(0, vR Γ 11), (1, vR Γ 12), (2, vI x47), (3, vI x48)] [] γ (f_Pg_run_L2 e25 n γ x47 x48) := by
  intro n
  induction n with
  | zero => intros; exact sb_none
  | succ n ih =>
    intro γ x47 x48 hx47 hx48
    unfold f_Pg_run_L2
    refine sb_iload_n 3 d_Pg_run_2 rfl ?_
    refine sb_aload_n 0 d_Pg_run_3 rfl ?_
    refine g_Pg_57 d_Pg_run_4 (fun c49 => ?_)
    refine sb_icmp_ge 25 hx48 c49 d_Pg_run_7 (by decide) (fun _ => ?_) (fun _ => ?_)
    · exact sb_lv [0, 2] rfl (he25 γ x47 hx47)
    · refine sb_aload_n 0 d_Pg_run_10 rfl ?_
      refine g_Pg_22 d_Pg_run_11 ?_
      refine sb_iload_n 3 d_Pg_run_14 rfl ?_
      refine sb_aload_n 1 d_Pg_run_15 rfl ?_
      refine sb_iload_n 3 d_Pg_run_16 rfl ?_
      refine al_S_12 d_Pg_run_17 (fun _ c51 => ?_)
      refine as_S_79 c51 d_Pg_run_18 (fun _ => ?_)
      refine sb_aps (fun γ52 => ?_)
      refine sb_iinc 3 [(3, vI (x48 + 1)), (0, vR Γ 11), (1, vR Γ 12), (2, vI x47)] d_Pg_run_19 rfl (by decide) rfl ?_
      refine sb_chk (fun c53 => ?_)
      refine sb_goto 2 d_Pg_run_22 (by decide) ?_
      exact sb_lv [1, 2, 3, 0] rfl (ih γ52 x47 (x48 + 1) hx47 c53)
set_option maxHeartbeats 4000000 in
theorem c_Pg_run {Γ : Ctx} (γ : St) (a1 : Int) (ha1 : i32 a1) : NC Γ BS y_Pg_run mt_Pg_run 7 264 [vR Γ 11, vR Γ 12, vI a1] γ (f_Pg_run γ a1) := by
  refine nc_of (by decide) rfl (Nat.le_of_ble_eq_true rfl) ?_
  show SB Γ BS mt_Pg_run (RmN 7 264) 0 0 (KN Γ BS mt_Pg_run.2.2.2) 0 [(0, vR Γ 11), (1, vR Γ 12), (2, vI a1)] [] γ _
  unfold f_Pg_run
  refine sb_iconst d_Pg_run_0 ?_
  refine sb_istore_n [(3, vI 0), (0, vR Γ 11), (1, vR Γ 12), (2, vI a1)] d_Pg_run_1 (by decide) rfl ?_
  exact sb_lv [1, 2, 3, 0] rfl (s_Pg_run_L2 (s_Pg_run_b25) FU γ a1 0 ha1 (by decide))
theorem d_Pg_store_0 : decode b_Pg_store 0 = .ok (.aload_n 0, 1) := by decide +kernel
theorem d_Pg_store_1 : decode b_Pg_store 1 = .ok (.getfield 28, 3) := by decide +kernel
theorem d_Pg_store_4 : decode b_Pg_store 4 = .ok (.iconst 0, 1) := by decide +kernel
theorem d_Pg_store_5 : decode b_Pg_store 5 = .ok (.aload_n 0, 1) := by decide +kernel
theorem d_Pg_store_6 : decode b_Pg_store 6 = .ok (.getfield 31, 3) := by decide +kernel
theorem d_Pg_store_9 : decode b_Pg_store 9 = .ok (.iconst 0, 1) := by decide +kernel
theorem d_Pg_store_10 : decode b_Pg_store 10 = .ok (.aload_n 0, 1) := by decide +kernel
theorem d_Pg_store_11 : decode b_Pg_store 11 = .ok (.getfield 49, 3) := by decide +kernel
theorem d_Pg_store_14 : decode b_Pg_store 14 = .ok (.getfield 70, 3) := by decide +kernel
theorem d_Pg_store_17 : decode b_Pg_store 17 = .ok (.invokestatic 150, 3) := by decide +kernel
theorem d_Pg_store_20 : decode b_Pg_store 20 = .ok (.aload_n 0, 1) := by decide +kernel
theorem d_Pg_store_21 : decode b_Pg_store 21 = .ok (.getfield 9, 3) := by decide +kernel
theorem d_Pg_store_24 : decode b_Pg_store 24 = .ok (.iconst 0, 1) := by decide +kernel
theorem d_Pg_store_25 : decode b_Pg_store 25 = .ok (.aload_n 0, 1) := by decide +kernel
theorem d_Pg_store_26 : decode b_Pg_store 26 = .ok (.getfield 15, 3) := by decide +kernel
theorem d_Pg_store_29 : decode b_Pg_store 29 = .ok (.iconst 0, 1) := by decide +kernel
theorem d_Pg_store_30 : decode b_Pg_store 30 = .ok (.aload_n 0, 1) := by decide +kernel
theorem d_Pg_store_31 : decode b_Pg_store 31 = .ok (.getfield 61, 3) := by decide +kernel
theorem d_Pg_store_34 : decode b_Pg_store 34 = .ok (.invokestatic 150, 3) := by decide +kernel
theorem d_Pg_store_37 : decode b_Pg_store 37 = .ok (.return_, 1) := by decide +kernel
abbrev mt_Pg_store : MT := (R_Pg, b_Pg_store, 1, none)
theorem vf_Pg_store : VF y_Pg_store mt_Pg_store 8 0 := ⟨im_Pg_store, se_Pg_store, in_Pg, co_Pg_store, by decide +kernel, _, _, rfl⟩
def f_Pg_store (γ : St) : Option (Int × St) :=
  chk (0 ≤ (γ 8 11) ∧ (γ 8 11) ≤ 6000 ∧ (γ 8 11) ≤ 6000) (ap (cpA γ 81 82 (γ 8 11)) fun γ5 =>
  chk (0 ≤ (γ5 11 5) ∧ (γ5 11 5) ≤ 99 ∧ (γ5 11 5) ≤ 99) (ap (cpA γ5 76 77 (γ5 11 5)) fun γ9 =>
  some (0, γ9)))
set_option maxHeartbeats 4000000 in
theorem c_Pg_store {Γ : Ctx} (γ : St) : NC Γ BS y_Pg_store mt_Pg_store 6 240 [vR Γ 11] γ (f_Pg_store γ) := by
  refine nc_of (by decide) rfl (Nat.le_of_ble_eq_true rfl) ?_
  show SB Γ BS mt_Pg_store (RmN 6 240) 0 0 (KN Γ BS mt_Pg_store.2.2.2) 0 [(0, vR Γ 11)] [] γ _
  unfold f_Pg_store
  refine sb_aload_n 0 d_Pg_store_0 rfl ?_
  refine g_Pg_28 d_Pg_store_1 ?_
  refine sb_iconst d_Pg_store_4 ?_
  refine sb_aload_n 0 d_Pg_store_5 rfl ?_
  refine g_Pg_31 d_Pg_store_6 ?_
  refine sb_iconst d_Pg_store_9 ?_
  refine sb_aload_n 0 d_Pg_store_10 rfl ?_
  refine g_Pg_49 d_Pg_store_11 ?_
  refine g_Pg_70 d_Pg_store_14 (fun c4 => ?_)
  refine sb_cpI rfl rfl rfl rfl (by decide) ml_Pg_150 ⟨by decide, by decide⟩ d_Pg_store_17 (fun γ5 => ?_)
  refine sb_aload_n 0 d_Pg_store_20 rfl ?_
  refine g_Pg_9 d_Pg_store_21 ?_
  refine sb_iconst d_Pg_store_24 ?_
  refine sb_aload_n 0 d_Pg_store_25 rfl ?_
  refine g_Pg_15 d_Pg_store_26 ?_
  refine sb_iconst d_Pg_store_29 ?_
  refine sb_aload_n 0 d_Pg_store_30 rfl ?_
  refine g_Pg_61 d_Pg_store_31 (fun c8 => ?_)
  refine sb_cpL rfl rfl rfl rfl (by decide) ml_Pg_150 ⟨by decide, by decide⟩ d_Pg_store_34 (fun γ9 => ?_)
  exact sn_v rfl d_Pg_store_37
theorem d_Pg_recall_0 : decode b_Pg_recall 0 = .ok (.aload_n 0, 1) := by decide +kernel
theorem d_Pg_recall_1 : decode b_Pg_recall 1 = .ok (.getfield 31, 3) := by decide +kernel
theorem d_Pg_recall_4 : decode b_Pg_recall 4 = .ok (.iconst 0, 1) := by decide +kernel
theorem d_Pg_recall_5 : decode b_Pg_recall 5 = .ok (.aload_n 0, 1) := by decide +kernel
theorem d_Pg_recall_6 : decode b_Pg_recall 6 = .ok (.getfield 28, 3) := by decide +kernel
theorem d_Pg_recall_9 : decode b_Pg_recall 9 = .ok (.iconst 0, 1) := by decide +kernel
theorem d_Pg_recall_10 : decode b_Pg_recall 10 = .ok (.aload_n 0, 1) := by decide +kernel
theorem d_Pg_recall_11 : decode b_Pg_recall 11 = .ok (.getfield 49, 3) := by decide +kernel
theorem d_Pg_recall_14 : decode b_Pg_recall 14 = .ok (.getfield 70, 3) := by decide +kernel
theorem d_Pg_recall_17 : decode b_Pg_recall 17 = .ok (.invokestatic 150, 3) := by decide +kernel
theorem d_Pg_recall_20 : decode b_Pg_recall 20 = .ok (.aload_n 0, 1) := by decide +kernel
theorem d_Pg_recall_21 : decode b_Pg_recall 21 = .ok (.getfield 15, 3) := by decide +kernel
theorem d_Pg_recall_24 : decode b_Pg_recall 24 = .ok (.iconst 0, 1) := by decide +kernel
theorem d_Pg_recall_25 : decode b_Pg_recall 25 = .ok (.aload_n 0, 1) := by decide +kernel
theorem d_Pg_recall_26 : decode b_Pg_recall 26 = .ok (.getfield 9, 3) := by decide +kernel
theorem d_Pg_recall_29 : decode b_Pg_recall 29 = .ok (.iconst 0, 1) := by decide +kernel
theorem d_Pg_recall_30 : decode b_Pg_recall 30 = .ok (.aload_n 0, 1) := by decide +kernel
theorem d_Pg_recall_31 : decode b_Pg_recall 31 = .ok (.getfield 61, 3) := by decide +kernel
theorem d_Pg_recall_34 : decode b_Pg_recall 34 = .ok (.invokestatic 150, 3) := by decide +kernel
theorem d_Pg_recall_37 : decode b_Pg_recall 37 = .ok (.return_, 1) := by decide +kernel
abbrev mt_Pg_recall : MT := (R_Pg, b_Pg_recall, 1, none)
theorem vf_Pg_recall : VF y_Pg_recall mt_Pg_recall 8 0 := ⟨im_Pg_recall, se_Pg_recall, in_Pg, co_Pg_recall, by decide +kernel, _, _, rfl⟩
def f_Pg_recall (γ : St) : Option (Int × St) :=
  chk (0 ≤ (γ 8 11) ∧ (γ 8 11) ≤ 6000 ∧ (γ 8 11) ≤ 6000) (ap (cpA γ 82 81 (γ 8 11)) fun γ5 =>
  chk (0 ≤ (γ5 11 5) ∧ (γ5 11 5) ≤ 99 ∧ (γ5 11 5) ≤ 99) (ap (cpA γ5 77 76 (γ5 11 5)) fun γ9 =>
  some (0, γ9)))
set_option maxHeartbeats 4000000 in
theorem c_Pg_recall {Γ : Ctx} (γ : St) : NC Γ BS y_Pg_recall mt_Pg_recall 6 240 [vR Γ 11] γ (f_Pg_recall γ) := by
  refine nc_of (by decide) rfl (Nat.le_of_ble_eq_true rfl) ?_
  show SB Γ BS mt_Pg_recall (RmN 6 240) 0 0 (KN Γ BS mt_Pg_recall.2.2.2) 0 [(0, vR Γ 11)] [] γ _
  unfold f_Pg_recall
  refine sb_aload_n 0 d_Pg_recall_0 rfl ?_
  refine g_Pg_31 d_Pg_recall_1 ?_
  refine sb_iconst d_Pg_recall_4 ?_
  refine sb_aload_n 0 d_Pg_recall_5 rfl ?_
  refine g_Pg_28 d_Pg_recall_6 ?_
  refine sb_iconst d_Pg_recall_9 ?_
  refine sb_aload_n 0 d_Pg_recall_10 rfl ?_
  refine g_Pg_49 d_Pg_recall_11 ?_
  refine g_Pg_70 d_Pg_recall_14 (fun c4 => ?_)
  refine sb_cpI rfl rfl rfl rfl (by decide) ml_Pg_150 ⟨by decide, by decide⟩ d_Pg_recall_17 (fun γ5 => ?_)
  refine sb_aload_n 0 d_Pg_recall_20 rfl ?_
  refine g_Pg_15 d_Pg_recall_21 ?_
  refine sb_iconst d_Pg_recall_24 ?_
  refine sb_aload_n 0 d_Pg_recall_25 rfl ?_
  refine g_Pg_9 d_Pg_recall_26 ?_
  refine sb_iconst d_Pg_recall_29 ?_
  refine sb_aload_n 0 d_Pg_recall_30 rfl ?_
  refine g_Pg_61 d_Pg_recall_31 (fun c8 => ?_)
  refine sb_cpL rfl rfl rfl rfl (by decide) ml_Pg_150 ⟨by decide, by decide⟩ d_Pg_recall_34 (fun γ9 => ?_)
  exact sn_v rfl d_Pg_recall_37
