/-! the class as functions: nodes read, types, clocks -/
theorem d_Nr_readNodeName_0 : decode b_Nr_readNodeName 0 = .ok (.aload_n 0, 1) := by decide +kernel
theorem d_Nr_readNodeName_1 : decode b_Nr_readNodeName 1 = .ok (.getfield 9, 3) := by decide +kernel
theorem d_Nr_readNodeName_4 : decode b_Nr_readNodeName 4 = .ok (.invokevirtual 39, 3) := by decide +kernel
theorem d_Nr_readNodeName_7 : decode b_Nr_readNodeName 7 = .ok (.iconst 2, 1) := by decide +kernel
theorem d_Nr_readNodeName_8 : decode b_Nr_readNodeName 8 = .ok (.if_icmp .eq 12, 3) := by decide +kernel
theorem d_Nr_readNodeName_11 : decode b_Nr_readNodeName 11 = .ok (.aload_n 0, 1) := by decide +kernel
theorem d_Nr_readNodeName_12 : decode b_Nr_readNodeName 12 = .ok (.getfield 9, 3) := by decide +kernel
theorem d_Nr_readNodeName_15 : decode b_Nr_readNodeName 15 = .ok (.iconst 1, 1) := by decide +kernel
theorem d_Nr_readNodeName_16 : decode b_Nr_readNodeName 16 = .ok (.invokevirtual 51, 3) := by decide +kernel
theorem d_Nr_readNodeName_19 : decode b_Nr_readNodeName 19 = .ok (.ireturn, 1) := by decide +kernel
theorem d_Nr_readNodeName_20 : decode b_Nr_readNodeName 20 = .ok (.aload_n 0, 1) := by decide +kernel
theorem d_Nr_readNodeName_21 : decode b_Nr_readNodeName 21 = .ok (.getfield 9, 3) := by decide +kernel
theorem d_Nr_readNodeName_24 : decode b_Nr_readNodeName 24 = .ok (.invokevirtual 101, 3) := by decide +kernel
theorem d_Nr_readNodeName_27 : decode b_Nr_readNodeName 27 = .ok (.istore_n 1, 1) := by decide +kernel
theorem d_Nr_readNodeName_28 : decode b_Nr_readNodeName 28 = .ok (.aload_n 0, 1) := by decide +kernel
theorem d_Nr_readNodeName_29 : decode b_Nr_readNodeName 29 = .ok (.getfield 9, 3) := by decide +kernel
theorem d_Nr_readNodeName_32 : decode b_Nr_readNodeName 32 = .ok (.getfield 85, 3) := by decide +kernel
theorem d_Nr_readNodeName_35 : decode b_Nr_readNodeName 35 = .ok (.getfield 89, 3) := by decide +kernel
theorem d_Nr_readNodeName_38 : decode b_Nr_readNodeName 38 = .ok (.iload_n 1, 1) := by decide +kernel
theorem d_Nr_readNodeName_39 : decode b_Nr_readNodeName 39 = .ok (.iaload, 1) := by decide +kernel
theorem d_Nr_readNodeName_40 : decode b_Nr_readNodeName 40 = .ok (.ifCond .eq 12, 3) := by decide +kernel
theorem d_Nr_readNodeName_43 : decode b_Nr_readNodeName 43 = .ok (.aload_n 0, 1) := by decide +kernel
theorem d_Nr_readNodeName_44 : decode b_Nr_readNodeName 44 = .ok (.getfield 9, 3) := by decide +kernel
theorem d_Nr_readNodeName_47 : decode b_Nr_readNodeName 47 = .ok (.iconst 2, 1) := by decide +kernel
theorem d_Nr_readNodeName_48 : decode b_Nr_readNodeName 48 = .ok (.invokevirtual 51, 3) := by decide +kernel
theorem d_Nr_readNodeName_51 : decode b_Nr_readNodeName 51 = .ok (.ireturn, 1) := by decide +kernel
theorem d_Nr_readNodeName_52 : decode b_Nr_readNodeName 52 = .ok (.aload_n 0, 1) := by decide +kernel
theorem d_Nr_readNodeName_53 : decode b_Nr_readNodeName 53 = .ok (.getfield 15, 3) := by decide +kernel
theorem d_Nr_readNodeName_56 : decode b_Nr_readNodeName 56 = .ok (.iload_n 1, 1) := by decide +kernel
theorem d_Nr_readNodeName_57 : decode b_Nr_readNodeName 57 = .ok (.aload_n 0, 1) := by decide +kernel
theorem d_Nr_readNodeName_58 : decode b_Nr_readNodeName 58 = .ok (.getfield 19, 3) := by decide +kernel
theorem d_Nr_readNodeName_61 : decode b_Nr_readNodeName 61 = .ok (.getfield 104, 3) := by decide +kernel
theorem d_Nr_readNodeName_64 : decode b_Nr_readNodeName 64 = .ok (.invokevirtual 109, 3) := by decide +kernel
theorem d_Nr_readNodeName_67 : decode b_Nr_readNodeName 67 = .ok (.aload_n 0, 1) := by decide +kernel
theorem d_Nr_readNodeName_68 : decode b_Nr_readNodeName 68 = .ok (.getfield 9, 3) := by decide +kernel
theorem d_Nr_readNodeName_71 : decode b_Nr_readNodeName 71 = .ok (.invokevirtual 98, 3) := by decide +kernel
theorem d_Nr_readNodeName_74 : decode b_Nr_readNodeName 74 = .ok (.iconst 1, 1) := by decide +kernel
theorem d_Nr_readNodeName_75 : decode b_Nr_readNodeName 75 = .ok (.ireturn, 1) := by decide +kernel
abbrev mt_Nr_readNodeName : MT := (R_Nr, b_Nr_readNodeName, 2, some .boolean)
theorem vf_Nr_readNodeName : VF y_Nr_readNodeName mt_Nr_readNodeName 5 0 := ⟨im_Nr_readNodeName, se_Nr_readNodeName, in_Nr, co_Nr_readNodeName, by decide +kernel, _, _, rfl⟩
def f_Nr_readNodeName (γ : St) : Option (Int × St) :=
  bndN (f_Tk_kindNow γ) fun r2 γ3 =>
  if r2 = 2 then
  (bndN (f_Tk_itemNow γ3) fun r5 γ6 =>
  chk (inb r5 5923) (if (γ6 23 r5) = 0 then
  (bndN (f_Nd_open γ6 r5 (γ6 4 10)) fun _ γ15 =>
  bndN (f_Tk_step γ15) fun _ γ18 =>
  some (1, γ18))
  else
  (bndN (f_Tk_fail γ6 2) fun r20 γ21 =>
  some (r20, γ21))))
  else
  (bndN (f_Tk_fail γ3 1) fun r23 γ24 =>
  some (r23, γ24))
set_option maxHeartbeats 4000000 in
theorem c_Nr_readNodeName {Γ : Ctx} (γ : St) : NC Γ BS y_Nr_readNodeName mt_Nr_readNodeName 7 262 [vR Γ 5] γ (f_Nr_readNodeName γ) := by
  refine nc_of (by decide) rfl (Nat.le_of_ble_eq_true rfl) ?_
  show SB Γ BS mt_Nr_readNodeName (RmN 7 262) 0 0 (KN Γ BS mt_Nr_readNodeName.2.2.2) 0 [(0, vR Γ 5)] [] γ _
  unfold f_Nr_readNodeName
  refine sb_aload_n 0 d_Nr_readNodeName_0 rfl ?_
  refine g_Nr_9 d_Nr_readNodeName_1 ?_
  refine sb_cVi vf_Tk_kindNow (c_Tk_kindNow γ  ) rfl ml_Nr_39 (As := []) rfl rfl (Nat.le_of_ble_eq_true rfl) ⟨by decide, by decide⟩ d_Nr_readNodeName_4 (fun r2 γ3 hr2 => ?_)
  refine sb_iconst d_Nr_readNodeName_7 ?_
  refine sb_icmp_eq 20 hr2 (by decide) d_Nr_readNodeName_8 (by decide) (fun _ => ?_) (fun _ => ?_)
  · refine sb_aload_n 0 d_Nr_readNodeName_20 rfl ?_
    refine g_Nr_9 d_Nr_readNodeName_21 ?_
    refine sb_cVi vf_Tk_itemNow (c_Tk_itemNow γ3  ) rfl ml_Nr_101 (As := []) rfl rfl (Nat.le_of_ble_eq_true rfl) ⟨by decide, by decide⟩ d_Nr_readNodeName_24 (fun r5 γ6 hr5 => ?_)
    refine sb_istore_n [(1, vI r5), (0, vR Γ 5)] d_Nr_readNodeName_27 (by decide) rfl ?_
    refine sb_aload_n 1 d_Nr_readNodeName_28 rfl ?_
    refine g_Nr_9 d_Nr_readNodeName_29 ?_
    refine g_Nr_85 d_Nr_readNodeName_32 ?_
    refine g_Nr_89 d_Nr_readNodeName_35 ?_
    refine sb_iload_n 0 d_Nr_readNodeName_38 rfl ?_
    refine al_S_23 d_Nr_readNodeName_39 (fun _ c10 => ?_)
    refine sb_if_eq 52 c10 d_Nr_readNodeName_40 (by decide) (fun _ => ?_) (fun _ => ?_)
    · refine sb_aload_n 1 d_Nr_readNodeName_52 rfl ?_
      refine g_Nr_15 d_Nr_readNodeName_53 ?_
      refine sb_iload_n 0 d_Nr_readNodeName_56 rfl ?_
      refine sb_aload_n 1 d_Nr_readNodeName_57 rfl ?_
      refine g_Nr_19 d_Nr_readNodeName_58 ?_
      refine g_Nr_104 d_Nr_readNodeName_61 (fun c13 => ?_)
      refine sb_cVv vf_Nd_open (c_Nd_open γ6 r5 (γ6 4 10) hr5 c13) rfl ml_Nr_109 (As := [vI r5, vI (γ6 4 10)]) rfl rfl (Nat.le_of_ble_eq_true rfl) ⟨by decide, by decide⟩ d_Nr_readNodeName_64 (fun _ γ15 => ?_)
      refine sb_aload_n 1 d_Nr_readNodeName_67 rfl ?_
      refine g_Nr_9 d_Nr_readNodeName_68 ?_
      refine sb_cVv vf_Tk_step (c_Tk_step γ15  ) rfl ml_Nr_98 (As := []) rfl rfl (Nat.le_of_ble_eq_true rfl) ⟨by decide, by decide⟩ d_Nr_readNodeName_71 (fun _ γ18 => ?_)
      refine sb_iconst d_Nr_readNodeName_74 ?_
      exact sn_z rfl (by decide) d_Nr_readNodeName_75
    · refine sb_aload_n 1 d_Nr_readNodeName_43 rfl ?_
      refine g_Nr_9 d_Nr_readNodeName_44 ?_
      refine sb_iconst d_Nr_readNodeName_47 ?_
      refine sb_cVz vf_Tk_fail (c_Tk_fail γ6 2 (by decide)) rfl ml_Nr_51 (As := [vI 2]) rfl rfl (Nat.le_of_ble_eq_true rfl) ⟨by decide, by decide⟩ d_Nr_readNodeName_48 (fun r20 γ21 hr20 => ?_)
      exact sn_z rfl hr20 d_Nr_readNodeName_51
  · refine sb_aload_n 0 d_Nr_readNodeName_11 rfl ?_
    refine g_Nr_9 d_Nr_readNodeName_12 ?_
    refine sb_iconst d_Nr_readNodeName_15 ?_
    refine sb_cVz vf_Tk_fail (c_Tk_fail γ3 1 (by decide)) rfl ml_Nr_51 (As := [vI 1]) rfl rfl (Nat.le_of_ble_eq_true rfl) ⟨by decide, by decide⟩ d_Nr_readNodeName_16 (fun r23 γ24 hr23 => ?_)
    exact sn_z rfl hr23 d_Nr_readNodeName_19
theorem d_Nr_readNewName_0 : decode b_Nr_readNewName 0 = .ok (.aload_n 0, 1) := by decide +kernel
theorem d_Nr_readNewName_1 : decode b_Nr_readNewName 1 = .ok (.getfield 9, 3) := by decide +kernel
theorem d_Nr_readNewName_4 : decode b_Nr_readNewName 4 = .ok (.invokevirtual 39, 3) := by decide +kernel
theorem d_Nr_readNewName_7 : decode b_Nr_readNewName 7 = .ok (.iconst 2, 1) := by decide +kernel
theorem d_Nr_readNewName_8 : decode b_Nr_readNewName 8 = .ok (.if_icmp .eq 12, 3) := by decide +kernel
theorem d_Nr_readNewName_11 : decode b_Nr_readNewName 11 = .ok (.aload_n 0, 1) := by decide +kernel
theorem d_Nr_readNewName_12 : decode b_Nr_readNewName 12 = .ok (.getfield 9, 3) := by decide +kernel
theorem d_Nr_readNewName_15 : decode b_Nr_readNewName 15 = .ok (.iconst 1, 1) := by decide +kernel
theorem d_Nr_readNewName_16 : decode b_Nr_readNewName 16 = .ok (.invokevirtual 51, 3) := by decide +kernel
theorem d_Nr_readNewName_19 : decode b_Nr_readNewName 19 = .ok (.ireturn, 1) := by decide +kernel
theorem d_Nr_readNewName_20 : decode b_Nr_readNewName 20 = .ok (.aload_n 0, 1) := by decide +kernel
theorem d_Nr_readNewName_21 : decode b_Nr_readNewName 21 = .ok (.getfield 9, 3) := by decide +kernel
theorem d_Nr_readNewName_24 : decode b_Nr_readNewName 24 = .ok (.invokevirtual 101, 3) := by decide +kernel
theorem d_Nr_readNewName_27 : decode b_Nr_readNewName 27 = .ok (.istore_n 1, 1) := by decide +kernel
theorem d_Nr_readNewName_28 : decode b_Nr_readNewName 28 = .ok (.aload_n 0, 1) := by decide +kernel
theorem d_Nr_readNewName_29 : decode b_Nr_readNewName 29 = .ok (.getfield 9, 3) := by decide +kernel
theorem d_Nr_readNewName_32 : decode b_Nr_readNewName 32 = .ok (.getfield 85, 3) := by decide +kernel
theorem d_Nr_readNewName_35 : decode b_Nr_readNewName 35 = .ok (.getfield 143, 3) := by decide +kernel
theorem d_Nr_readNewName_38 : decode b_Nr_readNewName 38 = .ok (.iload_n 1, 1) := by decide +kernel
theorem d_Nr_readNewName_39 : decode b_Nr_readNewName 39 = .ok (.iaload, 1) := by decide +kernel
theorem d_Nr_readNewName_40 : decode b_Nr_readNewName 40 = .ok (.aload_n 0, 1) := by decide +kernel
theorem d_Nr_readNewName_41 : decode b_Nr_readNewName 41 = .ok (.getfield 15, 3) := by decide +kernel
theorem d_Nr_readNewName_44 : decode b_Nr_readNewName 44 = .ok (.getfield 45, 3) := by decide +kernel
theorem d_Nr_readNewName_47 : decode b_Nr_readNewName 47 = .ok (.iconst 1, 1) := by decide +kernel
theorem d_Nr_readNewName_48 : decode b_Nr_readNewName 48 = .ok (.iadd, 1) := by decide +kernel
theorem d_Nr_readNewName_49 : decode b_Nr_readNewName 49 = .ok (.if_icmp .ne 12, 3) := by decide +kernel
theorem d_Nr_readNewName_52 : decode b_Nr_readNewName 52 = .ok (.aload_n 0, 1) := by decide +kernel
theorem d_Nr_readNewName_53 : decode b_Nr_readNewName 53 = .ok (.getfield 9, 3) := by decide +kernel
theorem d_Nr_readNewName_56 : decode b_Nr_readNewName 56 = .ok (.iconst 2, 1) := by decide +kernel
theorem d_Nr_readNewName_57 : decode b_Nr_readNewName 57 = .ok (.invokevirtual 51, 3) := by decide +kernel
theorem d_Nr_readNewName_60 : decode b_Nr_readNewName 60 = .ok (.ireturn, 1) := by decide +kernel
theorem d_Nr_readNewName_61 : decode b_Nr_readNewName 61 = .ok (.aload_n 0, 1) := by decide +kernel
theorem d_Nr_readNewName_62 : decode b_Nr_readNewName 62 = .ok (.getfield 15, 3) := by decide +kernel
theorem d_Nr_readNewName_65 : decode b_Nr_readNewName 65 = .ok (.getfield 119, 3) := by decide +kernel
theorem d_Nr_readNewName_68 : decode b_Nr_readNewName 68 = .ok (.aload_n 0, 1) := by decide +kernel
theorem d_Nr_readNewName_69 : decode b_Nr_readNewName 69 = .ok (.getfield 15, 3) := by decide +kernel
theorem d_Nr_readNewName_72 : decode b_Nr_readNewName 72 = .ok (.getfield 45, 3) := by decide +kernel
theorem d_Nr_readNewName_75 : decode b_Nr_readNewName 75 = .ok (.iaload, 1) := by decide +kernel
theorem d_Nr_readNewName_76 : decode b_Nr_readNewName 76 = .ok (.bipush 99, 2) := by decide +kernel
theorem d_Nr_readNewName_78 : decode b_Nr_readNewName 78 = .ok (.if_icmp .ne 12, 3) := by decide +kernel
theorem d_Nr_readNewName_81 : decode b_Nr_readNewName 81 = .ok (.aload_n 0, 1) := by decide +kernel
theorem d_Nr_readNewName_82 : decode b_Nr_readNewName 82 = .ok (.getfield 9, 3) := by decide +kernel
theorem d_Nr_readNewName_85 : decode b_Nr_readNewName 85 = .ok (.iconst 3, 1) := by decide +kernel
theorem d_Nr_readNewName_86 : decode b_Nr_readNewName 86 = .ok (.invokevirtual 51, 3) := by decide +kernel
theorem d_Nr_readNewName_89 : decode b_Nr_readNewName 89 = .ok (.ireturn, 1) := by decide +kernel
theorem d_Nr_readNewName_90 : decode b_Nr_readNewName 90 = .ok (.aload_n 0, 1) := by decide +kernel
theorem d_Nr_readNewName_91 : decode b_Nr_readNewName 91 = .ok (.getfield 9, 3) := by decide +kernel
theorem d_Nr_readNewName_94 : decode b_Nr_readNewName 94 = .ok (.getfield 85, 3) := by decide +kernel
theorem d_Nr_readNewName_97 : decode b_Nr_readNewName 97 = .ok (.getfield 143, 3) := by decide +kernel
theorem d_Nr_readNewName_100 : decode b_Nr_readNewName 100 = .ok (.iload_n 1, 1) := by decide +kernel
theorem d_Nr_readNewName_101 : decode b_Nr_readNewName 101 = .ok (.aload_n 0, 1) := by decide +kernel
theorem d_Nr_readNewName_102 : decode b_Nr_readNewName 102 = .ok (.getfield 15, 3) := by decide +kernel
theorem d_Nr_readNewName_105 : decode b_Nr_readNewName 105 = .ok (.getfield 45, 3) := by decide +kernel
theorem d_Nr_readNewName_108 : decode b_Nr_readNewName 108 = .ok (.iconst 1, 1) := by decide +kernel
theorem d_Nr_readNewName_109 : decode b_Nr_readNewName 109 = .ok (.iadd, 1) := by decide +kernel
theorem d_Nr_readNewName_110 : decode b_Nr_readNewName 110 = .ok (.iastore, 1) := by decide +kernel
theorem d_Nr_readNewName_111 : decode b_Nr_readNewName 111 = .ok (.aload_n 0, 1) := by decide +kernel
theorem d_Nr_readNewName_112 : decode b_Nr_readNewName 112 = .ok (.getfield 9, 3) := by decide +kernel
theorem d_Nr_readNewName_115 : decode b_Nr_readNewName 115 = .ok (.getfield 85, 3) := by decide +kernel
theorem d_Nr_readNewName_118 : decode b_Nr_readNewName 118 = .ok (.getfield 146, 3) := by decide +kernel
theorem d_Nr_readNewName_121 : decode b_Nr_readNewName 121 = .ok (.iload_n 1, 1) := by decide +kernel
theorem d_Nr_readNewName_122 : decode b_Nr_readNewName 122 = .ok (.aload_n 0, 1) := by decide +kernel
theorem d_Nr_readNewName_123 : decode b_Nr_readNewName 123 = .ok (.getfield 15, 3) := by decide +kernel
theorem d_Nr_readNewName_126 : decode b_Nr_readNewName 126 = .ok (.invokevirtual 149, 3) := by decide +kernel
theorem d_Nr_readNewName_129 : decode b_Nr_readNewName 129 = .ok (.iastore, 1) := by decide +kernel
theorem d_Nr_readNewName_130 : decode b_Nr_readNewName 130 = .ok (.aload_n 0, 1) := by decide +kernel
theorem d_Nr_readNewName_131 : decode b_Nr_readNewName 131 = .ok (.getfield 9, 3) := by decide +kernel
theorem d_Nr_readNewName_134 : decode b_Nr_readNewName 134 = .ok (.invokevirtual 98, 3) := by decide +kernel
theorem d_Nr_readNewName_137 : decode b_Nr_readNewName 137 = .ok (.iconst 1, 1) := by decide +kernel
theorem d_Nr_readNewName_138 : decode b_Nr_readNewName 138 = .ok (.ireturn, 1) := by decide +kernel
abbrev mt_Nr_readNewName : MT := (R_Nr, b_Nr_readNewName, 2, some .boolean)
theorem vf_Nr_readNewName : VF y_Nr_readNewName mt_Nr_readNewName 5 0 := ⟨im_Nr_readNewName, se_Nr_readNewName, in_Nr, co_Nr_readNewName, by decide +kernel, _, _, rfl⟩
def f_Nr_readNewName (γ : St) : Option (Int × St) :=
  bndN (f_Tk_kindNow γ) fun r2 γ3 =>
  if r2 = 2 then
  (bndN (f_Tk_itemNow γ3) fun r5 γ6 =>
  chk (inb r5 5923) (chk (i32 ((γ6 3 9) + 1)) (if (γ6 22 r5) ≠ ((γ6 3 9) + 1) then
  (chk (inb (γ6 3 9) 59) (if (γ6 28 (γ6 3 9)) ≠ 99 then
  (chk (i32 ((γ6 3 9) + 1)) (chk (inb r5 5923) (ap (setA γ6 22 r5 ((γ6 3 9) + 1)) fun γ25 =>
  bndN (f_Nd_declare γ25) fun r30 γ31 =>
  chk (inb r5 5923) (ap (setA γ31 21 r5 r30) fun γ32 =>
  bndN (f_Tk_step γ32) fun _ γ35 =>
  some (1, γ35)))))
  else
  (bndN (f_Tk_fail γ6 3) fun r37 γ38 =>
  some (r37, γ38))))
  else
  (bndN (f_Tk_fail γ6 2) fun r40 γ41 =>
  some (r40, γ41)))))
  else
  (bndN (f_Tk_fail γ3 1) fun r43 γ44 =>
  some (r43, γ44))
set_option maxHeartbeats 4000000 in
theorem c_Nr_readNewName {Γ : Ctx} (γ : St) : NC Γ BS y_Nr_readNewName mt_Nr_readNewName 7 261 [vR Γ 5] γ (f_Nr_readNewName γ) := by
  refine nc_of (by decide) rfl (Nat.le_of_ble_eq_true rfl) ?_
  show SB Γ BS mt_Nr_readNewName (RmN 7 261) 0 0 (KN Γ BS mt_Nr_readNewName.2.2.2) 0 [(0, vR Γ 5)] [] γ _
  unfold f_Nr_readNewName
  refine sb_aload_n 0 d_Nr_readNewName_0 rfl ?_
  refine g_Nr_9 d_Nr_readNewName_1 ?_
  refine sb_cVi vf_Tk_kindNow (c_Tk_kindNow γ  ) rfl ml_Nr_39 (As := []) rfl rfl (Nat.le_of_ble_eq_true rfl) ⟨by decide, by decide⟩ d_Nr_readNewName_4 (fun r2 γ3 hr2 => ?_)
  refine sb_iconst d_Nr_readNewName_7 ?_
  refine sb_icmp_eq 20 hr2 (by decide) d_Nr_readNewName_8 (by decide) (fun _ => ?_) (fun _ => ?_)
  · refine sb_aload_n 0 d_Nr_readNewName_20 rfl ?_
    refine g_Nr_9 d_Nr_readNewName_21 ?_
    refine sb_cVi vf_Tk_itemNow (c_Tk_itemNow γ3  ) rfl ml_Nr_101 (As := []) rfl rfl (Nat.le_of_ble_eq_true rfl) ⟨by decide, by decide⟩ d_Nr_readNewName_24 (fun r5 γ6 hr5 => ?_)
    refine sb_istore_n [(1, vI r5), (0, vR Γ 5)] d_Nr_readNewName_27 (by decide) rfl ?_
    refine sb_aload_n 1 d_Nr_readNewName_28 rfl ?_
    refine g_Nr_9 d_Nr_readNewName_29 ?_
    refine g_Nr_85 d_Nr_readNewName_32 ?_
    refine g_Nr_143 d_Nr_readNewName_35 ?_
    refine sb_iload_n 0 d_Nr_readNewName_38 rfl ?_
    refine al_S_22 d_Nr_readNewName_39 (fun _ c10 => ?_)
    refine sb_aload_n 1 d_Nr_readNewName_40 rfl ?_
    refine g_Nr_15 d_Nr_readNewName_41 ?_
    refine g_Nr_45 d_Nr_readNewName_44 (fun c12 => ?_)
    refine sb_iconst d_Nr_readNewName_47 ?_
    refine sb_iadd d_Nr_readNewName_48 ?_
    refine sb_chk (fun c13 => ?_)
    refine sb_icmp_ne 61 c10 c13 d_Nr_readNewName_49 (by decide) (fun _ => ?_) (fun _ => ?_)
    · refine sb_aload_n 1 d_Nr_readNewName_61 rfl ?_
      refine g_Nr_15 d_Nr_readNewName_62 ?_
      refine g_Nr_119 d_Nr_readNewName_65 ?_
      refine sb_aload_n 1 d_Nr_readNewName_68 rfl ?_
      refine g_Nr_15 d_Nr_readNewName_69 ?_
      refine g_Nr_45 d_Nr_readNewName_72 (fun c17 => ?_)
      refine al_S_28 d_Nr_readNewName_75 (fun _ c18 => ?_)
      refine sb_bipush d_Nr_readNewName_76 (by decide) ?_
      refine sb_icmp_ne 90 c18 (by decide) d_Nr_readNewName_78 (by decide) (fun _ => ?_) (fun _ => ?_)
      · refine sb_aload_n 1 d_Nr_readNewName_90 rfl ?_
        refine g_Nr_9 d_Nr_readNewName_91 ?_
        refine g_Nr_85 d_Nr_readNewName_94 ?_
        refine g_Nr_143 d_Nr_readNewName_97 ?_
        refine sb_iload_n 0 d_Nr_readNewName_100 rfl ?_
        refine sb_aload_n 1 d_Nr_readNewName_101 rfl ?_
        refine g_Nr_15 d_Nr_readNewName_102 ?_
        refine g_Nr_45 d_Nr_readNewName_105 (fun c23 => ?_)
        refine sb_iconst d_Nr_readNewName_108 ?_
        refine sb_iadd d_Nr_readNewName_109 ?_
        refine sb_chk (fun c24 => ?_)
        refine as_S_22 c24 d_Nr_readNewName_110 (fun _ => ?_)
        refine sb_aps (fun γ25 => ?_)
        refine sb_aload_n 1 d_Nr_readNewName_111 rfl ?_
        refine g_Nr_9 d_Nr_readNewName_112 ?_
        refine g_Nr_85 d_Nr_readNewName_115 ?_
        refine g_Nr_146 d_Nr_readNewName_118 ?_
        refine sb_iload_n 0 d_Nr_readNewName_121 rfl ?_
        refine sb_aload_n 1 d_Nr_readNewName_122 rfl ?_
        refine g_Nr_15 d_Nr_readNewName_123 ?_
        refine sb_cVi vf_Nd_declare (c_Nd_declare γ25  ) rfl ml_Nr_149 (As := []) rfl rfl (Nat.le_of_ble_eq_true rfl) ⟨by decide, by decide⟩ d_Nr_readNewName_126 (fun r30 γ31 hr30 => ?_)
        refine as_S_21 hr30 d_Nr_readNewName_129 (fun _ => ?_)
        refine sb_aps (fun γ32 => ?_)
        refine sb_aload_n 1 d_Nr_readNewName_130 rfl ?_
        refine g_Nr_9 d_Nr_readNewName_131 ?_
        refine sb_cVv vf_Tk_step (c_Tk_step γ32  ) rfl ml_Nr_98 (As := []) rfl rfl (Nat.le_of_ble_eq_true rfl) ⟨by decide, by decide⟩ d_Nr_readNewName_134 (fun _ γ35 => ?_)
        refine sb_iconst d_Nr_readNewName_137 ?_
        exact sn_z rfl (by decide) d_Nr_readNewName_138
      · refine sb_aload_n 1 d_Nr_readNewName_81 rfl ?_
        refine g_Nr_9 d_Nr_readNewName_82 ?_
        refine sb_iconst d_Nr_readNewName_85 ?_
        refine sb_cVz vf_Tk_fail (c_Tk_fail γ6 3 (by decide)) rfl ml_Nr_51 (As := [vI 3]) rfl rfl (Nat.le_of_ble_eq_true rfl) ⟨by decide, by decide⟩ d_Nr_readNewName_86 (fun r37 γ38 hr37 => ?_)
        exact sn_z rfl hr37 d_Nr_readNewName_89
    · refine sb_aload_n 1 d_Nr_readNewName_52 rfl ?_
      refine g_Nr_9 d_Nr_readNewName_53 ?_
      refine sb_iconst d_Nr_readNewName_56 ?_
      refine sb_cVz vf_Tk_fail (c_Tk_fail γ6 2 (by decide)) rfl ml_Nr_51 (As := [vI 2]) rfl rfl (Nat.le_of_ble_eq_true rfl) ⟨by decide, by decide⟩ d_Nr_readNewName_57 (fun r40 γ41 hr40 => ?_)
      exact sn_z rfl hr40 d_Nr_readNewName_60
  · refine sb_aload_n 0 d_Nr_readNewName_11 rfl ?_
    refine g_Nr_9 d_Nr_readNewName_12 ?_
    refine sb_iconst d_Nr_readNewName_15 ?_
    refine sb_cVz vf_Tk_fail (c_Tk_fail γ3 1 (by decide)) rfl ml_Nr_51 (As := [vI 1]) rfl rfl (Nat.le_of_ble_eq_true rfl) ⟨by decide, by decide⟩ d_Nr_readNewName_16 (fun r43 γ44 hr43 => ?_)
    exact sn_z rfl hr43 d_Nr_readNewName_19
theorem d_Nr_readType_0 : decode b_Nr_readType 0 = .ok (.aload_n 0, 1) := by decide +kernel
theorem d_Nr_readType_1 : decode b_Nr_readType 1 = .ok (.getfield 9, 3) := by decide +kernel
theorem d_Nr_readType_4 : decode b_Nr_readType 4 = .ok (.invokevirtual 39, 3) := by decide +kernel
theorem d_Nr_readType_7 : decode b_Nr_readType 7 = .ok (.istore_n 2, 1) := by decide +kernel
theorem d_Nr_readType_8 : decode b_Nr_readType 8 = .ok (.iload_n 2, 1) := by decide +kernel
theorem d_Nr_readType_9 : decode b_Nr_readType 9 = .ok (.bipush 25, 2) := by decide +kernel
theorem d_Nr_readType_11 : decode b_Nr_readType 11 = .ok (.if_icmp .eq 18, 3) := by decide +kernel
theorem d_Nr_readType_14 : decode b_Nr_readType 14 = .ok (.iload_n 2, 1) := by decide +kernel
theorem d_Nr_readType_15 : decode b_Nr_readType 15 = .ok (.bipush 26, 2) := by decide +kernel
theorem d_Nr_readType_17 : decode b_Nr_readType 17 = .ok (.if_icmp .eq 12, 3) := by decide +kernel
theorem d_Nr_readType_20 : decode b_Nr_readType 20 = .ok (.aload_n 0, 1) := by decide +kernel
theorem d_Nr_readType_21 : decode b_Nr_readType 21 = .ok (.getfield 9, 3) := by decide +kernel
theorem d_Nr_readType_24 : decode b_Nr_readType 24 = .ok (.iconst 1, 1) := by decide +kernel
theorem d_Nr_readType_25 : decode b_Nr_readType 25 = .ok (.invokevirtual 51, 3) := by decide +kernel
theorem d_Nr_readType_28 : decode b_Nr_readType 28 = .ok (.ireturn, 1) := by decide +kernel
theorem d_Nr_readType_29 : decode b_Nr_readType 29 = .ok (.iload_n 1, 1) := by decide +kernel
theorem d_Nr_readType_30 : decode b_Nr_readType 30 = .ok (.istore_n 3, 1) := by decide +kernel
theorem d_Nr_readType_31 : decode b_Nr_readType 31 = .ok (.iload_n 3, 1) := by decide +kernel
theorem d_Nr_readType_32 : decode b_Nr_readType 32 = .ok (.aload_n 0, 1) := by decide +kernel
theorem d_Nr_readType_33 : decode b_Nr_readType 33 = .ok (.getfield 15, 3) := by decide +kernel
theorem d_Nr_readType_36 : decode b_Nr_readType 36 = .ok (.getfield 134, 3) := by decide +kernel
theorem d_Nr_readType_39 : decode b_Nr_readType 39 = .ok (.if_icmp .ge 29, 3) := by decide +kernel
theorem d_Nr_readType_42 : decode b_Nr_readType 42 = .ok (.aload_n 0, 1) := by decide +kernel
theorem d_Nr_readType_43 : decode b_Nr_readType 43 = .ok (.getfield 15, 3) := by decide +kernel
theorem d_Nr_readType_46 : decode b_Nr_readType 46 = .ok (.getfield 152, 3) := by decide +kernel
theorem d_Nr_readType_49 : decode b_Nr_readType 49 = .ok (.iload_n 3, 1) := by decide +kernel
theorem d_Nr_readType_50 : decode b_Nr_readType 50 = .ok (.iload_n 2, 1) := by decide +kernel
theorem d_Nr_readType_51 : decode b_Nr_readType 51 = .ok (.bipush 26, 2) := by decide +kernel
theorem d_Nr_readType_53 : decode b_Nr_readType 53 = .ok (.if_icmp .ne 7, 3) := by decide +kernel
theorem d_Nr_readType_56 : decode b_Nr_readType 56 = .ok (.iconst 1, 1) := by decide +kernel
theorem d_Nr_readType_57 : decode b_Nr_readType 57 = .ok (.goto 4, 3) := by decide +kernel
theorem d_Nr_readType_60 : decode b_Nr_readType 60 = .ok (.iconst 0, 1) := by decide +kernel
theorem d_Nr_readType_61 : decode b_Nr_readType 61 = .ok (.iastore, 1) := by decide +kernel
theorem d_Nr_readType_62 : decode b_Nr_readType 62 = .ok (.iinc 3 1, 3) := by decide +kernel
theorem d_Nr_readType_65 : decode b_Nr_readType 65 = .ok (.goto (-34), 3) := by decide +kernel
theorem d_Nr_readType_68 : decode b_Nr_readType 68 = .ok (.aload_n 0, 1) := by decide +kernel
theorem d_Nr_readType_69 : decode b_Nr_readType 69 = .ok (.getfield 9, 3) := by decide +kernel
theorem d_Nr_readType_72 : decode b_Nr_readType 72 = .ok (.invokevirtual 98, 3) := by decide +kernel
theorem d_Nr_readType_75 : decode b_Nr_readType 75 = .ok (.iconst 1, 1) := by decide +kernel
theorem d_Nr_readType_76 : decode b_Nr_readType 76 = .ok (.ireturn, 1) := by decide +kernel
abbrev mt_Nr_readType : MT := (R_Nr, b_Nr_readType, 4, some .boolean)
theorem vf_Nr_readType : VF y_Nr_readType mt_Nr_readType 5 1 := ⟨im_Nr_readType, se_Nr_readType, in_Nr, co_Nr_readType, by decide +kernel, _, _, rfl⟩
def f_Nr_readType_b68 (γ : St) : Option (Int × St) :=
  bndN (f_Tk_step γ) fun _ γ3 =>
  some (1, γ3)
def f_Nr_readType_b61 (k31 : St → Int → Int → Option (Int × St)) (e68 : St → Option (Int × St)) (γ : St) (x4 : Int) (x5 : Int) (x6 : Int) (x7 : Int) : Option (Int × St) :=
  chk (inb x7 5841) (ap (setA γ 33 x7 x6) fun γ8 =>
  chk (i32 (x5 + 1)) (k31 γ8 x4 (x5 + 1)))
def f_Nr_readType_L31 (e68 : St → Option (Int × St)) : Nat → St → Int → Int → Option (Int × St)
  | 0, _, _, _ => none
  | n + 1, γ, x12, x13 =>
  if (γ 3 15) ≤ x13 then
  (e68 γ )
  else
  (if x12 ≠ 26 then
  (f_Nr_readType_b61 (f_Nr_readType_L31 e68 n) e68 γ x12 x13 0 x13)
  else
  (f_Nr_readType_b61 (f_Nr_readType_L31 e68 n) e68 γ x12 x13 1 x13))
def f_Nr_readType_b29 (γ : St) (x18 : Int) (x19 : Int) : Option (Int × St) :=
  f_Nr_readType_L31 (f_Nr_readType_b68) FU γ x19 x18
def f_Nr_readType (γ : St) (a0 : Int) : Option (Int × St) :=
  bndN (f_Tk_kindNow γ) fun r21 γ22 =>
  if r21 = 25 then
  (f_Nr_readType_b29 γ22 a0 r21)
  else
  (if r21 = 26 then
  (f_Nr_readType_b29 γ22 a0 r21)
  else
  (bndN (f_Tk_fail γ22 1) fun r24 γ25 =>
  some (r24, γ25)))
set_option maxHeartbeats 4000000 in
theorem s_Nr_readType_b68 {Γ : Ctx} : ∀ (γ : St), SB Γ BS mt_Nr_readType (RmN 7 261) 0 0 (KN Γ BS mt_Nr_readType.2.2.2) 68 [(0, vR Γ 5)] [] γ (f_Nr_readType_b68 γ ) := by
  intro γ
  unfold f_Nr_readType_b68
  refine sb_aload_n 0 d_Nr_readType_68 rfl ?_
  refine g_Nr_9 d_Nr_readType_69 ?_
  refine sb_cVv vf_Tk_step (c_Tk_step γ  ) rfl ml_Nr_98 (As := []) rfl rfl (Nat.le_of_ble_eq_true rfl) ⟨by decide, by decide⟩ d_Nr_readType_72 (fun _ γ3 => ?_)
  refine sb_iconst d_Nr_readType_75 ?_
  exact sn_z rfl (by decide) d_Nr_readType_76
set_option maxHeartbeats 4000000 in
theorem s_Nr_readType_b61 {Γ : Ctx} {k31 : St → Int → Int → Option (Int × St)} {e68 : St → Option (Int × St)} (hk31 : ∀ (γ : St) (x10 : Int) (x11 : Int), i32 x10 → i32 x11 → SB Γ BS mt_Nr_readType (RmN 7 261) 0 0 (KN Γ BS mt_Nr_readType.2.2.2) 31 [(0, vR Γ 5), (2, vI x10), (3, vI x11)] [] γ (k31 γ x10 x11)) (he68 : ∀ (γ : St), SB Γ BS mt_Nr_readType (RmN 7 261) 0 0 (KN Γ BS mt_Nr_readType.2.2.2) 68 [(0, vR Γ 5)] [] γ (e68 γ )) : ∀ (γ : St) (x4 : Int) (x5 : Int) (x6 : Int) (x7 : Int), i32 x4 → i32 x5 → i32 x6 → i32 x7 → SB Γ BS mt_Nr_readType (RmN 7 261) 0 0 (KN Γ BS mt_Nr_readType.2.2.2) 61 [(0, vR Γ 5), (2, vI x4), (3, vI x5)] [vI x6, vI x7, vR Γ 33] γ (f_Nr_readType_b61 k31 e68 γ x4 x5 x6 x7) := by
  intro γ x4 x5 x6 x7 hx4 hx5 hx6 hx7
  unfold f_Nr_readType_b61
  refine as_S_33 hx6 d_Nr_readType_61 (fun _ => ?_)
  refine sb_aps (fun γ8 => ?_)
  refine sb_iinc 2 [(3, vI (x5 + 1)), (0, vR Γ 5), (2, vI x4)] d_Nr_readType_62 rfl (by decide) rfl ?_
  refine sb_chk (fun c9 => ?_)
  refine sb_goto 31 d_Nr_readType_65 (by decide) ?_
  exact sb_lv [1, 2, 0] rfl (hk31 γ8 x4 (x5 + 1) hx4 c9)
set_option maxHeartbeats 4000000 in
theorem s_Nr_readType_L31 {Γ : Ctx} {e68 : St → Option (Int × St)} (he68 : ∀ (γ : St), SB Γ BS mt_Nr_readType (RmN 7 261) 0 0 (KN Γ BS mt_Nr_readType.2.2.2) 68 [(0, vR Γ 5)] [] γ (e68 γ )) : ∀ (n : Nat) (γ : St) (x12 : Int) (x13 : Int), i32 x12 → i32 x13 → SB Γ BS mt_Nr_readType (RmN 7 261) 0 0 (KN Γ BS mt_Nr_readType.2.2.2) 31 [(0, vR Γ 5), (2, vI x12), (3, vI x13)] [] γ (f_Nr_readType_L31 e68 n γ x12 x13) := by
  intro n
  induction n with
  | zero => intros; exact sb_none
  | succ n ih =>
    intro γ x12 x13 hx12 hx13
    unfold f_Nr_readType_L31
    refine sb_iload_n 2 d_Nr_readType_31 rfl ?_
    refine sb_aload_n 0 d_Nr_readType_32 rfl ?_
    refine g_Nr_15 d_Nr_readType_33 ?_
    refine g_Nr_134 d_Nr_readType_36 (fun c15 => ?_)
    refine sb_icmp_ge 68 hx13 c15 d_Nr_readType_39 (by decide) (fun _ => ?_) (fun _ => ?_)
    · exact sb_lv [0] rfl (he68 γ  )
    · refine sb_aload_n 0 d_Nr_readType_42 rfl ?_
      refine g_Nr_15 d_Nr_readType_43 ?_
      refine g_Nr_152 d_Nr_readType_46 ?_
      refine sb_iload_n 2 d_Nr_readType_49 rfl ?_
      refine sb_iload_n 1 d_Nr_readType_50 rfl ?_
      refine sb_bipush d_Nr_readType_51 (by decide) ?_
      refine sb_icmp_ne 60 hx12 (by decide) d_Nr_readType_53 (by decide) (fun _ => ?_) (fun _ => ?_)
      · refine sb_iconst d_Nr_readType_60 ?_
        exact sb_lv [0, 1, 2] rfl (s_Nr_readType_b61 ih he68 γ x12 x13 0 x13 hx12 hx13 (by decide) hx13)
      · refine sb_iconst d_Nr_readType_56 ?_
        refine sb_goto 61 d_Nr_readType_57 (by decide) ?_
        exact sb_lv [0, 1, 2] rfl (s_Nr_readType_b61 ih he68 γ x12 x13 1 x13 hx12 hx13 (by decide) hx13)
set_option maxHeartbeats 4000000 in
theorem s_Nr_readType_b29 {Γ : Ctx} : ∀ (γ : St) (x18 : Int) (x19 : Int), i32 x18 → i32 x19 → SB Γ BS mt_Nr_readType (RmN 7 261) 0 0 (KN Γ BS mt_Nr_readType.2.2.2) 29 [(0, vR Γ 5), (1, vI x18), (2, vI x19)] [] γ (f_Nr_readType_b29 γ x18 x19) := by
  intro γ x18 x19 hx18 hx19
  unfold f_Nr_readType_b29
  refine sb_iload_n 1 d_Nr_readType_29 rfl ?_
  refine sb_istore_n [(3, vI x18), (0, vR Γ 5), (1, vI x18), (2, vI x19)] d_Nr_readType_30 (by decide) rfl ?_
  exact sb_lv [1, 3, 0] rfl (s_Nr_readType_L31 (s_Nr_readType_b68) FU γ x19 x18 hx19 hx18)
set_option maxHeartbeats 4000000 in
theorem c_Nr_readType {Γ : Ctx} (γ : St) (a0 : Int) (ha0 : i32 a0) : NC Γ BS y_Nr_readType mt_Nr_readType 7 261 [vR Γ 5, vI a0] γ (f_Nr_readType γ a0) := by
  refine nc_of (by decide) rfl (Nat.le_of_ble_eq_true rfl) ?_
  show SB Γ BS mt_Nr_readType (RmN 7 261) 0 0 (KN Γ BS mt_Nr_readType.2.2.2) 0 [(0, vR Γ 5), (1, vI a0)] [] γ _
  unfold f_Nr_readType
  refine sb_aload_n 0 d_Nr_readType_0 rfl ?_
  refine g_Nr_9 d_Nr_readType_1 ?_
  refine sb_cVi vf_Tk_kindNow (c_Tk_kindNow γ  ) rfl ml_Nr_39 (As := []) rfl rfl (Nat.le_of_ble_eq_true rfl) ⟨by decide, by decide⟩ d_Nr_readType_4 (fun r21 γ22 hr21 => ?_)
  refine sb_istore_n [(2, vI r21), (0, vR Γ 5), (1, vI a0)] d_Nr_readType_7 (by decide) rfl ?_
  refine sb_iload_n 0 d_Nr_readType_8 rfl ?_
  refine sb_bipush d_Nr_readType_9 (by decide) ?_
  refine sb_icmp_eq 29 hr21 (by decide) d_Nr_readType_11 (by decide) (fun _ => ?_) (fun _ => ?_)
  · exact sb_lv [1, 2, 0] rfl (s_Nr_readType_b29 γ22 a0 r21 ha0 hr21)
  · refine sb_iload_n 0 d_Nr_readType_14 rfl ?_
    refine sb_bipush d_Nr_readType_15 (by decide) ?_
    refine sb_icmp_eq 29 hr21 (by decide) d_Nr_readType_17 (by decide) (fun _ => ?_) (fun _ => ?_)
    · exact sb_lv [1, 2, 0] rfl (s_Nr_readType_b29 γ22 a0 r21 ha0 hr21)
    · refine sb_aload_n 1 d_Nr_readType_20 rfl ?_
      refine g_Nr_9 d_Nr_readType_21 ?_
      refine sb_iconst d_Nr_readType_24 ?_
      refine sb_cVz vf_Tk_fail (c_Tk_fail γ22 1 (by decide)) rfl ml_Nr_51 (As := [vI 1]) rfl rfl (Nat.le_of_ble_eq_true rfl) ⟨by decide, by decide⟩ d_Nr_readType_25 (fun r24 γ25 hr24 => ?_)
      exact sn_z rfl hr24 d_Nr_readType_28
theorem d_Nr_readGroup_0 : decode b_Nr_readGroup 0 = .ok (.aload_n 0, 1) := by decide +kernel
theorem d_Nr_readGroup_1 : decode b_Nr_readGroup 1 = .ok (.getfield 15, 3) := by decide +kernel
theorem d_Nr_readGroup_4 : decode b_Nr_readGroup 4 = .ok (.getfield 134, 3) := by decide +kernel
theorem d_Nr_readGroup_7 : decode b_Nr_readGroup 7 = .ok (.istore_n 1, 1) := by decide +kernel
theorem d_Nr_readGroup_8 : decode b_Nr_readGroup 8 = .ok (.aload_n 0, 1) := by decide +kernel
theorem d_Nr_readGroup_9 : decode b_Nr_readGroup 9 = .ok (.invokevirtual 137, 3) := by decide +kernel
theorem d_Nr_readGroup_12 : decode b_Nr_readGroup 12 = .ok (.istore_n 2, 1) := by decide +kernel
theorem d_Nr_readGroup_13 : decode b_Nr_readGroup 13 = .ok (.iconst 0, 1) := by decide +kernel
theorem d_Nr_readGroup_14 : decode b_Nr_readGroup 14 = .ok (.istore_n 3, 1) := by decide +kernel
theorem d_Nr_readGroup_15 : decode b_Nr_readGroup 15 = .ok (.iload_n 2, 1) := by decide +kernel
theorem d_Nr_readGroup_16 : decode b_Nr_readGroup 16 = .ok (.ifCond .eq 44, 3) := by decide +kernel
theorem d_Nr_readGroup_19 : decode b_Nr_readGroup 19 = .ok (.iload_n 3, 1) := by decide +kernel
theorem d_Nr_readGroup_20 : decode b_Nr_readGroup 20 = .ok (.aload_n 0, 1) := by decide +kernel
theorem d_Nr_readGroup_21 : decode b_Nr_readGroup 21 = .ok (.getfield 9, 3) := by decide +kernel
theorem d_Nr_readGroup_24 : decode b_Nr_readGroup 24 = .ok (.getfield 74, 3) := by decide +kernel
theorem d_Nr_readGroup_27 : decode b_Nr_readGroup 27 = .ok (.if_icmp .ge 33, 3) := by decide +kernel
theorem d_Nr_readGroup_30 : decode b_Nr_readGroup 30 = .ok (.aload_n 0, 1) := by decide +kernel
theorem d_Nr_readGroup_31 : decode b_Nr_readGroup 31 = .ok (.getfield 9, 3) := by decide +kernel
theorem d_Nr_readGroup_34 : decode b_Nr_readGroup 34 = .ok (.invokevirtual 39, 3) := by decide +kernel
theorem d_Nr_readGroup_37 : decode b_Nr_readGroup 37 = .ok (.bipush 8, 2) := by decide +kernel
theorem d_Nr_readGroup_39 : decode b_Nr_readGroup 39 = .ok (.if_icmp .ne 21, 3) := by decide +kernel
theorem d_Nr_readGroup_42 : decode b_Nr_readGroup 42 = .ok (.aload_n 0, 1) := by decide +kernel
theorem d_Nr_readGroup_43 : decode b_Nr_readGroup 43 = .ok (.getfield 9, 3) := by decide +kernel
theorem d_Nr_readGroup_46 : decode b_Nr_readGroup 46 = .ok (.invokevirtual 98, 3) := by decide +kernel
theorem d_Nr_readGroup_49 : decode b_Nr_readGroup 49 = .ok (.aload_n 0, 1) := by decide +kernel
theorem d_Nr_readGroup_50 : decode b_Nr_readGroup 50 = .ok (.invokevirtual 137, 3) := by decide +kernel
theorem d_Nr_readGroup_53 : decode b_Nr_readGroup 53 = .ok (.istore_n 2, 1) := by decide +kernel
theorem d_Nr_readGroup_54 : decode b_Nr_readGroup 54 = .ok (.iinc 3 1, 3) := by decide +kernel
theorem d_Nr_readGroup_57 : decode b_Nr_readGroup 57 = .ok (.goto (-42), 3) := by decide +kernel
theorem d_Nr_readGroup_60 : decode b_Nr_readGroup 60 = .ok (.iload_n 2, 1) := by decide +kernel
theorem d_Nr_readGroup_61 : decode b_Nr_readGroup 61 = .ok (.ifCond .eq 27, 3) := by decide +kernel
theorem d_Nr_readGroup_64 : decode b_Nr_readGroup 64 = .ok (.aload_n 0, 1) := by decide +kernel
theorem d_Nr_readGroup_65 : decode b_Nr_readGroup 65 = .ok (.getfield 9, 3) := by decide +kernel
theorem d_Nr_readGroup_68 : decode b_Nr_readGroup 68 = .ok (.bipush 6, 2) := by decide +kernel
theorem d_Nr_readGroup_70 : decode b_Nr_readGroup 70 = .ok (.invokevirtual 55, 3) := by decide +kernel
theorem d_Nr_readGroup_73 : decode b_Nr_readGroup 73 = .ok (.ifCond .eq 15, 3) := by decide +kernel
theorem d_Nr_readGroup_76 : decode b_Nr_readGroup 76 = .ok (.aload_n 0, 1) := by decide +kernel
theorem d_Nr_readGroup_77 : decode b_Nr_readGroup 77 = .ok (.iload_n 1, 1) := by decide +kernel
theorem d_Nr_readGroup_78 : decode b_Nr_readGroup 78 = .ok (.invokevirtual 140, 3) := by decide +kernel
theorem d_Nr_readGroup_81 : decode b_Nr_readGroup 81 = .ok (.ifCond .eq 7, 3) := by decide +kernel
theorem d_Nr_readGroup_84 : decode b_Nr_readGroup 84 = .ok (.iconst 1, 1) := by decide +kernel
theorem d_Nr_readGroup_85 : decode b_Nr_readGroup 85 = .ok (.goto 4, 3) := by decide +kernel
theorem d_Nr_readGroup_88 : decode b_Nr_readGroup 88 = .ok (.iconst 0, 1) := by decide +kernel
theorem d_Nr_readGroup_89 : decode b_Nr_readGroup 89 = .ok (.ireturn, 1) := by decide +kernel
abbrev mt_Nr_readGroup : MT := (R_Nr, b_Nr_readGroup, 4, some .boolean)
theorem vf_Nr_readGroup : VF y_Nr_readGroup mt_Nr_readGroup 5 0 := ⟨im_Nr_readGroup, se_Nr_readGroup, in_Nr, co_Nr_readGroup, by decide +kernel, _, _, rfl⟩
def f_Nr_readGroup_b60 (γ : St) (x1 : Int) (x2 : Int) : Option (Int × St) :=
  if x2 = 0 then
  (some (0, γ))
  else
  (bndN (f_Tk_expect γ 6) fun r4 γ5 =>
  if r4 = 0 then
  (some (0, γ5))
  else
  (bndN (f_Nr_readType γ5 x1) fun r6 γ7 =>
  if r6 = 0 then
  (some (0, γ7))
  else
  (some (1, γ7))))
def f_Nr_readGroup_L15 (e60 : St → Int → Int → Option (Int × St)) : Nat → St → Int → Int → Int → Option (Int × St)
  | 0, _, _, _, _ => none
  | n + 1, γ, x8, x9, x10 =>
  if x9 = 0 then
  (e60 γ x8 x9)
  else
  (if (γ 1 5) ≤ x10 then
  (e60 γ x8 x9)
  else
  (bndN (f_Tk_kindNow γ) fun r14 γ15 =>
  if r14 ≠ 8 then
  (e60 γ15 x8 x9)
  else
  (bndN (f_Tk_step γ15) fun _ γ18 =>
  bndN (f_Nr_readNewName γ18) fun r19 γ20 =>
  chk (i32 (x10 + 1)) ((f_Nr_readGroup_L15 e60 n) γ20 x8 r19 (x10 + 1)))))
def f_Nr_readGroup (γ : St) : Option (Int × St) :=
  ap (γ 3 15) fun x26 =>
  bndN (f_Nr_readNewName γ) fun r27 γ28 =>
  f_Nr_readGroup_L15 (f_Nr_readGroup_b60) FU γ28 x26 r27 0
set_option maxHeartbeats 4000000 in
theorem s_Nr_readGroup_b60 {Γ : Ctx} : ∀ (γ : St) (x1 : Int) (x2 : Int), i32 x1 → i32 x2 → SB Γ BS mt_Nr_readGroup (RmN 8 284) 0 0 (KN Γ BS mt_Nr_readGroup.2.2.2) 60 [(0, vR Γ 5), (1, vI x1), (2, vI x2)] [] γ (f_Nr_readGroup_b60 γ x1 x2) := by
  intro γ x1 x2 hx1 hx2
  unfold f_Nr_readGroup_b60
  refine sb_iload_n 2 d_Nr_readGroup_60 rfl ?_
  refine sb_if_eq 88 hx2 d_Nr_readGroup_61 (by decide) (fun _ => ?_) (fun _ => ?_)
  · refine sb_iconst d_Nr_readGroup_88 ?_
    exact sn_z rfl (by decide) d_Nr_readGroup_89
  · refine sb_aload_n 0 d_Nr_readGroup_64 rfl ?_
    refine g_Nr_9 d_Nr_readGroup_65 ?_
    refine sb_bipush d_Nr_readGroup_68 (by decide) ?_
    refine sb_cVz vf_Tk_expect (c_Tk_expect γ 6 (by decide)) rfl ml_Nr_55 (As := [vI 6]) rfl rfl (Nat.le_of_ble_eq_true rfl) ⟨by decide, by decide⟩ d_Nr_readGroup_70 (fun r4 γ5 hr4 => ?_)
    refine sb_if_eq 88 (z2i hr4) d_Nr_readGroup_73 (by decide) (fun _ => ?_) (fun _ => ?_)
    · refine sb_iconst d_Nr_readGroup_88 ?_
      exact sn_z rfl (by decide) d_Nr_readGroup_89
    · refine sb_aload_n 0 d_Nr_readGroup_76 rfl ?_
      refine sb_iload_n 1 d_Nr_readGroup_77 rfl ?_
      refine sb_cVz vf_Nr_readType (c_Nr_readType γ5 x1 hx1) rfl ml_Nr_140 (As := [vI x1]) rfl rfl (Nat.le_of_ble_eq_true rfl) ⟨by decide, by decide⟩ d_Nr_readGroup_78 (fun r6 γ7 hr6 => ?_)
      refine sb_if_eq 88 (z2i hr6) d_Nr_readGroup_81 (by decide) (fun _ => ?_) (fun _ => ?_)
      · refine sb_iconst d_Nr_readGroup_88 ?_
        exact sn_z rfl (by decide) d_Nr_readGroup_89
      · refine sb_iconst d_Nr_readGroup_84 ?_
        refine sb_goto 89 d_Nr_readGroup_85 (by decide) ?_
        exact sn_z rfl (by decide) d_Nr_readGroup_89
set_option maxHeartbeats 4000000 in
theorem s_Nr_readGroup_L15 {Γ : Ctx} {e60 : St → Int → Int → Option (Int × St)} (he60 : ∀ (γ : St) (x22 : Int) (x23 : Int), i32 x22 → i32 x23 → SB Γ BS mt_Nr_readGroup (RmN 8 284) 0 0 (KN Γ BS mt_Nr_readGroup.2.2.2) 60 [(0, vR Γ 5), (1, vI x22), (2, vI x23)] [] γ (e60 γ x22 x23)) : ∀ (n : Nat) (γ : St) (x8 : Int) (x9 : Int) (x10 : Int), i32 x8 → i32 x9 → i32 x10 → SB Γ BS mt_Nr_readGroup (RmN 8 284) 0 0 (KN Γ BS mt_Nr_readGroup.2.2.2) 15 [(0, vR Γ 5), (1, vI x8), (2, vI x9), (3, vI x10)] [] γ (f_Nr_readGroup_L15 e60 n γ x8 x9 x10) := by
  intro n
  induction n with
  | zero => intros; exact sb_none
  | succ n ih =>
    intro γ x8 x9 x10 hx8 hx9 hx10
    unfold f_Nr_readGroup_L15
    refine sb_iload_n 2 d_Nr_readGroup_15 rfl ?_
    refine sb_if_eq 60 hx9 d_Nr_readGroup_16 (by decide) (fun _ => ?_) (fun _ => ?_)
    · exact sb_lv [0, 1, 2] rfl (he60 γ x8 x9 hx8 hx9)
    · refine sb_iload_n 3 d_Nr_readGroup_19 rfl ?_
      refine sb_aload_n 0 d_Nr_readGroup_20 rfl ?_
      refine g_Nr_9 d_Nr_readGroup_21 ?_
      refine g_Nr_74 d_Nr_readGroup_24 (fun c12 => ?_)
      refine sb_icmp_ge 60 hx10 c12 d_Nr_readGroup_27 (by decide) (fun _ => ?_) (fun _ => ?_)
      · exact sb_lv [0, 1, 2] rfl (he60 γ x8 x9 hx8 hx9)
      · refine sb_aload_n 0 d_Nr_readGroup_30 rfl ?_
        refine g_Nr_9 d_Nr_readGroup_31 ?_
        refine sb_cVi vf_Tk_kindNow (c_Tk_kindNow γ  ) rfl ml_Nr_39 (As := []) rfl rfl (Nat.le_of_ble_eq_true rfl) ⟨by decide, by decide⟩ d_Nr_readGroup_34 (fun r14 γ15 hr14 => ?_)
        refine sb_bipush d_Nr_readGroup_37 (by decide) ?_
        refine sb_icmp_ne 60 hr14 (by decide) d_Nr_readGroup_39 (by decide) (fun _ => ?_) (fun _ => ?_)
        · exact sb_lv [0, 1, 2] rfl (he60 γ15 x8 x9 hx8 hx9)
        · refine sb_aload_n 0 d_Nr_readGroup_42 rfl ?_
          refine g_Nr_9 d_Nr_readGroup_43 ?_
          refine sb_cVv vf_Tk_step (c_Tk_step γ15  ) rfl ml_Nr_98 (As := []) rfl rfl (Nat.le_of_ble_eq_true rfl) ⟨by decide, by decide⟩ d_Nr_readGroup_46 (fun _ γ18 => ?_)
          refine sb_aload_n 0 d_Nr_readGroup_49 rfl ?_
          refine sb_cVz vf_Nr_readNewName (c_Nr_readNewName γ18  ) rfl ml_Nr_137 (As := []) rfl rfl (Nat.le_of_ble_eq_true rfl) ⟨by decide, by decide⟩ d_Nr_readGroup_50 (fun r19 γ20 hr19 => ?_)
          refine sb_istore_n [(2, vI r19), (0, vR Γ 5), (1, vI x8), (3, vI x10)] d_Nr_readGroup_53 (by decide) rfl ?_
          refine sb_iinc 3 [(3, vI (x10 + 1)), (2, vI r19), (0, vR Γ 5), (1, vI x8)] d_Nr_readGroup_54 rfl (by decide) rfl ?_
          refine sb_chk (fun c21 => ?_)
          refine sb_goto 15 d_Nr_readGroup_57 (by decide) ?_
          exact sb_lv [2, 3, 1, 0] rfl (ih γ20 x8 r19 (x10 + 1) hx8 (z2i hr19) c21)
set_option maxHeartbeats 4000000 in
theorem c_Nr_readGroup {Γ : Ctx} (γ : St) : NC Γ BS y_Nr_readGroup mt_Nr_readGroup 8 284 [vR Γ 5] γ (f_Nr_readGroup γ) := by
  refine nc_of (by decide) rfl (Nat.le_of_ble_eq_true rfl) ?_
  show SB Γ BS mt_Nr_readGroup (RmN 8 284) 0 0 (KN Γ BS mt_Nr_readGroup.2.2.2) 0 [(0, vR Γ 5)] [] γ _
  unfold f_Nr_readGroup
  refine sb_aload_n 0 d_Nr_readGroup_0 rfl ?_
  refine g_Nr_15 d_Nr_readGroup_1 ?_
  refine g_Nr_134 d_Nr_readGroup_4 (fun c25 => ?_)
  refine sb_istore_n [(1, vI (γ 3 15)), (0, vR Γ 5)] d_Nr_readGroup_7 (by decide) rfl ?_
  refine sb_nme (e := γ 3 15) (fun x26 => [(1, vI x26), (0, vR Γ 5)]) c25 (fun x26 hx26 => ?_)
  refine sb_aload_n 1 d_Nr_readGroup_8 rfl ?_
  refine sb_cVz vf_Nr_readNewName (c_Nr_readNewName γ  ) rfl ml_Nr_137 (As := []) rfl rfl (Nat.le_of_ble_eq_true rfl) ⟨by decide, by decide⟩ d_Nr_readGroup_9 (fun r27 γ28 hr27 => ?_)
  refine sb_istore_n [(2, vI r27), (1, vI x26), (0, vR Γ 5)] d_Nr_readGroup_12 (by decide) rfl ?_
  refine sb_iconst d_Nr_readGroup_13 ?_
  refine sb_istore_n [(3, vI 0), (2, vI r27), (1, vI x26), (0, vR Γ 5)] d_Nr_readGroup_14 (by decide) rfl ?_
  exact sb_lv [3, 2, 1, 0] rfl (s_Nr_readGroup_L15 (s_Nr_readGroup_b60) FU γ28 x26 r27 0 hx26 (z2i hr27) (by decide))
theorem d_Nr_readGroups_0 : decode b_Nr_readGroups 0 = .ok (.aload_n 0, 1) := by decide +kernel
theorem d_Nr_readGroups_1 : decode b_Nr_readGroups 1 = .ok (.getfield 9, 3) := by decide +kernel
theorem d_Nr_readGroups_4 : decode b_Nr_readGroups 4 = .ok (.iconst 4, 1) := by decide +kernel
theorem d_Nr_readGroups_5 : decode b_Nr_readGroups 5 = .ok (.invokevirtual 55, 3) := by decide +kernel
theorem d_Nr_readGroups_8 : decode b_Nr_readGroups 8 = .ok (.ifCond .eq 14, 3) := by decide +kernel
theorem d_Nr_readGroups_11 : decode b_Nr_readGroups 11 = .ok (.aload_n 0, 1) := by decide +kernel
theorem d_Nr_readGroups_12 : decode b_Nr_readGroups 12 = .ok (.invokevirtual 125, 3) := by decide +kernel
theorem d_Nr_readGroups_15 : decode b_Nr_readGroups 15 = .ok (.ifCond .eq 7, 3) := by decide +kernel
theorem d_Nr_readGroups_18 : decode b_Nr_readGroups 18 = .ok (.iconst 1, 1) := by decide +kernel
theorem d_Nr_readGroups_19 : decode b_Nr_readGroups 19 = .ok (.goto 4, 3) := by decide +kernel
theorem d_Nr_readGroups_22 : decode b_Nr_readGroups 22 = .ok (.iconst 0, 1) := by decide +kernel
theorem d_Nr_readGroups_23 : decode b_Nr_readGroups 23 = .ok (.istore_n 1, 1) := by decide +kernel
theorem d_Nr_readGroups_24 : decode b_Nr_readGroups 24 = .ok (.iconst 0, 1) := by decide +kernel
theorem d_Nr_readGroups_25 : decode b_Nr_readGroups 25 = .ok (.istore_n 2, 1) := by decide +kernel
theorem d_Nr_readGroups_26 : decode b_Nr_readGroups 26 = .ok (.iload_n 1, 1) := by decide +kernel
theorem d_Nr_readGroups_27 : decode b_Nr_readGroups 27 = .ok (.ifCond .eq 44, 3) := by decide +kernel
theorem d_Nr_readGroups_30 : decode b_Nr_readGroups 30 = .ok (.iload_n 2, 1) := by decide +kernel
theorem d_Nr_readGroups_31 : decode b_Nr_readGroups 31 = .ok (.aload_n 0, 1) := by decide +kernel
theorem d_Nr_readGroups_32 : decode b_Nr_readGroups 32 = .ok (.getfield 9, 3) := by decide +kernel
theorem d_Nr_readGroups_35 : decode b_Nr_readGroups 35 = .ok (.getfield 74, 3) := by decide +kernel
theorem d_Nr_readGroups_38 : decode b_Nr_readGroups 38 = .ok (.if_icmp .ge 33, 3) := by decide +kernel
theorem d_Nr_readGroups_41 : decode b_Nr_readGroups 41 = .ok (.aload_n 0, 1) := by decide +kernel
theorem d_Nr_readGroups_42 : decode b_Nr_readGroups 42 = .ok (.getfield 9, 3) := by decide +kernel
theorem d_Nr_readGroups_45 : decode b_Nr_readGroups 45 = .ok (.invokevirtual 39, 3) := by decide +kernel
theorem d_Nr_readGroups_48 : decode b_Nr_readGroups 48 = .ok (.bipush 7, 2) := by decide +kernel
theorem d_Nr_readGroups_50 : decode b_Nr_readGroups 50 = .ok (.if_icmp .ne 21, 3) := by decide +kernel
theorem d_Nr_readGroups_53 : decode b_Nr_readGroups 53 = .ok (.aload_n 0, 1) := by decide +kernel
theorem d_Nr_readGroups_54 : decode b_Nr_readGroups 54 = .ok (.getfield 9, 3) := by decide +kernel
theorem d_Nr_readGroups_57 : decode b_Nr_readGroups 57 = .ok (.invokevirtual 98, 3) := by decide +kernel
theorem d_Nr_readGroups_60 : decode b_Nr_readGroups 60 = .ok (.aload_n 0, 1) := by decide +kernel
theorem d_Nr_readGroups_61 : decode b_Nr_readGroups 61 = .ok (.invokevirtual 125, 3) := by decide +kernel
theorem d_Nr_readGroups_64 : decode b_Nr_readGroups 64 = .ok (.istore_n 1, 1) := by decide +kernel
theorem d_Nr_readGroups_65 : decode b_Nr_readGroups 65 = .ok (.iinc 2 1, 3) := by decide +kernel
theorem d_Nr_readGroups_68 : decode b_Nr_readGroups 68 = .ok (.goto (-42), 3) := by decide +kernel
theorem d_Nr_readGroups_71 : decode b_Nr_readGroups 71 = .ok (.iload_n 1, 1) := by decide +kernel
theorem d_Nr_readGroups_72 : decode b_Nr_readGroups 72 = .ok (.ifCond .eq 18, 3) := by decide +kernel
theorem d_Nr_readGroups_75 : decode b_Nr_readGroups 75 = .ok (.aload_n 0, 1) := by decide +kernel
theorem d_Nr_readGroups_76 : decode b_Nr_readGroups 76 = .ok (.getfield 9, 3) := by decide +kernel
theorem d_Nr_readGroups_79 : decode b_Nr_readGroups 79 = .ok (.iconst 5, 1) := by decide +kernel
theorem d_Nr_readGroups_80 : decode b_Nr_readGroups 80 = .ok (.invokevirtual 55, 3) := by decide +kernel
theorem d_Nr_readGroups_83 : decode b_Nr_readGroups 83 = .ok (.ifCond .eq 7, 3) := by decide +kernel
theorem d_Nr_readGroups_86 : decode b_Nr_readGroups 86 = .ok (.iconst 1, 1) := by decide +kernel
theorem d_Nr_readGroups_87 : decode b_Nr_readGroups 87 = .ok (.goto 4, 3) := by decide +kernel
theorem d_Nr_readGroups_90 : decode b_Nr_readGroups 90 = .ok (.iconst 0, 1) := by decide +kernel
theorem d_Nr_readGroups_91 : decode b_Nr_readGroups 91 = .ok (.ireturn, 1) := by decide +kernel
abbrev mt_Nr_readGroups : MT := (R_Nr, b_Nr_readGroups, 3, some .boolean)
theorem vf_Nr_readGroups : VF y_Nr_readGroups mt_Nr_readGroups 5 0 := ⟨im_Nr_readGroups, se_Nr_readGroups, in_Nr, co_Nr_readGroups, by decide +kernel, _, _, rfl⟩
def f_Nr_readGroups_b71 (γ : St) (x1 : Int) : Option (Int × St) :=
  if x1 = 0 then
  (some (0, γ))
  else
  (bndN (f_Tk_expect γ 5) fun r3 γ4 =>
  if r3 = 0 then
  (some (0, γ4))
  else
  (some (1, γ4)))
def f_Nr_readGroups_L26 (e71 : St → Int → Option (Int × St)) : Nat → St → Int → Int → Option (Int × St)
  | 0, _, _, _ => none
  | n + 1, γ, x5, x6 =>
  if x5 = 0 then
  (e71 γ x5)
  else
  (if (γ 1 5) ≤ x6 then
  (e71 γ x5)
  else
  (bndN (f_Tk_kindNow γ) fun r10 γ11 =>
  if r10 ≠ 7 then
  (e71 γ11 x5)
  else
  (bndN (f_Tk_step γ11) fun _ γ14 =>
  bndN (f_Nr_readGroup γ14) fun r15 γ16 =>
  chk (i32 (x6 + 1)) ((f_Nr_readGroups_L26 e71 n) γ16 r15 (x6 + 1)))))
def f_Nr_readGroups_b23 (γ : St) (x19 : Int) : Option (Int × St) :=
  f_Nr_readGroups_L26 (f_Nr_readGroups_b71) FU γ x19 0
def f_Nr_readGroups_b22 (γ : St) : Option (Int × St) :=
  f_Nr_readGroups_b23 γ 0
def f_Nr_readGroups (γ : St) : Option (Int × St) :=
  bndN (f_Tk_expect γ 4) fun r21 γ22 =>
  if r21 = 0 then
  (f_Nr_readGroups_b22 γ22 )
  else
  (bndN (f_Nr_readGroup γ22) fun r23 γ24 =>
  if r23 = 0 then
  (f_Nr_readGroups_b22 γ24 )
  else
  (f_Nr_readGroups_b23 γ24 1))
set_option maxHeartbeats 4000000 in
theorem s_Nr_readGroups_b71 {Γ : Ctx} : ∀ (γ : St) (x1 : Int), i32 x1 → SB Γ BS mt_Nr_readGroups (RmN 9 307) 0 0 (KN Γ BS mt_Nr_readGroups.2.2.2) 71 [(0, vR Γ 5), (1, vI x1)] [] γ (f_Nr_readGroups_b71 γ x1) := by
  intro γ x1 hx1
  unfold f_Nr_readGroups_b71
  refine sb_iload_n 1 d_Nr_readGroups_71 rfl ?_
  refine sb_if_eq 90 hx1 d_Nr_readGroups_72 (by decide) (fun _ => ?_) (fun _ => ?_)
  · refine sb_iconst d_Nr_readGroups_90 ?_
    exact sn_z rfl (by decide) d_Nr_readGroups_91
  · refine sb_aload_n 0 d_Nr_readGroups_75 rfl ?_
    refine g_Nr_9 d_Nr_readGroups_76 ?_
    refine sb_iconst d_Nr_readGroups_79 ?_
    refine sb_cVz vf_Tk_expect (c_Tk_expect γ 5 (by decide)) rfl ml_Nr_55 (As := [vI 5]) rfl rfl (Nat.le_of_ble_eq_true rfl) ⟨by decide, by decide⟩ d_Nr_readGroups_80 (fun r3 γ4 hr3 => ?_)
    refine sb_if_eq 90 (z2i hr3) d_Nr_readGroups_83 (by decide) (fun _ => ?_) (fun _ => ?_)
    · refine sb_iconst d_Nr_readGroups_90 ?_
      exact sn_z rfl (by decide) d_Nr_readGroups_91
    · refine sb_iconst d_Nr_readGroups_86 ?_
      refine sb_goto 91 d_Nr_readGroups_87 (by decide) ?_
      exact sn_z rfl (by decide) d_Nr_readGroups_91
set_option maxHeartbeats 4000000 in
theorem s_Nr_readGroups_L26 {Γ : Ctx} {e71 : St → Int → Option (Int × St)} (he71 : ∀ (γ : St) (x18 : Int), i32 x18 → SB Γ BS mt_Nr_readGroups (RmN 9 307) 0 0 (KN Γ BS mt_Nr_readGroups.2.2.2) 71 [(0, vR Γ 5), (1, vI x18)] [] γ (e71 γ x18)) : ∀ (n : Nat) (γ : St) (x5 : Int) (x6 : Int), i32 x5 → i32 x6 → SB Γ BS mt_Nr_readGroups (RmN 9 307) 0 0 (KN Γ BS mt_Nr_readGroups.2.2.2) 26 [(0, vR Γ 5), (1, vI x5), (2, vI x6)] [] γ (f_Nr_readGroups_L26 e71 n γ x5 x6) := by
  intro n
  induction n with
  | zero => intros; exact sb_none
  | succ n ih =>
    intro γ x5 x6 hx5 hx6
    unfold f_Nr_readGroups_L26
    refine sb_iload_n 1 d_Nr_readGroups_26 rfl ?_
    refine sb_if_eq 71 hx5 d_Nr_readGroups_27 (by decide) (fun _ => ?_) (fun _ => ?_)
    · exact sb_lv [0, 1] rfl (he71 γ x5 hx5)
    · refine sb_iload_n 2 d_Nr_readGroups_30 rfl ?_
      refine sb_aload_n 0 d_Nr_readGroups_31 rfl ?_
      refine g_Nr_9 d_Nr_readGroups_32 ?_
      refine g_Nr_74 d_Nr_readGroups_35 (fun c8 => ?_)
      refine sb_icmp_ge 71 hx6 c8 d_Nr_readGroups_38 (by decide) (fun _ => ?_) (fun _ => ?_)
      · exact sb_lv [0, 1] rfl (he71 γ x5 hx5)
      · refine sb_aload_n 0 d_Nr_readGroups_41 rfl ?_
        refine g_Nr_9 d_Nr_readGroups_42 ?_
        refine sb_cVi vf_Tk_kindNow (c_Tk_kindNow γ  ) rfl ml_Nr_39 (As := []) rfl rfl (Nat.le_of_ble_eq_true rfl) ⟨by decide, by decide⟩ d_Nr_readGroups_45 (fun r10 γ11 hr10 => ?_)
        refine sb_bipush d_Nr_readGroups_48 (by decide) ?_
        refine sb_icmp_ne 71 hr10 (by decide) d_Nr_readGroups_50 (by decide) (fun _ => ?_) (fun _ => ?_)
        · exact sb_lv [0, 1] rfl (he71 γ11 x5 hx5)
        · refine sb_aload_n 0 d_Nr_readGroups_53 rfl ?_
          refine g_Nr_9 d_Nr_readGroups_54 ?_
          refine sb_cVv vf_Tk_step (c_Tk_step γ11  ) rfl ml_Nr_98 (As := []) rfl rfl (Nat.le_of_ble_eq_true rfl) ⟨by decide, by decide⟩ d_Nr_readGroups_57 (fun _ γ14 => ?_)
          refine sb_aload_n 0 d_Nr_readGroups_60 rfl ?_
          refine sb_cVz vf_Nr_readGroup (c_Nr_readGroup γ14  ) rfl ml_Nr_125 (As := []) rfl rfl (Nat.le_of_ble_eq_true rfl) ⟨by decide, by decide⟩ d_Nr_readGroups_61 (fun r15 γ16 hr15 => ?_)
          refine sb_istore_n [(1, vI r15), (0, vR Γ 5), (2, vI x6)] d_Nr_readGroups_64 (by decide) rfl ?_
          refine sb_iinc 2 [(2, vI (x6 + 1)), (1, vI r15), (0, vR Γ 5)] d_Nr_readGroups_65 rfl (by decide) rfl ?_
          refine sb_chk (fun c17 => ?_)
          refine sb_goto 26 d_Nr_readGroups_68 (by decide) ?_
          exact sb_lv [2, 1, 0] rfl (ih γ16 r15 (x6 + 1) (z2i hr15) c17)
set_option maxHeartbeats 4000000 in
theorem s_Nr_readGroups_b23 {Γ : Ctx} : ∀ (γ : St) (x19 : Int), i32 x19 → SB Γ BS mt_Nr_readGroups (RmN 9 307) 0 0 (KN Γ BS mt_Nr_readGroups.2.2.2) 23 [(0, vR Γ 5)] [vI x19] γ (f_Nr_readGroups_b23 γ x19) := by
  intro γ x19 hx19
  unfold f_Nr_readGroups_b23
  refine sb_istore_n [(1, vI x19), (0, vR Γ 5)] d_Nr_readGroups_23 (by decide) rfl ?_
  refine sb_iconst d_Nr_readGroups_24 ?_
  refine sb_istore_n [(2, vI 0), (1, vI x19), (0, vR Γ 5)] d_Nr_readGroups_25 (by decide) rfl ?_
  exact sb_lv [2, 1, 0] rfl (s_Nr_readGroups_L26 (s_Nr_readGroups_b71) FU γ x19 0 hx19 (by decide))
set_option maxHeartbeats 4000000 in
theorem s_Nr_readGroups_b22 {Γ : Ctx} : ∀ (γ : St), SB Γ BS mt_Nr_readGroups (RmN 9 307) 0 0 (KN Γ BS mt_Nr_readGroups.2.2.2) 22 [(0, vR Γ 5)] [] γ (f_Nr_readGroups_b22 γ ) := by
  intro γ
  unfold f_Nr_readGroups_b22
  refine sb_iconst d_Nr_readGroups_22 ?_
  exact sb_lv [0] rfl (s_Nr_readGroups_b23 γ 0 (by decide))
set_option maxHeartbeats 4000000 in
theorem c_Nr_readGroups {Γ : Ctx} (γ : St) : NC Γ BS y_Nr_readGroups mt_Nr_readGroups 9 307 [vR Γ 5] γ (f_Nr_readGroups γ) := by
  refine nc_of (by decide) rfl (Nat.le_of_ble_eq_true rfl) ?_
  show SB Γ BS mt_Nr_readGroups (RmN 9 307) 0 0 (KN Γ BS mt_Nr_readGroups.2.2.2) 0 [(0, vR Γ 5)] [] γ _
  unfold f_Nr_readGroups
  refine sb_aload_n 0 d_Nr_readGroups_0 rfl ?_
  refine g_Nr_9 d_Nr_readGroups_1 ?_
  refine sb_iconst d_Nr_readGroups_4 ?_
  refine sb_cVz vf_Tk_expect (c_Tk_expect γ 4 (by decide)) rfl ml_Nr_55 (As := [vI 4]) rfl rfl (Nat.le_of_ble_eq_true rfl) ⟨by decide, by decide⟩ d_Nr_readGroups_5 (fun r21 γ22 hr21 => ?_)
  refine sb_if_eq 22 (z2i hr21) d_Nr_readGroups_8 (by decide) (fun _ => ?_) (fun _ => ?_)
  · exact sb_lv [0] rfl (s_Nr_readGroups_b22 γ22  )
  · refine sb_aload_n 0 d_Nr_readGroups_11 rfl ?_
    refine sb_cVz vf_Nr_readGroup (c_Nr_readGroup γ22  ) rfl ml_Nr_125 (As := []) rfl rfl (Nat.le_of_ble_eq_true rfl) ⟨by decide, by decide⟩ d_Nr_readGroups_12 (fun r23 γ24 hr23 => ?_)
    refine sb_if_eq 22 (z2i hr23) d_Nr_readGroups_15 (by decide) (fun _ => ?_) (fun _ => ?_)
    · exact sb_lv [0] rfl (s_Nr_readGroups_b22 γ24  )
    · refine sb_iconst d_Nr_readGroups_18 ?_
      refine sb_goto 23 d_Nr_readGroups_19 (by decide) ?_
      exact sb_lv [0] rfl (s_Nr_readGroups_b23 γ24 1 (by decide))
theorem d_Nr_readInputs_0 : decode b_Nr_readInputs 0 = .ok (.aload_n 0, 1) := by decide +kernel
theorem d_Nr_readInputs_1 : decode b_Nr_readInputs 1 = .ok (.invokevirtual 113, 3) := by decide +kernel
theorem d_Nr_readInputs_4 : decode b_Nr_readInputs 4 = .ok (.istore_n 1, 1) := by decide +kernel
theorem d_Nr_readInputs_5 : decode b_Nr_readInputs 5 = .ok (.aload_n 0, 1) := by decide +kernel
theorem d_Nr_readInputs_6 : decode b_Nr_readInputs 6 = .ok (.getfield 15, 3) := by decide +kernel
theorem d_Nr_readInputs_9 : decode b_Nr_readInputs 9 = .ok (.getfield 116, 3) := by decide +kernel
theorem d_Nr_readInputs_12 : decode b_Nr_readInputs 12 = .ok (.aload_n 0, 1) := by decide +kernel
theorem d_Nr_readInputs_13 : decode b_Nr_readInputs 13 = .ok (.getfield 15, 3) := by decide +kernel
theorem d_Nr_readInputs_16 : decode b_Nr_readInputs 16 = .ok (.getfield 45, 3) := by decide +kernel
theorem d_Nr_readInputs_19 : decode b_Nr_readInputs 19 = .ok (.aload_n 0, 1) := by decide +kernel
theorem d_Nr_readInputs_20 : decode b_Nr_readInputs 20 = .ok (.getfield 15, 3) := by decide +kernel
theorem d_Nr_readInputs_23 : decode b_Nr_readInputs 23 = .ok (.getfield 119, 3) := by decide +kernel
theorem d_Nr_readInputs_26 : decode b_Nr_readInputs 26 = .ok (.aload_n 0, 1) := by decide +kernel
theorem d_Nr_readInputs_27 : decode b_Nr_readInputs 27 = .ok (.getfield 15, 3) := by decide +kernel
theorem d_Nr_readInputs_30 : decode b_Nr_readInputs 30 = .ok (.getfield 45, 3) := by decide +kernel
theorem d_Nr_readInputs_33 : decode b_Nr_readInputs 33 = .ok (.iaload, 1) := by decide +kernel
theorem d_Nr_readInputs_34 : decode b_Nr_readInputs 34 = .ok (.iastore, 1) := by decide +kernel
theorem d_Nr_readInputs_35 : decode b_Nr_readInputs 35 = .ok (.iload_n 1, 1) := by decide +kernel
theorem d_Nr_readInputs_36 : decode b_Nr_readInputs 36 = .ok (.ireturn, 1) := by decide +kernel
abbrev mt_Nr_readInputs : MT := (R_Nr, b_Nr_readInputs, 2, some .boolean)
theorem vf_Nr_readInputs : VF y_Nr_readInputs mt_Nr_readInputs 5 0 := ⟨im_Nr_readInputs, se_Nr_readInputs, in_Nr, co_Nr_readInputs, by decide +kernel, _, _, rfl⟩
def f_Nr_readInputs (γ : St) : Option (Int × St) :=
  bndN (f_Nr_readGroups γ) fun r1 γ2 =>
  chk (inb (γ2 3 9) 59) (chk (inb (γ2 3 9) 59) (ap (setA γ2 26 (γ2 3 9) (γ2 28 (γ2 3 9))) fun γ12 =>
  some (r1, γ12)))
set_option maxHeartbeats 4000000 in
theorem c_Nr_readInputs {Γ : Ctx} (γ : St) : NC Γ BS y_Nr_readInputs mt_Nr_readInputs 10 329 [vR Γ 5] γ (f_Nr_readInputs γ) := by
  refine nc_of (by decide) rfl (Nat.le_of_ble_eq_true rfl) ?_
  show SB Γ BS mt_Nr_readInputs (RmN 10 329) 0 0 (KN Γ BS mt_Nr_readInputs.2.2.2) 0 [(0, vR Γ 5)] [] γ _
  unfold f_Nr_readInputs
  refine sb_aload_n 0 d_Nr_readInputs_0 rfl ?_
  refine sb_cVz vf_Nr_readGroups (c_Nr_readGroups γ  ) rfl ml_Nr_113 (As := []) rfl rfl (Nat.le_of_ble_eq_true rfl) ⟨by decide, by decide⟩ d_Nr_readInputs_1 (fun r1 γ2 hr1 => ?_)
  refine sb_istore_n [(1, vI r1), (0, vR Γ 5)] d_Nr_readInputs_4 (by decide) rfl ?_
  refine sb_aload_n 1 d_Nr_readInputs_5 rfl ?_
  refine g_Nr_15 d_Nr_readInputs_6 ?_
  refine g_Nr_116 d_Nr_readInputs_9 ?_
  refine sb_aload_n 1 d_Nr_readInputs_12 rfl ?_
  refine g_Nr_15 d_Nr_readInputs_13 ?_
  refine g_Nr_45 d_Nr_readInputs_16 (fun c6 => ?_)
  refine sb_aload_n 1 d_Nr_readInputs_19 rfl ?_
  refine g_Nr_15 d_Nr_readInputs_20 ?_
  refine g_Nr_119 d_Nr_readInputs_23 ?_
  refine sb_aload_n 1 d_Nr_readInputs_26 rfl ?_
  refine g_Nr_15 d_Nr_readInputs_27 ?_
  refine g_Nr_45 d_Nr_readInputs_30 (fun c10 => ?_)
  refine al_S_28 d_Nr_readInputs_33 (fun _ c11 => ?_)
  refine as_S_26 c11 d_Nr_readInputs_34 (fun _ => ?_)
  refine sb_aps (fun γ12 => ?_)
  refine sb_iload_n 0 d_Nr_readInputs_35 rfl ?_
  exact sn_z rfl hr1 d_Nr_readInputs_36
theorem d_Nr_readOutputs_0 : decode b_Nr_readOutputs 0 = .ok (.aload_n 0, 1) := by decide +kernel
theorem d_Nr_readOutputs_1 : decode b_Nr_readOutputs 1 = .ok (.invokevirtual 113, 3) := by decide +kernel
theorem d_Nr_readOutputs_4 : decode b_Nr_readOutputs 4 = .ok (.istore_n 1, 1) := by decide +kernel
theorem d_Nr_readOutputs_5 : decode b_Nr_readOutputs 5 = .ok (.aload_n 0, 1) := by decide +kernel
theorem d_Nr_readOutputs_6 : decode b_Nr_readOutputs 6 = .ok (.getfield 15, 3) := by decide +kernel
theorem d_Nr_readOutputs_9 : decode b_Nr_readOutputs 9 = .ok (.getfield 122, 3) := by decide +kernel
theorem d_Nr_readOutputs_12 : decode b_Nr_readOutputs 12 = .ok (.aload_n 0, 1) := by decide +kernel
theorem d_Nr_readOutputs_13 : decode b_Nr_readOutputs 13 = .ok (.getfield 15, 3) := by decide +kernel
theorem d_Nr_readOutputs_16 : decode b_Nr_readOutputs 16 = .ok (.getfield 45, 3) := by decide +kernel
theorem d_Nr_readOutputs_19 : decode b_Nr_readOutputs 19 = .ok (.aload_n 0, 1) := by decide +kernel
theorem d_Nr_readOutputs_20 : decode b_Nr_readOutputs 20 = .ok (.getfield 15, 3) := by decide +kernel
theorem d_Nr_readOutputs_23 : decode b_Nr_readOutputs 23 = .ok (.getfield 119, 3) := by decide +kernel
theorem d_Nr_readOutputs_26 : decode b_Nr_readOutputs 26 = .ok (.aload_n 0, 1) := by decide +kernel
theorem d_Nr_readOutputs_27 : decode b_Nr_readOutputs 27 = .ok (.getfield 15, 3) := by decide +kernel
theorem d_Nr_readOutputs_30 : decode b_Nr_readOutputs 30 = .ok (.getfield 45, 3) := by decide +kernel
theorem d_Nr_readOutputs_33 : decode b_Nr_readOutputs 33 = .ok (.iaload, 1) := by decide +kernel
theorem d_Nr_readOutputs_34 : decode b_Nr_readOutputs 34 = .ok (.aload_n 0, 1) := by decide +kernel
theorem d_Nr_readOutputs_35 : decode b_Nr_readOutputs 35 = .ok (.getfield 15, 3) := by decide +kernel
theorem d_Nr_readOutputs_38 : decode b_Nr_readOutputs 38 = .ok (.getfield 116, 3) := by decide +kernel
theorem d_Nr_readOutputs_41 : decode b_Nr_readOutputs 41 = .ok (.aload_n 0, 1) := by decide +kernel
theorem d_Nr_readOutputs_42 : decode b_Nr_readOutputs 42 = .ok (.getfield 15, 3) := by decide +kernel
theorem d_Nr_readOutputs_45 : decode b_Nr_readOutputs 45 = .ok (.getfield 45, 3) := by decide +kernel
theorem d_Nr_readOutputs_48 : decode b_Nr_readOutputs 48 = .ok (.iaload, 1) := by decide +kernel
theorem d_Nr_readOutputs_49 : decode b_Nr_readOutputs 49 = .ok (.isub, 1) := by decide +kernel
theorem d_Nr_readOutputs_50 : decode b_Nr_readOutputs 50 = .ok (.iastore, 1) := by decide +kernel
theorem d_Nr_readOutputs_51 : decode b_Nr_readOutputs 51 = .ok (.iload_n 1, 1) := by decide +kernel
theorem d_Nr_readOutputs_52 : decode b_Nr_readOutputs 52 = .ok (.ireturn, 1) := by decide +kernel
abbrev mt_Nr_readOutputs : MT := (R_Nr, b_Nr_readOutputs, 2, some .boolean)
theorem vf_Nr_readOutputs : VF y_Nr_readOutputs mt_Nr_readOutputs 5 0 := ⟨im_Nr_readOutputs, se_Nr_readOutputs, in_Nr, co_Nr_readOutputs, by decide +kernel, _, _, rfl⟩
def f_Nr_readOutputs (γ : St) : Option (Int × St) :=
  bndN (f_Nr_readGroups γ) fun r1 γ2 =>
  chk (inb (γ2 3 9) 59) (chk (inb (γ2 3 9) 59) (chk (i32 ((γ2 28 (γ2 3 9)) - (γ2 26 (γ2 3 9)))) (chk (inb (γ2 3 9) 59) (ap (setA γ2 27 (γ2 3 9) ((γ2 28 (γ2 3 9)) - (γ2 26 (γ2 3 9)))) fun γ18 =>
  some (r1, γ18)))))
set_option maxHeartbeats 4000000 in
theorem c_Nr_readOutputs {Γ : Ctx} (γ : St) : NC Γ BS y_Nr_readOutputs mt_Nr_readOutputs 10 329 [vR Γ 5] γ (f_Nr_readOutputs γ) := by
  refine nc_of (by decide) rfl (Nat.le_of_ble_eq_true rfl) ?_
  show SB Γ BS mt_Nr_readOutputs (RmN 10 329) 0 0 (KN Γ BS mt_Nr_readOutputs.2.2.2) 0 [(0, vR Γ 5)] [] γ _
  unfold f_Nr_readOutputs
  refine sb_aload_n 0 d_Nr_readOutputs_0 rfl ?_
  refine sb_cVz vf_Nr_readGroups (c_Nr_readGroups γ  ) rfl ml_Nr_113 (As := []) rfl rfl (Nat.le_of_ble_eq_true rfl) ⟨by decide, by decide⟩ d_Nr_readOutputs_1 (fun r1 γ2 hr1 => ?_)
  refine sb_istore_n [(1, vI r1), (0, vR Γ 5)] d_Nr_readOutputs_4 (by decide) rfl ?_
  refine sb_aload_n 1 d_Nr_readOutputs_5 rfl ?_
  refine g_Nr_15 d_Nr_readOutputs_6 ?_
  refine g_Nr_122 d_Nr_readOutputs_9 ?_
  refine sb_aload_n 1 d_Nr_readOutputs_12 rfl ?_
  refine g_Nr_15 d_Nr_readOutputs_13 ?_
  refine g_Nr_45 d_Nr_readOutputs_16 (fun c6 => ?_)
  refine sb_aload_n 1 d_Nr_readOutputs_19 rfl ?_
  refine g_Nr_15 d_Nr_readOutputs_20 ?_
  refine g_Nr_119 d_Nr_readOutputs_23 ?_
  refine sb_aload_n 1 d_Nr_readOutputs_26 rfl ?_
  refine g_Nr_15 d_Nr_readOutputs_27 ?_
  refine g_Nr_45 d_Nr_readOutputs_30 (fun c10 => ?_)
  refine al_S_28 d_Nr_readOutputs_33 (fun _ c11 => ?_)
  refine sb_aload_n 1 d_Nr_readOutputs_34 rfl ?_
  refine g_Nr_15 d_Nr_readOutputs_35 ?_
  refine g_Nr_116 d_Nr_readOutputs_38 ?_
  refine sb_aload_n 1 d_Nr_readOutputs_41 rfl ?_
  refine g_Nr_15 d_Nr_readOutputs_42 ?_
  refine g_Nr_45 d_Nr_readOutputs_45 (fun c15 => ?_)
  refine al_S_26 d_Nr_readOutputs_48 (fun _ c16 => ?_)
  refine sb_isub d_Nr_readOutputs_49 ?_
  refine sb_chk (fun c17 => ?_)
  refine as_S_27 c17 d_Nr_readOutputs_50 (fun _ => ?_)
  refine sb_aps (fun γ18 => ?_)
  refine sb_iload_n 0 d_Nr_readOutputs_51 rfl ?_
  exact sn_z rfl hr1 d_Nr_readOutputs_52
theorem d_Nr_readHead_0 : decode b_Nr_readHead 0 = .ok (.aload_n 0, 1) := by decide +kernel
theorem d_Nr_readHead_1 : decode b_Nr_readHead 1 = .ok (.getfield 9, 3) := by decide +kernel
theorem d_Nr_readHead_4 : decode b_Nr_readHead 4 = .ok (.invokevirtual 39, 3) := by decide +kernel
theorem d_Nr_readHead_7 : decode b_Nr_readHead 7 = .ok (.bipush 20, 2) := by decide +kernel
theorem d_Nr_readHead_9 : decode b_Nr_readHead 9 = .ok (.if_icmp .ne 24, 3) := by decide +kernel
theorem d_Nr_readHead_12 : decode b_Nr_readHead 12 = .ok (.aload_n 0, 1) := by decide +kernel
theorem d_Nr_readHead_13 : decode b_Nr_readHead 13 = .ok (.getfield 15, 3) := by decide +kernel
theorem d_Nr_readHead_16 : decode b_Nr_readHead 16 = .ok (.getfield 45, 3) := by decide +kernel
theorem d_Nr_readHead_19 : decode b_Nr_readHead 19 = .ok (.bipush 59, 2) := by decide +kernel
theorem d_Nr_readHead_21 : decode b_Nr_readHead 21 = .ok (.if_icmp .ne 12, 3) := by decide +kernel
theorem d_Nr_readHead_24 : decode b_Nr_readHead 24 = .ok (.aload_n 0, 1) := by decide +kernel
theorem d_Nr_readHead_25 : decode b_Nr_readHead 25 = .ok (.getfield 9, 3) := by decide +kernel
theorem d_Nr_readHead_28 : decode b_Nr_readHead 28 = .ok (.iconst 3, 1) := by decide +kernel
theorem d_Nr_readHead_29 : decode b_Nr_readHead 29 = .ok (.invokevirtual 51, 3) := by decide +kernel
theorem d_Nr_readHead_32 : decode b_Nr_readHead 32 = .ok (.ireturn, 1) := by decide +kernel
theorem d_Nr_readHead_33 : decode b_Nr_readHead 33 = .ok (.aload_n 0, 1) := by decide +kernel
theorem d_Nr_readHead_34 : decode b_Nr_readHead 34 = .ok (.getfield 9, 3) := by decide +kernel
theorem d_Nr_readHead_37 : decode b_Nr_readHead 37 = .ok (.bipush 20, 2) := by decide +kernel
theorem d_Nr_readHead_39 : decode b_Nr_readHead 39 = .ok (.invokevirtual 55, 3) := by decide +kernel
theorem d_Nr_readHead_42 : decode b_Nr_readHead 42 = .ok (.ifCond .eq 52, 3) := by decide +kernel
theorem d_Nr_readHead_45 : decode b_Nr_readHead 45 = .ok (.aload_n 0, 1) := by decide +kernel
theorem d_Nr_readHead_46 : decode b_Nr_readHead 46 = .ok (.invokevirtual 58, 3) := by decide +kernel
theorem d_Nr_readHead_49 : decode b_Nr_readHead 49 = .ok (.ifCond .eq 45, 3) := by decide +kernel
theorem d_Nr_readHead_52 : decode b_Nr_readHead 52 = .ok (.aload_n 0, 1) := by decide +kernel
theorem d_Nr_readHead_53 : decode b_Nr_readHead 53 = .ok (.invokevirtual 62, 3) := by decide +kernel
theorem d_Nr_readHead_56 : decode b_Nr_readHead 56 = .ok (.ifCond .eq 38, 3) := by decide +kernel
theorem d_Nr_readHead_59 : decode b_Nr_readHead 59 = .ok (.aload_n 0, 1) := by decide +kernel
theorem d_Nr_readHead_60 : decode b_Nr_readHead 60 = .ok (.getfield 9, 3) := by decide +kernel
theorem d_Nr_readHead_63 : decode b_Nr_readHead 63 = .ok (.bipush 21, 2) := by decide +kernel
theorem d_Nr_readHead_65 : decode b_Nr_readHead 65 = .ok (.invokevirtual 55, 3) := by decide +kernel
theorem d_Nr_readHead_68 : decode b_Nr_readHead 68 = .ok (.ifCond .eq 26, 3) := by decide +kernel
theorem d_Nr_readHead_71 : decode b_Nr_readHead 71 = .ok (.aload_n 0, 1) := by decide +kernel
theorem d_Nr_readHead_72 : decode b_Nr_readHead 72 = .ok (.invokevirtual 65, 3) := by decide +kernel
theorem d_Nr_readHead_75 : decode b_Nr_readHead 75 = .ok (.ifCond .eq 19, 3) := by decide +kernel
theorem d_Nr_readHead_78 : decode b_Nr_readHead 78 = .ok (.aload_n 0, 1) := by decide +kernel
theorem d_Nr_readHead_79 : decode b_Nr_readHead 79 = .ok (.getfield 9, 3) := by decide +kernel
theorem d_Nr_readHead_82 : decode b_Nr_readHead 82 = .ok (.bipush 7, 2) := by decide +kernel
theorem d_Nr_readHead_84 : decode b_Nr_readHead 84 = .ok (.invokevirtual 55, 3) := by decide +kernel
theorem d_Nr_readHead_87 : decode b_Nr_readHead 87 = .ok (.ifCond .eq 7, 3) := by decide +kernel
theorem d_Nr_readHead_90 : decode b_Nr_readHead 90 = .ok (.iconst 1, 1) := by decide +kernel
theorem d_Nr_readHead_91 : decode b_Nr_readHead 91 = .ok (.goto 4, 3) := by decide +kernel
theorem d_Nr_readHead_94 : decode b_Nr_readHead 94 = .ok (.iconst 0, 1) := by decide +kernel
theorem d_Nr_readHead_95 : decode b_Nr_readHead 95 = .ok (.ireturn, 1) := by decide +kernel
abbrev mt_Nr_readHead : MT := (R_Nr, b_Nr_readHead, 1, some .boolean)
theorem vf_Nr_readHead : VF y_Nr_readHead mt_Nr_readHead 5 0 := ⟨im_Nr_readHead, se_Nr_readHead, in_Nr, co_Nr_readHead, by decide +kernel, _, _, rfl⟩
def f_Nr_readHead_b33 (γ : St) : Option (Int × St) :=
  bndN (f_Tk_expect γ 20) fun r2 γ3 =>
  if r2 = 0 then
  (some (0, γ3))
  else
  (bndN (f_Nr_readNodeName γ3) fun r4 γ5 =>
  if r4 = 0 then
  (some (0, γ5))
  else
  (bndN (f_Nr_readInputs γ5) fun r6 γ7 =>
  if r6 = 0 then
  (some (0, γ7))
  else
  (bndN (f_Tk_expect γ7 21) fun r9 γ10 =>
  if r9 = 0 then
  (some (0, γ10))
  else
  (bndN (f_Nr_readOutputs γ10) fun r11 γ12 =>
  if r11 = 0 then
  (some (0, γ12))
  else
  (bndN (f_Tk_expect γ12 7) fun r14 γ15 =>
  if r14 = 0 then
  (some (0, γ15))
  else
  (some (1, γ15)))))))
def f_Nr_readHead (γ : St) : Option (Int × St) :=
  bndN (f_Tk_kindNow γ) fun r17 γ18 =>
  if r17 ≠ 20 then
  (f_Nr_readHead_b33 γ18 )
  else
  (if (γ18 3 9) ≠ 59 then
  (f_Nr_readHead_b33 γ18 )
  else
  (bndN (f_Tk_fail γ18 3) fun r22 γ23 =>
  some (r22, γ23)))
set_option maxHeartbeats 4000000 in
theorem s_Nr_readHead_b33 {Γ : Ctx} : ∀ (γ : St), SB Γ BS mt_Nr_readHead (RmN 11 350) 0 0 (KN Γ BS mt_Nr_readHead.2.2.2) 33 [(0, vR Γ 5)] [] γ (f_Nr_readHead_b33 γ ) := by
  intro γ
  unfold f_Nr_readHead_b33
  refine sb_aload_n 0 d_Nr_readHead_33 rfl ?_
  refine g_Nr_9 d_Nr_readHead_34 ?_
  refine sb_bipush d_Nr_readHead_37 (by decide) ?_
  refine sb_cVz vf_Tk_expect (c_Tk_expect γ 20 (by decide)) rfl ml_Nr_55 (As := [vI 20]) rfl rfl (Nat.le_of_ble_eq_true rfl) ⟨by decide, by decide⟩ d_Nr_readHead_39 (fun r2 γ3 hr2 => ?_)
  refine sb_if_eq 94 (z2i hr2) d_Nr_readHead_42 (by decide) (fun _ => ?_) (fun _ => ?_)
  · refine sb_iconst d_Nr_readHead_94 ?_
    exact sn_z rfl (by decide) d_Nr_readHead_95
  · refine sb_aload_n 0 d_Nr_readHead_45 rfl ?_
    refine sb_cVz vf_Nr_readNodeName (c_Nr_readNodeName γ3  ) rfl ml_Nr_58 (As := []) rfl rfl (Nat.le_of_ble_eq_true rfl) ⟨by decide, by decide⟩ d_Nr_readHead_46 (fun r4 γ5 hr4 => ?_)
    refine sb_if_eq 94 (z2i hr4) d_Nr_readHead_49 (by decide) (fun _ => ?_) (fun _ => ?_)
    · refine sb_iconst d_Nr_readHead_94 ?_
      exact sn_z rfl (by decide) d_Nr_readHead_95
    · refine sb_aload_n 0 d_Nr_readHead_52 rfl ?_
      refine sb_cVz vf_Nr_readInputs (c_Nr_readInputs γ5  ) rfl ml_Nr_62 (As := []) rfl rfl (Nat.le_of_ble_eq_true rfl) ⟨by decide, by decide⟩ d_Nr_readHead_53 (fun r6 γ7 hr6 => ?_)
      refine sb_if_eq 94 (z2i hr6) d_Nr_readHead_56 (by decide) (fun _ => ?_) (fun _ => ?_)
      · refine sb_iconst d_Nr_readHead_94 ?_
        exact sn_z rfl (by decide) d_Nr_readHead_95
      · refine sb_aload_n 0 d_Nr_readHead_59 rfl ?_
        refine g_Nr_9 d_Nr_readHead_60 ?_
        refine sb_bipush d_Nr_readHead_63 (by decide) ?_
        refine sb_cVz vf_Tk_expect (c_Tk_expect γ7 21 (by decide)) rfl ml_Nr_55 (As := [vI 21]) rfl rfl (Nat.le_of_ble_eq_true rfl) ⟨by decide, by decide⟩ d_Nr_readHead_65 (fun r9 γ10 hr9 => ?_)
        refine sb_if_eq 94 (z2i hr9) d_Nr_readHead_68 (by decide) (fun _ => ?_) (fun _ => ?_)
        · refine sb_iconst d_Nr_readHead_94 ?_
          exact sn_z rfl (by decide) d_Nr_readHead_95
        · refine sb_aload_n 0 d_Nr_readHead_71 rfl ?_
          refine sb_cVz vf_Nr_readOutputs (c_Nr_readOutputs γ10  ) rfl ml_Nr_65 (As := []) rfl rfl (Nat.le_of_ble_eq_true rfl) ⟨by decide, by decide⟩ d_Nr_readHead_72 (fun r11 γ12 hr11 => ?_)
          refine sb_if_eq 94 (z2i hr11) d_Nr_readHead_75 (by decide) (fun _ => ?_) (fun _ => ?_)
          · refine sb_iconst d_Nr_readHead_94 ?_
            exact sn_z rfl (by decide) d_Nr_readHead_95
          · refine sb_aload_n 0 d_Nr_readHead_78 rfl ?_
            refine g_Nr_9 d_Nr_readHead_79 ?_
            refine sb_bipush d_Nr_readHead_82 (by decide) ?_
            refine sb_cVz vf_Tk_expect (c_Tk_expect γ12 7 (by decide)) rfl ml_Nr_55 (As := [vI 7]) rfl rfl (Nat.le_of_ble_eq_true rfl) ⟨by decide, by decide⟩ d_Nr_readHead_84 (fun r14 γ15 hr14 => ?_)
            refine sb_if_eq 94 (z2i hr14) d_Nr_readHead_87 (by decide) (fun _ => ?_) (fun _ => ?_)
            · refine sb_iconst d_Nr_readHead_94 ?_
              exact sn_z rfl (by decide) d_Nr_readHead_95
            · refine sb_iconst d_Nr_readHead_90 ?_
              refine sb_goto 95 d_Nr_readHead_91 (by decide) ?_
              exact sn_z rfl (by decide) d_Nr_readHead_95
set_option maxHeartbeats 4000000 in
theorem c_Nr_readHead {Γ : Ctx} (γ : St) : NC Γ BS y_Nr_readHead mt_Nr_readHead 11 350 [vR Γ 5] γ (f_Nr_readHead γ) := by
  refine nc_of (by decide) rfl (Nat.le_of_ble_eq_true rfl) ?_
  show SB Γ BS mt_Nr_readHead (RmN 11 350) 0 0 (KN Γ BS mt_Nr_readHead.2.2.2) 0 [(0, vR Γ 5)] [] γ _
  unfold f_Nr_readHead
  refine sb_aload_n 0 d_Nr_readHead_0 rfl ?_
  refine g_Nr_9 d_Nr_readHead_1 ?_
  refine sb_cVi vf_Tk_kindNow (c_Tk_kindNow γ  ) rfl ml_Nr_39 (As := []) rfl rfl (Nat.le_of_ble_eq_true rfl) ⟨by decide, by decide⟩ d_Nr_readHead_4 (fun r17 γ18 hr17 => ?_)
  refine sb_bipush d_Nr_readHead_7 (by decide) ?_
  refine sb_icmp_ne 33 hr17 (by decide) d_Nr_readHead_9 (by decide) (fun _ => ?_) (fun _ => ?_)
  · exact sb_lv [0] rfl (s_Nr_readHead_b33 γ18  )
  · refine sb_aload_n 0 d_Nr_readHead_12 rfl ?_
    refine g_Nr_15 d_Nr_readHead_13 ?_
    refine g_Nr_45 d_Nr_readHead_16 (fun c20 => ?_)
    refine sb_bipush d_Nr_readHead_19 (by decide) ?_
    refine sb_icmp_ne 33 c20 (by decide) d_Nr_readHead_21 (by decide) (fun _ => ?_) (fun _ => ?_)
    · exact sb_lv [0] rfl (s_Nr_readHead_b33 γ18  )
    · refine sb_aload_n 0 d_Nr_readHead_24 rfl ?_
      refine g_Nr_9 d_Nr_readHead_25 ?_
      refine sb_iconst d_Nr_readHead_28 ?_
      refine sb_cVz vf_Tk_fail (c_Tk_fail γ18 3 (by decide)) rfl ml_Nr_51 (As := [vI 3]) rfl rfl (Nat.le_of_ble_eq_true rfl) ⟨by decide, by decide⟩ d_Nr_readHead_29 (fun r22 γ23 hr22 => ?_)
      exact sn_z rfl hr22 d_Nr_readHead_32
theorem d_Nr_readGroupClock_0 : decode b_Nr_readGroupClock 0 = .ok (.aload_n 0, 1) := by decide +kernel
theorem d_Nr_readGroupClock_1 : decode b_Nr_readGroupClock 1 = .ok (.getfield 9, 3) := by decide +kernel
theorem d_Nr_readGroupClock_4 : decode b_Nr_readGroupClock 4 = .ok (.invokevirtual 39, 3) := by decide +kernel
theorem d_Nr_readGroupClock_7 : decode b_Nr_readGroupClock 7 = .ok (.bipush 27, 2) := by decide +kernel
theorem d_Nr_readGroupClock_9 : decode b_Nr_readGroupClock 9 = .ok (.if_icmp .eq 5, 3) := by decide +kernel
theorem d_Nr_readGroupClock_12 : decode b_Nr_readGroupClock 12 = .ok (.iconst 1, 1) := by decide +kernel
theorem d_Nr_readGroupClock_13 : decode b_Nr_readGroupClock 13 = .ok (.ireturn, 1) := by decide +kernel
theorem d_Nr_readGroupClock_14 : decode b_Nr_readGroupClock 14 = .ok (.aload_n 0, 1) := by decide +kernel
theorem d_Nr_readGroupClock_15 : decode b_Nr_readGroupClock 15 = .ok (.getfield 28, 3) := by decide +kernel
theorem d_Nr_readGroupClock_18 : decode b_Nr_readGroupClock 18 = .ok (.iload_n 1, 1) := by decide +kernel
theorem d_Nr_readGroupClock_19 : decode b_Nr_readGroupClock 19 = .ok (.invokevirtual 155, 3) := by decide +kernel
theorem d_Nr_readGroupClock_22 : decode b_Nr_readGroupClock 22 = .ok (.istore_n 2, 1) := by decide +kernel
theorem d_Nr_readGroupClock_23 : decode b_Nr_readGroupClock 23 = .ok (.iload_n 2, 1) := by decide +kernel
theorem d_Nr_readGroupClock_24 : decode b_Nr_readGroupClock 24 = .ok (.ifCond .ge 5, 3) := by decide +kernel
theorem d_Nr_readGroupClock_27 : decode b_Nr_readGroupClock 27 = .ok (.iconst 0, 1) := by decide +kernel
theorem d_Nr_readGroupClock_28 : decode b_Nr_readGroupClock 28 = .ok (.ireturn, 1) := by decide +kernel
theorem d_Nr_readGroupClock_29 : decode b_Nr_readGroupClock 29 = .ok (.aload_n 0, 1) := by decide +kernel
theorem d_Nr_readGroupClock_30 : decode b_Nr_readGroupClock 30 = .ok (.getfield 15, 3) := by decide +kernel
theorem d_Nr_readGroupClock_33 : decode b_Nr_readGroupClock 33 = .ok (.getfield 159, 3) := by decide +kernel
theorem d_Nr_readGroupClock_36 : decode b_Nr_readGroupClock 36 = .ok (.aload_n 0, 1) := by decide +kernel
theorem d_Nr_readGroupClock_37 : decode b_Nr_readGroupClock 37 = .ok (.getfield 15, 3) := by decide +kernel
theorem d_Nr_readGroupClock_40 : decode b_Nr_readGroupClock 40 = .ok (.getfield 45, 3) := by decide +kernel
theorem d_Nr_readGroupClock_43 : decode b_Nr_readGroupClock 43 = .ok (.iaload, 1) := by decide +kernel
theorem d_Nr_readGroupClock_44 : decode b_Nr_readGroupClock 44 = .ok (.istore_n 3, 1) := by decide +kernel
theorem d_Nr_readGroupClock_45 : decode b_Nr_readGroupClock 45 = .ok (.iload_n 3, 1) := by decide +kernel
theorem d_Nr_readGroupClock_46 : decode b_Nr_readGroupClock 46 = .ok (.iload_n 1, 1) := by decide +kernel
theorem d_Nr_readGroupClock_47 : decode b_Nr_readGroupClock 47 = .ok (.iadd, 1) := by decide +kernel
theorem d_Nr_readGroupClock_48 : decode b_Nr_readGroupClock 48 = .ok (.istore 4, 2) := by decide +kernel
theorem d_Nr_readGroupClock_50 : decode b_Nr_readGroupClock 50 = .ok (.iload 4, 2) := by decide +kernel
theorem d_Nr_readGroupClock_52 : decode b_Nr_readGroupClock 52 = .ok (.aload_n 0, 1) := by decide +kernel
theorem d_Nr_readGroupClock_53 : decode b_Nr_readGroupClock 53 = .ok (.getfield 15, 3) := by decide +kernel
theorem d_Nr_readGroupClock_56 : decode b_Nr_readGroupClock 56 = .ok (.getfield 134, 3) := by decide +kernel
theorem d_Nr_readGroupClock_59 : decode b_Nr_readGroupClock 59 = .ok (.if_icmp .ge 45, 3) := by decide +kernel
theorem d_Nr_readGroupClock_62 : decode b_Nr_readGroupClock 62 = .ok (.aload_n 0, 1) := by decide +kernel
theorem d_Nr_readGroupClock_63 : decode b_Nr_readGroupClock 63 = .ok (.getfield 15, 3) := by decide +kernel
theorem d_Nr_readGroupClock_66 : decode b_Nr_readGroupClock 66 = .ok (.getfield 162, 3) := by decide +kernel
theorem d_Nr_readGroupClock_69 : decode b_Nr_readGroupClock 69 = .ok (.iload 4, 2) := by decide +kernel
theorem d_Nr_readGroupClock_71 : decode b_Nr_readGroupClock 71 = .ok (.iload_n 2, 1) := by decide +kernel
theorem d_Nr_readGroupClock_72 : decode b_Nr_readGroupClock 72 = .ok (.iastore, 1) := by decide +kernel
theorem d_Nr_readGroupClock_73 : decode b_Nr_readGroupClock 73 = .ok (.aload_n 0, 1) := by decide +kernel
theorem d_Nr_readGroupClock_74 : decode b_Nr_readGroupClock 74 = .ok (.getfield 15, 3) := by decide +kernel
theorem d_Nr_readGroupClock_77 : decode b_Nr_readGroupClock 77 = .ok (.getfield 165, 3) := by decide +kernel
theorem d_Nr_readGroupClock_80 : decode b_Nr_readGroupClock 80 = .ok (.iload 4, 2) := by decide +kernel
theorem d_Nr_readGroupClock_82 : decode b_Nr_readGroupClock 82 = .ok (.aload_n 0, 1) := by decide +kernel
theorem d_Nr_readGroupClock_83 : decode b_Nr_readGroupClock 83 = .ok (.getfield 15, 3) := by decide +kernel
theorem d_Nr_readGroupClock_86 : decode b_Nr_readGroupClock 86 = .ok (.getfield 165, 3) := by decide +kernel
theorem d_Nr_readGroupClock_89 : decode b_Nr_readGroupClock 89 = .ok (.iload_n 3, 1) := by decide +kernel
theorem d_Nr_readGroupClock_90 : decode b_Nr_readGroupClock 90 = .ok (.iload_n 2, 1) := by decide +kernel
theorem d_Nr_readGroupClock_91 : decode b_Nr_readGroupClock 91 = .ok (.iconst 1, 1) := by decide +kernel
theorem d_Nr_readGroupClock_92 : decode b_Nr_readGroupClock 92 = .ok (.ishr, 1) := by decide +kernel
theorem d_Nr_readGroupClock_93 : decode b_Nr_readGroupClock 93 = .ok (.iadd, 1) := by decide +kernel
theorem d_Nr_readGroupClock_94 : decode b_Nr_readGroupClock 94 = .ok (.iaload, 1) := by decide +kernel
theorem d_Nr_readGroupClock_95 : decode b_Nr_readGroupClock 95 = .ok (.iconst 1, 1) := by decide +kernel
theorem d_Nr_readGroupClock_96 : decode b_Nr_readGroupClock 96 = .ok (.iadd, 1) := by decide +kernel
theorem d_Nr_readGroupClock_97 : decode b_Nr_readGroupClock 97 = .ok (.iastore, 1) := by decide +kernel
theorem d_Nr_readGroupClock_98 : decode b_Nr_readGroupClock 98 = .ok (.iinc 4 1, 3) := by decide +kernel
theorem d_Nr_readGroupClock_101 : decode b_Nr_readGroupClock 101 = .ok (.goto (-51), 3) := by decide +kernel
theorem d_Nr_readGroupClock_104 : decode b_Nr_readGroupClock 104 = .ok (.iconst 1, 1) := by decide +kernel
theorem d_Nr_readGroupClock_105 : decode b_Nr_readGroupClock 105 = .ok (.ireturn, 1) := by decide +kernel
abbrev mt_Nr_readGroupClock : MT := (R_Nr, b_Nr_readGroupClock, 5, some .boolean)
theorem vf_Nr_readGroupClock : VF y_Nr_readGroupClock mt_Nr_readGroupClock 5 1 := ⟨im_Nr_readGroupClock, se_Nr_readGroupClock, in_Nr, co_Nr_readGroupClock, by decide +kernel, _, _, rfl⟩
def f_Nr_readGroupClock_L50 : Nat → St → Int → Int → Int → Option (Int × St)
  | 0, _, _, _, _ => none
  | n + 1, γ, x1, x2, x3 =>
  if (γ 3 15) ≤ x3 then
  (some (1, γ))
  else
  (chk (inb x3 5841) (ap (setA γ 34 x3 x1) fun γ8 =>
  chk (i32 (x2 + (ishr x1 1))) (chk (inb (x2 + (ishr x1 1)) 5841) (chk (i32 ((γ8 35 (x2 + (ishr x1 1))) + 1)) (chk (inb x3 5841) (ap (setA γ8 35 x3 ((γ8 35 (x2 + (ishr x1 1))) + 1)) fun γ16 =>
  chk (i32 (x3 + 1)) ((f_Nr_readGroupClock_L50 n) γ16 x1 x2 (x3 + 1))))))))
def f_Nr_readGroupClock (γ : St) (a0 : Int) : Option (Int × St) :=
  bndN (f_Tk_kindNow γ) fun r19 γ20 =>
  if r19 = 27 then
  (bndN (f_Er_readClock γ20 a0) fun r22 γ23 =>
  if 0 ≤ r22 then
  (chk (inb (γ23 3 9) 59) (ap (γ23 25 (γ23 3 9)) fun x29 =>
  chk (i32 (x29 + a0)) (ap (x29 + a0) fun x31 =>
  f_Nr_readGroupClock_L50  FU γ23 r22 x29 x31)))
  else
  (some (0, γ23)))
  else
  (some (1, γ20))
set_option maxHeartbeats 4000000 in
theorem s_Nr_readGroupClock_L50 {Γ : Ctx} : ∀ (n : Nat) (γ : St) (x1 : Int) (x2 : Int) (x3 : Int), i32 x1 → i32 x2 → i32 x3 → SB Γ BS mt_Nr_readGroupClock (RmN 8 285) 0 0 (KN Γ BS mt_Nr_readGroupClock.2.2.2) 50 [(0, vR Γ 5), (2, vI x1), (3, vI x2), (4, vI x3)] [] γ (f_Nr_readGroupClock_L50 n γ x1 x2 x3) := by
  intro n
  induction n with
  | zero => intros; exact sb_none
  | succ n ih =>
    intro γ x1 x2 x3 hx1 hx2 hx3
    unfold f_Nr_readGroupClock_L50
    refine sb_iload 3 d_Nr_readGroupClock_50 rfl ?_
    refine sb_aload_n 0 d_Nr_readGroupClock_52 rfl ?_
    refine g_Nr_15 d_Nr_readGroupClock_53 ?_
    refine g_Nr_134 d_Nr_readGroupClock_56 (fun c5 => ?_)
    refine sb_icmp_ge 104 hx3 c5 d_Nr_readGroupClock_59 (by decide) (fun _ => ?_) (fun _ => ?_)
    · refine sb_iconst d_Nr_readGroupClock_104 ?_
      exact sn_z rfl (by decide) d_Nr_readGroupClock_105
    · refine sb_aload_n 0 d_Nr_readGroupClock_62 rfl ?_
      refine g_Nr_15 d_Nr_readGroupClock_63 ?_
      refine g_Nr_162 d_Nr_readGroupClock_66 ?_
      refine sb_iload 3 d_Nr_readGroupClock_69 rfl ?_
      refine sb_iload_n 1 d_Nr_readGroupClock_71 rfl ?_
      refine as_S_34 hx1 d_Nr_readGroupClock_72 (fun _ => ?_)
      refine sb_aps (fun γ8 => ?_)
      refine sb_aload_n 0 d_Nr_readGroupClock_73 rfl ?_
      refine g_Nr_15 d_Nr_readGroupClock_74 ?_
      refine g_Nr_165 d_Nr_readGroupClock_77 ?_
      refine sb_iload 3 d_Nr_readGroupClock_80 rfl ?_
      refine sb_aload_n 0 d_Nr_readGroupClock_82 rfl ?_
      refine g_Nr_15 d_Nr_readGroupClock_83 ?_
      refine g_Nr_165 d_Nr_readGroupClock_86 ?_
      refine sb_iload_n 2 d_Nr_readGroupClock_89 rfl ?_
      refine sb_iload_n 1 d_Nr_readGroupClock_90 rfl ?_
      refine sb_iconst d_Nr_readGroupClock_91 ?_
      refine sb_ishr d_Nr_readGroupClock_92 ?_
      refine sb_iadd d_Nr_readGroupClock_93 ?_
      refine sb_chk (fun c13 => ?_)
      refine al_S_35 d_Nr_readGroupClock_94 (fun _ c14 => ?_)
      refine sb_iconst d_Nr_readGroupClock_95 ?_
      refine sb_iadd d_Nr_readGroupClock_96 ?_
      refine sb_chk (fun c15 => ?_)
      refine as_S_35 c15 d_Nr_readGroupClock_97 (fun _ => ?_)
      refine sb_aps (fun γ16 => ?_)
      refine sb_iinc 3 [(4, vI (x3 + 1)), (0, vR Γ 5), (2, vI x1), (3, vI x2)] d_Nr_readGroupClock_98 rfl (by decide) rfl ?_
      refine sb_chk (fun c17 => ?_)
      refine sb_goto 50 d_Nr_readGroupClock_101 (by decide) ?_
      exact sb_lv [1, 2, 3, 0] rfl (ih γ16 x1 x2 (x3 + 1) hx1 hx2 c17)
set_option maxHeartbeats 4000000 in
theorem c_Nr_readGroupClock {Γ : Ctx} (γ : St) (a0 : Int) (ha0 : i32 a0) : NC Γ BS y_Nr_readGroupClock mt_Nr_readGroupClock 8 285 [vR Γ 5, vI a0] γ (f_Nr_readGroupClock γ a0) := by
  refine nc_of (by decide) rfl (Nat.le_of_ble_eq_true rfl) ?_
  show SB Γ BS mt_Nr_readGroupClock (RmN 8 285) 0 0 (KN Γ BS mt_Nr_readGroupClock.2.2.2) 0 [(0, vR Γ 5), (1, vI a0)] [] γ _
  unfold f_Nr_readGroupClock
  refine sb_aload_n 0 d_Nr_readGroupClock_0 rfl ?_
  refine g_Nr_9 d_Nr_readGroupClock_1 ?_
  refine sb_cVi vf_Tk_kindNow (c_Tk_kindNow γ  ) rfl ml_Nr_39 (As := []) rfl rfl (Nat.le_of_ble_eq_true rfl) ⟨by decide, by decide⟩ d_Nr_readGroupClock_4 (fun r19 γ20 hr19 => ?_)
  refine sb_bipush d_Nr_readGroupClock_7 (by decide) ?_
  refine sb_icmp_eq 14 hr19 (by decide) d_Nr_readGroupClock_9 (by decide) (fun _ => ?_) (fun _ => ?_)
  · refine sb_aload_n 0 d_Nr_readGroupClock_14 rfl ?_
    refine g_Nr_28 d_Nr_readGroupClock_15 ?_
    refine sb_iload_n 1 d_Nr_readGroupClock_18 rfl ?_
    refine sb_cVi vf_Er_readClock (c_Er_readClock γ20 a0 ha0) rfl ml_Nr_155 (As := [vI a0]) rfl rfl (Nat.le_of_ble_eq_true rfl) ⟨by decide, by decide⟩ d_Nr_readGroupClock_19 (fun r22 γ23 hr22 => ?_)
    refine sb_istore_n [(2, vI r22), (0, vR Γ 5), (1, vI a0)] d_Nr_readGroupClock_22 (by decide) rfl ?_
    refine sb_iload_n 0 d_Nr_readGroupClock_23 rfl ?_
    refine sb_if_ge 29 hr22 d_Nr_readGroupClock_24 (by decide) (fun _ => ?_) (fun _ => ?_)
    · refine sb_aload_n 1 d_Nr_readGroupClock_29 rfl ?_
      refine g_Nr_15 d_Nr_readGroupClock_30 ?_
      refine g_Nr_159 d_Nr_readGroupClock_33 ?_
      refine sb_aload_n 1 d_Nr_readGroupClock_36 rfl ?_
      refine g_Nr_15 d_Nr_readGroupClock_37 ?_
      refine g_Nr_45 d_Nr_readGroupClock_40 (fun c27 => ?_)
      refine al_S_25 d_Nr_readGroupClock_43 (fun _ c28 => ?_)
      refine sb_istore_n [(3, vI (γ23 25 (γ23 3 9))), (2, vI r22), (0, vR Γ 5), (1, vI a0)] d_Nr_readGroupClock_44 (by decide) rfl ?_
      refine sb_nme (e := γ23 25 (γ23 3 9)) (fun x29 => [(3, vI x29), (2, vI r22), (0, vR Γ 5), (1, vI a0)]) c28 (fun x29 hx29 => ?_)
      refine sb_iload_n 0 d_Nr_readGroupClock_45 rfl ?_
      refine sb_iload_n 3 d_Nr_readGroupClock_46 rfl ?_
      refine sb_iadd d_Nr_readGroupClock_47 ?_
      refine sb_chk (fun c30 => ?_)
      refine sb_istore [(4, vI (x29 + a0)), (3, vI x29), (2, vI r22), (0, vR Γ 5), (1, vI a0)] d_Nr_readGroupClock_48 (by decide) rfl ?_
      refine sb_nme (e := x29 + a0) (fun x31 => [(4, vI x31), (3, vI x29), (2, vI r22), (0, vR Γ 5), (1, vI a0)]) c30 (fun x31 hx31 => ?_)
      exact sb_lv [3, 2, 1, 0] rfl (s_Nr_readGroupClock_L50  FU γ23 r22 x29 x31 hr22 hx29 hx31)
    · refine sb_iconst d_Nr_readGroupClock_27 ?_
      exact sn_z rfl (by decide) d_Nr_readGroupClock_28
  · refine sb_iconst d_Nr_readGroupClock_12 ?_
    exact sn_z rfl (by decide) d_Nr_readGroupClock_13
theorem d_Nr_readVarGroup_0 : decode b_Nr_readVarGroup 0 = .ok (.aload_n 0, 1) := by decide +kernel
theorem d_Nr_readVarGroup_1 : decode b_Nr_readVarGroup 1 = .ok (.getfield 15, 3) := by decide +kernel
theorem d_Nr_readVarGroup_4 : decode b_Nr_readVarGroup 4 = .ok (.getfield 119, 3) := by decide +kernel
theorem d_Nr_readVarGroup_7 : decode b_Nr_readVarGroup 7 = .ok (.aload_n 0, 1) := by decide +kernel
theorem d_Nr_readVarGroup_8 : decode b_Nr_readVarGroup 8 = .ok (.getfield 15, 3) := by decide +kernel
theorem d_Nr_readVarGroup_11 : decode b_Nr_readVarGroup 11 = .ok (.getfield 45, 3) := by decide +kernel
theorem d_Nr_readVarGroup_14 : decode b_Nr_readVarGroup 14 = .ok (.iaload, 1) := by decide +kernel
theorem d_Nr_readVarGroup_15 : decode b_Nr_readVarGroup 15 = .ok (.istore_n 1, 1) := by decide +kernel
theorem d_Nr_readVarGroup_16 : decode b_Nr_readVarGroup 16 = .ok (.aload_n 0, 1) := by decide +kernel
theorem d_Nr_readVarGroup_17 : decode b_Nr_readVarGroup 17 = .ok (.invokevirtual 125, 3) := by decide +kernel
theorem d_Nr_readVarGroup_20 : decode b_Nr_readVarGroup 20 = .ok (.ifCond .eq 27, 3) := by decide +kernel
theorem d_Nr_readVarGroup_23 : decode b_Nr_readVarGroup 23 = .ok (.aload_n 0, 1) := by decide +kernel
theorem d_Nr_readVarGroup_24 : decode b_Nr_readVarGroup 24 = .ok (.iload_n 1, 1) := by decide +kernel
theorem d_Nr_readVarGroup_25 : decode b_Nr_readVarGroup 25 = .ok (.invokevirtual 131, 3) := by decide +kernel
theorem d_Nr_readVarGroup_28 : decode b_Nr_readVarGroup 28 = .ok (.ifCond .eq 19, 3) := by decide +kernel
theorem d_Nr_readVarGroup_31 : decode b_Nr_readVarGroup 31 = .ok (.aload_n 0, 1) := by decide +kernel
theorem d_Nr_readVarGroup_32 : decode b_Nr_readVarGroup 32 = .ok (.getfield 9, 3) := by decide +kernel
theorem d_Nr_readVarGroup_35 : decode b_Nr_readVarGroup 35 = .ok (.bipush 7, 2) := by decide +kernel
theorem d_Nr_readVarGroup_37 : decode b_Nr_readVarGroup 37 = .ok (.invokevirtual 55, 3) := by decide +kernel
theorem d_Nr_readVarGroup_40 : decode b_Nr_readVarGroup 40 = .ok (.ifCond .eq 7, 3) := by decide +kernel
theorem d_Nr_readVarGroup_43 : decode b_Nr_readVarGroup 43 = .ok (.iconst 1, 1) := by decide +kernel
theorem d_Nr_readVarGroup_44 : decode b_Nr_readVarGroup 44 = .ok (.goto 4, 3) := by decide +kernel
theorem d_Nr_readVarGroup_47 : decode b_Nr_readVarGroup 47 = .ok (.iconst 0, 1) := by decide +kernel
theorem d_Nr_readVarGroup_48 : decode b_Nr_readVarGroup 48 = .ok (.ireturn, 1) := by decide +kernel
abbrev mt_Nr_readVarGroup : MT := (R_Nr, b_Nr_readVarGroup, 2, some .boolean)
theorem vf_Nr_readVarGroup : VF y_Nr_readVarGroup mt_Nr_readVarGroup 5 0 := ⟨im_Nr_readVarGroup, se_Nr_readVarGroup, in_Nr, co_Nr_readVarGroup, by decide +kernel, _, _, rfl⟩
def f_Nr_readVarGroup (γ : St) : Option (Int × St) :=
  chk (inb (γ 3 9) 59) (ap (γ 28 (γ 3 9)) fun x6 =>
  bndN (f_Nr_readGroup γ) fun r7 γ8 =>
  if r7 = 0 then
  (some (0, γ8))
  else
  (bndN (f_Nr_readGroupClock γ8 x6) fun r9 γ10 =>
  if r9 = 0 then
  (some (0, γ10))
  else
  (bndN (f_Tk_expect γ10 7) fun r12 γ13 =>
  if r12 = 0 then
  (some (0, γ13))
  else
  (some (1, γ13)))))
set_option maxHeartbeats 4000000 in
theorem c_Nr_readVarGroup {Γ : Ctx} (γ : St) : NC Γ BS y_Nr_readVarGroup mt_Nr_readVarGroup 9 309 [vR Γ 5] γ (f_Nr_readVarGroup γ) := by
  refine nc_of (by decide) rfl (Nat.le_of_ble_eq_true rfl) ?_
  show SB Γ BS mt_Nr_readVarGroup (RmN 9 309) 0 0 (KN Γ BS mt_Nr_readVarGroup.2.2.2) 0 [(0, vR Γ 5)] [] γ _
  unfold f_Nr_readVarGroup
  refine sb_aload_n 0 d_Nr_readVarGroup_0 rfl ?_
  refine g_Nr_15 d_Nr_readVarGroup_1 ?_
  refine g_Nr_119 d_Nr_readVarGroup_4 ?_
  refine sb_aload_n 0 d_Nr_readVarGroup_7 rfl ?_
  refine g_Nr_15 d_Nr_readVarGroup_8 ?_
  refine g_Nr_45 d_Nr_readVarGroup_11 (fun c4 => ?_)
  refine al_S_28 d_Nr_readVarGroup_14 (fun _ c5 => ?_)
  refine sb_istore_n [(1, vI (γ 28 (γ 3 9))), (0, vR Γ 5)] d_Nr_readVarGroup_15 (by decide) rfl ?_
  refine sb_nme (e := γ 28 (γ 3 9)) (fun x6 => [(1, vI x6), (0, vR Γ 5)]) c5 (fun x6 hx6 => ?_)
  refine sb_aload_n 1 d_Nr_readVarGroup_16 rfl ?_
  refine sb_cVz vf_Nr_readGroup (c_Nr_readGroup γ  ) rfl ml_Nr_125 (As := []) rfl rfl (Nat.le_of_ble_eq_true rfl) ⟨by decide, by decide⟩ d_Nr_readVarGroup_17 (fun r7 γ8 hr7 => ?_)
  refine sb_if_eq 47 (z2i hr7) d_Nr_readVarGroup_20 (by decide) (fun _ => ?_) (fun _ => ?_)
  · refine sb_iconst d_Nr_readVarGroup_47 ?_
    exact sn_z rfl (by decide) d_Nr_readVarGroup_48
  · refine sb_aload_n 1 d_Nr_readVarGroup_23 rfl ?_
    refine sb_iload_n 0 d_Nr_readVarGroup_24 rfl ?_
    refine sb_cVz vf_Nr_readGroupClock (c_Nr_readGroupClock γ8 x6 hx6) rfl ml_Nr_131 (As := [vI x6]) rfl rfl (Nat.le_of_ble_eq_true rfl) ⟨by decide, by decide⟩ d_Nr_readVarGroup_25 (fun r9 γ10 hr9 => ?_)
    refine sb_if_eq 47 (z2i hr9) d_Nr_readVarGroup_28 (by decide) (fun _ => ?_) (fun _ => ?_)
    · refine sb_iconst d_Nr_readVarGroup_47 ?_
      exact sn_z rfl (by decide) d_Nr_readVarGroup_48
    · refine sb_aload_n 1 d_Nr_readVarGroup_31 rfl ?_
      refine g_Nr_9 d_Nr_readVarGroup_32 ?_
      refine sb_bipush d_Nr_readVarGroup_35 (by decide) ?_
      refine sb_cVz vf_Tk_expect (c_Tk_expect γ10 7 (by decide)) rfl ml_Nr_55 (As := [vI 7]) rfl rfl (Nat.le_of_ble_eq_true rfl) ⟨by decide, by decide⟩ d_Nr_readVarGroup_37 (fun r12 γ13 hr12 => ?_)
      refine sb_if_eq 47 (z2i hr12) d_Nr_readVarGroup_40 (by decide) (fun _ => ?_) (fun _ => ?_)
      · refine sb_iconst d_Nr_readVarGroup_47 ?_
        exact sn_z rfl (by decide) d_Nr_readVarGroup_48
      · refine sb_iconst d_Nr_readVarGroup_43 ?_
        refine sb_goto 48 d_Nr_readVarGroup_44 (by decide) ?_
        exact sn_z rfl (by decide) d_Nr_readVarGroup_48
theorem d_Nr_readVars_0 : decode b_Nr_readVars 0 = .ok (.aload_n 0, 1) := by decide +kernel
theorem d_Nr_readVars_1 : decode b_Nr_readVars 1 = .ok (.getfield 9, 3) := by decide +kernel
theorem d_Nr_readVars_4 : decode b_Nr_readVars 4 = .ok (.invokevirtual 39, 3) := by decide +kernel
theorem d_Nr_readVars_7 : decode b_Nr_readVars 7 = .ok (.bipush 22, 2) := by decide +kernel
theorem d_Nr_readVars_9 : decode b_Nr_readVars 9 = .ok (.if_icmp .eq 5, 3) := by decide +kernel
theorem d_Nr_readVars_12 : decode b_Nr_readVars 12 = .ok (.iconst 1, 1) := by decide +kernel
theorem d_Nr_readVars_13 : decode b_Nr_readVars 13 = .ok (.ireturn, 1) := by decide +kernel
theorem d_Nr_readVars_14 : decode b_Nr_readVars 14 = .ok (.aload_n 0, 1) := by decide +kernel
theorem d_Nr_readVars_15 : decode b_Nr_readVars 15 = .ok (.getfield 9, 3) := by decide +kernel
theorem d_Nr_readVars_18 : decode b_Nr_readVars 18 = .ok (.invokevirtual 98, 3) := by decide +kernel
theorem d_Nr_readVars_21 : decode b_Nr_readVars 21 = .ok (.aload_n 0, 1) := by decide +kernel
theorem d_Nr_readVars_22 : decode b_Nr_readVars 22 = .ok (.invokevirtual 128, 3) := by decide +kernel
theorem d_Nr_readVars_25 : decode b_Nr_readVars 25 = .ok (.istore_n 1, 1) := by decide +kernel
theorem d_Nr_readVars_26 : decode b_Nr_readVars 26 = .ok (.iconst 0, 1) := by decide +kernel
theorem d_Nr_readVars_27 : decode b_Nr_readVars 27 = .ok (.istore_n 2, 1) := by decide +kernel
theorem d_Nr_readVars_28 : decode b_Nr_readVars 28 = .ok (.iload_n 1, 1) := by decide +kernel
theorem d_Nr_readVars_29 : decode b_Nr_readVars 29 = .ok (.ifCond .eq 36, 3) := by decide +kernel
theorem d_Nr_readVars_32 : decode b_Nr_readVars 32 = .ok (.iload_n 2, 1) := by decide +kernel
theorem d_Nr_readVars_33 : decode b_Nr_readVars 33 = .ok (.aload_n 0, 1) := by decide +kernel
theorem d_Nr_readVars_34 : decode b_Nr_readVars 34 = .ok (.getfield 9, 3) := by decide +kernel
theorem d_Nr_readVars_37 : decode b_Nr_readVars 37 = .ok (.getfield 74, 3) := by decide +kernel
theorem d_Nr_readVars_40 : decode b_Nr_readVars 40 = .ok (.if_icmp .ge 25, 3) := by decide +kernel
theorem d_Nr_readVars_43 : decode b_Nr_readVars 43 = .ok (.aload_n 0, 1) := by decide +kernel
theorem d_Nr_readVars_44 : decode b_Nr_readVars 44 = .ok (.getfield 9, 3) := by decide +kernel
theorem d_Nr_readVars_47 : decode b_Nr_readVars 47 = .ok (.invokevirtual 39, 3) := by decide +kernel
theorem d_Nr_readVars_50 : decode b_Nr_readVars 50 = .ok (.iconst 2, 1) := by decide +kernel
theorem d_Nr_readVars_51 : decode b_Nr_readVars 51 = .ok (.if_icmp .ne 14, 3) := by decide +kernel
theorem d_Nr_readVars_54 : decode b_Nr_readVars 54 = .ok (.aload_n 0, 1) := by decide +kernel
theorem d_Nr_readVars_55 : decode b_Nr_readVars 55 = .ok (.invokevirtual 128, 3) := by decide +kernel
theorem d_Nr_readVars_58 : decode b_Nr_readVars 58 = .ok (.istore_n 1, 1) := by decide +kernel
theorem d_Nr_readVars_59 : decode b_Nr_readVars 59 = .ok (.iinc 2 1, 3) := by decide +kernel
theorem d_Nr_readVars_62 : decode b_Nr_readVars 62 = .ok (.goto (-34), 3) := by decide +kernel
theorem d_Nr_readVars_65 : decode b_Nr_readVars 65 = .ok (.iload_n 1, 1) := by decide +kernel
theorem d_Nr_readVars_66 : decode b_Nr_readVars 66 = .ok (.ireturn, 1) := by decide +kernel
abbrev mt_Nr_readVars : MT := (R_Nr, b_Nr_readVars, 3, some .boolean)
theorem vf_Nr_readVars : VF y_Nr_readVars mt_Nr_readVars 5 0 := ⟨im_Nr_readVars, se_Nr_readVars, in_Nr, co_Nr_readVars, by decide +kernel, _, _, rfl⟩
def f_Nr_readVars_L28 : Nat → St → Int → Int → Option (Int × St)
  | 0, _, _, _ => none
  | n + 1, γ, x1, x2 =>
  if x1 = 0 then
  (chk (x1 = 0 ∨ x1 = 1) (some (x1, γ)))
  else
  (if (γ 1 5) ≤ x2 then
  (chk (x1 = 0 ∨ x1 = 1) (some (x1, γ)))
  else
  (bndN (f_Tk_kindNow γ) fun r8 γ9 =>
  if r8 ≠ 2 then
  (chk (x1 = 0 ∨ x1 = 1) (some (x1, γ9)))
  else
  (bndN (f_Nr_readVarGroup γ9) fun r11 γ12 =>
  chk (i32 (x2 + 1)) ((f_Nr_readVars_L28 n) γ12 r11 (x2 + 1)))))
def f_Nr_readVars (γ : St) : Option (Int × St) :=
  bndN (f_Tk_kindNow γ) fun r15 γ16 =>
  if r15 = 22 then
  (bndN (f_Tk_step γ16) fun _ γ19 =>
  bndN (f_Nr_readVarGroup γ19) fun r20 γ21 =>
  f_Nr_readVars_L28  FU γ21 r20 0)
  else
  (some (1, γ16))
set_option maxHeartbeats 4000000 in
theorem s_Nr_readVars_L28 {Γ : Ctx} : ∀ (n : Nat) (γ : St) (x1 : Int) (x2 : Int), i32 x1 → i32 x2 → SB Γ BS mt_Nr_readVars (RmN 10 330) 0 0 (KN Γ BS mt_Nr_readVars.2.2.2) 28 [(0, vR Γ 5), (1, vI x1), (2, vI x2)] [] γ (f_Nr_readVars_L28 n γ x1 x2) := by
  intro n
  induction n with
  | zero => intros; exact sb_none
  | succ n ih =>
    intro γ x1 x2 hx1 hx2
    unfold f_Nr_readVars_L28
    refine sb_iload_n 1 d_Nr_readVars_28 rfl ?_
    refine sb_if_eq 65 hx1 d_Nr_readVars_29 (by decide) (fun _ => ?_) (fun _ => ?_)
    · refine sb_iload_n 1 d_Nr_readVars_65 rfl ?_
      refine sb_chk (fun c3 => ?_)
      exact sn_z rfl c3 d_Nr_readVars_66
    · refine sb_iload_n 2 d_Nr_readVars_32 rfl ?_
      refine sb_aload_n 0 d_Nr_readVars_33 rfl ?_
      refine g_Nr_9 d_Nr_readVars_34 ?_
      refine g_Nr_74 d_Nr_readVars_37 (fun c5 => ?_)
      refine sb_icmp_ge 65 hx2 c5 d_Nr_readVars_40 (by decide) (fun _ => ?_) (fun _ => ?_)
      · refine sb_iload_n 1 d_Nr_readVars_65 rfl ?_
        refine sb_chk (fun c6 => ?_)
        exact sn_z rfl c6 d_Nr_readVars_66
      · refine sb_aload_n 0 d_Nr_readVars_43 rfl ?_
        refine g_Nr_9 d_Nr_readVars_44 ?_
        refine sb_cVi vf_Tk_kindNow (c_Tk_kindNow γ  ) rfl ml_Nr_39 (As := []) rfl rfl (Nat.le_of_ble_eq_true rfl) ⟨by decide, by decide⟩ d_Nr_readVars_47 (fun r8 γ9 hr8 => ?_)
        refine sb_iconst d_Nr_readVars_50 ?_
        refine sb_icmp_ne 65 hr8 (by decide) d_Nr_readVars_51 (by decide) (fun _ => ?_) (fun _ => ?_)
        · refine sb_iload_n 1 d_Nr_readVars_65 rfl ?_
          refine sb_chk (fun c10 => ?_)
          exact sn_z rfl c10 d_Nr_readVars_66
        · refine sb_aload_n 0 d_Nr_readVars_54 rfl ?_
          refine sb_cVz vf_Nr_readVarGroup (c_Nr_readVarGroup γ9  ) rfl ml_Nr_128 (As := []) rfl rfl (Nat.le_of_ble_eq_true rfl) ⟨by decide, by decide⟩ d_Nr_readVars_55 (fun r11 γ12 hr11 => ?_)
          refine sb_istore_n [(1, vI r11), (0, vR Γ 5), (2, vI x2)] d_Nr_readVars_58 (by decide) rfl ?_
          refine sb_iinc 2 [(2, vI (x2 + 1)), (1, vI r11), (0, vR Γ 5)] d_Nr_readVars_59 rfl (by decide) rfl ?_
          refine sb_chk (fun c13 => ?_)
          refine sb_goto 28 d_Nr_readVars_62 (by decide) ?_
          exact sb_lv [2, 1, 0] rfl (ih γ12 r11 (x2 + 1) (z2i hr11) c13)
set_option maxHeartbeats 4000000 in
theorem c_Nr_readVars {Γ : Ctx} (γ : St) : NC Γ BS y_Nr_readVars mt_Nr_readVars 10 330 [vR Γ 5] γ (f_Nr_readVars γ) := by
  refine nc_of (by decide) rfl (Nat.le_of_ble_eq_true rfl) ?_
  show SB Γ BS mt_Nr_readVars (RmN 10 330) 0 0 (KN Γ BS mt_Nr_readVars.2.2.2) 0 [(0, vR Γ 5)] [] γ _
  unfold f_Nr_readVars
  refine sb_aload_n 0 d_Nr_readVars_0 rfl ?_
  refine g_Nr_9 d_Nr_readVars_1 ?_
  refine sb_cVi vf_Tk_kindNow (c_Tk_kindNow γ  ) rfl ml_Nr_39 (As := []) rfl rfl (Nat.le_of_ble_eq_true rfl) ⟨by decide, by decide⟩ d_Nr_readVars_4 (fun r15 γ16 hr15 => ?_)
  refine sb_bipush d_Nr_readVars_7 (by decide) ?_
  refine sb_icmp_eq 14 hr15 (by decide) d_Nr_readVars_9 (by decide) (fun _ => ?_) (fun _ => ?_)
  · refine sb_aload_n 0 d_Nr_readVars_14 rfl ?_
    refine g_Nr_9 d_Nr_readVars_15 ?_
    refine sb_cVv vf_Tk_step (c_Tk_step γ16  ) rfl ml_Nr_98 (As := []) rfl rfl (Nat.le_of_ble_eq_true rfl) ⟨by decide, by decide⟩ d_Nr_readVars_18 (fun _ γ19 => ?_)
    refine sb_aload_n 0 d_Nr_readVars_21 rfl ?_
    refine sb_cVz vf_Nr_readVarGroup (c_Nr_readVarGroup γ19  ) rfl ml_Nr_128 (As := []) rfl rfl (Nat.le_of_ble_eq_true rfl) ⟨by decide, by decide⟩ d_Nr_readVars_22 (fun r20 γ21 hr20 => ?_)
    refine sb_istore_n [(1, vI r20), (0, vR Γ 5)] d_Nr_readVars_25 (by decide) rfl ?_
    refine sb_iconst d_Nr_readVars_26 ?_
    refine sb_istore_n [(2, vI 0), (1, vI r20), (0, vR Γ 5)] d_Nr_readVars_27 (by decide) rfl ?_
    exact sb_lv [2, 1, 0] rfl (s_Nr_readVars_L28  FU γ21 r20 0 (z2i hr20) (by decide))
  · refine sb_iconst d_Nr_readVars_12 ?_
    exact sn_z rfl (by decide) d_Nr_readVars_13
theorem d_Nr_readLeft_0 : decode b_Nr_readLeft 0 = .ok (.aload_n 0, 1) := by decide +kernel
theorem d_Nr_readLeft_1 : decode b_Nr_readLeft 1 = .ok (.getfield 9, 3) := by decide +kernel
theorem d_Nr_readLeft_4 : decode b_Nr_readLeft 4 = .ok (.invokevirtual 39, 3) := by decide +kernel
theorem d_Nr_readLeft_7 : decode b_Nr_readLeft 7 = .ok (.iconst 2, 1) := by decide +kernel
theorem d_Nr_readLeft_8 : decode b_Nr_readLeft 8 = .ok (.if_icmp .eq 12, 3) := by decide +kernel
theorem d_Nr_readLeft_11 : decode b_Nr_readLeft 11 = .ok (.aload_n 0, 1) := by decide +kernel
theorem d_Nr_readLeft_12 : decode b_Nr_readLeft 12 = .ok (.getfield 9, 3) := by decide +kernel
theorem d_Nr_readLeft_15 : decode b_Nr_readLeft 15 = .ok (.iconst 1, 1) := by decide +kernel
theorem d_Nr_readLeft_16 : decode b_Nr_readLeft 16 = .ok (.invokevirtual 51, 3) := by decide +kernel
theorem d_Nr_readLeft_19 : decode b_Nr_readLeft 19 = .ok (.ireturn, 1) := by decide +kernel
theorem d_Nr_readLeft_20 : decode b_Nr_readLeft 20 = .ok (.aload_n 0, 1) := by decide +kernel
theorem d_Nr_readLeft_21 : decode b_Nr_readLeft 21 = .ok (.getfield 28, 3) := by decide +kernel
theorem d_Nr_readLeft_24 : decode b_Nr_readLeft 24 = .ok (.invokevirtual 188, 3) := by decide +kernel
theorem d_Nr_readLeft_27 : decode b_Nr_readLeft 27 = .ok (.istore_n 1, 1) := by decide +kernel
theorem d_Nr_readLeft_28 : decode b_Nr_readLeft 28 = .ok (.iload_n 1, 1) := by decide +kernel
theorem d_Nr_readLeft_29 : decode b_Nr_readLeft 29 = .ok (.aload_n 0, 1) := by decide +kernel
theorem d_Nr_readLeft_30 : decode b_Nr_readLeft 30 = .ok (.getfield 15, 3) := by decide +kernel
theorem d_Nr_readLeft_33 : decode b_Nr_readLeft 33 = .ok (.getfield 116, 3) := by decide +kernel
theorem d_Nr_readLeft_36 : decode b_Nr_readLeft 36 = .ok (.aload_n 0, 1) := by decide +kernel
theorem d_Nr_readLeft_37 : decode b_Nr_readLeft 37 = .ok (.getfield 15, 3) := by decide +kernel
theorem d_Nr_readLeft_40 : decode b_Nr_readLeft 40 = .ok (.getfield 45, 3) := by decide +kernel
theorem d_Nr_readLeft_43 : decode b_Nr_readLeft 43 = .ok (.iaload, 1) := by decide +kernel
theorem d_Nr_readLeft_44 : decode b_Nr_readLeft 44 = .ok (.if_icmp .ge 12, 3) := by decide +kernel
theorem d_Nr_readLeft_47 : decode b_Nr_readLeft 47 = .ok (.aload_n 0, 1) := by decide +kernel
theorem d_Nr_readLeft_48 : decode b_Nr_readLeft 48 = .ok (.getfield 9, 3) := by decide +kernel
theorem d_Nr_readLeft_51 : decode b_Nr_readLeft 51 = .ok (.iconst 2, 1) := by decide +kernel
theorem d_Nr_readLeft_52 : decode b_Nr_readLeft 52 = .ok (.invokevirtual 51, 3) := by decide +kernel
theorem d_Nr_readLeft_55 : decode b_Nr_readLeft 55 = .ok (.ireturn, 1) := by decide +kernel
theorem d_Nr_readLeft_56 : decode b_Nr_readLeft 56 = .ok (.aload_n 0, 1) := by decide +kernel
theorem d_Nr_readLeft_57 : decode b_Nr_readLeft 57 = .ok (.getfield 15, 3) := by decide +kernel
theorem d_Nr_readLeft_60 : decode b_Nr_readLeft 60 = .ok (.getfield 159, 3) := by decide +kernel
theorem d_Nr_readLeft_63 : decode b_Nr_readLeft 63 = .ok (.aload_n 0, 1) := by decide +kernel
theorem d_Nr_readLeft_64 : decode b_Nr_readLeft 64 = .ok (.getfield 15, 3) := by decide +kernel
theorem d_Nr_readLeft_67 : decode b_Nr_readLeft 67 = .ok (.getfield 45, 3) := by decide +kernel
theorem d_Nr_readLeft_70 : decode b_Nr_readLeft 70 = .ok (.iaload, 1) := by decide +kernel
theorem d_Nr_readLeft_71 : decode b_Nr_readLeft 71 = .ok (.iload_n 1, 1) := by decide +kernel
theorem d_Nr_readLeft_72 : decode b_Nr_readLeft 72 = .ok (.iadd, 1) := by decide +kernel
theorem d_Nr_readLeft_73 : decode b_Nr_readLeft 73 = .ok (.istore_n 2, 1) := by decide +kernel
theorem d_Nr_readLeft_74 : decode b_Nr_readLeft 74 = .ok (.aload_n 0, 1) := by decide +kernel
theorem d_Nr_readLeft_75 : decode b_Nr_readLeft 75 = .ok (.getfield 15, 3) := by decide +kernel
theorem d_Nr_readLeft_78 : decode b_Nr_readLeft 78 = .ok (.getfield 191, 3) := by decide +kernel
theorem d_Nr_readLeft_81 : decode b_Nr_readLeft 81 = .ok (.iload_n 2, 1) := by decide +kernel
theorem d_Nr_readLeft_82 : decode b_Nr_readLeft 82 = .ok (.dup2, 1) := by decide +kernel
theorem d_Nr_readLeft_83 : decode b_Nr_readLeft 83 = .ok (.iaload, 1) := by decide +kernel
theorem d_Nr_readLeft_84 : decode b_Nr_readLeft 84 = .ok (.iconst 1, 1) := by decide +kernel
theorem d_Nr_readLeft_85 : decode b_Nr_readLeft 85 = .ok (.iadd, 1) := by decide +kernel
theorem d_Nr_readLeft_86 : decode b_Nr_readLeft 86 = .ok (.iastore, 1) := by decide +kernel
theorem d_Nr_readLeft_87 : decode b_Nr_readLeft 87 = .ok (.aload_n 0, 1) := by decide +kernel
theorem d_Nr_readLeft_88 : decode b_Nr_readLeft 88 = .ok (.getfield 15, 3) := by decide +kernel
theorem d_Nr_readLeft_91 : decode b_Nr_readLeft 91 = .ok (.getfield 194, 3) := by decide +kernel
theorem d_Nr_readLeft_94 : decode b_Nr_readLeft 94 = .ok (.iload_n 2, 1) := by decide +kernel
theorem d_Nr_readLeft_95 : decode b_Nr_readLeft 95 = .ok (.aload_n 0, 1) := by decide +kernel
theorem d_Nr_readLeft_96 : decode b_Nr_readLeft 96 = .ok (.getfield 19, 3) := by decide +kernel
theorem d_Nr_readLeft_99 : decode b_Nr_readLeft 99 = .ok (.getfield 197, 3) := by decide +kernel
theorem d_Nr_readLeft_102 : decode b_Nr_readLeft 102 = .ok (.aload_n 0, 1) := by decide +kernel
theorem d_Nr_readLeft_103 : decode b_Nr_readLeft 103 = .ok (.getfield 19, 3) := by decide +kernel
theorem d_Nr_readLeft_106 : decode b_Nr_readLeft 106 = .ok (.getfield 104, 3) := by decide +kernel
theorem d_Nr_readLeft_109 : decode b_Nr_readLeft 109 = .ok (.iaload, 1) := by decide +kernel
theorem d_Nr_readLeft_110 : decode b_Nr_readLeft 110 = .ok (.iastore, 1) := by decide +kernel
theorem d_Nr_readLeft_111 : decode b_Nr_readLeft 111 = .ok (.aload_n 0, 1) := by decide +kernel
theorem d_Nr_readLeft_112 : decode b_Nr_readLeft 112 = .ok (.getfield 19, 3) := by decide +kernel
theorem d_Nr_readLeft_115 : decode b_Nr_readLeft 115 = .ok (.iload_n 1, 1) := by decide +kernel
theorem d_Nr_readLeft_116 : decode b_Nr_readLeft 116 = .ok (.invokevirtual 200, 3) := by decide +kernel
theorem d_Nr_readLeft_119 : decode b_Nr_readLeft 119 = .ok (.aload_n 0, 1) := by decide +kernel
theorem d_Nr_readLeft_120 : decode b_Nr_readLeft 120 = .ok (.getfield 9, 3) := by decide +kernel
theorem d_Nr_readLeft_123 : decode b_Nr_readLeft 123 = .ok (.invokevirtual 98, 3) := by decide +kernel
theorem d_Nr_readLeft_126 : decode b_Nr_readLeft 126 = .ok (.iconst 1, 1) := by decide +kernel
theorem d_Nr_readLeft_127 : decode b_Nr_readLeft 127 = .ok (.ireturn, 1) := by decide +kernel
abbrev mt_Nr_readLeft : MT := (R_Nr, b_Nr_readLeft, 3, some .boolean)
theorem vf_Nr_readLeft : VF y_Nr_readLeft mt_Nr_readLeft 5 0 := ⟨im_Nr_readLeft, se_Nr_readLeft, in_Nr, co_Nr_readLeft, by decide +kernel, _, _, rfl⟩
def f_Nr_readLeft (γ : St) : Option (Int × St) :=
  bndN (f_Tk_kindNow γ) fun r2 γ3 =>
  if r2 = 2 then
  (bndN (f_Er_variableNow γ3) fun r5 γ6 =>
  chk (inb (γ6 3 9) 59) (if (γ6 26 (γ6 3 9)) ≤ r5 then
  (chk (inb (γ6 3 9) 59) (chk (i32 ((γ6 25 (γ6 3 9)) + r5)) (ap ((γ6 25 (γ6 3 9)) + r5) fun x18 =>
  chk (inb x18 5841) (chk (i32 ((γ6 36 x18) + 1)) (chk (inb x18 5841) (ap (setA γ6 36 x18 ((γ6 36 x18) + 1)) fun γ23 =>
  chk (inb (γ23 4 10) 16385) (chk (inb x18 5841) (ap (setA γ23 37 x18 (γ23 42 (γ23 4 10))) fun γ31 =>
  bndN (f_Cd_addLeft γ31 r5) fun _ γ34 =>
  bndN (f_Tk_step γ34) fun _ γ37 =>
  some (1, γ37)))))))))
  else
  (bndN (f_Tk_fail γ6 2) fun r39 γ40 =>
  some (r39, γ40))))
  else
  (bndN (f_Tk_fail γ3 1) fun r42 γ43 =>
  some (r42, γ43))
set_option maxHeartbeats 4000000 in
theorem c_Nr_readLeft {Γ : Ctx} (γ : St) : NC Γ BS y_Nr_readLeft mt_Nr_readLeft 7 261 [vR Γ 5] γ (f_Nr_readLeft γ) := by
  refine nc_of (by decide) rfl (Nat.le_of_ble_eq_true rfl) ?_
  show SB Γ BS mt_Nr_readLeft (RmN 7 261) 0 0 (KN Γ BS mt_Nr_readLeft.2.2.2) 0 [(0, vR Γ 5)] [] γ _
  unfold f_Nr_readLeft
  refine sb_aload_n 0 d_Nr_readLeft_0 rfl ?_
  refine g_Nr_9 d_Nr_readLeft_1 ?_
  refine sb_cVi vf_Tk_kindNow (c_Tk_kindNow γ  ) rfl ml_Nr_39 (As := []) rfl rfl (Nat.le_of_ble_eq_true rfl) ⟨by decide, by decide⟩ d_Nr_readLeft_4 (fun r2 γ3 hr2 => ?_)
  refine sb_iconst d_Nr_readLeft_7 ?_
  refine sb_icmp_eq 20 hr2 (by decide) d_Nr_readLeft_8 (by decide) (fun _ => ?_) (fun _ => ?_)
  · refine sb_aload_n 0 d_Nr_readLeft_20 rfl ?_
    refine g_Nr_28 d_Nr_readLeft_21 ?_
    refine sb_cVi vf_Er_variableNow (c_Er_variableNow γ3  ) rfl ml_Nr_188 (As := []) rfl rfl (Nat.le_of_ble_eq_true rfl) ⟨by decide, by decide⟩ d_Nr_readLeft_24 (fun r5 γ6 hr5 => ?_)
    refine sb_istore_n [(1, vI r5), (0, vR Γ 5)] d_Nr_readLeft_27 (by decide) rfl ?_
    refine sb_iload_n 0 d_Nr_readLeft_28 rfl ?_
    refine sb_aload_n 1 d_Nr_readLeft_29 rfl ?_
    refine g_Nr_15 d_Nr_readLeft_30 ?_
    refine g_Nr_116 d_Nr_readLeft_33 ?_
    refine sb_aload_n 1 d_Nr_readLeft_36 rfl ?_
    refine g_Nr_15 d_Nr_readLeft_37 ?_
    refine g_Nr_45 d_Nr_readLeft_40 (fun c10 => ?_)
    refine al_S_26 d_Nr_readLeft_43 (fun _ c11 => ?_)
    refine sb_icmp_ge 56 hr5 c11 d_Nr_readLeft_44 (by decide) (fun _ => ?_) (fun _ => ?_)
    · refine sb_aload_n 1 d_Nr_readLeft_56 rfl ?_
      refine g_Nr_15 d_Nr_readLeft_57 ?_
      refine g_Nr_159 d_Nr_readLeft_60 ?_
      refine sb_aload_n 1 d_Nr_readLeft_63 rfl ?_
      refine g_Nr_15 d_Nr_readLeft_64 ?_
      refine g_Nr_45 d_Nr_readLeft_67 (fun c15 => ?_)
      refine al_S_25 d_Nr_readLeft_70 (fun _ c16 => ?_)
      refine sb_iload_n 0 d_Nr_readLeft_71 rfl ?_
      refine sb_iadd d_Nr_readLeft_72 ?_
      refine sb_chk (fun c17 => ?_)
      refine sb_istore_n [(2, vI ((γ6 25 (γ6 3 9)) + r5)), (1, vI r5), (0, vR Γ 5)] d_Nr_readLeft_73 (by decide) rfl ?_
      refine sb_nme (e := (γ6 25 (γ6 3 9)) + r5) (fun x18 => [(2, vI x18), (1, vI r5), (0, vR Γ 5)]) c17 (fun x18 hx18 => ?_)
      refine sb_aload_n 2 d_Nr_readLeft_74 rfl ?_
      refine g_Nr_15 d_Nr_readLeft_75 ?_
      refine g_Nr_191 d_Nr_readLeft_78 ?_
      refine sb_iload_n 0 d_Nr_readLeft_81 rfl ?_
      refine sb_dup2 d_Nr_readLeft_82 rfl rfl ?_
      refine al_S_36 d_Nr_readLeft_83 (fun _ c21 => ?_)
      refine sb_iconst d_Nr_readLeft_84 ?_
      refine sb_iadd d_Nr_readLeft_85 ?_
      refine sb_chk (fun c22 => ?_)
      refine as_S_36 c22 d_Nr_readLeft_86 (fun _ => ?_)
      refine sb_aps (fun γ23 => ?_)
      refine sb_aload_n 2 d_Nr_readLeft_87 rfl ?_
      refine g_Nr_15 d_Nr_readLeft_88 ?_
      refine g_Nr_194 d_Nr_readLeft_91 ?_
      refine sb_iload_n 0 d_Nr_readLeft_94 rfl ?_
      refine sb_aload_n 2 d_Nr_readLeft_95 rfl ?_
      refine g_Nr_19 d_Nr_readLeft_96 ?_
      refine g_Nr_197 d_Nr_readLeft_99 ?_
      refine sb_aload_n 2 d_Nr_readLeft_102 rfl ?_
      refine g_Nr_19 d_Nr_readLeft_103 ?_
      refine g_Nr_104 d_Nr_readLeft_106 (fun c29 => ?_)
      refine al_S_42 d_Nr_readLeft_109 (fun _ c30 => ?_)
      refine as_S_37 c30 d_Nr_readLeft_110 (fun _ => ?_)
      refine sb_aps (fun γ31 => ?_)
      refine sb_aload_n 2 d_Nr_readLeft_111 rfl ?_
      refine g_Nr_19 d_Nr_readLeft_112 ?_
      refine sb_iload_n 1 d_Nr_readLeft_115 rfl ?_
      refine sb_cVv vf_Cd_addLeft (c_Cd_addLeft γ31 r5 hr5) rfl ml_Nr_200 (As := [vI r5]) rfl rfl (Nat.le_of_ble_eq_true rfl) ⟨by decide, by decide⟩ d_Nr_readLeft_116 (fun _ γ34 => ?_)
      refine sb_aload_n 2 d_Nr_readLeft_119 rfl ?_
      refine g_Nr_9 d_Nr_readLeft_120 ?_
      refine sb_cVv vf_Tk_step (c_Tk_step γ34  ) rfl ml_Nr_98 (As := []) rfl rfl (Nat.le_of_ble_eq_true rfl) ⟨by decide, by decide⟩ d_Nr_readLeft_123 (fun _ γ37 => ?_)
      refine sb_iconst d_Nr_readLeft_126 ?_
      exact sn_z rfl (by decide) d_Nr_readLeft_127
    · refine sb_aload_n 1 d_Nr_readLeft_47 rfl ?_
      refine g_Nr_9 d_Nr_readLeft_48 ?_
      refine sb_iconst d_Nr_readLeft_51 ?_
      refine sb_cVz vf_Tk_fail (c_Tk_fail γ6 2 (by decide)) rfl ml_Nr_51 (As := [vI 2]) rfl rfl (Nat.le_of_ble_eq_true rfl) ⟨by decide, by decide⟩ d_Nr_readLeft_52 (fun r39 γ40 hr39 => ?_)
      exact sn_z rfl hr39 d_Nr_readLeft_55
  · refine sb_aload_n 0 d_Nr_readLeft_11 rfl ?_
    refine g_Nr_9 d_Nr_readLeft_12 ?_
    refine sb_iconst d_Nr_readLeft_15 ?_
    refine sb_cVz vf_Tk_fail (c_Tk_fail γ3 1 (by decide)) rfl ml_Nr_51 (As := [vI 1]) rfl rfl (Nat.le_of_ble_eq_true rfl) ⟨by decide, by decide⟩ d_Nr_readLeft_16 (fun r42 γ43 hr42 => ?_)
    exact sn_z rfl hr42 d_Nr_readLeft_19
theorem d_Nr_readLefts_0 : decode b_Nr_readLefts 0 = .ok (.aload_n 0, 1) := by decide +kernel
theorem d_Nr_readLefts_1 : decode b_Nr_readLefts 1 = .ok (.getfield 9, 3) := by decide +kernel
theorem d_Nr_readLefts_4 : decode b_Nr_readLefts 4 = .ok (.invokevirtual 98, 3) := by decide +kernel
theorem d_Nr_readLefts_7 : decode b_Nr_readLefts 7 = .ok (.aload_n 0, 1) := by decide +kernel
theorem d_Nr_readLefts_8 : decode b_Nr_readLefts 8 = .ok (.invokevirtual 178, 3) := by decide +kernel
theorem d_Nr_readLefts_11 : decode b_Nr_readLefts 11 = .ok (.istore_n 1, 1) := by decide +kernel
theorem d_Nr_readLefts_12 : decode b_Nr_readLefts 12 = .ok (.iconst 0, 1) := by decide +kernel
theorem d_Nr_readLefts_13 : decode b_Nr_readLefts 13 = .ok (.istore_n 2, 1) := by decide +kernel
theorem d_Nr_readLefts_14 : decode b_Nr_readLefts 14 = .ok (.iload_n 1, 1) := by decide +kernel
theorem d_Nr_readLefts_15 : decode b_Nr_readLefts 15 = .ok (.ifCond .eq 44, 3) := by decide +kernel
theorem d_Nr_readLefts_18 : decode b_Nr_readLefts 18 = .ok (.iload_n 2, 1) := by decide +kernel
theorem d_Nr_readLefts_19 : decode b_Nr_readLefts 19 = .ok (.aload_n 0, 1) := by decide +kernel
theorem d_Nr_readLefts_20 : decode b_Nr_readLefts 20 = .ok (.getfield 9, 3) := by decide +kernel
theorem d_Nr_readLefts_23 : decode b_Nr_readLefts 23 = .ok (.getfield 74, 3) := by decide +kernel
theorem d_Nr_readLefts_26 : decode b_Nr_readLefts 26 = .ok (.if_icmp .ge 33, 3) := by decide +kernel
theorem d_Nr_readLefts_29 : decode b_Nr_readLefts 29 = .ok (.aload_n 0, 1) := by decide +kernel
theorem d_Nr_readLefts_30 : decode b_Nr_readLefts 30 = .ok (.getfield 9, 3) := by decide +kernel
theorem d_Nr_readLefts_33 : decode b_Nr_readLefts 33 = .ok (.invokevirtual 39, 3) := by decide +kernel
theorem d_Nr_readLefts_36 : decode b_Nr_readLefts 36 = .ok (.bipush 8, 2) := by decide +kernel
theorem d_Nr_readLefts_38 : decode b_Nr_readLefts 38 = .ok (.if_icmp .ne 21, 3) := by decide +kernel
theorem d_Nr_readLefts_41 : decode b_Nr_readLefts 41 = .ok (.aload_n 0, 1) := by decide +kernel
theorem d_Nr_readLefts_42 : decode b_Nr_readLefts 42 = .ok (.getfield 9, 3) := by decide +kernel
theorem d_Nr_readLefts_45 : decode b_Nr_readLefts 45 = .ok (.invokevirtual 98, 3) := by decide +kernel
theorem d_Nr_readLefts_48 : decode b_Nr_readLefts 48 = .ok (.aload_n 0, 1) := by decide +kernel
theorem d_Nr_readLefts_49 : decode b_Nr_readLefts 49 = .ok (.invokevirtual 178, 3) := by decide +kernel
theorem d_Nr_readLefts_52 : decode b_Nr_readLefts 52 = .ok (.istore_n 1, 1) := by decide +kernel
theorem d_Nr_readLefts_53 : decode b_Nr_readLefts 53 = .ok (.iinc 2 1, 3) := by decide +kernel
theorem d_Nr_readLefts_56 : decode b_Nr_readLefts 56 = .ok (.goto (-42), 3) := by decide +kernel
theorem d_Nr_readLefts_59 : decode b_Nr_readLefts 59 = .ok (.iload_n 1, 1) := by decide +kernel
theorem d_Nr_readLefts_60 : decode b_Nr_readLefts 60 = .ok (.ifCond .eq 18, 3) := by decide +kernel
theorem d_Nr_readLefts_63 : decode b_Nr_readLefts 63 = .ok (.aload_n 0, 1) := by decide +kernel
theorem d_Nr_readLefts_64 : decode b_Nr_readLefts 64 = .ok (.getfield 9, 3) := by decide +kernel
theorem d_Nr_readLefts_67 : decode b_Nr_readLefts 67 = .ok (.iconst 5, 1) := by decide +kernel
theorem d_Nr_readLefts_68 : decode b_Nr_readLefts 68 = .ok (.invokevirtual 55, 3) := by decide +kernel
theorem d_Nr_readLefts_71 : decode b_Nr_readLefts 71 = .ok (.ifCond .eq 7, 3) := by decide +kernel
theorem d_Nr_readLefts_74 : decode b_Nr_readLefts 74 = .ok (.iconst 1, 1) := by decide +kernel
theorem d_Nr_readLefts_75 : decode b_Nr_readLefts 75 = .ok (.goto 4, 3) := by decide +kernel
theorem d_Nr_readLefts_78 : decode b_Nr_readLefts 78 = .ok (.iconst 0, 1) := by decide +kernel
theorem d_Nr_readLefts_79 : decode b_Nr_readLefts 79 = .ok (.ireturn, 1) := by decide +kernel
abbrev mt_Nr_readLefts : MT := (R_Nr, b_Nr_readLefts, 3, some .boolean)
theorem vf_Nr_readLefts : VF y_Nr_readLefts mt_Nr_readLefts 5 0 := ⟨im_Nr_readLefts, se_Nr_readLefts, in_Nr, co_Nr_readLefts, by decide +kernel, _, _, rfl⟩
def f_Nr_readLefts_b59 (γ : St) (x1 : Int) : Option (Int × St) :=
  if x1 = 0 then
  (some (0, γ))
  else
  (bndN (f_Tk_expect γ 5) fun r3 γ4 =>
  if r3 = 0 then
  (some (0, γ4))
  else
  (some (1, γ4)))
def f_Nr_readLefts_L14 (e59 : St → Int → Option (Int × St)) : Nat → St → Int → Int → Option (Int × St)
  | 0, _, _, _ => none
  | n + 1, γ, x5, x6 =>
  if x5 = 0 then
  (e59 γ x5)
  else
  (if (γ 1 5) ≤ x6 then
  (e59 γ x5)
  else
  (bndN (f_Tk_kindNow γ) fun r10 γ11 =>
  if r10 ≠ 8 then
  (e59 γ11 x5)
  else
  (bndN (f_Tk_step γ11) fun _ γ14 =>
  bndN (f_Nr_readLeft γ14) fun r15 γ16 =>
  chk (i32 (x6 + 1)) ((f_Nr_readLefts_L14 e59 n) γ16 r15 (x6 + 1)))))
def f_Nr_readLefts (γ : St) : Option (Int × St) :=
  bndN (f_Tk_step γ) fun _ γ21 =>
  bndN (f_Nr_readLeft γ21) fun r22 γ23 =>
  f_Nr_readLefts_L14 (f_Nr_readLefts_b59) FU γ23 r22 0
set_option maxHeartbeats 4000000 in
theorem s_Nr_readLefts_b59 {Γ : Ctx} : ∀ (γ : St) (x1 : Int), i32 x1 → SB Γ BS mt_Nr_readLefts (RmN 8 283) 0 0 (KN Γ BS mt_Nr_readLefts.2.2.2) 59 [(0, vR Γ 5), (1, vI x1)] [] γ (f_Nr_readLefts_b59 γ x1) := by
  intro γ x1 hx1
  unfold f_Nr_readLefts_b59
  refine sb_iload_n 1 d_Nr_readLefts_59 rfl ?_
  refine sb_if_eq 78 hx1 d_Nr_readLefts_60 (by decide) (fun _ => ?_) (fun _ => ?_)
  · refine sb_iconst d_Nr_readLefts_78 ?_
    exact sn_z rfl (by decide) d_Nr_readLefts_79
  · refine sb_aload_n 0 d_Nr_readLefts_63 rfl ?_
    refine g_Nr_9 d_Nr_readLefts_64 ?_
    refine sb_iconst d_Nr_readLefts_67 ?_
    refine sb_cVz vf_Tk_expect (c_Tk_expect γ 5 (by decide)) rfl ml_Nr_55 (As := [vI 5]) rfl rfl (Nat.le_of_ble_eq_true rfl) ⟨by decide, by decide⟩ d_Nr_readLefts_68 (fun r3 γ4 hr3 => ?_)
    refine sb_if_eq 78 (z2i hr3) d_Nr_readLefts_71 (by decide) (fun _ => ?_) (fun _ => ?_)
    · refine sb_iconst d_Nr_readLefts_78 ?_
      exact sn_z rfl (by decide) d_Nr_readLefts_79
    · refine sb_iconst d_Nr_readLefts_74 ?_
      refine sb_goto 79 d_Nr_readLefts_75 (by decide) ?_
      exact sn_z rfl (by decide) d_Nr_readLefts_79
set_option maxHeartbeats 4000000 in
theorem s_Nr_readLefts_L14 {Γ : Ctx} {e59 : St → Int → Option (Int × St)} (he59 : ∀ (γ : St) (x18 : Int), i32 x18 → SB Γ BS mt_Nr_readLefts (RmN 8 283) 0 0 (KN Γ BS mt_Nr_readLefts.2.2.2) 59 [(0, vR Γ 5), (1, vI x18)] [] γ (e59 γ x18)) : ∀ (n : Nat) (γ : St) (x5 : Int) (x6 : Int), i32 x5 → i32 x6 → SB Γ BS mt_Nr_readLefts (RmN 8 283) 0 0 (KN Γ BS mt_Nr_readLefts.2.2.2) 14 [(0, vR Γ 5), (1, vI x5), (2, vI x6)] [] γ (f_Nr_readLefts_L14 e59 n γ x5 x6) := by
  intro n
  induction n with
  | zero => intros; exact sb_none
  | succ n ih =>
    intro γ x5 x6 hx5 hx6
    unfold f_Nr_readLefts_L14
    refine sb_iload_n 1 d_Nr_readLefts_14 rfl ?_
    refine sb_if_eq 59 hx5 d_Nr_readLefts_15 (by decide) (fun _ => ?_) (fun _ => ?_)
    · exact sb_lv [0, 1] rfl (he59 γ x5 hx5)
    · refine sb_iload_n 2 d_Nr_readLefts_18 rfl ?_
      refine sb_aload_n 0 d_Nr_readLefts_19 rfl ?_
      refine g_Nr_9 d_Nr_readLefts_20 ?_
      refine g_Nr_74 d_Nr_readLefts_23 (fun c8 => ?_)
      refine sb_icmp_ge 59 hx6 c8 d_Nr_readLefts_26 (by decide) (fun _ => ?_) (fun _ => ?_)
      · exact sb_lv [0, 1] rfl (he59 γ x5 hx5)
      · refine sb_aload_n 0 d_Nr_readLefts_29 rfl ?_
        refine g_Nr_9 d_Nr_readLefts_30 ?_
        refine sb_cVi vf_Tk_kindNow (c_Tk_kindNow γ  ) rfl ml_Nr_39 (As := []) rfl rfl (Nat.le_of_ble_eq_true rfl) ⟨by decide, by decide⟩ d_Nr_readLefts_33 (fun r10 γ11 hr10 => ?_)
        refine sb_bipush d_Nr_readLefts_36 (by decide) ?_
        refine sb_icmp_ne 59 hr10 (by decide) d_Nr_readLefts_38 (by decide) (fun _ => ?_) (fun _ => ?_)
        · exact sb_lv [0, 1] rfl (he59 γ11 x5 hx5)
        · refine sb_aload_n 0 d_Nr_readLefts_41 rfl ?_
          refine g_Nr_9 d_Nr_readLefts_42 ?_
          refine sb_cVv vf_Tk_step (c_Tk_step γ11  ) rfl ml_Nr_98 (As := []) rfl rfl (Nat.le_of_ble_eq_true rfl) ⟨by decide, by decide⟩ d_Nr_readLefts_45 (fun _ γ14 => ?_)
          refine sb_aload_n 0 d_Nr_readLefts_48 rfl ?_
          refine sb_cVz vf_Nr_readLeft (c_Nr_readLeft γ14  ) rfl ml_Nr_178 (As := []) rfl rfl (Nat.le_of_ble_eq_true rfl) ⟨by decide, by decide⟩ d_Nr_readLefts_49 (fun r15 γ16 hr15 => ?_)
          refine sb_istore_n [(1, vI r15), (0, vR Γ 5), (2, vI x6)] d_Nr_readLefts_52 (by decide) rfl ?_
          refine sb_iinc 2 [(2, vI (x6 + 1)), (1, vI r15), (0, vR Γ 5)] d_Nr_readLefts_53 rfl (by decide) rfl ?_
          refine sb_chk (fun c17 => ?_)
          refine sb_goto 14 d_Nr_readLefts_56 (by decide) ?_
          exact sb_lv [2, 1, 0] rfl (ih γ16 r15 (x6 + 1) (z2i hr15) c17)
set_option maxHeartbeats 4000000 in
theorem c_Nr_readLefts {Γ : Ctx} (γ : St) : NC Γ BS y_Nr_readLefts mt_Nr_readLefts 8 283 [vR Γ 5] γ (f_Nr_readLefts γ) := by
  refine nc_of (by decide) rfl (Nat.le_of_ble_eq_true rfl) ?_
  show SB Γ BS mt_Nr_readLefts (RmN 8 283) 0 0 (KN Γ BS mt_Nr_readLefts.2.2.2) 0 [(0, vR Γ 5)] [] γ _
  unfold f_Nr_readLefts
  refine sb_aload_n 0 d_Nr_readLefts_0 rfl ?_
  refine g_Nr_9 d_Nr_readLefts_1 ?_
  refine sb_cVv vf_Tk_step (c_Tk_step γ  ) rfl ml_Nr_98 (As := []) rfl rfl (Nat.le_of_ble_eq_true rfl) ⟨by decide, by decide⟩ d_Nr_readLefts_4 (fun _ γ21 => ?_)
  refine sb_aload_n 0 d_Nr_readLefts_7 rfl ?_
  refine sb_cVz vf_Nr_readLeft (c_Nr_readLeft γ21  ) rfl ml_Nr_178 (As := []) rfl rfl (Nat.le_of_ble_eq_true rfl) ⟨by decide, by decide⟩ d_Nr_readLefts_8 (fun r22 γ23 hr22 => ?_)
  refine sb_istore_n [(1, vI r22), (0, vR Γ 5)] d_Nr_readLefts_11 (by decide) rfl ?_
  refine sb_iconst d_Nr_readLefts_12 ?_
  refine sb_istore_n [(2, vI 0), (1, vI r22), (0, vR Γ 5)] d_Nr_readLefts_13 (by decide) rfl ?_
  exact sb_lv [2, 1, 0] rfl (s_Nr_readLefts_L14 (s_Nr_readLefts_b59) FU γ23 r22 0 (z2i hr22) (by decide))
theorem d_Nr_readEquation_0 : decode b_Nr_readEquation 0 = .ok (.aload_n 0, 1) := by decide +kernel
theorem d_Nr_readEquation_1 : decode b_Nr_readEquation 1 = .ok (.getfield 19, 3) := by decide +kernel
theorem d_Nr_readEquation_4 : decode b_Nr_readEquation 4 = .ok (.aload_n 0, 1) := by decide +kernel
theorem d_Nr_readEquation_5 : decode b_Nr_readEquation 5 = .ok (.getfield 9, 3) := by decide +kernel
theorem d_Nr_readEquation_8 : decode b_Nr_readEquation 8 = .ok (.invokevirtual 168, 3) := by decide +kernel
theorem d_Nr_readEquation_11 : decode b_Nr_readEquation 11 = .ok (.invokevirtual 171, 3) := by decide +kernel
theorem d_Nr_readEquation_14 : decode b_Nr_readEquation 14 = .ok (.aload_n 0, 1) := by decide +kernel
theorem d_Nr_readEquation_15 : decode b_Nr_readEquation 15 = .ok (.getfield 9, 3) := by decide +kernel
theorem d_Nr_readEquation_18 : decode b_Nr_readEquation 18 = .ok (.invokevirtual 39, 3) := by decide +kernel
theorem d_Nr_readEquation_21 : decode b_Nr_readEquation 21 = .ok (.iconst 4, 1) := by decide +kernel
theorem d_Nr_readEquation_22 : decode b_Nr_readEquation 22 = .ok (.if_icmp .ne 7, 3) := by decide +kernel
theorem d_Nr_readEquation_25 : decode b_Nr_readEquation 25 = .ok (.iconst 1, 1) := by decide +kernel
theorem d_Nr_readEquation_26 : decode b_Nr_readEquation 26 = .ok (.goto 4, 3) := by decide +kernel
theorem d_Nr_readEquation_29 : decode b_Nr_readEquation 29 = .ok (.iconst 0, 1) := by decide +kernel
theorem d_Nr_readEquation_30 : decode b_Nr_readEquation 30 = .ok (.istore_n 1, 1) := by decide +kernel
theorem d_Nr_readEquation_31 : decode b_Nr_readEquation 31 = .ok (.iload_n 1, 1) := by decide +kernel
theorem d_Nr_readEquation_32 : decode b_Nr_readEquation 32 = .ok (.ifCond .eq 10, 3) := by decide +kernel
theorem d_Nr_readEquation_35 : decode b_Nr_readEquation 35 = .ok (.aload_n 0, 1) := by decide +kernel
theorem d_Nr_readEquation_36 : decode b_Nr_readEquation 36 = .ok (.invokevirtual 175, 3) := by decide +kernel
theorem d_Nr_readEquation_39 : decode b_Nr_readEquation 39 = .ok (.goto 7, 3) := by decide +kernel
theorem d_Nr_readEquation_42 : decode b_Nr_readEquation 42 = .ok (.aload_n 0, 1) := by decide +kernel
theorem d_Nr_readEquation_43 : decode b_Nr_readEquation 43 = .ok (.invokevirtual 178, 3) := by decide +kernel
theorem d_Nr_readEquation_46 : decode b_Nr_readEquation 46 = .ok (.istore_n 2, 1) := by decide +kernel
theorem d_Nr_readEquation_47 : decode b_Nr_readEquation 47 = .ok (.iload_n 2, 1) := by decide +kernel
theorem d_Nr_readEquation_48 : decode b_Nr_readEquation 48 = .ok (.ifCond .eq 35, 3) := by decide +kernel
theorem d_Nr_readEquation_51 : decode b_Nr_readEquation 51 = .ok (.aload_n 0, 1) := by decide +kernel
theorem d_Nr_readEquation_52 : decode b_Nr_readEquation 52 = .ok (.getfield 9, 3) := by decide +kernel
theorem d_Nr_readEquation_55 : decode b_Nr_readEquation 55 = .ok (.bipush 9, 2) := by decide +kernel
theorem d_Nr_readEquation_57 : decode b_Nr_readEquation 57 = .ok (.invokevirtual 55, 3) := by decide +kernel
theorem d_Nr_readEquation_60 : decode b_Nr_readEquation 60 = .ok (.ifCond .eq 23, 3) := by decide +kernel
theorem d_Nr_readEquation_63 : decode b_Nr_readEquation 63 = .ok (.aload_n 0, 1) := by decide +kernel
theorem d_Nr_readEquation_64 : decode b_Nr_readEquation 64 = .ok (.getfield 28, 3) := by decide +kernel
theorem d_Nr_readEquation_67 : decode b_Nr_readEquation 67 = .ok (.iload_n 1, 1) := by decide +kernel
theorem d_Nr_readEquation_68 : decode b_Nr_readEquation 68 = .ok (.invokevirtual 181, 3) := by decide +kernel
theorem d_Nr_readEquation_71 : decode b_Nr_readEquation 71 = .ok (.ifCond .eq 12, 3) := by decide +kernel
theorem d_Nr_readEquation_74 : decode b_Nr_readEquation 74 = .ok (.aload_n 0, 1) := by decide +kernel
theorem d_Nr_readEquation_75 : decode b_Nr_readEquation 75 = .ok (.getfield 19, 3) := by decide +kernel
theorem d_Nr_readEquation_78 : decode b_Nr_readEquation 78 = .ok (.invokevirtual 185, 3) := by decide +kernel
theorem d_Nr_readEquation_81 : decode b_Nr_readEquation 81 = .ok (.iconst 1, 1) := by decide +kernel
theorem d_Nr_readEquation_82 : decode b_Nr_readEquation 82 = .ok (.ireturn, 1) := by decide +kernel
theorem d_Nr_readEquation_83 : decode b_Nr_readEquation 83 = .ok (.iconst 0, 1) := by decide +kernel
theorem d_Nr_readEquation_84 : decode b_Nr_readEquation 84 = .ok (.ireturn, 1) := by decide +kernel
abbrev mt_Nr_readEquation : MT := (R_Nr, b_Nr_readEquation, 3, some .boolean)
theorem vf_Nr_readEquation : VF y_Nr_readEquation mt_Nr_readEquation 5 0 := ⟨im_Nr_readEquation, se_Nr_readEquation, in_Nr, co_Nr_readEquation, by decide +kernel, _, _, rfl⟩
def f_Nr_readEquation_b46 (γ : St) (x1 : Int) (x2 : Int) : Option (Int × St) :=
  if x2 = 0 then
  (some (0, γ))
  else
  (bndN (f_Tk_expect γ 9) fun r4 γ5 =>
  if r4 = 0 then
  (some (0, γ5))
  else
  (bndN (f_Er_readRightSide γ5 x1) fun r7 γ8 =>
  if r7 = 0 then
  (some (0, γ8))
  else
  (bndN (f_Cd_closeEquation γ8) fun _ γ11 =>
  some (1, γ11))))
def f_Nr_readEquation_b30 (γ : St) (x12 : Int) : Option (Int × St) :=
  if x12 = 0 then
  (bndN (f_Nr_readLeft γ) fun r13 γ14 =>
  f_Nr_readEquation_b46 γ14 x12 r13)
  else
  (bndN (f_Nr_readLefts γ) fun r15 γ16 =>
  f_Nr_readEquation_b46 γ16 x12 r15)
def f_Nr_readEquation (γ : St) : Option (Int × St) :=
  bndN (f_Tk_placeNow γ) fun r19 γ20 =>
  bndN (f_Cd_openEquation γ20 r19) fun _ γ22 =>
  bndN (f_Tk_kindNow γ22) fun r24 γ25 =>
  if r24 ≠ 4 then
  (f_Nr_readEquation_b30 γ25 0)
  else
  (f_Nr_readEquation_b30 γ25 1)
set_option maxHeartbeats 4000000 in
theorem s_Nr_readEquation_b46 {Γ : Ctx} : ∀ (γ : St) (x1 : Int) (x2 : Int), i32 x1 → i32 x2 → SB Γ BS mt_Nr_readEquation (RmN 11 358) 0 0 (KN Γ BS mt_Nr_readEquation.2.2.2) 46 [(0, vR Γ 5), (1, vI x1)] [vI x2] γ (f_Nr_readEquation_b46 γ x1 x2) := by
  intro γ x1 x2 hx1 hx2
  unfold f_Nr_readEquation_b46
  refine sb_istore_n [(2, vI x2), (0, vR Γ 5), (1, vI x1)] d_Nr_readEquation_46 (by decide) rfl ?_
  refine sb_iload_n 0 d_Nr_readEquation_47 rfl ?_
  refine sb_if_eq 83 hx2 d_Nr_readEquation_48 (by decide) (fun _ => ?_) (fun _ => ?_)
  · refine sb_iconst d_Nr_readEquation_83 ?_
    exact sn_z rfl (by decide) d_Nr_readEquation_84
  · refine sb_aload_n 1 d_Nr_readEquation_51 rfl ?_
    refine g_Nr_9 d_Nr_readEquation_52 ?_
    refine sb_bipush d_Nr_readEquation_55 (by decide) ?_
    refine sb_cVz vf_Tk_expect (c_Tk_expect γ 9 (by decide)) rfl ml_Nr_55 (As := [vI 9]) rfl rfl (Nat.le_of_ble_eq_true rfl) ⟨by decide, by decide⟩ d_Nr_readEquation_57 (fun r4 γ5 hr4 => ?_)
    refine sb_if_eq 83 (z2i hr4) d_Nr_readEquation_60 (by decide) (fun _ => ?_) (fun _ => ?_)
    · refine sb_iconst d_Nr_readEquation_83 ?_
      exact sn_z rfl (by decide) d_Nr_readEquation_84
    · refine sb_aload_n 1 d_Nr_readEquation_63 rfl ?_
      refine g_Nr_28 d_Nr_readEquation_64 ?_
      refine sb_iload_n 2 d_Nr_readEquation_67 rfl ?_
      refine sb_cVz vf_Er_readRightSide (c_Er_readRightSide γ5 x1 hx1) rfl ml_Nr_181 (As := [vI x1]) rfl rfl (Nat.le_of_ble_eq_true rfl) ⟨by decide, by decide⟩ d_Nr_readEquation_68 (fun r7 γ8 hr7 => ?_)
      refine sb_if_eq 83 (z2i hr7) d_Nr_readEquation_71 (by decide) (fun _ => ?_) (fun _ => ?_)
      · refine sb_iconst d_Nr_readEquation_83 ?_
        exact sn_z rfl (by decide) d_Nr_readEquation_84
      · refine sb_aload_n 1 d_Nr_readEquation_74 rfl ?_
        refine g_Nr_19 d_Nr_readEquation_75 ?_
        refine sb_cVv vf_Cd_closeEquation (c_Cd_closeEquation γ8  ) rfl ml_Nr_185 (As := []) rfl rfl (Nat.le_of_ble_eq_true rfl) ⟨by decide, by decide⟩ d_Nr_readEquation_78 (fun _ γ11 => ?_)
        refine sb_iconst d_Nr_readEquation_81 ?_
        exact sn_z rfl (by decide) d_Nr_readEquation_82
set_option maxHeartbeats 4000000 in
theorem s_Nr_readEquation_b30 {Γ : Ctx} : ∀ (γ : St) (x12 : Int), i32 x12 → SB Γ BS mt_Nr_readEquation (RmN 11 358) 0 0 (KN Γ BS mt_Nr_readEquation.2.2.2) 30 [(0, vR Γ 5)] [vI x12] γ (f_Nr_readEquation_b30 γ x12) := by
  intro γ x12 hx12
  unfold f_Nr_readEquation_b30
  refine sb_istore_n [(1, vI x12), (0, vR Γ 5)] d_Nr_readEquation_30 (by decide) rfl ?_
  refine sb_iload_n 0 d_Nr_readEquation_31 rfl ?_
  refine sb_if_eq 42 hx12 d_Nr_readEquation_32 (by decide) (fun _ => ?_) (fun _ => ?_)
  · refine sb_aload_n 1 d_Nr_readEquation_42 rfl ?_
    refine sb_cVz vf_Nr_readLeft (c_Nr_readLeft γ  ) rfl ml_Nr_178 (As := []) rfl rfl (Nat.le_of_ble_eq_true rfl) ⟨by decide, by decide⟩ d_Nr_readEquation_43 (fun r13 γ14 hr13 => ?_)
    exact sb_lv [1, 0] rfl (s_Nr_readEquation_b46 γ14 x12 r13 hx12 (z2i hr13))
  · refine sb_aload_n 1 d_Nr_readEquation_35 rfl ?_
    refine sb_cVz vf_Nr_readLefts (c_Nr_readLefts γ  ) rfl ml_Nr_175 (As := []) rfl rfl (Nat.le_of_ble_eq_true rfl) ⟨by decide, by decide⟩ d_Nr_readEquation_36 (fun r15 γ16 hr15 => ?_)
    refine sb_goto 46 d_Nr_readEquation_39 (by decide) ?_
    exact sb_lv [1, 0] rfl (s_Nr_readEquation_b46 γ16 x12 r15 hx12 (z2i hr15))
set_option maxHeartbeats 4000000 in
theorem c_Nr_readEquation {Γ : Ctx} (γ : St) : NC Γ BS y_Nr_readEquation mt_Nr_readEquation 11 358 [vR Γ 5] γ (f_Nr_readEquation γ) := by
  refine nc_of (by decide) rfl (Nat.le_of_ble_eq_true rfl) ?_
  show SB Γ BS mt_Nr_readEquation (RmN 11 358) 0 0 (KN Γ BS mt_Nr_readEquation.2.2.2) 0 [(0, vR Γ 5)] [] γ _
  unfold f_Nr_readEquation
  refine sb_aload_n 0 d_Nr_readEquation_0 rfl ?_
  refine g_Nr_19 d_Nr_readEquation_1 ?_
  refine sb_aload_n 0 d_Nr_readEquation_4 rfl ?_
  refine g_Nr_9 d_Nr_readEquation_5 ?_
  refine sb_cVi vf_Tk_placeNow (c_Tk_placeNow γ  ) rfl ml_Nr_168 (As := []) rfl rfl (Nat.le_of_ble_eq_true rfl) ⟨by decide, by decide⟩ d_Nr_readEquation_8 (fun r19 γ20 hr19 => ?_)
  refine sb_cVv vf_Cd_openEquation (c_Cd_openEquation γ20 r19 hr19) rfl ml_Nr_171 (As := [vI r19]) rfl rfl (Nat.le_of_ble_eq_true rfl) ⟨by decide, by decide⟩ d_Nr_readEquation_11 (fun _ γ22 => ?_)
  refine sb_aload_n 0 d_Nr_readEquation_14 rfl ?_
  refine g_Nr_9 d_Nr_readEquation_15 ?_
  refine sb_cVi vf_Tk_kindNow (c_Tk_kindNow γ22  ) rfl ml_Nr_39 (As := []) rfl rfl (Nat.le_of_ble_eq_true rfl) ⟨by decide, by decide⟩ d_Nr_readEquation_18 (fun r24 γ25 hr24 => ?_)
  refine sb_iconst d_Nr_readEquation_21 ?_
  refine sb_icmp_ne 29 hr24 (by decide) d_Nr_readEquation_22 (by decide) (fun _ => ?_) (fun _ => ?_)
  · refine sb_iconst d_Nr_readEquation_29 ?_
    exact sb_lv [0] rfl (s_Nr_readEquation_b30 γ25 0 (by decide))
  · refine sb_iconst d_Nr_readEquation_25 ?_
    refine sb_goto 30 d_Nr_readEquation_26 (by decide) ?_
    exact sb_lv [0] rfl (s_Nr_readEquation_b30 γ25 1 (by decide))
theorem d_Ck_checkCall_0 : decode b_Ck_checkCall 0 = .ok (.aload_n 0, 1) := by decide +kernel
theorem d_Ck_checkCall_1 : decode b_Ck_checkCall 1 = .ok (.getfield 24, 3) := by decide +kernel
theorem d_Ck_checkCall_4 : decode b_Ck_checkCall 4 = .ok (.getfield 119, 3) := by decide +kernel
theorem d_Ck_checkCall_7 : decode b_Ck_checkCall 7 = .ok (.iload_n 1, 1) := by decide +kernel
theorem d_Ck_checkCall_8 : decode b_Ck_checkCall 8 = .ok (.iaload, 1) := by decide +kernel
theorem d_Ck_checkCall_9 : decode b_Ck_checkCall 9 = .ok (.istore_n 3, 1) := by decide +kernel
theorem d_Ck_checkCall_10 : decode b_Ck_checkCall 10 = .ok (.aload_n 0, 1) := by decide +kernel
theorem d_Ck_checkCall_11 : decode b_Ck_checkCall 11 = .ok (.getfield 24, 3) := by decide +kernel
theorem d_Ck_checkCall_14 : decode b_Ck_checkCall 14 = .ok (.getfield 103, 3) := by decide +kernel
theorem d_Ck_checkCall_17 : decode b_Ck_checkCall 17 = .ok (.iload_n 1, 1) := by decide +kernel
theorem d_Ck_checkCall_18 : decode b_Ck_checkCall 18 = .ok (.iaload, 1) := by decide +kernel
theorem d_Ck_checkCall_19 : decode b_Ck_checkCall 19 = .ok (.istore 4, 2) := by decide +kernel
theorem d_Ck_checkCall_21 : decode b_Ck_checkCall 21 = .ok (.iload 4, 2) := by decide +kernel
theorem d_Ck_checkCall_23 : decode b_Ck_checkCall 23 = .ok (.aload_n 0, 1) := by decide +kernel
theorem d_Ck_checkCall_24 : decode b_Ck_checkCall 24 = .ok (.getfield 20, 3) := by decide +kernel
theorem d_Ck_checkCall_27 : decode b_Ck_checkCall 27 = .ok (.getfield 39, 3) := by decide +kernel
theorem d_Ck_checkCall_30 : decode b_Ck_checkCall 30 = .ok (.iload_n 3, 1) := by decide +kernel
theorem d_Ck_checkCall_31 : decode b_Ck_checkCall 31 = .ok (.iaload, 1) := by decide +kernel
theorem d_Ck_checkCall_32 : decode b_Ck_checkCall 32 = .ok (.if_icmp .ne 16, 3) := by decide +kernel
theorem d_Ck_checkCall_35 : decode b_Ck_checkCall 35 = .ok (.iload_n 2, 1) := by decide +kernel
theorem d_Ck_checkCall_36 : decode b_Ck_checkCall 36 = .ok (.aload_n 0, 1) := by decide +kernel
theorem d_Ck_checkCall_37 : decode b_Ck_checkCall 37 = .ok (.getfield 20, 3) := by decide +kernel
theorem d_Ck_checkCall_40 : decode b_Ck_checkCall 40 = .ok (.getfield 122, 3) := by decide +kernel
theorem d_Ck_checkCall_43 : decode b_Ck_checkCall 43 = .ok (.iload_n 3, 1) := by decide +kernel
theorem d_Ck_checkCall_44 : decode b_Ck_checkCall 44 = .ok (.iaload, 1) := by decide +kernel
theorem d_Ck_checkCall_45 : decode b_Ck_checkCall 45 = .ok (.if_icmp .eq 5, 3) := by decide +kernel
theorem d_Ck_checkCall_48 : decode b_Ck_checkCall 48 = .ok (.iconst 5, 1) := by decide +kernel
theorem d_Ck_checkCall_49 : decode b_Ck_checkCall 49 = .ok (.ireturn, 1) := by decide +kernel
theorem d_Ck_checkCall_50 : decode b_Ck_checkCall 50 = .ok (.aload_n 0, 1) := by decide +kernel
theorem d_Ck_checkCall_51 : decode b_Ck_checkCall 51 = .ok (.dup, 1) := by decide +kernel
theorem d_Ck_checkCall_52 : decode b_Ck_checkCall 52 = .ok (.getfield 68, 3) := by decide +kernel
theorem d_Ck_checkCall_55 : decode b_Ck_checkCall 55 = .ok (.iload 4, 2) := by decide +kernel
theorem d_Ck_checkCall_57 : decode b_Ck_checkCall 57 = .ok (.isub, 1) := by decide +kernel
theorem d_Ck_checkCall_58 : decode b_Ck_checkCall 58 = .ok (.putfield 68, 3) := by decide +kernel
theorem d_Ck_checkCall_61 : decode b_Ck_checkCall 61 = .ok (.aload_n 0, 1) := by decide +kernel
theorem d_Ck_checkCall_62 : decode b_Ck_checkCall 62 = .ok (.getfield 20, 3) := by decide +kernel
theorem d_Ck_checkCall_65 : decode b_Ck_checkCall 65 = .ok (.getfield 34, 3) := by decide +kernel
theorem d_Ck_checkCall_68 : decode b_Ck_checkCall 68 = .ok (.iload_n 3, 1) := by decide +kernel
theorem d_Ck_checkCall_69 : decode b_Ck_checkCall 69 = .ok (.iaload, 1) := by decide +kernel
theorem d_Ck_checkCall_70 : decode b_Ck_checkCall 70 = .ok (.istore 5, 2) := by decide +kernel
theorem d_Ck_checkCall_72 : decode b_Ck_checkCall 72 = .ok (.iconst 0, 1) := by decide +kernel
theorem d_Ck_checkCall_73 : decode b_Ck_checkCall 73 = .ok (.istore 6, 2) := by decide +kernel
theorem d_Ck_checkCall_75 : decode b_Ck_checkCall 75 = .ok (.iload 6, 2) := by decide +kernel
theorem d_Ck_checkCall_77 : decode b_Ck_checkCall 77 = .ok (.iload 4, 2) := by decide +kernel
theorem d_Ck_checkCall_79 : decode b_Ck_checkCall 79 = .ok (.if_icmp .ge 39, 3) := by decide +kernel
theorem d_Ck_checkCall_82 : decode b_Ck_checkCall 82 = .ok (.aload_n 0, 1) := by decide +kernel
theorem d_Ck_checkCall_83 : decode b_Ck_checkCall 83 = .ok (.getfield 10, 3) := by decide +kernel
theorem d_Ck_checkCall_86 : decode b_Ck_checkCall 86 = .ok (.aload_n 0, 1) := by decide +kernel
theorem d_Ck_checkCall_87 : decode b_Ck_checkCall 87 = .ok (.getfield 68, 3) := by decide +kernel
theorem d_Ck_checkCall_90 : decode b_Ck_checkCall 90 = .ok (.iload 6, 2) := by decide +kernel
theorem d_Ck_checkCall_92 : decode b_Ck_checkCall 92 = .ok (.iadd, 1) := by decide +kernel
theorem d_Ck_checkCall_93 : decode b_Ck_checkCall 93 = .ok (.iaload, 1) := by decide +kernel
theorem d_Ck_checkCall_94 : decode b_Ck_checkCall 94 = .ok (.aload_n 0, 1) := by decide +kernel
theorem d_Ck_checkCall_95 : decode b_Ck_checkCall 95 = .ok (.getfield 20, 3) := by decide +kernel
theorem d_Ck_checkCall_98 : decode b_Ck_checkCall 98 = .ok (.getfield 90, 3) := by decide +kernel
theorem d_Ck_checkCall_101 : decode b_Ck_checkCall 101 = .ok (.iload 5, 2) := by decide +kernel
theorem d_Ck_checkCall_103 : decode b_Ck_checkCall 103 = .ok (.iload 6, 2) := by decide +kernel
theorem d_Ck_checkCall_105 : decode b_Ck_checkCall 105 = .ok (.iadd, 1) := by decide +kernel
theorem d_Ck_checkCall_106 : decode b_Ck_checkCall 106 = .ok (.iaload, 1) := by decide +kernel
theorem d_Ck_checkCall_107 : decode b_Ck_checkCall 107 = .ok (.if_icmp .eq 5, 3) := by decide +kernel
theorem d_Ck_checkCall_110 : decode b_Ck_checkCall 110 = .ok (.iconst 4, 1) := by decide +kernel
theorem d_Ck_checkCall_111 : decode b_Ck_checkCall 111 = .ok (.ireturn, 1) := by decide +kernel
theorem d_Ck_checkCall_112 : decode b_Ck_checkCall 112 = .ok (.iinc 6 1, 3) := by decide +kernel
theorem d_Ck_checkCall_115 : decode b_Ck_checkCall 115 = .ok (.goto (-40), 3) := by decide +kernel
theorem d_Ck_checkCall_118 : decode b_Ck_checkCall 118 = .ok (.iconst 0, 1) := by decide +kernel
theorem d_Ck_checkCall_119 : decode b_Ck_checkCall 119 = .ok (.istore 6, 2) := by decide +kernel
theorem d_Ck_checkCall_121 : decode b_Ck_checkCall 121 = .ok (.iload 6, 2) := by decide +kernel
theorem d_Ck_checkCall_123 : decode b_Ck_checkCall 123 = .ok (.iload_n 2, 1) := by decide +kernel
theorem d_Ck_checkCall_124 : decode b_Ck_checkCall 124 = .ok (.if_icmp .ge 44, 3) := by decide +kernel
theorem d_Ck_checkCall_127 : decode b_Ck_checkCall 127 = .ok (.aload_n 0, 1) := by decide +kernel
theorem d_Ck_checkCall_128 : decode b_Ck_checkCall 128 = .ok (.getfield 10, 3) := by decide +kernel
theorem d_Ck_checkCall_131 : decode b_Ck_checkCall 131 = .ok (.aload_n 0, 1) := by decide +kernel
theorem d_Ck_checkCall_132 : decode b_Ck_checkCall 132 = .ok (.getfield 68, 3) := by decide +kernel
theorem d_Ck_checkCall_135 : decode b_Ck_checkCall 135 = .ok (.aload_n 0, 1) := by decide +kernel
theorem d_Ck_checkCall_136 : decode b_Ck_checkCall 136 = .ok (.getfield 20, 3) := by decide +kernel
theorem d_Ck_checkCall_139 : decode b_Ck_checkCall 139 = .ok (.getfield 90, 3) := by decide +kernel
theorem d_Ck_checkCall_142 : decode b_Ck_checkCall 142 = .ok (.iload 5, 2) := by decide +kernel
theorem d_Ck_checkCall_144 : decode b_Ck_checkCall 144 = .ok (.iload 4, 2) := by decide +kernel
theorem d_Ck_checkCall_146 : decode b_Ck_checkCall 146 = .ok (.iadd, 1) := by decide +kernel
theorem d_Ck_checkCall_147 : decode b_Ck_checkCall 147 = .ok (.iload 6, 2) := by decide +kernel
theorem d_Ck_checkCall_149 : decode b_Ck_checkCall 149 = .ok (.iadd, 1) := by decide +kernel
theorem d_Ck_checkCall_150 : decode b_Ck_checkCall 150 = .ok (.iaload, 1) := by decide +kernel
theorem d_Ck_checkCall_151 : decode b_Ck_checkCall 151 = .ok (.iastore, 1) := by decide +kernel
theorem d_Ck_checkCall_152 : decode b_Ck_checkCall 152 = .ok (.aload_n 0, 1) := by decide +kernel
theorem d_Ck_checkCall_153 : decode b_Ck_checkCall 153 = .ok (.dup, 1) := by decide +kernel
theorem d_Ck_checkCall_154 : decode b_Ck_checkCall 154 = .ok (.getfield 68, 3) := by decide +kernel
theorem d_Ck_checkCall_157 : decode b_Ck_checkCall 157 = .ok (.iconst 1, 1) := by decide +kernel
theorem d_Ck_checkCall_158 : decode b_Ck_checkCall 158 = .ok (.iadd, 1) := by decide +kernel
theorem d_Ck_checkCall_159 : decode b_Ck_checkCall 159 = .ok (.putfield 68, 3) := by decide +kernel
theorem d_Ck_checkCall_162 : decode b_Ck_checkCall 162 = .ok (.iinc 6 1, 3) := by decide +kernel
theorem d_Ck_checkCall_165 : decode b_Ck_checkCall 165 = .ok (.goto (-44), 3) := by decide +kernel
theorem d_Ck_checkCall_168 : decode b_Ck_checkCall 168 = .ok (.iconst 0, 1) := by decide +kernel
theorem d_Ck_checkCall_169 : decode b_Ck_checkCall 169 = .ok (.ireturn, 1) := by decide +kernel
abbrev mt_Ck_checkCall : MT := (R_Ck, b_Ck_checkCall, 7, some .int)
theorem vf_Ck_checkCall : VF y_Ck_checkCall mt_Ck_checkCall 1 2 := ⟨im_Ck_checkCall, se_Ck_checkCall, in_Ck, co_Ck_checkCall, by decide +kernel, _, _, rfl⟩
def f_Ck_checkCall_L121 : Nat → St → Int → Int → Int → Int → Option (Int × St)
  | 0, _, _, _, _, _ => none
  | n + 1, γ, x1, x2, x3, x4 =>
  if x1 ≤ x4 then
  (some (0, γ))
  else
  (chk (i32 (x3 + x2)) (chk (i32 ((x3 + x2) + x4)) (chk (inb ((x3 + x2) + x4) 5841) (chk (inb (γ 7 4) 32769) (ap (setA γ 53 (γ 7 4) (γ 33 ((x3 + x2) + x4))) fun γ12 =>
  chk (i32 ((γ12 7 4) + 1)) (ap (setA γ12 7 4 ((γ12 7 4) + 1)) fun γ15 =>
  chk (i32 (x4 + 1)) ((f_Ck_checkCall_L121 n) γ15 x1 x2 x3 (x4 + 1))))))))
def f_Ck_checkCall_b118 (γ : St) (x17 : Int) (x18 : Int) (x19 : Int) : Option (Int × St) :=
  f_Ck_checkCall_L121  FU γ x17 x18 x19 0
def f_Ck_checkCall_L75 (e118 : St → Int → Int → Int → Option (Int × St)) : Nat → St → Int → Int → Int → Int → Option (Int × St)
  | 0, _, _, _, _, _ => none
  | n + 1, γ, x20, x21, x22, x23 =>
  if x21 ≤ x23 then
  (e118 γ x20 x21 x22)
  else
  (chk (i32 ((γ 7 4) + x23)) (chk (inb ((γ 7 4) + x23) 32769) (chk (i32 (x22 + x23)) (chk (inb (x22 + x23) 5841) (if (γ 53 ((γ 7 4) + x23)) = (γ 33 (x22 + x23)) then
  (chk (i32 (x23 + 1)) ((f_Ck_checkCall_L75 e118 n) γ x20 x21 x22 (x23 + 1)))
  else
  (some (4, γ)))))))
def f_Ck_checkCall (γ : St) (a0 : Int) (a1 : Int) : Option (Int × St) :=
  chk (inb a0 65537) (ap (γ 39 a0) fun x39 =>
  chk (inb a0 65537) (ap (γ 40 a0) fun x43 =>
  chk (inb x39 59) (if x43 ≠ (γ 26 x39) then
  (some (5, γ))
  else
  (chk (inb x39 59) (if a1 = (γ 27 x39) then
  (chk (i32 ((γ 7 4) - x43)) (ap (setA γ 7 4 ((γ 7 4) - x43)) fun γ52 =>
  chk (inb x39 59) (ap (γ52 25 x39) fun x56 =>
  f_Ck_checkCall_L75 (f_Ck_checkCall_b118) FU γ52 a1 x43 x56 0)))
  else
  (some (5, γ)))))))
set_option maxHeartbeats 4000000 in
theorem s_Ck_checkCall_L121 {Γ : Ctx} : ∀ (n : Nat) (γ : St) (x1 : Int) (x2 : Int) (x3 : Int) (x4 : Int), i32 x1 → i32 x2 → i32 x3 → i32 x4 → SB Γ BS mt_Ck_checkCall (RmN 6 240) 0 0 (KN Γ BS mt_Ck_checkCall.2.2.2) 121 [(0, vR Γ 7), (2, vI x1), (4, vI x2), (5, vI x3), (6, vI x4)] [] γ (f_Ck_checkCall_L121 n γ x1 x2 x3 x4) := by
  intro n
  induction n with
  | zero => intros; exact sb_none
  | succ n ih =>
    intro γ x1 x2 x3 x4 hx1 hx2 hx3 hx4
    unfold f_Ck_checkCall_L121
    refine sb_iload 4 d_Ck_checkCall_121 rfl ?_
    refine sb_iload_n 1 d_Ck_checkCall_123 rfl ?_
    refine sb_icmp_ge 168 hx4 hx1 d_Ck_checkCall_124 (by decide) (fun _ => ?_) (fun _ => ?_)
    · refine sb_iconst d_Ck_checkCall_168 ?_
      exact sn_i rfl (by decide) d_Ck_checkCall_169
    · refine sb_aload_n 0 d_Ck_checkCall_127 rfl ?_
      refine g_Ck_10 d_Ck_checkCall_128 ?_
      refine sb_aload_n 0 d_Ck_checkCall_131 rfl ?_
      refine g_Ck_68 d_Ck_checkCall_132 (fun c6 => ?_)
      refine sb_aload_n 0 d_Ck_checkCall_135 rfl ?_
      refine g_Ck_20 d_Ck_checkCall_136 ?_
      refine g_Ck_90 d_Ck_checkCall_139 ?_
      refine sb_iload 3 d_Ck_checkCall_142 rfl ?_
      refine sb_iload 2 d_Ck_checkCall_144 rfl ?_
      refine sb_iadd d_Ck_checkCall_146 ?_
      refine sb_chk (fun c9 => ?_)
      refine sb_iload 4 d_Ck_checkCall_147 rfl ?_
      refine sb_iadd d_Ck_checkCall_149 ?_
      refine sb_chk (fun c10 => ?_)
      refine al_S_33 d_Ck_checkCall_150 (fun _ c11 => ?_)
      refine as_S_53 c11 d_Ck_checkCall_151 (fun _ => ?_)
      refine sb_aps (fun γ12 => ?_)
      refine sb_aload_n 0 d_Ck_checkCall_152 rfl ?_
      refine sb_dup d_Ck_checkCall_153 rfl ?_
      refine g_Ck_68 d_Ck_checkCall_154 (fun c13 => ?_)
      refine sb_iconst d_Ck_checkCall_157 ?_
      refine sb_iadd d_Ck_checkCall_158 ?_
      refine sb_chk (fun c14 => ?_)
      refine p_Ck_68 c14 d_Ck_checkCall_159 ?_
      refine sb_aps (fun γ15 => ?_)
      refine sb_iinc 4 [(6, vI (x4 + 1)), (0, vR Γ 7), (2, vI x1), (4, vI x2), (5, vI x3)] d_Ck_checkCall_162 rfl (by decide) rfl ?_
      refine sb_chk (fun c16 => ?_)
      refine sb_goto 121 d_Ck_checkCall_165 (by decide) ?_
      exact sb_lv [1, 2, 3, 4, 0] rfl (ih γ15 x1 x2 x3 (x4 + 1) hx1 hx2 hx3 c16)
set_option maxHeartbeats 4000000 in
theorem s_Ck_checkCall_b118 {Γ : Ctx} : ∀ (γ : St) (x17 : Int) (x18 : Int) (x19 : Int), i32 x17 → i32 x18 → i32 x19 → SB Γ BS mt_Ck_checkCall (RmN 6 240) 0 0 (KN Γ BS mt_Ck_checkCall.2.2.2) 118 [(0, vR Γ 7), (2, vI x17), (4, vI x18), (5, vI x19)] [] γ (f_Ck_checkCall_b118 γ x17 x18 x19) := by
  intro γ x17 x18 x19 hx17 hx18 hx19
  unfold f_Ck_checkCall_b118
  refine sb_iconst d_Ck_checkCall_118 ?_
  refine sb_istore [(6, vI 0), (0, vR Γ 7), (2, vI x17), (4, vI x18), (5, vI x19)] d_Ck_checkCall_119 (by decide) rfl ?_
  exact sb_lv [1, 2, 3, 4, 0] rfl (s_Ck_checkCall_L121  FU γ x17 x18 x19 0 hx17 hx18 hx19 (by decide))
set_option maxHeartbeats 4000000 in
theorem s_Ck_checkCall_L75 {Γ : Ctx} {e118 : St → Int → Int → Int → Option (Int × St)} (he118 : ∀ (γ : St) (x33 : Int) (x34 : Int) (x35 : Int), i32 x33 → i32 x34 → i32 x35 → SB Γ BS mt_Ck_checkCall (RmN 6 240) 0 0 (KN Γ BS mt_Ck_checkCall.2.2.2) 118 [(0, vR Γ 7), (2, vI x33), (4, vI x34), (5, vI x35)] [] γ (e118 γ x33 x34 x35)) : ∀ (n : Nat) (γ : St) (x20 : Int) (x21 : Int) (x22 : Int) (x23 : Int), i32 x20 → i32 x21 → i32 x22 → i32 x23 → SB Γ BS mt_Ck_checkCall (RmN 6 240) 0 0 (KN Γ BS mt_Ck_checkCall.2.2.2) 75 [(0, vR Γ 7), (2, vI x20), (4, vI x21), (5, vI x22), (6, vI x23)] [] γ (f_Ck_checkCall_L75 e118 n γ x20 x21 x22 x23) := by
  intro n
  induction n with
  | zero => intros; exact sb_none
  | succ n ih =>
    intro γ x20 x21 x22 x23 hx20 hx21 hx22 hx23
    unfold f_Ck_checkCall_L75
    refine sb_iload 4 d_Ck_checkCall_75 rfl ?_
    refine sb_iload 2 d_Ck_checkCall_77 rfl ?_
    refine sb_icmp_ge 118 hx23 hx21 d_Ck_checkCall_79 (by decide) (fun _ => ?_) (fun _ => ?_)
    · exact sb_lv [0, 1, 2, 3] rfl (he118 γ x20 x21 x22 hx20 hx21 hx22)
    · refine sb_aload_n 0 d_Ck_checkCall_82 rfl ?_
      refine g_Ck_10 d_Ck_checkCall_83 ?_
      refine sb_aload_n 0 d_Ck_checkCall_86 rfl ?_
      refine g_Ck_68 d_Ck_checkCall_87 (fun c25 => ?_)
      refine sb_iload 4 d_Ck_checkCall_90 rfl ?_
      refine sb_iadd d_Ck_checkCall_92 ?_
      refine sb_chk (fun c26 => ?_)
      refine al_S_53 d_Ck_checkCall_93 (fun _ c27 => ?_)
      refine sb_aload_n 0 d_Ck_checkCall_94 rfl ?_
      refine g_Ck_20 d_Ck_checkCall_95 ?_
      refine g_Ck_90 d_Ck_checkCall_98 ?_
      refine sb_iload 3 d_Ck_checkCall_101 rfl ?_
      refine sb_iload 4 d_Ck_checkCall_103 rfl ?_
      refine sb_iadd d_Ck_checkCall_105 ?_
      refine sb_chk (fun c30 => ?_)
      refine al_S_33 d_Ck_checkCall_106 (fun _ c31 => ?_)
      refine sb_icmp_eq 112 c27 c31 d_Ck_checkCall_107 (by decide) (fun _ => ?_) (fun _ => ?_)
      · refine sb_iinc 4 [(6, vI (x23 + 1)), (0, vR Γ 7), (2, vI x20), (4, vI x21), (5, vI x22)] d_Ck_checkCall_112 rfl (by decide) rfl ?_
        refine sb_chk (fun c32 => ?_)
        refine sb_goto 75 d_Ck_checkCall_115 (by decide) ?_
        exact sb_lv [1, 2, 3, 4, 0] rfl (ih γ x20 x21 x22 (x23 + 1) hx20 hx21 hx22 c32)
      · refine sb_iconst d_Ck_checkCall_110 ?_
        exact sn_i rfl (by decide) d_Ck_checkCall_111
set_option maxHeartbeats 4000000 in
theorem c_Ck_checkCall {Γ : Ctx} (γ : St) (a0 : Int) (a1 : Int) (ha0 : i32 a0) (ha1 : i32 a1) : NC Γ BS y_Ck_checkCall mt_Ck_checkCall 6 240 [vR Γ 7, vI a0, vI a1] γ (f_Ck_checkCall γ a0 a1) := by
  refine nc_of (by decide) rfl (Nat.le_of_ble_eq_true rfl) ?_
  show SB Γ BS mt_Ck_checkCall (RmN 6 240) 0 0 (KN Γ BS mt_Ck_checkCall.2.2.2) 0 [(0, vR Γ 7), (1, vI a0), (2, vI a1)] [] γ _
  unfold f_Ck_checkCall
  refine sb_aload_n 0 d_Ck_checkCall_0 rfl ?_
  refine g_Ck_24 d_Ck_checkCall_1 ?_
  refine g_Ck_119 d_Ck_checkCall_4 ?_
  refine sb_iload_n 1 d_Ck_checkCall_7 rfl ?_
  refine al_S_39 d_Ck_checkCall_8 (fun _ c38 => ?_)
  refine sb_istore_n [(3, vI (γ 39 a0)), (0, vR Γ 7), (1, vI a0), (2, vI a1)] d_Ck_checkCall_9 (by decide) rfl ?_
  refine sb_nme (e := γ 39 a0) (fun x39 => [(3, vI x39), (0, vR Γ 7), (1, vI a0), (2, vI a1)]) c38 (fun x39 hx39 => ?_)
  refine sb_aload_n 1 d_Ck_checkCall_10 rfl ?_
  refine g_Ck_24 d_Ck_checkCall_11 ?_
  refine g_Ck_103 d_Ck_checkCall_14 ?_
  refine sb_iload_n 2 d_Ck_checkCall_17 rfl ?_
  refine al_S_40 d_Ck_checkCall_18 (fun _ c42 => ?_)
  refine sb_istore [(4, vI (γ 40 a0)), (3, vI x39), (0, vR Γ 7), (1, vI a0), (2, vI a1)] d_Ck_checkCall_19 (by decide) rfl ?_
  refine sb_nme (e := γ 40 a0) (fun x43 => [(4, vI x43), (3, vI x39), (0, vR Γ 7), (1, vI a0), (2, vI a1)]) c42 (fun x43 hx43 => ?_)
  refine sb_iload 0 d_Ck_checkCall_21 rfl ?_
  refine sb_aload_n 2 d_Ck_checkCall_23 rfl ?_
  refine g_Ck_20 d_Ck_checkCall_24 ?_
  refine g_Ck_39 d_Ck_checkCall_27 ?_
  refine sb_iload_n 1 d_Ck_checkCall_30 rfl ?_
  refine al_S_26 d_Ck_checkCall_31 (fun _ c46 => ?_)
  refine sb_icmp_ne 48 hx43 c46 d_Ck_checkCall_32 (by decide) (fun _ => ?_) (fun _ => ?_)
  · refine sb_iconst d_Ck_checkCall_48 ?_
    exact sn_i rfl (by decide) d_Ck_checkCall_49
  · refine sb_iload_n 4 d_Ck_checkCall_35 rfl ?_
    refine sb_aload_n 2 d_Ck_checkCall_36 rfl ?_
    refine g_Ck_20 d_Ck_checkCall_37 ?_
    refine g_Ck_122 d_Ck_checkCall_40 ?_
    refine sb_iload_n 1 d_Ck_checkCall_43 rfl ?_
    refine al_S_27 d_Ck_checkCall_44 (fun _ c49 => ?_)
    refine sb_icmp_eq 50 ha1 c49 d_Ck_checkCall_45 (by decide) (fun _ => ?_) (fun _ => ?_)
    · refine sb_aload_n 2 d_Ck_checkCall_50 rfl ?_
      refine sb_dup d_Ck_checkCall_51 rfl ?_
      refine g_Ck_68 d_Ck_checkCall_52 (fun c50 => ?_)
      refine sb_iload 0 d_Ck_checkCall_55 rfl ?_
      refine sb_isub d_Ck_checkCall_57 ?_
      refine sb_chk (fun c51 => ?_)
      refine p_Ck_68 c51 d_Ck_checkCall_58 ?_
      refine sb_aps (fun γ52 => ?_)
      refine sb_aload_n 2 d_Ck_checkCall_61 rfl ?_
      refine g_Ck_20 d_Ck_checkCall_62 ?_
      refine g_Ck_34 d_Ck_checkCall_65 ?_
      refine sb_iload_n 1 d_Ck_checkCall_68 rfl ?_
      refine al_S_25 d_Ck_checkCall_69 (fun _ c55 => ?_)
      refine sb_istore [(5, vI (γ52 25 x39)), (4, vI x43), (3, vI x39), (0, vR Γ 7), (1, vI a0), (2, vI a1)] d_Ck_checkCall_70 (by decide) rfl ?_
      refine sb_nme (e := γ52 25 x39) (fun x56 => [(5, vI x56), (4, vI x43), (3, vI x39), (0, vR Γ 7), (1, vI a0), (2, vI a1)]) c55 (fun x56 hx56 => ?_)
      refine sb_iconst d_Ck_checkCall_72 ?_
      refine sb_istore [(6, vI 0), (5, vI x56), (4, vI x43), (3, vI x39), (0, vR Γ 7), (1, vI a0), (2, vI a1)] d_Ck_checkCall_73 (by decide) rfl ?_
      exact sb_lv [4, 6, 2, 1, 0] rfl (s_Ck_checkCall_L75 (s_Ck_checkCall_b118) FU γ52 a1 x43 x56 0 ha1 hx43 hx56 (by decide))
    · refine sb_iconst d_Ck_checkCall_48 ?_
      exact sn_i rfl (by decide) d_Ck_checkCall_49
theorem d_Ck_typeOfAtom_0 : decode b_Ck_typeOfAtom 0 = .ok (.aload_n 0, 1) := by decide +kernel
theorem d_Ck_typeOfAtom_1 : decode b_Ck_typeOfAtom 1 = .ok (.getfield 24, 3) := by decide +kernel
theorem d_Ck_typeOfAtom_4 : decode b_Ck_typeOfAtom 4 = .ok (.getfield 100, 3) := by decide +kernel
theorem d_Ck_typeOfAtom_7 : decode b_Ck_typeOfAtom 7 = .ok (.iload_n 1, 1) := by decide +kernel
theorem d_Ck_typeOfAtom_8 : decode b_Ck_typeOfAtom 8 = .ok (.iaload, 1) := by decide +kernel
theorem d_Ck_typeOfAtom_9 : decode b_Ck_typeOfAtom 9 = .ok (.lookupswitch 52 #[(2, 29), (3, 27)], 27) := by decide +kernel
theorem d_Ck_typeOfAtom_36 : decode b_Ck_typeOfAtom 36 = .ok (.iconst 0, 1) := by decide +kernel
theorem d_Ck_typeOfAtom_37 : decode b_Ck_typeOfAtom 37 = .ok (.ireturn, 1) := by decide +kernel
theorem d_Ck_typeOfAtom_38 : decode b_Ck_typeOfAtom 38 = .ok (.aload_n 0, 1) := by decide +kernel
theorem d_Ck_typeOfAtom_39 : decode b_Ck_typeOfAtom 39 = .ok (.getfield 20, 3) := by decide +kernel
theorem d_Ck_typeOfAtom_42 : decode b_Ck_typeOfAtom 42 = .ok (.getfield 90, 3) := by decide +kernel
theorem d_Ck_typeOfAtom_45 : decode b_Ck_typeOfAtom 45 = .ok (.aload_n 0, 1) := by decide +kernel
theorem d_Ck_typeOfAtom_46 : decode b_Ck_typeOfAtom 46 = .ok (.getfield 37, 3) := by decide +kernel
theorem d_Ck_typeOfAtom_49 : decode b_Ck_typeOfAtom 49 = .ok (.aload_n 0, 1) := by decide +kernel
theorem d_Ck_typeOfAtom_50 : decode b_Ck_typeOfAtom 50 = .ok (.getfield 24, 3) := by decide +kernel
theorem d_Ck_typeOfAtom_53 : decode b_Ck_typeOfAtom 53 = .ok (.getfield 119, 3) := by decide +kernel
theorem d_Ck_typeOfAtom_56 : decode b_Ck_typeOfAtom 56 = .ok (.iload_n 1, 1) := by decide +kernel
theorem d_Ck_typeOfAtom_57 : decode b_Ck_typeOfAtom 57 = .ok (.iaload, 1) := by decide +kernel
theorem d_Ck_typeOfAtom_58 : decode b_Ck_typeOfAtom 58 = .ok (.iadd, 1) := by decide +kernel
theorem d_Ck_typeOfAtom_59 : decode b_Ck_typeOfAtom 59 = .ok (.iaload, 1) := by decide +kernel
theorem d_Ck_typeOfAtom_60 : decode b_Ck_typeOfAtom 60 = .ok (.ireturn, 1) := by decide +kernel
theorem d_Ck_typeOfAtom_61 : decode b_Ck_typeOfAtom 61 = .ok (.iconst 1, 1) := by decide +kernel
theorem d_Ck_typeOfAtom_62 : decode b_Ck_typeOfAtom 62 = .ok (.ireturn, 1) := by decide +kernel
abbrev mt_Ck_typeOfAtom : MT := (R_Ck, b_Ck_typeOfAtom, 2, some .int)
theorem vf_Ck_typeOfAtom : VF y_Ck_typeOfAtom mt_Ck_typeOfAtom 1 1 := ⟨im_Ck_typeOfAtom, se_Ck_typeOfAtom, in_Ck, co_Ck_typeOfAtom, by decide +kernel, _, _, rfl⟩
def f_Ck_typeOfAtom (γ : St) (a0 : Int) : Option (Int × St) :=
  chk (inb a0 65537) (if (γ 38 a0) = 2 then
  (chk (inb a0 65537) (chk (i32 ((γ 7 5) + (γ 39 a0))) (chk (inb ((γ 7 5) + (γ 39 a0)) 5841) (some (γ 33 ((γ 7 5) + (γ 39 a0)), γ)))))
  else if (γ 38 a0) = 3 then
  (some (0, γ))
  else (some (1, γ)))
set_option maxHeartbeats 4000000 in
theorem c_Ck_typeOfAtom {Γ : Ctx} (γ : St) (a0 : Int) (ha0 : i32 a0) : NC Γ BS y_Ck_typeOfAtom mt_Ck_typeOfAtom 6 240 [vR Γ 7, vI a0] γ (f_Ck_typeOfAtom γ a0) := by
  refine nc_of (by decide) rfl (Nat.le_of_ble_eq_true rfl) ?_
  show SB Γ BS mt_Ck_typeOfAtom (RmN 6 240) 0 0 (KN Γ BS mt_Ck_typeOfAtom.2.2.2) 0 [(0, vR Γ 7), (1, vI a0)] [] γ _
  unfold f_Ck_typeOfAtom
  refine sb_aload_n 0 d_Ck_typeOfAtom_0 rfl ?_
  refine g_Ck_24 d_Ck_typeOfAtom_1 ?_
  refine g_Ck_100 d_Ck_typeOfAtom_4 ?_
  refine sb_iload_n 1 d_Ck_typeOfAtom_7 rfl ?_
  refine al_S_38 d_Ck_typeOfAtom_8 (fun _ c3 => ?_)
  refine sb_lc (off := 29) 2 38 c3 d_Ck_typeOfAtom_9 (by decide) (by decide) (fun _ => ?_) (fun n12 => ?_)
  · refine sb_aload_n 0 d_Ck_typeOfAtom_38 rfl ?_
    refine g_Ck_20 d_Ck_typeOfAtom_39 ?_
    refine g_Ck_90 d_Ck_typeOfAtom_42 ?_
    refine sb_aload_n 0 d_Ck_typeOfAtom_45 rfl ?_
    refine g_Ck_37 d_Ck_typeOfAtom_46 (fun c6 => ?_)
    refine sb_aload_n 0 d_Ck_typeOfAtom_49 rfl ?_
    refine g_Ck_24 d_Ck_typeOfAtom_50 ?_
    refine g_Ck_119 d_Ck_typeOfAtom_53 ?_
    refine sb_iload_n 1 d_Ck_typeOfAtom_56 rfl ?_
    refine al_S_39 d_Ck_typeOfAtom_57 (fun _ c9 => ?_)
    refine sb_iadd d_Ck_typeOfAtom_58 ?_
    refine sb_chk (fun c10 => ?_)
    refine al_S_33 d_Ck_typeOfAtom_59 (fun _ c11 => ?_)
    exact sn_i rfl c11 d_Ck_typeOfAtom_60
  refine sb_lc (off := 27) 3 36 c3 d_Ck_typeOfAtom_9 (by decide) (by decide) (fun _ => ?_) (fun n13 => ?_)
  · refine sb_iconst d_Ck_typeOfAtom_36 ?_
    exact sn_i rfl (by decide) d_Ck_typeOfAtom_37
  refine sb_ld 61 c3 d_Ck_typeOfAtom_9 (by decide) (lk_cons n12 (lk_cons n13 (fun _ h9 => absurd h9 List.not_mem_nil))) (by decide) ?_
  refine sb_iconst d_Ck_typeOfAtom_61 ?_
  exact sn_i rfl (by decide) d_Ck_typeOfAtom_62
theorem d_Ck_typeOfAnswer_0 : decode b_Ck_typeOfAnswer 0 = .ok (.iload_n 0, 1) := by decide +kernel
theorem d_Ck_typeOfAnswer_1 : decode b_Ck_typeOfAnswer 1 = .ok (.invokestatic 125, 3) := by decide +kernel
theorem d_Ck_typeOfAnswer_4 : decode b_Ck_typeOfAnswer 4 = .ok (.iconst 5, 1) := by decide +kernel
theorem d_Ck_typeOfAnswer_5 : decode b_Ck_typeOfAnswer 5 = .ok (.if_icmp .ne 7, 3) := by decide +kernel
theorem d_Ck_typeOfAnswer_8 : decode b_Ck_typeOfAnswer 8 = .ok (.iconst 1, 1) := by decide +kernel
theorem d_Ck_typeOfAnswer_9 : decode b_Ck_typeOfAnswer 9 = .ok (.goto 4, 3) := by decide +kernel
theorem d_Ck_typeOfAnswer_12 : decode b_Ck_typeOfAnswer 12 = .ok (.iload_n 1, 1) := by decide +kernel
theorem d_Ck_typeOfAnswer_13 : decode b_Ck_typeOfAnswer 13 = .ok (.ireturn, 1) := by decide +kernel
abbrev mt_Ck_typeOfAnswer : MT := (R_Ck, b_Ck_typeOfAnswer, 2, some .int)
theorem vf_Ck_typeOfAnswer : SF y_Ck_typeOfAnswer mt_Ck_typeOfAnswer 2 := ⟨sm_Ck_typeOfAnswer, in_Ck, co_Ck_typeOfAnswer, by decide +kernel⟩
def f_Ck_typeOfAnswer (γ : St) (a0 : Int) (a1 : Int) : Option (Int × St) :=
  bndN (f_S_rank γ a0) fun r1 γ2 =>
  if r1 ≠ 5 then
  (some (a1, γ2))
  else
  (some (1, γ2))
set_option maxHeartbeats 4000000 in
theorem c_Ck_typeOfAnswer {Γ : Ctx} (γ : St) (a0 : Int) (a1 : Int) (ha0 : i32 a0) (ha1 : i32 a1) : NC Γ BS y_Ck_typeOfAnswer mt_Ck_typeOfAnswer 7 260 [vI a0, vI a1] γ (f_Ck_typeOfAnswer γ a0 a1) := by
  refine nc_of (by decide) rfl (Nat.le_of_ble_eq_true rfl) ?_
  show SB Γ BS mt_Ck_typeOfAnswer (RmN 7 260) 0 0 (KN Γ BS mt_Ck_typeOfAnswer.2.2.2) 0 [(0, vI a0), (1, vI a1)] [] γ _
  unfold f_Ck_typeOfAnswer
  refine sb_iload_n 0 d_Ck_typeOfAnswer_0 rfl ?_
  refine sb_cNi vf_S_rank (c_S_rank γ a0 ha0) (fun X => X.E.2.2.2.2.2.2.2.2.1) (As := [vI a0]) rfl rfl (Nat.le_of_ble_eq_true rfl) ⟨by decide, by decide⟩ d_Ck_typeOfAnswer_1 (fun r1 γ2 hr1 => ?_)
  refine sb_iconst d_Ck_typeOfAnswer_4 ?_
  refine sb_icmp_ne 12 hr1 (by decide) d_Ck_typeOfAnswer_5 (by decide) (fun _ => ?_) (fun _ => ?_)
  · refine sb_iload_n 1 d_Ck_typeOfAnswer_12 rfl ?_
    exact sn_i rfl ha1 d_Ck_typeOfAnswer_13
  · refine sb_iconst d_Ck_typeOfAnswer_8 ?_
    refine sb_goto 13 d_Ck_typeOfAnswer_9 (by decide) ?_
    exact sn_i rfl (by decide) d_Ck_typeOfAnswer_13
theorem d_Ck_typeOfSides_0 : decode b_Ck_typeOfSides 0 = .ok (.iload_n 0, 1) := by decide +kernel
theorem d_Ck_typeOfSides_1 : decode b_Ck_typeOfSides 1 = .ok (.tableswitch 135 9 37 #[133, 133, 135, 135, 135, 135, 135, 135, 135, 133, 131, 135, 135, 135, 135, 135, 135, 135, 133, 131, 131, 131, 131, 135, 135, 135, 133, 133, 133], 131) := by decide +kernel
theorem d_Ck_typeOfSides_132 : decode b_Ck_typeOfSides 132 = .ok (.iconst 1, 1) := by decide +kernel
theorem d_Ck_typeOfSides_133 : decode b_Ck_typeOfSides 133 = .ok (.ireturn, 1) := by decide +kernel
theorem d_Ck_typeOfSides_134 : decode b_Ck_typeOfSides 134 = .ok (.iconst 2, 1) := by decide +kernel
theorem d_Ck_typeOfSides_135 : decode b_Ck_typeOfSides 135 = .ok (.ireturn, 1) := by decide +kernel
theorem d_Ck_typeOfSides_136 : decode b_Ck_typeOfSides 136 = .ok (.iconst 0, 1) := by decide +kernel
theorem d_Ck_typeOfSides_137 : decode b_Ck_typeOfSides 137 = .ok (.ireturn, 1) := by decide +kernel
abbrev mt_Ck_typeOfSides : MT := (R_Ck, b_Ck_typeOfSides, 1, some .int)
theorem vf_Ck_typeOfSides : SF y_Ck_typeOfSides mt_Ck_typeOfSides 1 := ⟨sm_Ck_typeOfSides, in_Ck, co_Ck_typeOfSides, by decide +kernel⟩
def f_Ck_typeOfSides (γ : St) (a0 : Int) : Option (Int × St) :=
  if a0 = 9 then
  (some (2, γ))
  else if a0 = 10 then
  (some (2, γ))
  else if a0 = 18 then
  (some (2, γ))
  else if a0 = 19 then
  (some (1, γ))
  else if a0 = 27 then
  (some (2, γ))
  else if a0 = 28 then
  (some (1, γ))
  else if a0 = 29 then
  (some (1, γ))
  else if a0 = 30 then
  (some (1, γ))
  else if a0 = 31 then
  (some (1, γ))
  else if a0 = 35 then
  (some (2, γ))
  else if a0 = 36 then
  (some (2, γ))
  else if a0 = 37 then
  (some (2, γ))
  else (some (0, γ))
set_option maxHeartbeats 4000000 in
theorem c_Ck_typeOfSides {Γ : Ctx} (γ : St) (a0 : Int) (ha0 : i32 a0) : NC Γ BS y_Ck_typeOfSides mt_Ck_typeOfSides 6 240 [vI a0] γ (f_Ck_typeOfSides γ a0) := by
  refine nc_of (by decide) rfl (Nat.le_of_ble_eq_true rfl) ?_
  show SB Γ BS mt_Ck_typeOfSides (RmN 6 240) 0 0 (KN Γ BS mt_Ck_typeOfSides.2.2.2) 0 [(0, vI a0)] [] γ _
  unfold f_Ck_typeOfSides
  refine sb_iload_n 0 d_Ck_typeOfSides_0 rfl ?_
  refine sb_tc (off := 133) 9 134 ha0 d_Ck_typeOfSides_1 (by decide) (by decide) (fun _ => ?_) (fun n1 => ?_)
  · refine sb_iconst d_Ck_typeOfSides_134 ?_
    exact sn_i rfl (by decide) d_Ck_typeOfSides_135
  refine sb_tc (off := 133) 10 134 ha0 d_Ck_typeOfSides_1 (by decide) (by decide) (fun _ => ?_) (fun n2 => ?_)
  · refine sb_iconst d_Ck_typeOfSides_134 ?_
    exact sn_i rfl (by decide) d_Ck_typeOfSides_135
  refine sb_tc (off := 133) 18 134 ha0 d_Ck_typeOfSides_1 (by decide) (by decide) (fun _ => ?_) (fun n3 => ?_)
  · refine sb_iconst d_Ck_typeOfSides_134 ?_
    exact sn_i rfl (by decide) d_Ck_typeOfSides_135
  refine sb_tc (off := 131) 19 132 ha0 d_Ck_typeOfSides_1 (by decide) (by decide) (fun _ => ?_) (fun n4 => ?_)
  · refine sb_iconst d_Ck_typeOfSides_132 ?_
    exact sn_i rfl (by decide) d_Ck_typeOfSides_133
  refine sb_tc (off := 133) 27 134 ha0 d_Ck_typeOfSides_1 (by decide) (by decide) (fun _ => ?_) (fun n5 => ?_)
  · refine sb_iconst d_Ck_typeOfSides_134 ?_
    exact sn_i rfl (by decide) d_Ck_typeOfSides_135
  refine sb_tc (off := 131) 28 132 ha0 d_Ck_typeOfSides_1 (by decide) (by decide) (fun _ => ?_) (fun n6 => ?_)
  · refine sb_iconst d_Ck_typeOfSides_132 ?_
    exact sn_i rfl (by decide) d_Ck_typeOfSides_133
  refine sb_tc (off := 131) 29 132 ha0 d_Ck_typeOfSides_1 (by decide) (by decide) (fun _ => ?_) (fun n7 => ?_)
  · refine sb_iconst d_Ck_typeOfSides_132 ?_
    exact sn_i rfl (by decide) d_Ck_typeOfSides_133
  refine sb_tc (off := 131) 30 132 ha0 d_Ck_typeOfSides_1 (by decide) (by decide) (fun _ => ?_) (fun n8 => ?_)
  · refine sb_iconst d_Ck_typeOfSides_132 ?_
    exact sn_i rfl (by decide) d_Ck_typeOfSides_133
  refine sb_tc (off := 131) 31 132 ha0 d_Ck_typeOfSides_1 (by decide) (by decide) (fun _ => ?_) (fun n9 => ?_)
  · refine sb_iconst d_Ck_typeOfSides_132 ?_
    exact sn_i rfl (by decide) d_Ck_typeOfSides_133
  refine sb_tc (off := 133) 35 134 ha0 d_Ck_typeOfSides_1 (by decide) (by decide) (fun _ => ?_) (fun n10 => ?_)
  · refine sb_iconst d_Ck_typeOfSides_134 ?_
    exact sn_i rfl (by decide) d_Ck_typeOfSides_135
  refine sb_tc (off := 133) 36 134 ha0 d_Ck_typeOfSides_1 (by decide) (by decide) (fun _ => ?_) (fun n11 => ?_)
  · refine sb_iconst d_Ck_typeOfSides_134 ?_
    exact sn_i rfl (by decide) d_Ck_typeOfSides_135
  refine sb_tc (off := 133) 37 134 ha0 d_Ck_typeOfSides_1 (by decide) (by decide) (fun _ => ?_) (fun n12 => ?_)
  · refine sb_iconst d_Ck_typeOfSides_134 ?_
    exact sn_i rfl (by decide) d_Ck_typeOfSides_135
  refine sb_tg (off := 135) 11 136 ha0 d_Ck_typeOfSides_1 (by decide) (by decide) (fun _ => ?_) (fun n13 => ?_)
  · refine sb_iconst d_Ck_typeOfSides_136 ?_
    exact sn_i rfl (by decide) d_Ck_typeOfSides_137
  refine sb_tg (off := 135) 12 136 ha0 d_Ck_typeOfSides_1 (by decide) (by decide) (fun _ => ?_) (fun n14 => ?_)
  · refine sb_iconst d_Ck_typeOfSides_136 ?_
    exact sn_i rfl (by decide) d_Ck_typeOfSides_137
  refine sb_tg (off := 135) 13 136 ha0 d_Ck_typeOfSides_1 (by decide) (by decide) (fun _ => ?_) (fun n15 => ?_)
  · refine sb_iconst d_Ck_typeOfSides_136 ?_
    exact sn_i rfl (by decide) d_Ck_typeOfSides_137
  refine sb_tg (off := 135) 14 136 ha0 d_Ck_typeOfSides_1 (by decide) (by decide) (fun _ => ?_) (fun n16 => ?_)
  · refine sb_iconst d_Ck_typeOfSides_136 ?_
    exact sn_i rfl (by decide) d_Ck_typeOfSides_137
  refine sb_tg (off := 135) 15 136 ha0 d_Ck_typeOfSides_1 (by decide) (by decide) (fun _ => ?_) (fun n17 => ?_)
  · refine sb_iconst d_Ck_typeOfSides_136 ?_
    exact sn_i rfl (by decide) d_Ck_typeOfSides_137
  refine sb_tg (off := 135) 16 136 ha0 d_Ck_typeOfSides_1 (by decide) (by decide) (fun _ => ?_) (fun n18 => ?_)
  · refine sb_iconst d_Ck_typeOfSides_136 ?_
    exact sn_i rfl (by decide) d_Ck_typeOfSides_137
  refine sb_tg (off := 135) 17 136 ha0 d_Ck_typeOfSides_1 (by decide) (by decide) (fun _ => ?_) (fun n19 => ?_)
  · refine sb_iconst d_Ck_typeOfSides_136 ?_
    exact sn_i rfl (by decide) d_Ck_typeOfSides_137
  refine sb_tg (off := 135) 20 136 ha0 d_Ck_typeOfSides_1 (by decide) (by decide) (fun _ => ?_) (fun n20 => ?_)
  · refine sb_iconst d_Ck_typeOfSides_136 ?_
    exact sn_i rfl (by decide) d_Ck_typeOfSides_137
  refine sb_tg (off := 135) 21 136 ha0 d_Ck_typeOfSides_1 (by decide) (by decide) (fun _ => ?_) (fun n21 => ?_)
  · refine sb_iconst d_Ck_typeOfSides_136 ?_
    exact sn_i rfl (by decide) d_Ck_typeOfSides_137
  refine sb_tg (off := 135) 22 136 ha0 d_Ck_typeOfSides_1 (by decide) (by decide) (fun _ => ?_) (fun n22 => ?_)
  · refine sb_iconst d_Ck_typeOfSides_136 ?_
    exact sn_i rfl (by decide) d_Ck_typeOfSides_137
  refine sb_tg (off := 135) 23 136 ha0 d_Ck_typeOfSides_1 (by decide) (by decide) (fun _ => ?_) (fun n23 => ?_)
  · refine sb_iconst d_Ck_typeOfSides_136 ?_
    exact sn_i rfl (by decide) d_Ck_typeOfSides_137
  refine sb_tg (off := 135) 24 136 ha0 d_Ck_typeOfSides_1 (by decide) (by decide) (fun _ => ?_) (fun n24 => ?_)
  · refine sb_iconst d_Ck_typeOfSides_136 ?_
    exact sn_i rfl (by decide) d_Ck_typeOfSides_137
  refine sb_tg (off := 135) 25 136 ha0 d_Ck_typeOfSides_1 (by decide) (by decide) (fun _ => ?_) (fun n25 => ?_)
  · refine sb_iconst d_Ck_typeOfSides_136 ?_
    exact sn_i rfl (by decide) d_Ck_typeOfSides_137
  refine sb_tg (off := 135) 26 136 ha0 d_Ck_typeOfSides_1 (by decide) (by decide) (fun _ => ?_) (fun n26 => ?_)
  · refine sb_iconst d_Ck_typeOfSides_136 ?_
    exact sn_i rfl (by decide) d_Ck_typeOfSides_137
  refine sb_tg (off := 135) 32 136 ha0 d_Ck_typeOfSides_1 (by decide) (by decide) (fun _ => ?_) (fun n27 => ?_)
  · refine sb_iconst d_Ck_typeOfSides_136 ?_
    exact sn_i rfl (by decide) d_Ck_typeOfSides_137
  refine sb_tg (off := 135) 33 136 ha0 d_Ck_typeOfSides_1 (by decide) (by decide) (fun _ => ?_) (fun n28 => ?_)
  · refine sb_iconst d_Ck_typeOfSides_136 ?_
    exact sn_i rfl (by decide) d_Ck_typeOfSides_137
  refine sb_tg (off := 135) 34 136 ha0 d_Ck_typeOfSides_1 (by decide) (by decide) (fun _ => ?_) (fun n29 => ?_)
  · refine sb_iconst d_Ck_typeOfSides_136 ?_
    exact sn_i rfl (by decide) d_Ck_typeOfSides_137
  refine sb_td 136 ha0 d_Ck_typeOfSides_1 (by omega) (by decide) ?_
  refine sb_iconst d_Ck_typeOfSides_136 ?_
  exact sn_i rfl (by decide) d_Ck_typeOfSides_137
theorem d_Ck_checkType_0 : decode b_Ck_checkType 0 = .ok (.aload_n 0, 1) := by decide +kernel
theorem d_Ck_checkType_1 : decode b_Ck_checkType 1 = .ok (.getfield 24, 3) := by decide +kernel
theorem d_Ck_checkType_4 : decode b_Ck_checkType 4 = .ok (.getfield 100, 3) := by decide +kernel
theorem d_Ck_checkType_7 : decode b_Ck_checkType 7 = .ok (.iload_n 1, 1) := by decide +kernel
theorem d_Ck_checkType_8 : decode b_Ck_checkType 8 = .ok (.iaload, 1) := by decide +kernel
theorem d_Ck_checkType_9 : decode b_Ck_checkType 9 = .ok (.istore_n 3, 1) := by decide +kernel
theorem d_Ck_checkType_10 : decode b_Ck_checkType 10 = .ok (.aload_n 0, 1) := by decide +kernel
theorem d_Ck_checkType_11 : decode b_Ck_checkType 11 = .ok (.getfield 24, 3) := by decide +kernel
theorem d_Ck_checkType_14 : decode b_Ck_checkType 14 = .ok (.getfield 103, 3) := by decide +kernel
theorem d_Ck_checkType_17 : decode b_Ck_checkType 17 = .ok (.iload_n 1, 1) := by decide +kernel
theorem d_Ck_checkType_18 : decode b_Ck_checkType 18 = .ok (.iaload, 1) := by decide +kernel
theorem d_Ck_checkType_19 : decode b_Ck_checkType 19 = .ok (.istore 4, 2) := by decide +kernel
theorem d_Ck_checkType_21 : decode b_Ck_checkType 21 = .ok (.iload_n 3, 1) := by decide +kernel
theorem d_Ck_checkType_22 : decode b_Ck_checkType 22 = .ok (.bipush 43, 2) := by decide +kernel
theorem d_Ck_checkType_24 : decode b_Ck_checkType 24 = .ok (.if_icmp .ne 10, 3) := by decide +kernel
theorem d_Ck_checkType_27 : decode b_Ck_checkType 27 = .ok (.aload_n 0, 1) := by decide +kernel
theorem d_Ck_checkType_28 : decode b_Ck_checkType 28 = .ok (.iload_n 1, 1) := by decide +kernel
theorem d_Ck_checkType_29 : decode b_Ck_checkType 29 = .ok (.iload_n 2, 1) := by decide +kernel
theorem d_Ck_checkType_30 : decode b_Ck_checkType 30 = .ok (.invokevirtual 106, 3) := by decide +kernel
theorem d_Ck_checkType_33 : decode b_Ck_checkType 33 = .ok (.ireturn, 1) := by decide +kernel
theorem d_Ck_checkType_34 : decode b_Ck_checkType 34 = .ok (.iload 4, 2) := by decide +kernel
theorem d_Ck_checkType_36 : decode b_Ck_checkType 36 = .ok (.ifCond .ne 29, 3) := by decide +kernel
theorem d_Ck_checkType_39 : decode b_Ck_checkType 39 = .ok (.aload_n 0, 1) := by decide +kernel
theorem d_Ck_checkType_40 : decode b_Ck_checkType 40 = .ok (.getfield 10, 3) := by decide +kernel
theorem d_Ck_checkType_43 : decode b_Ck_checkType 43 = .ok (.aload_n 0, 1) := by decide +kernel
theorem d_Ck_checkType_44 : decode b_Ck_checkType 44 = .ok (.getfield 68, 3) := by decide +kernel
theorem d_Ck_checkType_47 : decode b_Ck_checkType 47 = .ok (.aload_n 0, 1) := by decide +kernel
theorem d_Ck_checkType_48 : decode b_Ck_checkType 48 = .ok (.iload_n 1, 1) := by decide +kernel
theorem d_Ck_checkType_49 : decode b_Ck_checkType 49 = .ok (.invokevirtual 109, 3) := by decide +kernel
theorem d_Ck_checkType_52 : decode b_Ck_checkType 52 = .ok (.iastore, 1) := by decide +kernel
theorem d_Ck_checkType_53 : decode b_Ck_checkType 53 = .ok (.aload_n 0, 1) := by decide +kernel
theorem d_Ck_checkType_54 : decode b_Ck_checkType 54 = .ok (.dup, 1) := by decide +kernel
theorem d_Ck_checkType_55 : decode b_Ck_checkType 55 = .ok (.getfield 68, 3) := by decide +kernel
theorem d_Ck_checkType_58 : decode b_Ck_checkType 58 = .ok (.iconst 1, 1) := by decide +kernel
theorem d_Ck_checkType_59 : decode b_Ck_checkType 59 = .ok (.iadd, 1) := by decide +kernel
theorem d_Ck_checkType_60 : decode b_Ck_checkType 60 = .ok (.putfield 68, 3) := by decide +kernel
theorem d_Ck_checkType_63 : decode b_Ck_checkType 63 = .ok (.iconst 0, 1) := by decide +kernel
theorem d_Ck_checkType_64 : decode b_Ck_checkType 64 = .ok (.ireturn, 1) := by decide +kernel
theorem d_Ck_checkType_65 : decode b_Ck_checkType 65 = .ok (.aload_n 0, 1) := by decide +kernel
theorem d_Ck_checkType_66 : decode b_Ck_checkType 66 = .ok (.getfield 10, 3) := by decide +kernel
theorem d_Ck_checkType_69 : decode b_Ck_checkType 69 = .ok (.aload_n 0, 1) := by decide +kernel
theorem d_Ck_checkType_70 : decode b_Ck_checkType 70 = .ok (.getfield 68, 3) := by decide +kernel
theorem d_Ck_checkType_73 : decode b_Ck_checkType 73 = .ok (.iload 4, 2) := by decide +kernel
theorem d_Ck_checkType_75 : decode b_Ck_checkType 75 = .ok (.isub, 1) := by decide +kernel
theorem d_Ck_checkType_76 : decode b_Ck_checkType 76 = .ok (.iaload, 1) := by decide +kernel
theorem d_Ck_checkType_77 : decode b_Ck_checkType 77 = .ok (.istore 5, 2) := by decide +kernel
theorem d_Ck_checkType_79 : decode b_Ck_checkType 79 = .ok (.aload_n 0, 1) := by decide +kernel
theorem d_Ck_checkType_80 : decode b_Ck_checkType 80 = .ok (.getfield 10, 3) := by decide +kernel
theorem d_Ck_checkType_83 : decode b_Ck_checkType 83 = .ok (.aload_n 0, 1) := by decide +kernel
theorem d_Ck_checkType_84 : decode b_Ck_checkType 84 = .ok (.getfield 68, 3) := by decide +kernel
theorem d_Ck_checkType_87 : decode b_Ck_checkType 87 = .ok (.iconst 1, 1) := by decide +kernel
theorem d_Ck_checkType_88 : decode b_Ck_checkType 88 = .ok (.isub, 1) := by decide +kernel
theorem d_Ck_checkType_89 : decode b_Ck_checkType 89 = .ok (.iaload, 1) := by decide +kernel
theorem d_Ck_checkType_90 : decode b_Ck_checkType 90 = .ok (.istore 6, 2) := by decide +kernel
theorem d_Ck_checkType_92 : decode b_Ck_checkType 92 = .ok (.aload_n 0, 1) := by decide +kernel
theorem d_Ck_checkType_93 : decode b_Ck_checkType 93 = .ok (.dup, 1) := by decide +kernel
theorem d_Ck_checkType_94 : decode b_Ck_checkType 94 = .ok (.getfield 68, 3) := by decide +kernel
theorem d_Ck_checkType_97 : decode b_Ck_checkType 97 = .ok (.iload 4, 2) := by decide +kernel
theorem d_Ck_checkType_99 : decode b_Ck_checkType 99 = .ok (.iconst 1, 1) := by decide +kernel
theorem d_Ck_checkType_100 : decode b_Ck_checkType 100 = .ok (.isub, 1) := by decide +kernel
theorem d_Ck_checkType_101 : decode b_Ck_checkType 101 = .ok (.isub, 1) := by decide +kernel
theorem d_Ck_checkType_102 : decode b_Ck_checkType 102 = .ok (.putfield 68, 3) := by decide +kernel
theorem d_Ck_checkType_105 : decode b_Ck_checkType 105 = .ok (.aload_n 0, 1) := by decide +kernel
theorem d_Ck_checkType_106 : decode b_Ck_checkType 106 = .ok (.getfield 10, 3) := by decide +kernel
theorem d_Ck_checkType_109 : decode b_Ck_checkType 109 = .ok (.aload_n 0, 1) := by decide +kernel
theorem d_Ck_checkType_110 : decode b_Ck_checkType 110 = .ok (.getfield 68, 3) := by decide +kernel
theorem d_Ck_checkType_113 : decode b_Ck_checkType 113 = .ok (.iconst 1, 1) := by decide +kernel
theorem d_Ck_checkType_114 : decode b_Ck_checkType 114 = .ok (.isub, 1) := by decide +kernel
theorem d_Ck_checkType_115 : decode b_Ck_checkType 115 = .ok (.iload_n 3, 1) := by decide +kernel
theorem d_Ck_checkType_116 : decode b_Ck_checkType 116 = .ok (.iload 6, 2) := by decide +kernel
theorem d_Ck_checkType_118 : decode b_Ck_checkType 118 = .ok (.invokestatic 113, 3) := by decide +kernel
theorem d_Ck_checkType_121 : decode b_Ck_checkType 121 = .ok (.iastore, 1) := by decide +kernel
theorem d_Ck_checkType_122 : decode b_Ck_checkType 122 = .ok (.iload 4, 2) := by decide +kernel
theorem d_Ck_checkType_124 : decode b_Ck_checkType 124 = .ok (.iconst 3, 1) := by decide +kernel
theorem d_Ck_checkType_125 : decode b_Ck_checkType 125 = .ok (.if_icmp .ne 29, 3) := by decide +kernel
theorem d_Ck_checkType_128 : decode b_Ck_checkType 128 = .ok (.iload 5, 2) := by decide +kernel
theorem d_Ck_checkType_130 : decode b_Ck_checkType 130 = .ok (.iconst 1, 1) := by decide +kernel
theorem d_Ck_checkType_131 : decode b_Ck_checkType 131 = .ok (.if_icmp .ne 21, 3) := by decide +kernel
theorem d_Ck_checkType_134 : decode b_Ck_checkType 134 = .ok (.aload_n 0, 1) := by decide +kernel
theorem d_Ck_checkType_135 : decode b_Ck_checkType 135 = .ok (.getfield 10, 3) := by decide +kernel
theorem d_Ck_checkType_138 : decode b_Ck_checkType 138 = .ok (.aload_n 0, 1) := by decide +kernel
theorem d_Ck_checkType_139 : decode b_Ck_checkType 139 = .ok (.getfield 68, 3) := by decide +kernel
theorem d_Ck_checkType_142 : decode b_Ck_checkType 142 = .ok (.iaload, 1) := by decide +kernel
theorem d_Ck_checkType_143 : decode b_Ck_checkType 143 = .ok (.iload 6, 2) := by decide +kernel
theorem d_Ck_checkType_145 : decode b_Ck_checkType 145 = .ok (.if_icmp .ne 7, 3) := by decide +kernel
theorem d_Ck_checkType_148 : decode b_Ck_checkType 148 = .ok (.iconst 0, 1) := by decide +kernel
theorem d_Ck_checkType_149 : decode b_Ck_checkType 149 = .ok (.goto 4, 3) := by decide +kernel
theorem d_Ck_checkType_152 : decode b_Ck_checkType 152 = .ok (.iconst 4, 1) := by decide +kernel
theorem d_Ck_checkType_153 : decode b_Ck_checkType 153 = .ok (.ireturn, 1) := by decide +kernel
theorem d_Ck_checkType_154 : decode b_Ck_checkType 154 = .ok (.iload_n 3, 1) := by decide +kernel
theorem d_Ck_checkType_155 : decode b_Ck_checkType 155 = .ok (.invokestatic 116, 3) := by decide +kernel
theorem d_Ck_checkType_158 : decode b_Ck_checkType 158 = .ok (.istore 7, 2) := by decide +kernel
theorem d_Ck_checkType_160 : decode b_Ck_checkType 160 = .ok (.iload 5, 2) := by decide +kernel
theorem d_Ck_checkType_162 : decode b_Ck_checkType 162 = .ok (.iload 6, 2) := by decide +kernel
theorem d_Ck_checkType_164 : decode b_Ck_checkType 164 = .ok (.if_icmp .ne 20, 3) := by decide +kernel
theorem d_Ck_checkType_167 : decode b_Ck_checkType 167 = .ok (.iload 7, 2) := by decide +kernel
theorem d_Ck_checkType_169 : decode b_Ck_checkType 169 = .ok (.iconst 2, 1) := by decide +kernel
theorem d_Ck_checkType_170 : decode b_Ck_checkType 170 = .ok (.if_icmp .eq 10, 3) := by decide +kernel
theorem d_Ck_checkType_173 : decode b_Ck_checkType 173 = .ok (.iload 7, 2) := by decide +kernel
theorem d_Ck_checkType_175 : decode b_Ck_checkType 175 = .ok (.iload 6, 2) := by decide +kernel
theorem d_Ck_checkType_177 : decode b_Ck_checkType 177 = .ok (.if_icmp .ne 7, 3) := by decide +kernel
theorem d_Ck_checkType_180 : decode b_Ck_checkType 180 = .ok (.iconst 0, 1) := by decide +kernel
theorem d_Ck_checkType_181 : decode b_Ck_checkType 181 = .ok (.goto 4, 3) := by decide +kernel
theorem d_Ck_checkType_184 : decode b_Ck_checkType 184 = .ok (.iconst 4, 1) := by decide +kernel
theorem d_Ck_checkType_185 : decode b_Ck_checkType 185 = .ok (.ireturn, 1) := by decide +kernel
abbrev mt_Ck_checkType : MT := (R_Ck, b_Ck_checkType, 8, some .int)
theorem vf_Ck_checkType : VF y_Ck_checkType mt_Ck_checkType 1 2 := ⟨im_Ck_checkType, se_Ck_checkType, in_Ck, co_Ck_checkType, by decide +kernel, _, _, rfl⟩
def f_Ck_checkType (γ : St) (a0 : Int) (a1 : Int) : Option (Int × St) :=
  chk (inb a0 65537) (ap (γ 38 a0) fun x4 =>
  chk (inb a0 65537) (ap (γ 40 a0) fun x8 =>
  if x4 ≠ 43 then
  (if x8 ≠ 0 then
  (chk (i32 ((γ 7 4) - x8)) (chk (inb ((γ 7 4) - x8) 32769) (ap (γ 53 ((γ 7 4) - x8)) fun x13 =>
  chk (i32 ((γ 7 4) - 1)) (chk (inb ((γ 7 4) - 1) 32769) (ap (γ 53 ((γ 7 4) - 1)) fun x18 =>
  chk (i32 (x8 - 1)) (chk (i32 ((γ 7 4) - (x8 - 1))) (ap (setA γ 7 4 ((γ 7 4) - (x8 - 1))) fun γ22 =>
  chk (i32 ((γ22 7 4) - 1)) (bndN (f_Ck_typeOfAnswer γ22 x4 x18) fun r26 γ27 =>
  chk (inb ((γ22 7 4) - 1) 32769) (ap (setA γ27 53 ((γ22 7 4) - 1) r26) fun γ28 =>
  if x8 ≠ 3 then
  (bndN (f_Ck_typeOfSides γ28 x4) fun r29 γ30 =>
  if x13 ≠ x18 then
  (some (4, γ30))
  else
  (if r29 = 2 then
  (some (0, γ30))
  else
  (if r29 ≠ x18 then
  (some (4, γ30))
  else
  (some (0, γ30)))))
  else
  (if x13 ≠ 1 then
  (some (4, γ28))
  else
  (chk (inb (γ28 7 4) 32769) (if (γ28 53 (γ28 7 4)) ≠ x18 then
  (some (4, γ28))
  else
  (some (0, γ28))))))))))))))
  else
  (bndN (f_Ck_typeOfAtom γ a0) fun r36 γ37 =>
  chk (inb (γ 7 4) 32769) (ap (setA γ37 53 (γ 7 4) r36) fun γ38 =>
  chk (i32 ((γ38 7 4) + 1)) (ap (setA γ38 7 4 ((γ38 7 4) + 1)) fun γ41 =>
  some (0, γ41)))))
  else
  (bndN (f_Ck_checkCall γ a0 a1) fun r42 γ43 =>
  some (r42, γ43))))
set_option maxHeartbeats 4000000 in
theorem c_Ck_checkType {Γ : Ctx} (γ : St) (a0 : Int) (a1 : Int) (ha0 : i32 a0) (ha1 : i32 a1) : NC Γ BS y_Ck_checkType mt_Ck_checkType 8 281 [vR Γ 7, vI a0, vI a1] γ (f_Ck_checkType γ a0 a1) := by
  refine nc_of (by decide) rfl (Nat.le_of_ble_eq_true rfl) ?_
  show SB Γ BS mt_Ck_checkType (RmN 8 281) 0 0 (KN Γ BS mt_Ck_checkType.2.2.2) 0 [(0, vR Γ 7), (1, vI a0), (2, vI a1)] [] γ _
  unfold f_Ck_checkType
  refine sb_aload_n 0 d_Ck_checkType_0 rfl ?_
  refine g_Ck_24 d_Ck_checkType_1 ?_
  refine g_Ck_100 d_Ck_checkType_4 ?_
  refine sb_iload_n 1 d_Ck_checkType_7 rfl ?_
  refine al_S_38 d_Ck_checkType_8 (fun _ c3 => ?_)
  refine sb_istore_n [(3, vI (γ 38 a0)), (0, vR Γ 7), (1, vI a0), (2, vI a1)] d_Ck_checkType_9 (by decide) rfl ?_
  refine sb_nme (e := γ 38 a0) (fun x4 => [(3, vI x4), (0, vR Γ 7), (1, vI a0), (2, vI a1)]) c3 (fun x4 hx4 => ?_)
  refine sb_aload_n 1 d_Ck_checkType_10 rfl ?_
  refine g_Ck_24 d_Ck_checkType_11 ?_
  refine g_Ck_103 d_Ck_checkType_14 ?_
  refine sb_iload_n 2 d_Ck_checkType_17 rfl ?_
  refine al_S_40 d_Ck_checkType_18 (fun _ c7 => ?_)
  refine sb_istore [(4, vI (γ 40 a0)), (3, vI x4), (0, vR Γ 7), (1, vI a0), (2, vI a1)] d_Ck_checkType_19 (by decide) rfl ?_
  refine sb_nme (e := γ 40 a0) (fun x8 => [(4, vI x8), (3, vI x4), (0, vR Γ 7), (1, vI a0), (2, vI a1)]) c7 (fun x8 hx8 => ?_)
  refine sb_iload_n 1 d_Ck_checkType_21 rfl ?_
  refine sb_bipush d_Ck_checkType_22 (by decide) ?_
  refine sb_icmp_ne 34 hx4 (by decide) d_Ck_checkType_24 (by decide) (fun _ => ?_) (fun _ => ?_)
  · refine sb_iload 0 d_Ck_checkType_34 rfl ?_
    refine sb_if_ne 65 hx8 d_Ck_checkType_36 (by decide) (fun _ => ?_) (fun _ => ?_)
    · refine sb_aload_n 2 d_Ck_checkType_65 rfl ?_
      refine g_Ck_10 d_Ck_checkType_66 ?_
      refine sb_aload_n 2 d_Ck_checkType_69 rfl ?_
      refine g_Ck_68 d_Ck_checkType_70 (fun c10 => ?_)
      refine sb_iload 0 d_Ck_checkType_73 rfl ?_
      refine sb_isub d_Ck_checkType_75 ?_
      refine sb_chk (fun c11 => ?_)
      refine al_S_53 d_Ck_checkType_76 (fun _ c12 => ?_)
      refine sb_istore [(5, vI (γ 53 ((γ 7 4) - x8))), (4, vI x8), (3, vI x4), (0, vR Γ 7), (1, vI a0), (2, vI a1)] d_Ck_checkType_77 (by decide) rfl ?_
      refine sb_nme (e := γ 53 ((γ 7 4) - x8)) (fun x13 => [(5, vI x13), (4, vI x8), (3, vI x4), (0, vR Γ 7), (1, vI a0), (2, vI a1)]) c12 (fun x13 hx13 => ?_)
      refine sb_aload_n 3 d_Ck_checkType_79 rfl ?_
      refine g_Ck_10 d_Ck_checkType_80 ?_
      refine sb_aload_n 3 d_Ck_checkType_83 rfl ?_
      refine g_Ck_68 d_Ck_checkType_84 (fun c15 => ?_)
      refine sb_iconst d_Ck_checkType_87 ?_
      refine sb_isub d_Ck_checkType_88 ?_
      refine sb_chk (fun c16 => ?_)
      refine al_S_53 d_Ck_checkType_89 (fun _ c17 => ?_)
      refine sb_istore [(6, vI (γ 53 ((γ 7 4) - 1))), (5, vI x13), (4, vI x8), (3, vI x4), (0, vR Γ 7), (1, vI a0), (2, vI a1)] d_Ck_checkType_90 (by decide) rfl ?_
      refine sb_nme (e := γ 53 ((γ 7 4) - 1)) (fun x18 => [(6, vI x18), (5, vI x13), (4, vI x8), (3, vI x4), (0, vR Γ 7), (1, vI a0), (2, vI a1)]) c17 (fun x18 hx18 => ?_)
      refine sb_aload_n 4 d_Ck_checkType_92 rfl ?_
      refine sb_dup d_Ck_checkType_93 rfl ?_
      refine g_Ck_68 d_Ck_checkType_94 (fun c19 => ?_)
      refine sb_iload 2 d_Ck_checkType_97 rfl ?_
      refine sb_iconst d_Ck_checkType_99 ?_
      refine sb_isub d_Ck_checkType_100 ?_
      refine sb_chk (fun c20 => ?_)
      refine sb_isub d_Ck_checkType_101 ?_
      refine sb_chk (fun c21 => ?_)
      refine p_Ck_68 c21 d_Ck_checkType_102 ?_
      refine sb_aps (fun γ22 => ?_)
      refine sb_aload_n 4 d_Ck_checkType_105 rfl ?_
      refine g_Ck_10 d_Ck_checkType_106 ?_
      refine sb_aload_n 4 d_Ck_checkType_109 rfl ?_
      refine g_Ck_68 d_Ck_checkType_110 (fun c24 => ?_)
      refine sb_iconst d_Ck_checkType_113 ?_
      refine sb_isub d_Ck_checkType_114 ?_
      refine sb_chk (fun c25 => ?_)
      refine sb_iload_n 3 d_Ck_checkType_115 rfl ?_
      refine sb_iload 0 d_Ck_checkType_116 rfl ?_
      refine sb_cSi vf_Ck_typeOfAnswer rfl (c_Ck_typeOfAnswer γ22 x4 x18 hx4 hx18) ml_Ck_113 (As := [vI x4, vI x18]) rfl rfl (Nat.le_of_ble_eq_true rfl) ⟨by decide, by decide⟩ d_Ck_checkType_118 (fun r26 γ27 hr26 => ?_)
      refine as_S_53 hr26 d_Ck_checkType_121 (fun _ => ?_)
      refine sb_aps (fun γ28 => ?_)
      refine sb_iload 2 d_Ck_checkType_122 rfl ?_
      refine sb_iconst d_Ck_checkType_124 ?_
      refine sb_icmp_ne 154 hx8 (by decide) d_Ck_checkType_125 (by decide) (fun _ => ?_) (fun _ => ?_)
      · refine sb_iload_n 3 d_Ck_checkType_154 rfl ?_
        refine sb_cSi vf_Ck_typeOfSides rfl (c_Ck_typeOfSides γ28 x4 hx4) ml_Ck_116 (As := [vI x4]) rfl rfl (Nat.le_of_ble_eq_true rfl) ⟨by decide, by decide⟩ d_Ck_checkType_155 (fun r29 γ30 hr29 => ?_)
        refine sb_istore [(7, vI r29), (6, vI x18), (5, vI x13), (4, vI x8), (3, vI x4), (0, vR Γ 7), (1, vI a0), (2, vI a1)] d_Ck_checkType_158 (by decide) rfl ?_
        refine sb_iload 2 d_Ck_checkType_160 rfl ?_
        refine sb_iload 1 d_Ck_checkType_162 rfl ?_
        refine sb_icmp_ne 184 hx13 hx18 d_Ck_checkType_164 (by decide) (fun _ => ?_) (fun _ => ?_)
        · refine sb_iconst d_Ck_checkType_184 ?_
          exact sn_i rfl (by decide) d_Ck_checkType_185
        · refine sb_iload 0 d_Ck_checkType_167 rfl ?_
          refine sb_iconst d_Ck_checkType_169 ?_
          refine sb_icmp_eq 180 hr29 (by decide) d_Ck_checkType_170 (by decide) (fun _ => ?_) (fun _ => ?_)
          · refine sb_iconst d_Ck_checkType_180 ?_
            refine sb_goto 185 d_Ck_checkType_181 (by decide) ?_
            exact sn_i rfl (by decide) d_Ck_checkType_185
          · refine sb_iload 0 d_Ck_checkType_173 rfl ?_
            refine sb_iload 1 d_Ck_checkType_175 rfl ?_
            refine sb_icmp_ne 184 hr29 hx18 d_Ck_checkType_177 (by decide) (fun _ => ?_) (fun _ => ?_)
            · refine sb_iconst d_Ck_checkType_184 ?_
              exact sn_i rfl (by decide) d_Ck_checkType_185
            · refine sb_iconst d_Ck_checkType_180 ?_
              refine sb_goto 185 d_Ck_checkType_181 (by decide) ?_
              exact sn_i rfl (by decide) d_Ck_checkType_185
      · refine sb_iload 1 d_Ck_checkType_128 rfl ?_
        refine sb_iconst d_Ck_checkType_130 ?_
        refine sb_icmp_ne 152 hx13 (by decide) d_Ck_checkType_131 (by decide) (fun _ => ?_) (fun _ => ?_)
        · refine sb_iconst d_Ck_checkType_152 ?_
          exact sn_i rfl (by decide) d_Ck_checkType_153
        · refine sb_aload_n 4 d_Ck_checkType_134 rfl ?_
          refine g_Ck_10 d_Ck_checkType_135 ?_
          refine sb_aload_n 4 d_Ck_checkType_138 rfl ?_
          refine g_Ck_68 d_Ck_checkType_139 (fun c32 => ?_)
          refine al_S_53 d_Ck_checkType_142 (fun _ c33 => ?_)
          refine sb_iload 0 d_Ck_checkType_143 rfl ?_
          refine sb_icmp_ne 152 c33 hx18 d_Ck_checkType_145 (by decide) (fun _ => ?_) (fun _ => ?_)
          · refine sb_iconst d_Ck_checkType_152 ?_
            exact sn_i rfl (by decide) d_Ck_checkType_153
          · refine sb_iconst d_Ck_checkType_148 ?_
            refine sb_goto 153 d_Ck_checkType_149 (by decide) ?_
            exact sn_i rfl (by decide) d_Ck_checkType_153
    · refine sb_aload_n 2 d_Ck_checkType_39 rfl ?_
      refine g_Ck_10 d_Ck_checkType_40 ?_
      refine sb_aload_n 2 d_Ck_checkType_43 rfl ?_
      refine g_Ck_68 d_Ck_checkType_44 (fun c35 => ?_)
      refine sb_aload_n 2 d_Ck_checkType_47 rfl ?_
      refine sb_iload_n 3 d_Ck_checkType_48 rfl ?_
      refine sb_cVi vf_Ck_typeOfAtom (c_Ck_typeOfAtom γ a0 ha0) rfl ml_Ck_109 (As := [vI a0]) rfl rfl (Nat.le_of_ble_eq_true rfl) ⟨by decide, by decide⟩ d_Ck_checkType_49 (fun r36 γ37 hr36 => ?_)
      refine as_S_53 hr36 d_Ck_checkType_52 (fun _ => ?_)
      refine sb_aps (fun γ38 => ?_)
      refine sb_aload_n 2 d_Ck_checkType_53 rfl ?_
      refine sb_dup d_Ck_checkType_54 rfl ?_
      refine g_Ck_68 d_Ck_checkType_55 (fun c39 => ?_)
      refine sb_iconst d_Ck_checkType_58 ?_
      refine sb_iadd d_Ck_checkType_59 ?_
      refine sb_chk (fun c40 => ?_)
      refine p_Ck_68 c40 d_Ck_checkType_60 ?_
      refine sb_aps (fun γ41 => ?_)
      refine sb_iconst d_Ck_checkType_63 ?_
      exact sn_i rfl (by decide) d_Ck_checkType_64
  · refine sb_aload_n 2 d_Ck_checkType_27 rfl ?_
    refine sb_iload_n 3 d_Ck_checkType_28 rfl ?_
    refine sb_iload_n 4 d_Ck_checkType_29 rfl ?_
    refine sb_cVi vf_Ck_checkCall (c_Ck_checkCall γ a0 a1 ha0 ha1) rfl ml_Ck_106 (As := [vI a0, vI a1]) rfl rfl (Nat.le_of_ble_eq_true rfl) ⟨by decide, by decide⟩ d_Ck_checkType_30 (fun r42 γ43 hr42 => ?_)
    exact sn_i rfl hr42 d_Ck_checkType_33
theorem d_Ck_typesFit_0 : decode b_Ck_typesFit 0 = .ok (.aload_n 0, 1) := by decide +kernel
theorem d_Ck_typesFit_1 : decode b_Ck_typesFit 1 = .ok (.iconst 0, 1) := by decide +kernel
theorem d_Ck_typesFit_2 : decode b_Ck_typesFit 2 = .ok (.putfield 68, 3) := by decide +kernel
theorem d_Ck_typesFit_5 : decode b_Ck_typesFit 5 = .ok (.iconst 0, 1) := by decide +kernel
theorem d_Ck_typesFit_6 : decode b_Ck_typesFit 6 = .ok (.istore_n 2, 1) := by decide +kernel
theorem d_Ck_typesFit_7 : decode b_Ck_typesFit 7 = .ok (.aload_n 0, 1) := by decide +kernel
theorem d_Ck_typesFit_8 : decode b_Ck_typesFit 8 = .ok (.getfield 24, 3) := by decide +kernel
theorem d_Ck_typesFit_11 : decode b_Ck_typesFit 11 = .ok (.getfield 71, 3) := by decide +kernel
theorem d_Ck_typesFit_14 : decode b_Ck_typesFit 14 = .ok (.iload_n 1, 1) := by decide +kernel
theorem d_Ck_typesFit_15 : decode b_Ck_typesFit 15 = .ok (.iaload, 1) := by decide +kernel
theorem d_Ck_typesFit_16 : decode b_Ck_typesFit 16 = .ok (.iconst 1, 1) := by decide +kernel
theorem d_Ck_typesFit_17 : decode b_Ck_typesFit 17 = .ok (.isub, 1) := by decide +kernel
theorem d_Ck_typesFit_18 : decode b_Ck_typesFit 18 = .ok (.istore_n 3, 1) := by decide +kernel
theorem d_Ck_typesFit_19 : decode b_Ck_typesFit 19 = .ok (.aload_n 0, 1) := by decide +kernel
theorem d_Ck_typesFit_20 : decode b_Ck_typesFit 20 = .ok (.getfield 24, 3) := by decide +kernel
theorem d_Ck_typesFit_23 : decode b_Ck_typesFit 23 = .ok (.getfield 74, 3) := by decide +kernel
theorem d_Ck_typesFit_26 : decode b_Ck_typesFit 26 = .ok (.iload_n 1, 1) := by decide +kernel
theorem d_Ck_typesFit_27 : decode b_Ck_typesFit 27 = .ok (.iaload, 1) := by decide +kernel
theorem d_Ck_typesFit_28 : decode b_Ck_typesFit 28 = .ok (.istore 4, 2) := by decide +kernel
theorem d_Ck_typesFit_30 : decode b_Ck_typesFit 30 = .ok (.iload_n 2, 1) := by decide +kernel
theorem d_Ck_typesFit_31 : decode b_Ck_typesFit 31 = .ok (.ifCond .ne 41, 3) := by decide +kernel
theorem d_Ck_typesFit_34 : decode b_Ck_typesFit 34 = .ok (.iload 4, 2) := by decide +kernel
theorem d_Ck_typesFit_36 : decode b_Ck_typesFit 36 = .ok (.iload_n 3, 1) := by decide +kernel
theorem d_Ck_typesFit_37 : decode b_Ck_typesFit 37 = .ok (.if_icmp .gt 35, 3) := by decide +kernel
theorem d_Ck_typesFit_40 : decode b_Ck_typesFit 40 = .ok (.aload_n 0, 1) := by decide +kernel
theorem d_Ck_typesFit_41 : decode b_Ck_typesFit 41 = .ok (.iload 4, 2) := by decide +kernel
theorem d_Ck_typesFit_43 : decode b_Ck_typesFit 43 = .ok (.iload 4, 2) := by decide +kernel
theorem d_Ck_typesFit_45 : decode b_Ck_typesFit 45 = .ok (.iload_n 3, 1) := by decide +kernel
theorem d_Ck_typesFit_46 : decode b_Ck_typesFit 46 = .ok (.if_icmp .ne 15, 3) := by decide +kernel
theorem d_Ck_typesFit_49 : decode b_Ck_typesFit 49 = .ok (.aload_n 0, 1) := by decide +kernel
theorem d_Ck_typesFit_50 : decode b_Ck_typesFit 50 = .ok (.getfield 24, 3) := by decide +kernel
theorem d_Ck_typesFit_53 : decode b_Ck_typesFit 53 = .ok (.getfield 77, 3) := by decide +kernel
theorem d_Ck_typesFit_56 : decode b_Ck_typesFit 56 = .ok (.iload_n 1, 1) := by decide +kernel
theorem d_Ck_typesFit_57 : decode b_Ck_typesFit 57 = .ok (.iaload, 1) := by decide +kernel
theorem d_Ck_typesFit_58 : decode b_Ck_typesFit 58 = .ok (.goto 4, 3) := by decide +kernel
theorem d_Ck_typesFit_61 : decode b_Ck_typesFit 61 = .ok (.iconst 1, 1) := by decide +kernel
theorem d_Ck_typesFit_62 : decode b_Ck_typesFit 62 = .ok (.invokevirtual 80, 3) := by decide +kernel
theorem d_Ck_typesFit_65 : decode b_Ck_typesFit 65 = .ok (.istore_n 2, 1) := by decide +kernel
theorem d_Ck_typesFit_66 : decode b_Ck_typesFit 66 = .ok (.iinc 4 1, 3) := by decide +kernel
theorem d_Ck_typesFit_69 : decode b_Ck_typesFit 69 = .ok (.goto (-39), 3) := by decide +kernel
theorem d_Ck_typesFit_72 : decode b_Ck_typesFit 72 = .ok (.iconst 0, 1) := by decide +kernel
theorem d_Ck_typesFit_73 : decode b_Ck_typesFit 73 = .ok (.istore 4, 2) := by decide +kernel
theorem d_Ck_typesFit_75 : decode b_Ck_typesFit 75 = .ok (.iload_n 2, 1) := by decide +kernel
theorem d_Ck_typesFit_76 : decode b_Ck_typesFit 76 = .ok (.ifCond .ne 85, 3) := by decide +kernel
theorem d_Ck_typesFit_79 : decode b_Ck_typesFit 79 = .ok (.iload 4, 2) := by decide +kernel
theorem d_Ck_typesFit_81 : decode b_Ck_typesFit 81 = .ok (.aload_n 0, 1) := by decide +kernel
theorem d_Ck_typesFit_82 : decode b_Ck_typesFit 82 = .ok (.getfield 24, 3) := by decide +kernel
theorem d_Ck_typesFit_85 : decode b_Ck_typesFit 85 = .ok (.getfield 77, 3) := by decide +kernel
theorem d_Ck_typesFit_88 : decode b_Ck_typesFit 88 = .ok (.iload_n 1, 1) := by decide +kernel
theorem d_Ck_typesFit_89 : decode b_Ck_typesFit 89 = .ok (.iaload, 1) := by decide +kernel
theorem d_Ck_typesFit_90 : decode b_Ck_typesFit 90 = .ok (.if_icmp .ge 71, 3) := by decide +kernel
theorem d_Ck_typesFit_93 : decode b_Ck_typesFit 93 = .ok (.aload_n 0, 1) := by decide +kernel
theorem d_Ck_typesFit_94 : decode b_Ck_typesFit 94 = .ok (.getfield 37, 3) := by decide +kernel
theorem d_Ck_typesFit_97 : decode b_Ck_typesFit 97 = .ok (.aload_n 0, 1) := by decide +kernel
theorem d_Ck_typesFit_98 : decode b_Ck_typesFit 98 = .ok (.getfield 24, 3) := by decide +kernel
theorem d_Ck_typesFit_101 : decode b_Ck_typesFit 101 = .ok (.getfield 84, 3) := by decide +kernel
theorem d_Ck_typesFit_104 : decode b_Ck_typesFit 104 = .ok (.aload_n 0, 1) := by decide +kernel
theorem d_Ck_typesFit_105 : decode b_Ck_typesFit 105 = .ok (.getfield 24, 3) := by decide +kernel
theorem d_Ck_typesFit_108 : decode b_Ck_typesFit 108 = .ok (.getfield 87, 3) := by decide +kernel
theorem d_Ck_typesFit_111 : decode b_Ck_typesFit 111 = .ok (.iload_n 1, 1) := by decide +kernel
theorem d_Ck_typesFit_112 : decode b_Ck_typesFit 112 = .ok (.iaload, 1) := by decide +kernel
theorem d_Ck_typesFit_113 : decode b_Ck_typesFit 113 = .ok (.iload 4, 2) := by decide +kernel
theorem d_Ck_typesFit_115 : decode b_Ck_typesFit 115 = .ok (.iadd, 1) := by decide +kernel
theorem d_Ck_typesFit_116 : decode b_Ck_typesFit 116 = .ok (.iaload, 1) := by decide +kernel
theorem d_Ck_typesFit_117 : decode b_Ck_typesFit 117 = .ok (.iadd, 1) := by decide +kernel
theorem d_Ck_typesFit_118 : decode b_Ck_typesFit 118 = .ok (.istore 5, 2) := by decide +kernel
theorem d_Ck_typesFit_120 : decode b_Ck_typesFit 120 = .ok (.iload 4, 2) := by decide +kernel
theorem d_Ck_typesFit_122 : decode b_Ck_typesFit 122 = .ok (.aload_n 0, 1) := by decide +kernel
theorem d_Ck_typesFit_123 : decode b_Ck_typesFit 123 = .ok (.getfield 68, 3) := by decide +kernel
theorem d_Ck_typesFit_126 : decode b_Ck_typesFit 126 = .ok (.if_icmp .ge 27, 3) := by decide +kernel
theorem d_Ck_typesFit_129 : decode b_Ck_typesFit 129 = .ok (.aload_n 0, 1) := by decide +kernel
theorem d_Ck_typesFit_130 : decode b_Ck_typesFit 130 = .ok (.getfield 10, 3) := by decide +kernel
theorem d_Ck_typesFit_133 : decode b_Ck_typesFit 133 = .ok (.iload 4, 2) := by decide +kernel
theorem d_Ck_typesFit_135 : decode b_Ck_typesFit 135 = .ok (.iaload, 1) := by decide +kernel
theorem d_Ck_typesFit_136 : decode b_Ck_typesFit 136 = .ok (.aload_n 0, 1) := by decide +kernel
theorem d_Ck_typesFit_137 : decode b_Ck_typesFit 137 = .ok (.getfield 20, 3) := by decide +kernel
theorem d_Ck_typesFit_140 : decode b_Ck_typesFit 140 = .ok (.getfield 90, 3) := by decide +kernel
theorem d_Ck_typesFit_143 : decode b_Ck_typesFit 143 = .ok (.iload 5, 2) := by decide +kernel
theorem d_Ck_typesFit_145 : decode b_Ck_typesFit 145 = .ok (.iaload, 1) := by decide +kernel
theorem d_Ck_typesFit_146 : decode b_Ck_typesFit 146 = .ok (.if_icmp .ne 7, 3) := by decide +kernel
theorem d_Ck_typesFit_149 : decode b_Ck_typesFit 149 = .ok (.iconst 0, 1) := by decide +kernel
theorem d_Ck_typesFit_150 : decode b_Ck_typesFit 150 = .ok (.goto 4, 3) := by decide +kernel
theorem d_Ck_typesFit_153 : decode b_Ck_typesFit 153 = .ok (.iconst 4, 1) := by decide +kernel
theorem d_Ck_typesFit_154 : decode b_Ck_typesFit 154 = .ok (.istore_n 2, 1) := by decide +kernel
theorem d_Ck_typesFit_155 : decode b_Ck_typesFit 155 = .ok (.iinc 4 1, 3) := by decide +kernel
theorem d_Ck_typesFit_158 : decode b_Ck_typesFit 158 = .ok (.goto (-83), 3) := by decide +kernel
theorem d_Ck_typesFit_161 : decode b_Ck_typesFit 161 = .ok (.iload_n 2, 1) := by decide +kernel
theorem d_Ck_typesFit_162 : decode b_Ck_typesFit 162 = .ok (.ifCond .eq 23, 3) := by decide +kernel
theorem d_Ck_typesFit_165 : decode b_Ck_typesFit 165 = .ok (.aload_n 0, 1) := by decide +kernel
theorem d_Ck_typesFit_166 : decode b_Ck_typesFit 166 = .ok (.getfield 16, 3) := by decide +kernel
theorem d_Ck_typesFit_169 : decode b_Ck_typesFit 169 = .ok (.iload_n 2, 1) := by decide +kernel
theorem d_Ck_typesFit_170 : decode b_Ck_typesFit 170 = .ok (.aload_n 0, 1) := by decide +kernel
theorem d_Ck_typesFit_171 : decode b_Ck_typesFit 171 = .ok (.getfield 24, 3) := by decide +kernel
theorem d_Ck_typesFit_174 : decode b_Ck_typesFit 174 = .ok (.getfield 93, 3) := by decide +kernel
theorem d_Ck_typesFit_177 : decode b_Ck_typesFit 177 = .ok (.iload_n 1, 1) := by decide +kernel
theorem d_Ck_typesFit_178 : decode b_Ck_typesFit 178 = .ok (.iaload, 1) := by decide +kernel
theorem d_Ck_typesFit_179 : decode b_Ck_typesFit 179 = .ok (.invokevirtual 96, 3) := by decide +kernel
theorem d_Ck_typesFit_182 : decode b_Ck_typesFit 182 = .ok (.ifCond .eq 7, 3) := by decide +kernel
theorem d_Ck_typesFit_185 : decode b_Ck_typesFit 185 = .ok (.iconst 1, 1) := by decide +kernel
theorem d_Ck_typesFit_186 : decode b_Ck_typesFit 186 = .ok (.goto 4, 3) := by decide +kernel
theorem d_Ck_typesFit_189 : decode b_Ck_typesFit 189 = .ok (.iconst 0, 1) := by decide +kernel
theorem d_Ck_typesFit_190 : decode b_Ck_typesFit 190 = .ok (.ireturn, 1) := by decide +kernel
abbrev mt_Ck_typesFit : MT := (R_Ck, b_Ck_typesFit, 6, some .boolean)
theorem vf_Ck_typesFit : VF y_Ck_typesFit mt_Ck_typesFit 1 1 := ⟨im_Ck_typesFit, se_Ck_typesFit, in_Ck, co_Ck_typesFit, by decide +kernel, _, _, rfl⟩
def f_Ck_typesFit_b161 (γ : St) (x1 : Int) (x2 : Int) : Option (Int × St) :=
  if x2 = 0 then
  (some (1, γ))
  else
  (chk (inb x1 16385) (bndN (f_Tk_failAt γ x2 (γ 42 x1)) fun r7 γ8 =>
  if r7 = 0 then
  (some (0, γ8))
  else
  (some (1, γ8))))
def f_Ck_typesFit_b154 (k75 : St → Int → Int → Int → Option (Int × St)) (e161 : St → Int → Int → Option (Int × St)) (γ : St) (x9 : Int) (x10 : Int) (x11 : Int) : Option (Int × St) :=
  chk (i32 (x10 + 1)) (k75 γ x9 x11 (x10 + 1))
def f_Ck_typesFit_b153 (k75 : St → Int → Int → Int → Option (Int × St)) (e161 : St → Int → Int → Option (Int × St)) (γ : St) (x18 : Int) (x19 : Int) : Option (Int × St) :=
  f_Ck_typesFit_b154 k75 e161 γ x18 x19 4
def f_Ck_typesFit_L75 (e161 : St → Int → Int → Option (Int × St)) : Nat → St → Int → Int → Int → Option (Int × St)
  | 0, _, _, _, _ => none
  | n + 1, γ, x25, x26, x27 =>
  if x26 ≠ 0 then
  (e161 γ x25 x26)
  else
  (chk (inb x25 16385) (if (γ 46 x25) ≤ x27 then
  (e161 γ x25 x26)
  else
  (chk (inb x25 16385) (chk (i32 ((γ 45 x25) + x27)) (chk (inb ((γ 45 x25) + x27) 32769) (chk (i32 ((γ 7 5) + (γ 47 ((γ 45 x25) + x27)))) (ap ((γ 7 5) + (γ 47 ((γ 45 x25) + x27))) fun x40 =>
  if (γ 7 4) ≤ x27 then
  (f_Ck_typesFit_b153 (f_Ck_typesFit_L75 e161 n) e161 γ x25 x27)
  else
  (chk (inb x27 32769) (chk (inb x40 5841) (if (γ 53 x27) ≠ (γ 33 x40) then
  (f_Ck_typesFit_b153 (f_Ck_typesFit_L75 e161 n) e161 γ x25 x27)
  else
  (f_Ck_typesFit_b154 (f_Ck_typesFit_L75 e161 n) e161 γ x25 x27 0)))))))))))
def f_Ck_typesFit_b72 (γ : St) (x49 : Int) (x50 : Int) : Option (Int × St) :=
  f_Ck_typesFit_L75 (f_Ck_typesFit_b161) FU γ x49 x50 0
def f_Ck_typesFit_b62 (k30 : St → Int → Int → Int → Int → Option (Int × St)) (e72 : St → Int → Int → Option (Int × St)) (γ : St) (x51 : Int) (x52 : Int) (x53 : Int) (x54 : Int) (x55 : Int) : Option (Int × St) :=
  bndN (f_Ck_checkType γ x55 x54) fun r56 γ57 =>
  chk (i32 (x53 + 1)) (k30 γ57 x51 r56 x52 (x53 + 1))
def f_Ck_typesFit_L30 (e72 : St → Int → Int → Option (Int × St)) : Nat → St → Int → Int → Int → Int → Option (Int × St)
  | 0, _, _, _, _, _ => none
  | n + 1, γ, x65, x66, x67, x68 =>
  if x66 ≠ 0 then
  (e72 γ x65 x66)
  else
  (if x67 < x68 then
  (e72 γ x65 x66)
  else
  (if x68 ≠ x67 then
  (f_Ck_typesFit_b62 (f_Ck_typesFit_L30 e72 n) e72 γ x65 x67 x68 1 x68)
  else
  (chk (inb x65 16385) (f_Ck_typesFit_b62 (f_Ck_typesFit_L30 e72 n) e72 γ x65 x67 x68 (γ 46 x65) x68))))
def f_Ck_typesFit (γ : St) (a0 : Int) : Option (Int × St) :=
  ap (setA γ 7 4 0) fun γ74 =>
  chk (inb a0 16385) (chk (i32 ((γ74 44 a0) - 1)) (ap ((γ74 44 a0) - 1) fun x79 =>
  chk (inb a0 16385) (ap (γ74 43 a0) fun x83 =>
  f_Ck_typesFit_L30 (f_Ck_typesFit_b72) FU γ74 a0 0 x79 x83)))
set_option maxHeartbeats 4000000 in
theorem s_Ck_typesFit_b161 {Γ : Ctx} : ∀ (γ : St) (x1 : Int) (x2 : Int), i32 x1 → i32 x2 → SB Γ BS mt_Ck_typesFit (RmN 9 308) 0 0 (KN Γ BS mt_Ck_typesFit.2.2.2) 161 [(0, vR Γ 7), (1, vI x1), (2, vI x2)] [] γ (f_Ck_typesFit_b161 γ x1 x2) := by
  intro γ x1 x2 hx1 hx2
  unfold f_Ck_typesFit_b161
  refine sb_iload_n 2 d_Ck_typesFit_161 rfl ?_
  refine sb_if_eq 185 hx2 d_Ck_typesFit_162 (by decide) (fun _ => ?_) (fun _ => ?_)
  · refine sb_iconst d_Ck_typesFit_185 ?_
    refine sb_goto 190 d_Ck_typesFit_186 (by decide) ?_
    exact sn_z rfl (by decide) d_Ck_typesFit_190
  · refine sb_aload_n 0 d_Ck_typesFit_165 rfl ?_
    refine g_Ck_16 d_Ck_typesFit_166 ?_
    refine sb_iload_n 2 d_Ck_typesFit_169 rfl ?_
    refine sb_aload_n 0 d_Ck_typesFit_170 rfl ?_
    refine g_Ck_24 d_Ck_typesFit_171 ?_
    refine g_Ck_93 d_Ck_typesFit_174 ?_
    refine sb_iload_n 1 d_Ck_typesFit_177 rfl ?_
    refine al_S_42 d_Ck_typesFit_178 (fun _ c6 => ?_)
    refine sb_cVz vf_Tk_failAt (c_Tk_failAt γ x2 (γ 42 x1) hx2 c6) rfl ml_Ck_96 (As := [vI x2, vI (γ 42 x1)]) rfl rfl (Nat.le_of_ble_eq_true rfl) ⟨by decide, by decide⟩ d_Ck_typesFit_179 (fun r7 γ8 hr7 => ?_)
    refine sb_if_eq 189 (z2i hr7) d_Ck_typesFit_182 (by decide) (fun _ => ?_) (fun _ => ?_)
    · refine sb_iconst d_Ck_typesFit_189 ?_
      exact sn_z rfl (by decide) d_Ck_typesFit_190
    · refine sb_iconst d_Ck_typesFit_185 ?_
      refine sb_goto 190 d_Ck_typesFit_186 (by decide) ?_
      exact sn_z rfl (by decide) d_Ck_typesFit_190
set_option maxHeartbeats 4000000 in
theorem s_Ck_typesFit_b154 {Γ : Ctx} {k75 : St → Int → Int → Int → Option (Int × St)} {e161 : St → Int → Int → Option (Int × St)} (hk75 : ∀ (γ : St) (x13 : Int) (x14 : Int) (x15 : Int), i32 x13 → i32 x14 → i32 x15 → SB Γ BS mt_Ck_typesFit (RmN 9 308) 0 0 (KN Γ BS mt_Ck_typesFit.2.2.2) 75 [(0, vR Γ 7), (1, vI x13), (2, vI x14), (4, vI x15)] [] γ (k75 γ x13 x14 x15)) (he161 : ∀ (γ : St) (x16 : Int) (x17 : Int), i32 x16 → i32 x17 → SB Γ BS mt_Ck_typesFit (RmN 9 308) 0 0 (KN Γ BS mt_Ck_typesFit.2.2.2) 161 [(0, vR Γ 7), (1, vI x16), (2, vI x17)] [] γ (e161 γ x16 x17)) : ∀ (γ : St) (x9 : Int) (x10 : Int) (x11 : Int), i32 x9 → i32 x10 → i32 x11 → SB Γ BS mt_Ck_typesFit (RmN 9 308) 0 0 (KN Γ BS mt_Ck_typesFit.2.2.2) 154 [(0, vR Γ 7), (1, vI x9), (4, vI x10)] [vI x11] γ (f_Ck_typesFit_b154 k75 e161 γ x9 x10 x11) := by
  intro γ x9 x10 x11 hx9 hx10 hx11
  unfold f_Ck_typesFit_b154
  refine sb_istore_n [(2, vI x11), (0, vR Γ 7), (1, vI x9), (4, vI x10)] d_Ck_typesFit_154 (by decide) rfl ?_
  refine sb_iinc 3 [(4, vI (x10 + 1)), (2, vI x11), (0, vR Γ 7), (1, vI x9)] d_Ck_typesFit_155 rfl (by decide) rfl ?_
  refine sb_chk (fun c12 => ?_)
  refine sb_goto 75 d_Ck_typesFit_158 (by decide) ?_
  exact sb_lv [2, 3, 1, 0] rfl (hk75 γ x9 x11 (x10 + 1) hx9 hx11 c12)
set_option maxHeartbeats 4000000 in
theorem s_Ck_typesFit_b153 {Γ : Ctx} {k75 : St → Int → Int → Int → Option (Int × St)} {e161 : St → Int → Int → Option (Int × St)} (hk75 : ∀ (γ : St) (x20 : Int) (x21 : Int) (x22 : Int), i32 x20 → i32 x21 → i32 x22 → SB Γ BS mt_Ck_typesFit (RmN 9 308) 0 0 (KN Γ BS mt_Ck_typesFit.2.2.2) 75 [(0, vR Γ 7), (1, vI x20), (2, vI x21), (4, vI x22)] [] γ (k75 γ x20 x21 x22)) (he161 : ∀ (γ : St) (x23 : Int) (x24 : Int), i32 x23 → i32 x24 → SB Γ BS mt_Ck_typesFit (RmN 9 308) 0 0 (KN Γ BS mt_Ck_typesFit.2.2.2) 161 [(0, vR Γ 7), (1, vI x23), (2, vI x24)] [] γ (e161 γ x23 x24)) : ∀ (γ : St) (x18 : Int) (x19 : Int), i32 x18 → i32 x19 → SB Γ BS mt_Ck_typesFit (RmN 9 308) 0 0 (KN Γ BS mt_Ck_typesFit.2.2.2) 153 [(0, vR Γ 7), (1, vI x18), (4, vI x19)] [] γ (f_Ck_typesFit_b153 k75 e161 γ x18 x19) := by
  intro γ x18 x19 hx18 hx19
  unfold f_Ck_typesFit_b153
  refine sb_iconst d_Ck_typesFit_153 ?_
  exact sb_lv [0, 1, 2] rfl (s_Ck_typesFit_b154 hk75 he161 γ x18 x19 4 hx18 hx19 (by decide))
set_option maxHeartbeats 4000000 in
theorem s_Ck_typesFit_L75 {Γ : Ctx} {e161 : St → Int → Int → Option (Int × St)} (he161 : ∀ (γ : St) (x47 : Int) (x48 : Int), i32 x47 → i32 x48 → SB Γ BS mt_Ck_typesFit (RmN 9 308) 0 0 (KN Γ BS mt_Ck_typesFit.2.2.2) 161 [(0, vR Γ 7), (1, vI x47), (2, vI x48)] [] γ (e161 γ x47 x48)) : ∀ (n : Nat) (γ : St) (x25 : Int) (x26 : Int) (x27 : Int), i32 x25 → i32 x26 → i32 x27 → SB Γ BS mt_Ck_typesFit (RmN 9 308) 0 0 (KN Γ BS mt_Ck_typesFit.2.2.2) 75 [(0, vR Γ 7), (1, vI x25), (2, vI x26), (4, vI x27)] [] γ (f_Ck_typesFit_L75 e161 n γ x25 x26 x27) := by
  intro n
  induction n with
  | zero => intros; exact sb_none
  | succ n ih =>
    intro γ x25 x26 x27 hx25 hx26 hx27
    unfold f_Ck_typesFit_L75
    refine sb_iload_n 2 d_Ck_typesFit_75 rfl ?_
    refine sb_if_ne 161 hx26 d_Ck_typesFit_76 (by decide) (fun _ => ?_) (fun _ => ?_)
    · exact sb_lv [0, 1, 2] rfl (he161 γ x25 x26 hx25 hx26)
    · refine sb_iload 3 d_Ck_typesFit_79 rfl ?_
      refine sb_aload_n 0 d_Ck_typesFit_81 rfl ?_
      refine g_Ck_24 d_Ck_typesFit_82 ?_
      refine g_Ck_77 d_Ck_typesFit_85 ?_
      refine sb_iload_n 1 d_Ck_typesFit_88 rfl ?_
      refine al_S_46 d_Ck_typesFit_89 (fun _ c30 => ?_)
      refine sb_icmp_ge 161 hx27 c30 d_Ck_typesFit_90 (by decide) (fun _ => ?_) (fun _ => ?_)
      · exact sb_lv [0, 1, 2] rfl (he161 γ x25 x26 hx25 hx26)
      · refine sb_aload_n 0 d_Ck_typesFit_93 rfl ?_
        refine g_Ck_37 d_Ck_typesFit_94 (fun c31 => ?_)
        refine sb_aload_n 0 d_Ck_typesFit_97 rfl ?_
        refine g_Ck_24 d_Ck_typesFit_98 ?_
        refine g_Ck_84 d_Ck_typesFit_101 ?_
        refine sb_aload_n 0 d_Ck_typesFit_104 rfl ?_
        refine g_Ck_24 d_Ck_typesFit_105 ?_
        refine g_Ck_87 d_Ck_typesFit_108 ?_
        refine sb_iload_n 1 d_Ck_typesFit_111 rfl ?_
        refine al_S_45 d_Ck_typesFit_112 (fun _ c36 => ?_)
        refine sb_iload 3 d_Ck_typesFit_113 rfl ?_
        refine sb_iadd d_Ck_typesFit_115 ?_
        refine sb_chk (fun c37 => ?_)
        refine al_S_47 d_Ck_typesFit_116 (fun _ c38 => ?_)
        refine sb_iadd d_Ck_typesFit_117 ?_
        refine sb_chk (fun c39 => ?_)
        refine sb_istore [(5, vI ((γ 7 5) + (γ 47 ((γ 45 x25) + x27)))), (0, vR Γ 7), (1, vI x25), (2, vI x26), (4, vI x27)] d_Ck_typesFit_118 (by decide) rfl ?_
        refine sb_nme (e := (γ 7 5) + (γ 47 ((γ 45 x25) + x27))) (fun x40 => [(5, vI x40), (0, vR Γ 7), (1, vI x25), (2, vI x26), (4, vI x27)]) c39 (fun x40 hx40 => ?_)
        refine sb_iload 4 d_Ck_typesFit_120 rfl ?_
        refine sb_aload_n 1 d_Ck_typesFit_122 rfl ?_
        refine g_Ck_68 d_Ck_typesFit_123 (fun c41 => ?_)
        refine sb_icmp_ge 153 hx27 c41 d_Ck_typesFit_126 (by decide) (fun _ => ?_) (fun _ => ?_)
        · exact sb_lv [1, 2, 4] rfl (s_Ck_typesFit_b153 ih he161 γ x25 x27 hx25 hx27)
        · refine sb_aload_n 1 d_Ck_typesFit_129 rfl ?_
          refine g_Ck_10 d_Ck_typesFit_130 ?_
          refine sb_iload 4 d_Ck_typesFit_133 rfl ?_
          refine al_S_53 d_Ck_typesFit_135 (fun _ c43 => ?_)
          refine sb_aload_n 1 d_Ck_typesFit_136 rfl ?_
          refine g_Ck_20 d_Ck_typesFit_137 ?_
          refine g_Ck_90 d_Ck_typesFit_140 ?_
          refine sb_iload 0 d_Ck_typesFit_143 rfl ?_
          refine al_S_33 d_Ck_typesFit_145 (fun _ c46 => ?_)
          refine sb_icmp_ne 153 c43 c46 d_Ck_typesFit_146 (by decide) (fun _ => ?_) (fun _ => ?_)
          · exact sb_lv [1, 2, 4] rfl (s_Ck_typesFit_b153 ih he161 γ x25 x27 hx25 hx27)
          · refine sb_iconst d_Ck_typesFit_149 ?_
            refine sb_goto 154 d_Ck_typesFit_150 (by decide) ?_
            exact sb_lv [1, 2, 4] rfl (s_Ck_typesFit_b154 ih he161 γ x25 x27 0 hx25 hx27 (by decide))
set_option maxHeartbeats 4000000 in
theorem s_Ck_typesFit_b72 {Γ : Ctx} : ∀ (γ : St) (x49 : Int) (x50 : Int), i32 x49 → i32 x50 → SB Γ BS mt_Ck_typesFit (RmN 9 308) 0 0 (KN Γ BS mt_Ck_typesFit.2.2.2) 72 [(0, vR Γ 7), (1, vI x49), (2, vI x50)] [] γ (f_Ck_typesFit_b72 γ x49 x50) := by
  intro γ x49 x50 hx49 hx50
  unfold f_Ck_typesFit_b72
  refine sb_iconst d_Ck_typesFit_72 ?_
  refine sb_istore [(4, vI 0), (0, vR Γ 7), (1, vI x49), (2, vI x50)] d_Ck_typesFit_73 (by decide) rfl ?_
  exact sb_lv [1, 2, 3, 0] rfl (s_Ck_typesFit_L75 (s_Ck_typesFit_b161) FU γ x49 x50 0 hx49 hx50 (by decide))
set_option maxHeartbeats 4000000 in
theorem s_Ck_typesFit_b62 {Γ : Ctx} {k30 : St → Int → Int → Int → Int → Option (Int × St)} {e72 : St → Int → Int → Option (Int × St)} (hk30 : ∀ (γ : St) (x59 : Int) (x60 : Int) (x61 : Int) (x62 : Int), i32 x59 → i32 x60 → i32 x61 → i32 x62 → SB Γ BS mt_Ck_typesFit (RmN 9 308) 0 0 (KN Γ BS mt_Ck_typesFit.2.2.2) 30 [(0, vR Γ 7), (1, vI x59), (2, vI x60), (3, vI x61), (4, vI x62)] [] γ (k30 γ x59 x60 x61 x62)) (he72 : ∀ (γ : St) (x63 : Int) (x64 : Int), i32 x63 → i32 x64 → SB Γ BS mt_Ck_typesFit (RmN 9 308) 0 0 (KN Γ BS mt_Ck_typesFit.2.2.2) 72 [(0, vR Γ 7), (1, vI x63), (2, vI x64)] [] γ (e72 γ x63 x64)) : ∀ (γ : St) (x51 : Int) (x52 : Int) (x53 : Int) (x54 : Int) (x55 : Int), i32 x51 → i32 x52 → i32 x53 → i32 x54 → i32 x55 → SB Γ BS mt_Ck_typesFit (RmN 9 308) 0 0 (KN Γ BS mt_Ck_typesFit.2.2.2) 62 [(0, vR Γ 7), (1, vI x51), (3, vI x52), (4, vI x53)] [vI x54, vI x55, vR Γ 7] γ (f_Ck_typesFit_b62 k30 e72 γ x51 x52 x53 x54 x55) := by
  intro γ x51 x52 x53 x54 x55 hx51 hx52 hx53 hx54 hx55
  unfold f_Ck_typesFit_b62
  refine sb_cVi vf_Ck_checkType (c_Ck_checkType γ x55 x54 hx55 hx54) rfl ml_Ck_80 (As := [vI x55, vI x54]) rfl rfl (Nat.le_of_ble_eq_true rfl) ⟨by decide, by decide⟩ d_Ck_typesFit_62 (fun r56 γ57 hr56 => ?_)
  refine sb_istore_n [(2, vI r56), (0, vR Γ 7), (1, vI x51), (3, vI x52), (4, vI x53)] d_Ck_typesFit_65 (by decide) rfl ?_
  refine sb_iinc 4 [(4, vI (x53 + 1)), (2, vI r56), (0, vR Γ 7), (1, vI x51), (3, vI x52)] d_Ck_typesFit_66 rfl (by decide) rfl ?_
  refine sb_chk (fun c58 => ?_)
  refine sb_goto 30 d_Ck_typesFit_69 (by decide) ?_
  exact sb_lv [2, 3, 1, 4, 0] rfl (hk30 γ57 x51 r56 x52 (x53 + 1) hx51 hr56 hx52 c58)
set_option maxHeartbeats 4000000 in
theorem s_Ck_typesFit_L30 {Γ : Ctx} {e72 : St → Int → Int → Option (Int × St)} (he72 : ∀ (γ : St) (x72 : Int) (x73 : Int), i32 x72 → i32 x73 → SB Γ BS mt_Ck_typesFit (RmN 9 308) 0 0 (KN Γ BS mt_Ck_typesFit.2.2.2) 72 [(0, vR Γ 7), (1, vI x72), (2, vI x73)] [] γ (e72 γ x72 x73)) : ∀ (n : Nat) (γ : St) (x65 : Int) (x66 : Int) (x67 : Int) (x68 : Int), i32 x65 → i32 x66 → i32 x67 → i32 x68 → SB Γ BS mt_Ck_typesFit (RmN 9 308) 0 0 (KN Γ BS mt_Ck_typesFit.2.2.2) 30 [(0, vR Γ 7), (1, vI x65), (2, vI x66), (3, vI x67), (4, vI x68)] [] γ (f_Ck_typesFit_L30 e72 n γ x65 x66 x67 x68) := by
  intro n
  induction n with
  | zero => intros; exact sb_none
  | succ n ih =>
    intro γ x65 x66 x67 x68 hx65 hx66 hx67 hx68
    unfold f_Ck_typesFit_L30
    refine sb_iload_n 2 d_Ck_typesFit_30 rfl ?_
    refine sb_if_ne 72 hx66 d_Ck_typesFit_31 (by decide) (fun _ => ?_) (fun _ => ?_)
    · exact sb_lv [0, 1, 2] rfl (he72 γ x65 x66 hx65 hx66)
    · refine sb_iload 4 d_Ck_typesFit_34 rfl ?_
      refine sb_iload_n 3 d_Ck_typesFit_36 rfl ?_
      refine sb_icmp_gt 72 hx68 hx67 d_Ck_typesFit_37 (by decide) (fun _ => ?_) (fun _ => ?_)
      · exact sb_lv [0, 1, 2] rfl (he72 γ x65 x66 hx65 hx66)
      · refine sb_aload_n 0 d_Ck_typesFit_40 rfl ?_
        refine sb_iload 4 d_Ck_typesFit_41 rfl ?_
        refine sb_iload 4 d_Ck_typesFit_43 rfl ?_
        refine sb_iload_n 3 d_Ck_typesFit_45 rfl ?_
        refine sb_icmp_ne 61 hx68 hx67 d_Ck_typesFit_46 (by decide) (fun _ => ?_) (fun _ => ?_)
        · refine sb_iconst d_Ck_typesFit_61 ?_
          exact sb_lv [0, 1, 3, 4] rfl (s_Ck_typesFit_b62 ih he72 γ x65 x67 x68 1 x68 hx65 hx67 hx68 (by decide) hx68)
        · refine sb_aload_n 0 d_Ck_typesFit_49 rfl ?_
          refine g_Ck_24 d_Ck_typesFit_50 ?_
          refine g_Ck_77 d_Ck_typesFit_53 ?_
          refine sb_iload_n 1 d_Ck_typesFit_56 rfl ?_
          refine al_S_46 d_Ck_typesFit_57 (fun _ c71 => ?_)
          refine sb_goto 62 d_Ck_typesFit_58 (by decide) ?_
          exact sb_lv [0, 1, 3, 4] rfl (s_Ck_typesFit_b62 ih he72 γ x65 x67 x68 (γ 46 x65) x68 hx65 hx67 hx68 c71 hx68)
set_option maxHeartbeats 4000000 in
theorem c_Ck_typesFit {Γ : Ctx} (γ : St) (a0 : Int) (ha0 : i32 a0) : NC Γ BS y_Ck_typesFit mt_Ck_typesFit 9 308 [vR Γ 7, vI a0] γ (f_Ck_typesFit γ a0) := by
  refine nc_of (by decide) rfl (Nat.le_of_ble_eq_true rfl) ?_
  show SB Γ BS mt_Ck_typesFit (RmN 9 308) 0 0 (KN Γ BS mt_Ck_typesFit.2.2.2) 0 [(0, vR Γ 7), (1, vI a0)] [] γ _
  unfold f_Ck_typesFit
  refine sb_aload_n 0 d_Ck_typesFit_0 rfl ?_
  refine sb_iconst d_Ck_typesFit_1 ?_
  refine p_Ck_68 (by decide) d_Ck_typesFit_2 ?_
  refine sb_aps (fun γ74 => ?_)
  refine sb_iconst d_Ck_typesFit_5 ?_
  refine sb_istore_n [(2, vI 0), (0, vR Γ 7), (1, vI a0)] d_Ck_typesFit_6 (by decide) rfl ?_
  refine sb_aload_n 1 d_Ck_typesFit_7 rfl ?_
  refine g_Ck_24 d_Ck_typesFit_8 ?_
  refine g_Ck_71 d_Ck_typesFit_11 ?_
  refine sb_iload_n 2 d_Ck_typesFit_14 rfl ?_
  refine al_S_44 d_Ck_typesFit_15 (fun _ c77 => ?_)
  refine sb_iconst d_Ck_typesFit_16 ?_
  refine sb_isub d_Ck_typesFit_17 ?_
  refine sb_chk (fun c78 => ?_)
  refine sb_istore_n [(3, vI ((γ74 44 a0) - 1)), (2, vI 0), (0, vR Γ 7), (1, vI a0)] d_Ck_typesFit_18 (by decide) rfl ?_
  refine sb_nme (e := (γ74 44 a0) - 1) (fun x79 => [(3, vI x79), (2, vI 0), (0, vR Γ 7), (1, vI a0)]) c78 (fun x79 hx79 => ?_)
  refine sb_aload_n 2 d_Ck_typesFit_19 rfl ?_
  refine g_Ck_24 d_Ck_typesFit_20 ?_
  refine g_Ck_74 d_Ck_typesFit_23 ?_
  refine sb_iload_n 3 d_Ck_typesFit_26 rfl ?_
  refine al_S_43 d_Ck_typesFit_27 (fun _ c82 => ?_)
  refine sb_istore [(4, vI (γ74 43 a0)), (3, vI x79), (2, vI 0), (0, vR Γ 7), (1, vI a0)] d_Ck_typesFit_28 (by decide) rfl ?_
  refine sb_nme (e := γ74 43 a0) (fun x83 => [(4, vI x83), (3, vI x79), (2, vI 0), (0, vR Γ 7), (1, vI a0)]) c82 (fun x83 hx83 => ?_)
  exact sb_lv [3, 4, 2, 1, 0] rfl (s_Ck_typesFit_L30 (s_Ck_typesFit_b72) FU γ74 a0 0 x79 x83 ha0 (by decide) hx79 hx83)
theorem d_Ck_joined_0 : decode b_Ck_joined 0 = .ok (.bipush (-2), 2) := by decide +kernel
theorem d_Ck_joined_2 : decode b_Ck_joined 2 = .ok (.istore_n 2, 1) := by decide +kernel
theorem d_Ck_joined_3 : decode b_Ck_joined 3 = .ok (.iconst 0, 1) := by decide +kernel
theorem d_Ck_joined_4 : decode b_Ck_joined 4 = .ok (.istore_n 3, 1) := by decide +kernel
theorem d_Ck_joined_5 : decode b_Ck_joined 5 = .ok (.iload_n 3, 1) := by decide +kernel
theorem d_Ck_joined_6 : decode b_Ck_joined 6 = .ok (.iload_n 1, 1) := by decide +kernel
theorem d_Ck_joined_7 : decode b_Ck_joined 7 = .ok (.if_icmp .ge 50, 3) := by decide +kernel
theorem d_Ck_joined_10 : decode b_Ck_joined 10 = .ok (.aload_n 0, 1) := by decide +kernel
theorem d_Ck_joined_11 : decode b_Ck_joined 11 = .ok (.getfield 10, 3) := by decide +kernel
theorem d_Ck_joined_14 : decode b_Ck_joined 14 = .ok (.aload_n 0, 1) := by decide +kernel
theorem d_Ck_joined_15 : decode b_Ck_joined 15 = .ok (.getfield 68, 3) := by decide +kernel
theorem d_Ck_joined_18 : decode b_Ck_joined 18 = .ok (.iload_n 3, 1) := by decide +kernel
theorem d_Ck_joined_19 : decode b_Ck_joined 19 = .ok (.iadd, 1) := by decide +kernel
theorem d_Ck_joined_20 : decode b_Ck_joined 20 = .ok (.iaload, 1) := by decide +kernel
theorem d_Ck_joined_21 : decode b_Ck_joined 21 = .ok (.istore 4, 2) := by decide +kernel
theorem d_Ck_joined_23 : decode b_Ck_joined 23 = .ok (.iload_n 2, 1) := by decide +kernel
theorem d_Ck_joined_24 : decode b_Ck_joined 24 = .ok (.bipush (-2), 2) := by decide +kernel
theorem d_Ck_joined_26 : decode b_Ck_joined 26 = .ok (.if_icmp .ne 9, 3) := by decide +kernel
theorem d_Ck_joined_29 : decode b_Ck_joined 29 = .ok (.iload 4, 2) := by decide +kernel
theorem d_Ck_joined_31 : decode b_Ck_joined 31 = .ok (.istore_n 2, 1) := by decide +kernel
theorem d_Ck_joined_32 : decode b_Ck_joined 32 = .ok (.goto 19, 3) := by decide +kernel
theorem d_Ck_joined_35 : decode b_Ck_joined 35 = .ok (.iload 4, 2) := by decide +kernel
theorem d_Ck_joined_37 : decode b_Ck_joined 37 = .ok (.bipush (-2), 2) := by decide +kernel
theorem d_Ck_joined_39 : decode b_Ck_joined 39 = .ok (.if_icmp .eq 12, 3) := by decide +kernel
theorem d_Ck_joined_42 : decode b_Ck_joined 42 = .ok (.iload 4, 2) := by decide +kernel
theorem d_Ck_joined_44 : decode b_Ck_joined 44 = .ok (.iload_n 2, 1) := by decide +kernel
theorem d_Ck_joined_45 : decode b_Ck_joined 45 = .ok (.if_icmp .eq 6, 3) := by decide +kernel
theorem d_Ck_joined_48 : decode b_Ck_joined 48 = .ok (.bipush (-3), 2) := by decide +kernel
theorem d_Ck_joined_50 : decode b_Ck_joined 50 = .ok (.istore_n 2, 1) := by decide +kernel
theorem d_Ck_joined_51 : decode b_Ck_joined 51 = .ok (.iinc 3 1, 3) := by decide +kernel
theorem d_Ck_joined_54 : decode b_Ck_joined 54 = .ok (.goto (-49), 3) := by decide +kernel
theorem d_Ck_joined_57 : decode b_Ck_joined 57 = .ok (.iload_n 2, 1) := by decide +kernel
theorem d_Ck_joined_58 : decode b_Ck_joined 58 = .ok (.ireturn, 1) := by decide +kernel
abbrev mt_Ck_joined : MT := (R_Ck, b_Ck_joined, 5, some .int)
theorem vf_Ck_joined : VF y_Ck_joined mt_Ck_joined 1 1 := ⟨im_Ck_joined, se_Ck_joined, in_Ck, co_Ck_joined, by decide +kernel, _, _, rfl⟩
def f_Ck_joined_b51 (k5 : St → Int → Int → Int → Option (Int × St)) (γ : St) (x1 : Int) (x2 : Int) (x3 : Int) : Option (Int × St) :=
  chk (i32 (x3 + 1)) (k5 γ x1 x2 (x3 + 1))
def f_Ck_joined_L5 : Nat → St → Int → Int → Int → Option (Int × St)
  | 0, _, _, _, _ => none
  | n + 1, γ, x8, x9, x10 =>
  if x8 ≤ x10 then
  (some (x9, γ))
  else
  (chk (i32 ((γ 7 4) + x10)) (chk (inb ((γ 7 4) + x10) 32769) (ap (γ 53 ((γ 7 4) + x10)) fun x15 =>
  if x9 ≠ (-2) then
  (if x15 = (-2) then
  (f_Ck_joined_b51 (f_Ck_joined_L5 n) γ x8 x9 x10)
  else
  (if x15 = x9 then
  (f_Ck_joined_b51 (f_Ck_joined_L5 n) γ x8 x9 x10)
  else
  (f_Ck_joined_b51 (f_Ck_joined_L5 n) γ x8 (-3) x10)))
  else
  (f_Ck_joined_b51 (f_Ck_joined_L5 n) γ x8 x15 x10))))
def f_Ck_joined (γ : St) (a0 : Int) : Option (Int × St) :=
  f_Ck_joined_L5  FU γ a0 (-2) 0
set_option maxHeartbeats 4000000 in
theorem s_Ck_joined_b51 {Γ : Ctx} {k5 : St → Int → Int → Int → Option (Int × St)} (hk5 : ∀ (γ : St) (x5 : Int) (x6 : Int) (x7 : Int), i32 x5 → i32 x6 → i32 x7 → SB Γ BS mt_Ck_joined (RmN 6 240) 0 0 (KN Γ BS mt_Ck_joined.2.2.2) 5 [(0, vR Γ 7), (1, vI x5), (2, vI x6), (3, vI x7)] [] γ (k5 γ x5 x6 x7)) : ∀ (γ : St) (x1 : Int) (x2 : Int) (x3 : Int), i32 x1 → i32 x2 → i32 x3 → SB Γ BS mt_Ck_joined (RmN 6 240) 0 0 (KN Γ BS mt_Ck_joined.2.2.2) 51 [(0, vR Γ 7), (1, vI x1), (2, vI x2), (3, vI x3)] [] γ (f_Ck_joined_b51 k5 γ x1 x2 x3) := by
  intro γ x1 x2 x3 hx1 hx2 hx3
  unfold f_Ck_joined_b51
  refine sb_iinc 3 [(3, vI (x3 + 1)), (0, vR Γ 7), (1, vI x1), (2, vI x2)] d_Ck_joined_51 rfl (by decide) rfl ?_
  refine sb_chk (fun c4 => ?_)
  refine sb_goto 5 d_Ck_joined_54 (by decide) ?_
  exact sb_lv [1, 2, 3, 0] rfl (hk5 γ x1 x2 (x3 + 1) hx1 hx2 c4)
set_option maxHeartbeats 4000000 in
theorem s_Ck_joined_L5 {Γ : Ctx} : ∀ (n : Nat) (γ : St) (x8 : Int) (x9 : Int) (x10 : Int), i32 x8 → i32 x9 → i32 x10 → SB Γ BS mt_Ck_joined (RmN 6 240) 0 0 (KN Γ BS mt_Ck_joined.2.2.2) 5 [(0, vR Γ 7), (1, vI x8), (2, vI x9), (3, vI x10)] [] γ (f_Ck_joined_L5 n γ x8 x9 x10) := by
  intro n
  induction n with
  | zero => intros; exact sb_none
  | succ n ih =>
    intro γ x8 x9 x10 hx8 hx9 hx10
    unfold f_Ck_joined_L5
    refine sb_iload_n 3 d_Ck_joined_5 rfl ?_
    refine sb_iload_n 1 d_Ck_joined_6 rfl ?_
    refine sb_icmp_ge 57 hx10 hx8 d_Ck_joined_7 (by decide) (fun _ => ?_) (fun _ => ?_)
    · refine sb_iload_n 2 d_Ck_joined_57 rfl ?_
      exact sn_i rfl hx9 d_Ck_joined_58
    · refine sb_aload_n 0 d_Ck_joined_10 rfl ?_
      refine g_Ck_10 d_Ck_joined_11 ?_
      refine sb_aload_n 0 d_Ck_joined_14 rfl ?_
      refine g_Ck_68 d_Ck_joined_15 (fun c12 => ?_)
      refine sb_iload_n 3 d_Ck_joined_18 rfl ?_
      refine sb_iadd d_Ck_joined_19 ?_
      refine sb_chk (fun c13 => ?_)
      refine al_S_53 d_Ck_joined_20 (fun _ c14 => ?_)
      refine sb_istore [(4, vI (γ 53 ((γ 7 4) + x10))), (0, vR Γ 7), (1, vI x8), (2, vI x9), (3, vI x10)] d_Ck_joined_21 (by decide) rfl ?_
      refine sb_nme (e := γ 53 ((γ 7 4) + x10)) (fun x15 => [(4, vI x15), (0, vR Γ 7), (1, vI x8), (2, vI x9), (3, vI x10)]) c14 (fun x15 hx15 => ?_)
      refine sb_iload_n 3 d_Ck_joined_23 rfl ?_
      refine sb_bipush d_Ck_joined_24 (by decide) ?_
      refine sb_icmp_ne 35 hx9 (by decide) d_Ck_joined_26 (by decide) (fun _ => ?_) (fun _ => ?_)
      · refine sb_iload 0 d_Ck_joined_35 rfl ?_
        refine sb_bipush d_Ck_joined_37 (by decide) ?_
        refine sb_icmp_eq 51 hx15 (by decide) d_Ck_joined_39 (by decide) (fun _ => ?_) (fun _ => ?_)
        · exact sb_lv [1, 2, 3, 4] rfl (s_Ck_joined_b51 ih γ x8 x9 x10 hx8 hx9 hx10)
        · refine sb_iload 0 d_Ck_joined_42 rfl ?_
          refine sb_iload_n 3 d_Ck_joined_44 rfl ?_
          refine sb_icmp_eq 51 hx15 hx9 d_Ck_joined_45 (by decide) (fun _ => ?_) (fun _ => ?_)
          · exact sb_lv [1, 2, 3, 4] rfl (s_Ck_joined_b51 ih γ x8 x9 x10 hx8 hx9 hx10)
          · refine sb_bipush d_Ck_joined_48 (by decide) ?_
            refine sb_istore_n [(2, vI (-3)), (4, vI x15), (0, vR Γ 7), (1, vI x8), (3, vI x10)] d_Ck_joined_50 (by decide) rfl ?_
            exact sb_lv [2, 3, 0, 4] rfl (s_Ck_joined_b51 ih γ x8 (-3) x10 hx8 (by decide) hx10)
      · refine sb_iload 0 d_Ck_joined_29 rfl ?_
        refine sb_istore_n [(2, vI x15), (4, vI x15), (0, vR Γ 7), (1, vI x8), (3, vI x10)] d_Ck_joined_31 (by decide) rfl ?_
        refine sb_goto 51 d_Ck_joined_32 (by decide) ?_
        exact sb_lv [2, 3, 0, 4] rfl (s_Ck_joined_b51 ih γ x8 x15 x10 hx8 hx15 hx10)
set_option maxHeartbeats 4000000 in
theorem c_Ck_joined {Γ : Ctx} (γ : St) (a0 : Int) (ha0 : i32 a0) : NC Γ BS y_Ck_joined mt_Ck_joined 6 240 [vR Γ 7, vI a0] γ (f_Ck_joined γ a0) := by
  refine nc_of (by decide) rfl (Nat.le_of_ble_eq_true rfl) ?_
  show SB Γ BS mt_Ck_joined (RmN 6 240) 0 0 (KN Γ BS mt_Ck_joined.2.2.2) 0 [(0, vR Γ 7), (1, vI a0)] [] γ _
  unfold f_Ck_joined
  refine sb_bipush d_Ck_joined_0 (by decide) ?_
  refine sb_istore_n [(2, vI (-2)), (0, vR Γ 7), (1, vI a0)] d_Ck_joined_2 (by decide) rfl ?_
  refine sb_iconst d_Ck_joined_3 ?_
  refine sb_istore_n [(3, vI 0), (2, vI (-2)), (0, vR Γ 7), (1, vI a0)] d_Ck_joined_4 (by decide) rfl ?_
  exact sb_lv [2, 3, 1, 0] rfl (s_Ck_joined_L5  FU γ a0 (-2) 0 ha0 (by decide) (by decide))
theorem d_Ck_clockOfC_0 : decode b_Ck_clockOfC 0 = .ok (.aload_n 0, 1) := by decide +kernel
theorem d_Ck_clockOfC_1 : decode b_Ck_clockOfC 1 = .ok (.getfield 20, 3) := by decide +kernel
theorem d_Ck_clockOfC_4 : decode b_Ck_clockOfC 4 = .ok (.getfield 131, 3) := by decide +kernel
theorem d_Ck_clockOfC_7 : decode b_Ck_clockOfC 7 = .ok (.aload_n 0, 1) := by decide +kernel
theorem d_Ck_clockOfC_8 : decode b_Ck_clockOfC 8 = .ok (.getfield 37, 3) := by decide +kernel
theorem d_Ck_clockOfC_11 : decode b_Ck_clockOfC 11 = .ok (.iload_n 1, 1) := by decide +kernel
theorem d_Ck_clockOfC_12 : decode b_Ck_clockOfC 12 = .ok (.iconst 1, 1) := by decide +kernel
theorem d_Ck_clockOfC_13 : decode b_Ck_clockOfC 13 = .ok (.ishr, 1) := by decide +kernel
theorem d_Ck_clockOfC_14 : decode b_Ck_clockOfC 14 = .ok (.iadd, 1) := by decide +kernel
theorem d_Ck_clockOfC_15 : decode b_Ck_clockOfC 15 = .ok (.iaload, 1) := by decide +kernel
theorem d_Ck_clockOfC_16 : decode b_Ck_clockOfC 16 = .ok (.ireturn, 1) := by decide +kernel
abbrev mt_Ck_clockOfC : MT := (R_Ck, b_Ck_clockOfC, 2, some .int)
theorem vf_Ck_clockOfC : VF y_Ck_clockOfC mt_Ck_clockOfC 1 1 := ⟨im_Ck_clockOfC, se_Ck_clockOfC, in_Ck, co_Ck_clockOfC, by decide +kernel, _, _, rfl⟩
def f_Ck_clockOfC (γ : St) (a0 : Int) : Option (Int × St) :=
  chk (i32 ((γ 7 5) + (ishr a0 1))) (chk (inb ((γ 7 5) + (ishr a0 1)) 5841) (some (γ 34 ((γ 7 5) + (ishr a0 1)), γ)))
set_option maxHeartbeats 4000000 in
theorem c_Ck_clockOfC {Γ : Ctx} (γ : St) (a0 : Int) (ha0 : i32 a0) : NC Γ BS y_Ck_clockOfC mt_Ck_clockOfC 6 240 [vR Γ 7, vI a0] γ (f_Ck_clockOfC γ a0) := by
  refine nc_of (by decide) rfl (Nat.le_of_ble_eq_true rfl) ?_
  show SB Γ BS mt_Ck_clockOfC (RmN 6 240) 0 0 (KN Γ BS mt_Ck_clockOfC.2.2.2) 0 [(0, vR Γ 7), (1, vI a0)] [] γ _
  unfold f_Ck_clockOfC
  refine sb_aload_n 0 d_Ck_clockOfC_0 rfl ?_
  refine g_Ck_20 d_Ck_clockOfC_1 ?_
  refine g_Ck_131 d_Ck_clockOfC_4 ?_
  refine sb_aload_n 0 d_Ck_clockOfC_7 rfl ?_
  refine g_Ck_37 d_Ck_clockOfC_8 (fun c3 => ?_)
  refine sb_iload_n 1 d_Ck_clockOfC_11 rfl ?_
  refine sb_iconst d_Ck_clockOfC_12 ?_
  refine sb_ishr d_Ck_clockOfC_13 ?_
  refine sb_iadd d_Ck_clockOfC_14 ?_
  refine sb_chk (fun c4 => ?_)
  refine al_S_34 d_Ck_clockOfC_15 (fun _ c5 => ?_)
  exact sn_i rfl c5 d_Ck_clockOfC_16
theorem d_Ck_checkClock_0 : decode b_Ck_checkClock 0 = .ok (.aload_n 0, 1) := by decide +kernel
theorem d_Ck_checkClock_1 : decode b_Ck_checkClock 1 = .ok (.getfield 24, 3) := by decide +kernel
theorem d_Ck_checkClock_4 : decode b_Ck_checkClock 4 = .ok (.getfield 103, 3) := by decide +kernel
theorem d_Ck_checkClock_7 : decode b_Ck_checkClock 7 = .ok (.iload_n 1, 1) := by decide +kernel
theorem d_Ck_checkClock_8 : decode b_Ck_checkClock 8 = .ok (.iaload, 1) := by decide +kernel
theorem d_Ck_checkClock_9 : decode b_Ck_checkClock 9 = .ok (.istore_n 2, 1) := by decide +kernel
theorem d_Ck_checkClock_10 : decode b_Ck_checkClock 10 = .ok (.aload_n 0, 1) := by decide +kernel
theorem d_Ck_checkClock_11 : decode b_Ck_checkClock 11 = .ok (.getfield 24, 3) := by decide +kernel
theorem d_Ck_checkClock_14 : decode b_Ck_checkClock 14 = .ok (.getfield 100, 3) := by decide +kernel
theorem d_Ck_checkClock_17 : decode b_Ck_checkClock 17 = .ok (.iload_n 1, 1) := by decide +kernel
theorem d_Ck_checkClock_18 : decode b_Ck_checkClock 18 = .ok (.iaload, 1) := by decide +kernel
theorem d_Ck_checkClock_19 : decode b_Ck_checkClock 19 = .ok (.istore_n 3, 1) := by decide +kernel
theorem d_Ck_checkClock_20 : decode b_Ck_checkClock 20 = .ok (.aload_n 0, 1) := by decide +kernel
theorem d_Ck_checkClock_21 : decode b_Ck_checkClock 21 = .ok (.dup, 1) := by decide +kernel
theorem d_Ck_checkClock_22 : decode b_Ck_checkClock 22 = .ok (.getfield 68, 3) := by decide +kernel
theorem d_Ck_checkClock_25 : decode b_Ck_checkClock 25 = .ok (.iload_n 2, 1) := by decide +kernel
theorem d_Ck_checkClock_26 : decode b_Ck_checkClock 26 = .ok (.isub, 1) := by decide +kernel
theorem d_Ck_checkClock_27 : decode b_Ck_checkClock 27 = .ok (.putfield 68, 3) := by decide +kernel
theorem d_Ck_checkClock_30 : decode b_Ck_checkClock 30 = .ok (.iload_n 3, 1) := by decide +kernel
theorem d_Ck_checkClock_31 : decode b_Ck_checkClock 31 = .ok (.iconst 2, 1) := by decide +kernel
theorem d_Ck_checkClock_32 : decode b_Ck_checkClock 32 = .ok (.if_icmp .ne 28, 3) := by decide +kernel
theorem d_Ck_checkClock_35 : decode b_Ck_checkClock 35 = .ok (.aload_n 0, 1) := by decide +kernel
theorem d_Ck_checkClock_36 : decode b_Ck_checkClock 36 = .ok (.getfield 20, 3) := by decide +kernel
theorem d_Ck_checkClock_39 : decode b_Ck_checkClock 39 = .ok (.getfield 131, 3) := by decide +kernel
theorem d_Ck_checkClock_42 : decode b_Ck_checkClock 42 = .ok (.aload_n 0, 1) := by decide +kernel
theorem d_Ck_checkClock_43 : decode b_Ck_checkClock 43 = .ok (.getfield 37, 3) := by decide +kernel
theorem d_Ck_checkClock_46 : decode b_Ck_checkClock 46 = .ok (.aload_n 0, 1) := by decide +kernel
theorem d_Ck_checkClock_47 : decode b_Ck_checkClock 47 = .ok (.getfield 24, 3) := by decide +kernel
theorem d_Ck_checkClock_50 : decode b_Ck_checkClock 50 = .ok (.getfield 119, 3) := by decide +kernel
theorem d_Ck_checkClock_53 : decode b_Ck_checkClock 53 = .ok (.iload_n 1, 1) := by decide +kernel
theorem d_Ck_checkClock_54 : decode b_Ck_checkClock 54 = .ok (.iaload, 1) := by decide +kernel
theorem d_Ck_checkClock_55 : decode b_Ck_checkClock 55 = .ok (.iadd, 1) := by decide +kernel
theorem d_Ck_checkClock_56 : decode b_Ck_checkClock 56 = .ok (.iaload, 1) := by decide +kernel
theorem d_Ck_checkClock_57 : decode b_Ck_checkClock 57 = .ok (.goto 8, 3) := by decide +kernel
theorem d_Ck_checkClock_60 : decode b_Ck_checkClock 60 = .ok (.aload_n 0, 1) := by decide +kernel
theorem d_Ck_checkClock_61 : decode b_Ck_checkClock 61 = .ok (.iload_n 2, 1) := by decide +kernel
theorem d_Ck_checkClock_62 : decode b_Ck_checkClock 62 = .ok (.invokevirtual 138, 3) := by decide +kernel
theorem d_Ck_checkClock_65 : decode b_Ck_checkClock 65 = .ok (.istore 4, 2) := by decide +kernel
theorem d_Ck_checkClock_67 : decode b_Ck_checkClock 67 = .ok (.iload 4, 2) := by decide +kernel
theorem d_Ck_checkClock_69 : decode b_Ck_checkClock 69 = .ok (.bipush (-3), 2) := by decide +kernel
theorem d_Ck_checkClock_71 : decode b_Ck_checkClock 71 = .ok (.if_icmp .ne 5, 3) := by decide +kernel
theorem d_Ck_checkClock_74 : decode b_Ck_checkClock 74 = .ok (.iconst 0, 1) := by decide +kernel
theorem d_Ck_checkClock_75 : decode b_Ck_checkClock 75 = .ok (.ireturn, 1) := by decide +kernel
theorem d_Ck_checkClock_76 : decode b_Ck_checkClock 76 = .ok (.iload_n 3, 1) := by decide +kernel
theorem d_Ck_checkClock_77 : decode b_Ck_checkClock 77 = .ok (.bipush 27, 2) := by decide +kernel
theorem d_Ck_checkClock_79 : decode b_Ck_checkClock 79 = .ok (.if_icmp .ne 41, 3) := by decide +kernel
theorem d_Ck_checkClock_82 : decode b_Ck_checkClock 82 = .ok (.iload 4, 2) := by decide +kernel
theorem d_Ck_checkClock_84 : decode b_Ck_checkClock 84 = .ok (.bipush (-2), 2) := by decide +kernel
theorem d_Ck_checkClock_86 : decode b_Ck_checkClock 86 = .ok (.if_icmp .eq 23, 3) := by decide +kernel
theorem d_Ck_checkClock_89 : decode b_Ck_checkClock 89 = .ok (.iload 4, 2) := by decide +kernel
theorem d_Ck_checkClock_91 : decode b_Ck_checkClock 91 = .ok (.aload_n 0, 1) := by decide +kernel
theorem d_Ck_checkClock_92 : decode b_Ck_checkClock 92 = .ok (.aload_n 0, 1) := by decide +kernel
theorem d_Ck_checkClock_93 : decode b_Ck_checkClock 93 = .ok (.getfield 24, 3) := by decide +kernel
theorem d_Ck_checkClock_96 : decode b_Ck_checkClock 96 = .ok (.getfield 119, 3) := by decide +kernel
theorem d_Ck_checkClock_99 : decode b_Ck_checkClock 99 = .ok (.iload_n 1, 1) := by decide +kernel
theorem d_Ck_checkClock_100 : decode b_Ck_checkClock 100 = .ok (.iaload, 1) := by decide +kernel
theorem d_Ck_checkClock_101 : decode b_Ck_checkClock 101 = .ok (.invokevirtual 141, 3) := by decide +kernel
theorem d_Ck_checkClock_104 : decode b_Ck_checkClock 104 = .ok (.if_icmp .eq 5, 3) := by decide +kernel
theorem d_Ck_checkClock_107 : decode b_Ck_checkClock 107 = .ok (.iconst 0, 1) := by decide +kernel
theorem d_Ck_checkClock_108 : decode b_Ck_checkClock 108 = .ok (.ireturn, 1) := by decide +kernel
theorem d_Ck_checkClock_109 : decode b_Ck_checkClock 109 = .ok (.aload_n 0, 1) := by decide +kernel
theorem d_Ck_checkClock_110 : decode b_Ck_checkClock 110 = .ok (.getfield 24, 3) := by decide +kernel
theorem d_Ck_checkClock_113 : decode b_Ck_checkClock 113 = .ok (.getfield 119, 3) := by decide +kernel
theorem d_Ck_checkClock_116 : decode b_Ck_checkClock 116 = .ok (.iload_n 1, 1) := by decide +kernel
theorem d_Ck_checkClock_117 : decode b_Ck_checkClock 117 = .ok (.iaload, 1) := by decide +kernel
theorem d_Ck_checkClock_118 : decode b_Ck_checkClock 118 = .ok (.istore 4, 2) := by decide +kernel
theorem d_Ck_checkClock_120 : decode b_Ck_checkClock 120 = .ok (.iload_n 3, 1) := by decide +kernel
theorem d_Ck_checkClock_121 : decode b_Ck_checkClock 121 = .ok (.bipush 36, 2) := by decide +kernel
theorem d_Ck_checkClock_123 : decode b_Ck_checkClock 123 = .ok (.if_icmp .ne 18, 3) := by decide +kernel
theorem d_Ck_checkClock_126 : decode b_Ck_checkClock 126 = .ok (.iload 4, 2) := by decide +kernel
theorem d_Ck_checkClock_128 : decode b_Ck_checkClock 128 = .ok (.ifCond .ge 5, 3) := by decide +kernel
theorem d_Ck_checkClock_131 : decode b_Ck_checkClock 131 = .ok (.iconst 0, 1) := by decide +kernel
theorem d_Ck_checkClock_132 : decode b_Ck_checkClock 132 = .ok (.ireturn, 1) := by decide +kernel
theorem d_Ck_checkClock_133 : decode b_Ck_checkClock 133 = .ok (.aload_n 0, 1) := by decide +kernel
theorem d_Ck_checkClock_134 : decode b_Ck_checkClock 134 = .ok (.iload 4, 2) := by decide +kernel
theorem d_Ck_checkClock_136 : decode b_Ck_checkClock 136 = .ok (.invokevirtual 141, 3) := by decide +kernel
theorem d_Ck_checkClock_139 : decode b_Ck_checkClock 139 = .ok (.istore 4, 2) := by decide +kernel
theorem d_Ck_checkClock_141 : decode b_Ck_checkClock 141 = .ok (.aload_n 0, 1) := by decide +kernel
theorem d_Ck_checkClock_142 : decode b_Ck_checkClock 142 = .ok (.getfield 24, 3) := by decide +kernel
theorem d_Ck_checkClock_145 : decode b_Ck_checkClock 145 = .ok (.getfield 144, 3) := by decide +kernel
theorem d_Ck_checkClock_148 : decode b_Ck_checkClock 148 = .ok (.iload_n 1, 1) := by decide +kernel
theorem d_Ck_checkClock_149 : decode b_Ck_checkClock 149 = .ok (.iload 4, 2) := by decide +kernel
theorem d_Ck_checkClock_151 : decode b_Ck_checkClock 151 = .ok (.iastore, 1) := by decide +kernel
theorem d_Ck_checkClock_152 : decode b_Ck_checkClock 152 = .ok (.aload_n 0, 1) := by decide +kernel
theorem d_Ck_checkClock_153 : decode b_Ck_checkClock 153 = .ok (.getfield 10, 3) := by decide +kernel
theorem d_Ck_checkClock_156 : decode b_Ck_checkClock 156 = .ok (.aload_n 0, 1) := by decide +kernel
theorem d_Ck_checkClock_157 : decode b_Ck_checkClock 157 = .ok (.getfield 68, 3) := by decide +kernel
theorem d_Ck_checkClock_160 : decode b_Ck_checkClock 160 = .ok (.iload 4, 2) := by decide +kernel
theorem d_Ck_checkClock_162 : decode b_Ck_checkClock 162 = .ok (.iastore, 1) := by decide +kernel
theorem d_Ck_checkClock_163 : decode b_Ck_checkClock 163 = .ok (.aload_n 0, 1) := by decide +kernel
theorem d_Ck_checkClock_164 : decode b_Ck_checkClock 164 = .ok (.dup, 1) := by decide +kernel
theorem d_Ck_checkClock_165 : decode b_Ck_checkClock 165 = .ok (.getfield 68, 3) := by decide +kernel
theorem d_Ck_checkClock_168 : decode b_Ck_checkClock 168 = .ok (.iconst 1, 1) := by decide +kernel
theorem d_Ck_checkClock_169 : decode b_Ck_checkClock 169 = .ok (.iadd, 1) := by decide +kernel
theorem d_Ck_checkClock_170 : decode b_Ck_checkClock 170 = .ok (.putfield 68, 3) := by decide +kernel
theorem d_Ck_checkClock_173 : decode b_Ck_checkClock 173 = .ok (.iconst 1, 1) := by decide +kernel
theorem d_Ck_checkClock_174 : decode b_Ck_checkClock 174 = .ok (.ireturn, 1) := by decide +kernel
abbrev mt_Ck_checkClock : MT := (R_Ck, b_Ck_checkClock, 5, some .boolean)
theorem vf_Ck_checkClock : VF y_Ck_checkClock mt_Ck_checkClock 1 1 := ⟨im_Ck_checkClock, se_Ck_checkClock, in_Ck, co_Ck_checkClock, by decide +kernel, _, _, rfl⟩
def f_Ck_checkClock_b141 (γ : St) (x1 : Int) (x2 : Int) : Option (Int × St) :=
  chk (inb x1 65537) (ap (setA γ 41 x1 x2) fun γ5 =>
  chk (inb (γ5 7 4) 32769) (ap (setA γ5 53 (γ5 7 4) x2) fun γ8 =>
  chk (i32 ((γ8 7 4) + 1)) (ap (setA γ8 7 4 ((γ8 7 4) + 1)) fun γ11 =>
  some (1, γ11))))
def f_Ck_checkClock_b120 (γ : St) (x12 : Int) (x13 : Int) (x14 : Int) : Option (Int × St) :=
  if x13 ≠ 36 then
  (f_Ck_checkClock_b141 γ x12 x14)
  else
  (if 0 ≤ x14 then
  (bndN (f_Ck_clockOfC γ x14) fun r15 γ16 =>
  f_Ck_checkClock_b141 γ16 x12 r15)
  else
  (some (0, γ)))
def f_Ck_checkClock_b109 (γ : St) (x17 : Int) (x18 : Int) : Option (Int × St) :=
  chk (inb x17 65537) (ap (γ 39 x17) fun x22 =>
  f_Ck_checkClock_b120 γ x17 x18 x22)
def f_Ck_checkClock_b65 (γ : St) (x23 : Int) (x24 : Int) (x25 : Int) : Option (Int × St) :=
  if x25 ≠ (-3) then
  (if x24 ≠ 27 then
  (f_Ck_checkClock_b120 γ x23 x24 x25)
  else
  (if x25 = (-2) then
  (f_Ck_checkClock_b109 γ x23 x24)
  else
  (chk (inb x23 65537) (bndN (f_Ck_clockOfC γ (γ 39 x23)) fun r29 γ30 =>
  if x25 = r29 then
  (f_Ck_checkClock_b109 γ30 x23 x24)
  else
  (some (0, γ30))))))
  else
  (some (0, γ))
def f_Ck_checkClock (γ : St) (a0 : Int) : Option (Int × St) :=
  chk (inb a0 65537) (ap (γ 40 a0) fun x34 =>
  chk (inb a0 65537) (ap (γ 38 a0) fun x38 =>
  chk (i32 ((γ 7 4) - x34)) (ap (setA γ 7 4 ((γ 7 4) - x34)) fun γ41 =>
  if x38 ≠ 2 then
  (bndN (f_Ck_joined γ41 x34) fun r42 γ43 =>
  f_Ck_checkClock_b65 γ43 a0 x38 r42)
  else
  (chk (inb a0 65537) (chk (i32 ((γ41 7 5) + (γ41 39 a0))) (chk (inb ((γ41 7 5) + (γ41 39 a0)) 5841) (f_Ck_checkClock_b65 γ41 a0 x38 (γ41 34 ((γ41 7 5) + (γ41 39 a0))))))))))
set_option maxHeartbeats 4000000 in
theorem s_Ck_checkClock_b141 {Γ : Ctx} : ∀ (γ : St) (x1 : Int) (x2 : Int), i32 x1 → i32 x2 → SB Γ BS mt_Ck_checkClock (RmN 7 264) 0 0 (KN Γ BS mt_Ck_checkClock.2.2.2) 141 [(0, vR Γ 7), (1, vI x1), (4, vI x2)] [] γ (f_Ck_checkClock_b141 γ x1 x2) := by
  intro γ x1 x2 hx1 hx2
  unfold f_Ck_checkClock_b141
  refine sb_aload_n 0 d_Ck_checkClock_141 rfl ?_
  refine g_Ck_24 d_Ck_checkClock_142 ?_
  refine g_Ck_144 d_Ck_checkClock_145 ?_
  refine sb_iload_n 1 d_Ck_checkClock_148 rfl ?_
  refine sb_iload 2 d_Ck_checkClock_149 rfl ?_
  refine as_S_41 hx2 d_Ck_checkClock_151 (fun _ => ?_)
  refine sb_aps (fun γ5 => ?_)
  refine sb_aload_n 0 d_Ck_checkClock_152 rfl ?_
  refine g_Ck_10 d_Ck_checkClock_153 ?_
  refine sb_aload_n 0 d_Ck_checkClock_156 rfl ?_
  refine g_Ck_68 d_Ck_checkClock_157 (fun c7 => ?_)
  refine sb_iload 2 d_Ck_checkClock_160 rfl ?_
  refine as_S_53 hx2 d_Ck_checkClock_162 (fun _ => ?_)
  refine sb_aps (fun γ8 => ?_)
  refine sb_aload_n 0 d_Ck_checkClock_163 rfl ?_
  refine sb_dup d_Ck_checkClock_164 rfl ?_
  refine g_Ck_68 d_Ck_checkClock_165 (fun c9 => ?_)
  refine sb_iconst d_Ck_checkClock_168 ?_
  refine sb_iadd d_Ck_checkClock_169 ?_
  refine sb_chk (fun c10 => ?_)
  refine p_Ck_68 c10 d_Ck_checkClock_170 ?_
  refine sb_aps (fun γ11 => ?_)
  refine sb_iconst d_Ck_checkClock_173 ?_
  exact sn_z rfl (by decide) d_Ck_checkClock_174
set_option maxHeartbeats 4000000 in
theorem s_Ck_checkClock_b120 {Γ : Ctx} : ∀ (γ : St) (x12 : Int) (x13 : Int) (x14 : Int), i32 x12 → i32 x13 → i32 x14 → SB Γ BS mt_Ck_checkClock (RmN 7 264) 0 0 (KN Γ BS mt_Ck_checkClock.2.2.2) 120 [(0, vR Γ 7), (1, vI x12), (3, vI x13), (4, vI x14)] [] γ (f_Ck_checkClock_b120 γ x12 x13 x14) := by
  intro γ x12 x13 x14 hx12 hx13 hx14
  unfold f_Ck_checkClock_b120
  refine sb_iload_n 2 d_Ck_checkClock_120 rfl ?_
  refine sb_bipush d_Ck_checkClock_121 (by decide) ?_
  refine sb_icmp_ne 141 hx13 (by decide) d_Ck_checkClock_123 (by decide) (fun _ => ?_) (fun _ => ?_)
  · exact sb_lv [0, 1, 3] rfl (s_Ck_checkClock_b141 γ x12 x14 hx12 hx14)
  · refine sb_iload 3 d_Ck_checkClock_126 rfl ?_
    refine sb_if_ge 133 hx14 d_Ck_checkClock_128 (by decide) (fun _ => ?_) (fun _ => ?_)
    · refine sb_aload_n 0 d_Ck_checkClock_133 rfl ?_
      refine sb_iload 3 d_Ck_checkClock_134 rfl ?_
      refine sb_cVi vf_Ck_clockOfC (c_Ck_clockOfC γ x14 hx14) rfl ml_Ck_141 (As := [vI x14]) rfl rfl (Nat.le_of_ble_eq_true rfl) ⟨by decide, by decide⟩ d_Ck_checkClock_136 (fun r15 γ16 hr15 => ?_)
      refine sb_istore [(4, vI r15), (0, vR Γ 7), (1, vI x12), (3, vI x13)] d_Ck_checkClock_139 (by decide) rfl ?_
      exact sb_lv [1, 2, 0] rfl (s_Ck_checkClock_b141 γ16 x12 r15 hx12 hr15)
    · refine sb_iconst d_Ck_checkClock_131 ?_
      exact sn_z rfl (by decide) d_Ck_checkClock_132
set_option maxHeartbeats 4000000 in
theorem s_Ck_checkClock_b109 {Γ : Ctx} : ∀ (γ : St) (x17 : Int) (x18 : Int), i32 x17 → i32 x18 → SB Γ BS mt_Ck_checkClock (RmN 7 264) 0 0 (KN Γ BS mt_Ck_checkClock.2.2.2) 109 [(0, vR Γ 7), (1, vI x17), (3, vI x18)] [] γ (f_Ck_checkClock_b109 γ x17 x18) := by
  intro γ x17 x18 hx17 hx18
  unfold f_Ck_checkClock_b109
  refine sb_aload_n 0 d_Ck_checkClock_109 rfl ?_
  refine g_Ck_24 d_Ck_checkClock_110 ?_
  refine g_Ck_119 d_Ck_checkClock_113 ?_
  refine sb_iload_n 1 d_Ck_checkClock_116 rfl ?_
  refine al_S_39 d_Ck_checkClock_117 (fun _ c21 => ?_)
  refine sb_istore [(4, vI (γ 39 x17)), (0, vR Γ 7), (1, vI x17), (3, vI x18)] d_Ck_checkClock_118 (by decide) rfl ?_
  refine sb_nme (e := γ 39 x17) (fun x22 => [(4, vI x22), (0, vR Γ 7), (1, vI x17), (3, vI x18)]) c21 (fun x22 hx22 => ?_)
  exact sb_lv [1, 2, 3, 0] rfl (s_Ck_checkClock_b120 γ x17 x18 x22 hx17 hx18 hx22)
set_option maxHeartbeats 4000000 in
theorem s_Ck_checkClock_b65 {Γ : Ctx} : ∀ (γ : St) (x23 : Int) (x24 : Int) (x25 : Int), i32 x23 → i32 x24 → i32 x25 → SB Γ BS mt_Ck_checkClock (RmN 7 264) 0 0 (KN Γ BS mt_Ck_checkClock.2.2.2) 65 [(0, vR Γ 7), (1, vI x23), (3, vI x24)] [vI x25] γ (f_Ck_checkClock_b65 γ x23 x24 x25) := by
  intro γ x23 x24 x25 hx23 hx24 hx25
  unfold f_Ck_checkClock_b65
  refine sb_istore [(4, vI x25), (0, vR Γ 7), (1, vI x23), (3, vI x24)] d_Ck_checkClock_65 (by decide) rfl ?_
  refine sb_iload 0 d_Ck_checkClock_67 rfl ?_
  refine sb_bipush d_Ck_checkClock_69 (by decide) ?_
  refine sb_icmp_ne 76 hx25 (by decide) d_Ck_checkClock_71 (by decide) (fun _ => ?_) (fun _ => ?_)
  · refine sb_iload_n 3 d_Ck_checkClock_76 rfl ?_
    refine sb_bipush d_Ck_checkClock_77 (by decide) ?_
    refine sb_icmp_ne 120 hx24 (by decide) d_Ck_checkClock_79 (by decide) (fun _ => ?_) (fun _ => ?_)
    · exact sb_lv [1, 2, 3, 0] rfl (s_Ck_checkClock_b120 γ x23 x24 x25 hx23 hx24 hx25)
    · refine sb_iload 0 d_Ck_checkClock_82 rfl ?_
      refine sb_bipush d_Ck_checkClock_84 (by decide) ?_
      refine sb_icmp_eq 109 hx25 (by decide) d_Ck_checkClock_86 (by decide) (fun _ => ?_) (fun _ => ?_)
      · exact sb_lv [1, 2, 3] rfl (s_Ck_checkClock_b109 γ x23 x24 hx23 hx24)
      · refine sb_iload 0 d_Ck_checkClock_89 rfl ?_
        refine sb_aload_n 1 d_Ck_checkClock_91 rfl ?_
        refine sb_aload_n 1 d_Ck_checkClock_92 rfl ?_
        refine g_Ck_24 d_Ck_checkClock_93 ?_
        refine g_Ck_119 d_Ck_checkClock_96 ?_
        refine sb_iload_n 2 d_Ck_checkClock_99 rfl ?_
        refine al_S_39 d_Ck_checkClock_100 (fun _ c28 => ?_)
        refine sb_cVi vf_Ck_clockOfC (c_Ck_clockOfC γ (γ 39 x23) c28) rfl ml_Ck_141 (As := [vI (γ 39 x23)]) rfl rfl (Nat.le_of_ble_eq_true rfl) ⟨by decide, by decide⟩ d_Ck_checkClock_101 (fun r29 γ30 hr29 => ?_)
        refine sb_icmp_eq 109 hx25 hr29 d_Ck_checkClock_104 (by decide) (fun _ => ?_) (fun _ => ?_)
        · exact sb_lv [1, 2, 3] rfl (s_Ck_checkClock_b109 γ30 x23 x24 hx23 hx24)
        · refine sb_iconst d_Ck_checkClock_107 ?_
          exact sn_z rfl (by decide) d_Ck_checkClock_108
  · refine sb_iconst d_Ck_checkClock_74 ?_
    exact sn_z rfl (by decide) d_Ck_checkClock_75
set_option maxHeartbeats 4000000 in
theorem c_Ck_checkClock {Γ : Ctx} (γ : St) (a0 : Int) (ha0 : i32 a0) : NC Γ BS y_Ck_checkClock mt_Ck_checkClock 7 264 [vR Γ 7, vI a0] γ (f_Ck_checkClock γ a0) := by
  refine nc_of (by decide) rfl (Nat.le_of_ble_eq_true rfl) ?_
  show SB Γ BS mt_Ck_checkClock (RmN 7 264) 0 0 (KN Γ BS mt_Ck_checkClock.2.2.2) 0 [(0, vR Γ 7), (1, vI a0)] [] γ _
  unfold f_Ck_checkClock
  refine sb_aload_n 0 d_Ck_checkClock_0 rfl ?_
  refine g_Ck_24 d_Ck_checkClock_1 ?_
  refine g_Ck_103 d_Ck_checkClock_4 ?_
  refine sb_iload_n 1 d_Ck_checkClock_7 rfl ?_
  refine al_S_40 d_Ck_checkClock_8 (fun _ c33 => ?_)
  refine sb_istore_n [(2, vI (γ 40 a0)), (0, vR Γ 7), (1, vI a0)] d_Ck_checkClock_9 (by decide) rfl ?_
  refine sb_nme (e := γ 40 a0) (fun x34 => [(2, vI x34), (0, vR Γ 7), (1, vI a0)]) c33 (fun x34 hx34 => ?_)
  refine sb_aload_n 1 d_Ck_checkClock_10 rfl ?_
  refine g_Ck_24 d_Ck_checkClock_11 ?_
  refine g_Ck_100 d_Ck_checkClock_14 ?_
  refine sb_iload_n 2 d_Ck_checkClock_17 rfl ?_
  refine al_S_38 d_Ck_checkClock_18 (fun _ c37 => ?_)
  refine sb_istore_n [(3, vI (γ 38 a0)), (2, vI x34), (0, vR Γ 7), (1, vI a0)] d_Ck_checkClock_19 (by decide) rfl ?_
  refine sb_nme (e := γ 38 a0) (fun x38 => [(3, vI x38), (2, vI x34), (0, vR Γ 7), (1, vI a0)]) c37 (fun x38 hx38 => ?_)
  refine sb_aload_n 2 d_Ck_checkClock_20 rfl ?_
  refine sb_dup d_Ck_checkClock_21 rfl ?_
  refine g_Ck_68 d_Ck_checkClock_22 (fun c39 => ?_)
  refine sb_iload_n 1 d_Ck_checkClock_25 rfl ?_
  refine sb_isub d_Ck_checkClock_26 ?_
  refine sb_chk (fun c40 => ?_)
  refine p_Ck_68 c40 d_Ck_checkClock_27 ?_
  refine sb_aps (fun γ41 => ?_)
  refine sb_iload_n 0 d_Ck_checkClock_30 rfl ?_
  refine sb_iconst d_Ck_checkClock_31 ?_
  refine sb_icmp_ne 60 hx38 (by decide) d_Ck_checkClock_32 (by decide) (fun _ => ?_) (fun _ => ?_)
  · refine sb_aload_n 2 d_Ck_checkClock_60 rfl ?_
    refine sb_iload_n 1 d_Ck_checkClock_61 rfl ?_
    refine sb_cVi vf_Ck_joined (c_Ck_joined γ41 x34 hx34) rfl ml_Ck_138 (As := [vI x34]) rfl rfl (Nat.le_of_ble_eq_true rfl) ⟨by decide, by decide⟩ d_Ck_checkClock_62 (fun r42 γ43 hr42 => ?_)
    exact sb_lv [2, 3, 0] rfl (s_Ck_checkClock_b65 γ43 a0 x38 r42 ha0 hx38 hr42)
  · refine sb_aload_n 2 d_Ck_checkClock_35 rfl ?_
    refine g_Ck_20 d_Ck_checkClock_36 ?_
    refine g_Ck_131 d_Ck_checkClock_39 ?_
    refine sb_aload_n 2 d_Ck_checkClock_42 rfl ?_
    refine g_Ck_37 d_Ck_checkClock_43 (fun c46 => ?_)
    refine sb_aload_n 2 d_Ck_checkClock_46 rfl ?_
    refine g_Ck_24 d_Ck_checkClock_47 ?_
    refine g_Ck_119 d_Ck_checkClock_50 ?_
    refine sb_iload_n 3 d_Ck_checkClock_53 rfl ?_
    refine al_S_39 d_Ck_checkClock_54 (fun _ c49 => ?_)
    refine sb_iadd d_Ck_checkClock_55 ?_
    refine sb_chk (fun c50 => ?_)
    refine al_S_34 d_Ck_checkClock_56 (fun _ c51 => ?_)
    refine sb_goto 65 d_Ck_checkClock_57 (by decide) ?_
    exact sb_lv [2, 3, 0] rfl (s_Ck_checkClock_b65 γ41 a0 x38 (γ41 34 ((γ41 7 5) + (γ41 39 a0))) ha0 hx38 c51)
theorem d_Ck_settle_0 : decode b_Ck_settle 0 = .ok (.aload_n 0, 1) := by decide +kernel
theorem d_Ck_settle_1 : decode b_Ck_settle 1 = .ok (.iconst 0, 1) := by decide +kernel
theorem d_Ck_settle_2 : decode b_Ck_settle 2 = .ok (.putfield 68, 3) := by decide +kernel
theorem d_Ck_settle_5 : decode b_Ck_settle 5 = .ok (.aload_n 0, 1) := by decide +kernel
theorem d_Ck_settle_6 : decode b_Ck_settle 6 = .ok (.getfield 10, 3) := by decide +kernel
theorem d_Ck_settle_9 : decode b_Ck_settle 9 = .ok (.aload_n 0, 1) := by decide +kernel
theorem d_Ck_settle_10 : decode b_Ck_settle 10 = .ok (.getfield 68, 3) := by decide +kernel
theorem d_Ck_settle_13 : decode b_Ck_settle 13 = .ok (.iload_n 2, 1) := by decide +kernel
theorem d_Ck_settle_14 : decode b_Ck_settle 14 = .ok (.iastore, 1) := by decide +kernel
theorem d_Ck_settle_15 : decode b_Ck_settle 15 = .ok (.aload_n 0, 1) := by decide +kernel
theorem d_Ck_settle_16 : decode b_Ck_settle 16 = .ok (.dup, 1) := by decide +kernel
theorem d_Ck_settle_17 : decode b_Ck_settle 17 = .ok (.getfield 68, 3) := by decide +kernel
theorem d_Ck_settle_20 : decode b_Ck_settle 20 = .ok (.iconst 1, 1) := by decide +kernel
theorem d_Ck_settle_21 : decode b_Ck_settle 21 = .ok (.iadd, 1) := by decide +kernel
theorem d_Ck_settle_22 : decode b_Ck_settle 22 = .ok (.putfield 68, 3) := by decide +kernel
theorem d_Ck_settle_25 : decode b_Ck_settle 25 = .ok (.aload_n 0, 1) := by decide +kernel
theorem d_Ck_settle_26 : decode b_Ck_settle 26 = .ok (.getfield 24, 3) := by decide +kernel
theorem d_Ck_settle_29 : decode b_Ck_settle 29 = .ok (.getfield 71, 3) := by decide +kernel
theorem d_Ck_settle_32 : decode b_Ck_settle 32 = .ok (.iload_n 1, 1) := by decide +kernel
theorem d_Ck_settle_33 : decode b_Ck_settle 33 = .ok (.iaload, 1) := by decide +kernel
theorem d_Ck_settle_34 : decode b_Ck_settle 34 = .ok (.iconst 1, 1) := by decide +kernel
theorem d_Ck_settle_35 : decode b_Ck_settle 35 = .ok (.isub, 1) := by decide +kernel
theorem d_Ck_settle_36 : decode b_Ck_settle 36 = .ok (.istore_n 3, 1) := by decide +kernel
theorem d_Ck_settle_37 : decode b_Ck_settle 37 = .ok (.iload_n 3, 1) := by decide +kernel
theorem d_Ck_settle_38 : decode b_Ck_settle 38 = .ok (.aload_n 0, 1) := by decide +kernel
theorem d_Ck_settle_39 : decode b_Ck_settle 39 = .ok (.getfield 24, 3) := by decide +kernel
theorem d_Ck_settle_42 : decode b_Ck_settle 42 = .ok (.getfield 74, 3) := by decide +kernel
theorem d_Ck_settle_45 : decode b_Ck_settle 45 = .ok (.iload_n 1, 1) := by decide +kernel
theorem d_Ck_settle_46 : decode b_Ck_settle 46 = .ok (.iaload, 1) := by decide +kernel
theorem d_Ck_settle_47 : decode b_Ck_settle 47 = .ok (.if_icmp .lt 152, 3) := by decide +kernel
theorem d_Ck_settle_50 : decode b_Ck_settle 50 = .ok (.aload_n 0, 1) := by decide +kernel
theorem d_Ck_settle_51 : decode b_Ck_settle 51 = .ok (.dup, 1) := by decide +kernel
theorem d_Ck_settle_52 : decode b_Ck_settle 52 = .ok (.getfield 68, 3) := by decide +kernel
theorem d_Ck_settle_55 : decode b_Ck_settle 55 = .ok (.iconst 1, 1) := by decide +kernel
theorem d_Ck_settle_56 : decode b_Ck_settle 56 = .ok (.isub, 1) := by decide +kernel
theorem d_Ck_settle_57 : decode b_Ck_settle 57 = .ok (.putfield 68, 3) := by decide +kernel
theorem d_Ck_settle_60 : decode b_Ck_settle 60 = .ok (.aload_n 0, 1) := by decide +kernel
theorem d_Ck_settle_61 : decode b_Ck_settle 61 = .ok (.getfield 10, 3) := by decide +kernel
theorem d_Ck_settle_64 : decode b_Ck_settle 64 = .ok (.aload_n 0, 1) := by decide +kernel
theorem d_Ck_settle_65 : decode b_Ck_settle 65 = .ok (.getfield 68, 3) := by decide +kernel
theorem d_Ck_settle_68 : decode b_Ck_settle 68 = .ok (.iaload, 1) := by decide +kernel
theorem d_Ck_settle_69 : decode b_Ck_settle 69 = .ok (.istore 4, 2) := by decide +kernel
theorem d_Ck_settle_71 : decode b_Ck_settle 71 = .ok (.iload 4, 2) := by decide +kernel
theorem d_Ck_settle_73 : decode b_Ck_settle 73 = .ok (.istore 5, 2) := by decide +kernel
theorem d_Ck_settle_75 : decode b_Ck_settle 75 = .ok (.aload_n 0, 1) := by decide +kernel
theorem d_Ck_settle_76 : decode b_Ck_settle 76 = .ok (.getfield 24, 3) := by decide +kernel
theorem d_Ck_settle_79 : decode b_Ck_settle 79 = .ok (.getfield 100, 3) := by decide +kernel
theorem d_Ck_settle_82 : decode b_Ck_settle 82 = .ok (.iload_n 3, 1) := by decide +kernel
theorem d_Ck_settle_83 : decode b_Ck_settle 83 = .ok (.iaload, 1) := by decide +kernel
theorem d_Ck_settle_84 : decode b_Ck_settle 84 = .ok (.bipush 27, 2) := by decide +kernel
theorem d_Ck_settle_86 : decode b_Ck_settle 86 = .ok (.if_icmp .ne 21, 3) := by decide +kernel
theorem d_Ck_settle_89 : decode b_Ck_settle 89 = .ok (.aload_n 0, 1) := by decide +kernel
theorem d_Ck_settle_90 : decode b_Ck_settle 90 = .ok (.aload_n 0, 1) := by decide +kernel
theorem d_Ck_settle_91 : decode b_Ck_settle 91 = .ok (.getfield 24, 3) := by decide +kernel
theorem d_Ck_settle_94 : decode b_Ck_settle 94 = .ok (.getfield 119, 3) := by decide +kernel
theorem d_Ck_settle_97 : decode b_Ck_settle 97 = .ok (.iload_n 3, 1) := by decide +kernel
theorem d_Ck_settle_98 : decode b_Ck_settle 98 = .ok (.iaload, 1) := by decide +kernel
theorem d_Ck_settle_99 : decode b_Ck_settle 99 = .ok (.invokevirtual 141, 3) := by decide +kernel
theorem d_Ck_settle_102 : decode b_Ck_settle 102 = .ok (.istore 5, 2) := by decide +kernel
theorem d_Ck_settle_104 : decode b_Ck_settle 104 = .ok (.goto 34, 3) := by decide +kernel
theorem d_Ck_settle_107 : decode b_Ck_settle 107 = .ok (.aload_n 0, 1) := by decide +kernel
theorem d_Ck_settle_108 : decode b_Ck_settle 108 = .ok (.getfield 24, 3) := by decide +kernel
theorem d_Ck_settle_111 : decode b_Ck_settle 111 = .ok (.getfield 100, 3) := by decide +kernel
theorem d_Ck_settle_114 : decode b_Ck_settle 114 = .ok (.iload_n 3, 1) := by decide +kernel
theorem d_Ck_settle_115 : decode b_Ck_settle 115 = .ok (.iaload, 1) := by decide +kernel
theorem d_Ck_settle_116 : decode b_Ck_settle 116 = .ok (.bipush 36, 2) := by decide +kernel
theorem d_Ck_settle_118 : decode b_Ck_settle 118 = .ok (.if_icmp .ne 20, 3) := by decide +kernel
theorem d_Ck_settle_121 : decode b_Ck_settle 121 = .ok (.aload_n 0, 1) := by decide +kernel
theorem d_Ck_settle_122 : decode b_Ck_settle 122 = .ok (.getfield 24, 3) := by decide +kernel
theorem d_Ck_settle_125 : decode b_Ck_settle 125 = .ok (.getfield 144, 3) := by decide +kernel
theorem d_Ck_settle_128 : decode b_Ck_settle 128 = .ok (.iload_n 3, 1) := by decide +kernel
theorem d_Ck_settle_129 : decode b_Ck_settle 129 = .ok (.iconst 1, 1) := by decide +kernel
theorem d_Ck_settle_130 : decode b_Ck_settle 130 = .ok (.isub, 1) := by decide +kernel
theorem d_Ck_settle_131 : decode b_Ck_settle 131 = .ok (.iaload, 1) := by decide +kernel
theorem d_Ck_settle_132 : decode b_Ck_settle 132 = .ok (.istore 5, 2) := by decide +kernel
theorem d_Ck_settle_134 : decode b_Ck_settle 134 = .ok (.iload 5, 2) := by decide +kernel
theorem d_Ck_settle_136 : decode b_Ck_settle 136 = .ok (.istore 4, 2) := by decide +kernel
theorem d_Ck_settle_138 : decode b_Ck_settle 138 = .ok (.aload_n 0, 1) := by decide +kernel
theorem d_Ck_settle_139 : decode b_Ck_settle 139 = .ok (.getfield 24, 3) := by decide +kernel
theorem d_Ck_settle_142 : decode b_Ck_settle 142 = .ok (.getfield 144, 3) := by decide +kernel
theorem d_Ck_settle_145 : decode b_Ck_settle 145 = .ok (.iload_n 3, 1) := by decide +kernel
theorem d_Ck_settle_146 : decode b_Ck_settle 146 = .ok (.iload 4, 2) := by decide +kernel
theorem d_Ck_settle_148 : decode b_Ck_settle 148 = .ok (.iastore, 1) := by decide +kernel
theorem d_Ck_settle_149 : decode b_Ck_settle 149 = .ok (.iconst 0, 1) := by decide +kernel
theorem d_Ck_settle_150 : decode b_Ck_settle 150 = .ok (.istore 6, 2) := by decide +kernel
theorem d_Ck_settle_152 : decode b_Ck_settle 152 = .ok (.iload 6, 2) := by decide +kernel
theorem d_Ck_settle_154 : decode b_Ck_settle 154 = .ok (.aload_n 0, 1) := by decide +kernel
theorem d_Ck_settle_155 : decode b_Ck_settle 155 = .ok (.getfield 24, 3) := by decide +kernel
theorem d_Ck_settle_158 : decode b_Ck_settle 158 = .ok (.getfield 103, 3) := by decide +kernel
theorem d_Ck_settle_161 : decode b_Ck_settle 161 = .ok (.iload_n 3, 1) := by decide +kernel
theorem d_Ck_settle_162 : decode b_Ck_settle 162 = .ok (.iaload, 1) := by decide +kernel
theorem d_Ck_settle_163 : decode b_Ck_settle 163 = .ok (.if_icmp .ge 30, 3) := by decide +kernel
theorem d_Ck_settle_166 : decode b_Ck_settle 166 = .ok (.aload_n 0, 1) := by decide +kernel
theorem d_Ck_settle_167 : decode b_Ck_settle 167 = .ok (.getfield 10, 3) := by decide +kernel
theorem d_Ck_settle_170 : decode b_Ck_settle 170 = .ok (.aload_n 0, 1) := by decide +kernel
theorem d_Ck_settle_171 : decode b_Ck_settle 171 = .ok (.getfield 68, 3) := by decide +kernel
theorem d_Ck_settle_174 : decode b_Ck_settle 174 = .ok (.iload 5, 2) := by decide +kernel
theorem d_Ck_settle_176 : decode b_Ck_settle 176 = .ok (.iastore, 1) := by decide +kernel
theorem d_Ck_settle_177 : decode b_Ck_settle 177 = .ok (.aload_n 0, 1) := by decide +kernel
theorem d_Ck_settle_178 : decode b_Ck_settle 178 = .ok (.dup, 1) := by decide +kernel
theorem d_Ck_settle_179 : decode b_Ck_settle 179 = .ok (.getfield 68, 3) := by decide +kernel
theorem d_Ck_settle_182 : decode b_Ck_settle 182 = .ok (.iconst 1, 1) := by decide +kernel
theorem d_Ck_settle_183 : decode b_Ck_settle 183 = .ok (.iadd, 1) := by decide +kernel
theorem d_Ck_settle_184 : decode b_Ck_settle 184 = .ok (.putfield 68, 3) := by decide +kernel
theorem d_Ck_settle_187 : decode b_Ck_settle 187 = .ok (.iinc 6 1, 3) := by decide +kernel
theorem d_Ck_settle_190 : decode b_Ck_settle 190 = .ok (.goto (-38), 3) := by decide +kernel
theorem d_Ck_settle_193 : decode b_Ck_settle 193 = .ok (.iinc 3 (-1), 3) := by decide +kernel
theorem d_Ck_settle_196 : decode b_Ck_settle 196 = .ok (.goto (-159), 3) := by decide +kernel
theorem d_Ck_settle_199 : decode b_Ck_settle 199 = .ok (.return_, 1) := by decide +kernel
abbrev mt_Ck_settle : MT := (R_Ck, b_Ck_settle, 7, none)
theorem vf_Ck_settle : VF y_Ck_settle mt_Ck_settle 1 2 := ⟨im_Ck_settle, se_Ck_settle, in_Ck, co_Ck_settle, by decide +kernel, _, _, rfl⟩
def f_Ck_settle_b193 (k37 : St → Int → Int → Option (Int × St)) (γ : St) (x1 : Int) (x2 : Int) : Option (Int × St) :=
  chk (i32 (x2 + (-1))) (k37 γ x1 (x2 + (-1)))
def f_Ck_settle_L152 (e193 : St → Int → Int → Option (Int × St)) : Nat → St → Int → Int → Int → Int → Option (Int × St)
  | 0, _, _, _, _, _ => none
  | n + 1, γ, x6, x7, x8, x9 =>
  chk (inb x7 65537) (if (γ 40 x7) ≤ x9 then
  (e193 γ x6 x7)
  else
  (chk (inb (γ 7 4) 32769) (ap (setA γ 53 (γ 7 4) x8) fun γ15 =>
  chk (i32 ((γ15 7 4) + 1)) (ap (setA γ15 7 4 ((γ15 7 4) + 1)) fun γ18 =>
  chk (i32 (x9 + 1)) ((f_Ck_settle_L152 e193 n) γ18 x6 x7 x8 (x9 + 1))))))
def f_Ck_settle_b138 (k37 : St → Int → Int → Option (Int × St)) (γ : St) (x22 : Int) (x23 : Int) (x24 : Int) (x25 : Int) : Option (Int × St) :=
  chk (inb x23 65537) (ap (setA γ 41 x23 x24) fun γ28 =>
  f_Ck_settle_L152 (f_Ck_settle_b193 k37) FU γ28 x22 x23 x25 0)
def f_Ck_settle_L37 : Nat → St → Int → Int → Option (Int × St)
  | 0, _, _, _ => none
  | n + 1, γ, x31, x32 =>
  chk (inb x31 16385) (if x32 < (γ 43 x31) then
  (some (0, γ))
  else
  (chk (i32 ((γ 7 4) - 1)) (ap (setA γ 7 4 ((γ 7 4) - 1)) fun γ38 =>
  chk (inb (γ38 7 4) 32769) (ap (γ38 53 (γ38 7 4)) fun x42 =>
  chk (inb x32 65537) (if (γ38 38 x32) ≠ 27 then
  (chk (inb x32 65537) (if (γ38 38 x32) ≠ 36 then
  (f_Ck_settle_b138 (f_Ck_settle_L37 n) γ38 x31 x32 x42 x42)
  else
  (chk (i32 (x32 - 1)) (chk (inb (x32 - 1) 65537) (ap (γ38 41 (x32 - 1)) fun x53 =>
  f_Ck_settle_b138 (f_Ck_settle_L37 n) γ38 x31 x32 x53 x53)))))
  else
  (chk (inb x32 65537) (bndN (f_Ck_clockOfC γ38 (γ38 39 x32)) fun r57 γ58 =>
  f_Ck_settle_b138 (f_Ck_settle_L37 n) γ58 x31 x32 x42 r57)))))))
def f_Ck_settle (γ : St) (a0 : Int) (a1 : Int) : Option (Int × St) :=
  ap (setA γ 7 4 0) fun γ59 =>
  chk (inb (γ59 7 4) 32769) (ap (setA γ59 53 (γ59 7 4) a1) fun γ62 =>
  chk (i32 ((γ62 7 4) + 1)) (ap (setA γ62 7 4 ((γ62 7 4) + 1)) fun γ65 =>
  chk (inb a0 16385) (chk (i32 ((γ65 44 a0) - 1)) (ap ((γ65 44 a0) - 1) fun x70 =>
  f_Ck_settle_L37  FU γ65 a0 x70))))
set_option maxHeartbeats 4000000 in
theorem s_Ck_settle_b193 {Γ : Ctx} {k37 : St → Int → Int → Option (Int × St)} (hk37 : ∀ (γ : St) (x4 : Int) (x5 : Int), i32 x4 → i32 x5 → SB Γ BS mt_Ck_settle (RmN 7 261) 0 0 (KN Γ BS mt_Ck_settle.2.2.2) 37 [(0, vR Γ 7), (1, vI x4), (3, vI x5)] [] γ (k37 γ x4 x5)) : ∀ (γ : St) (x1 : Int) (x2 : Int), i32 x1 → i32 x2 → SB Γ BS mt_Ck_settle (RmN 7 261) 0 0 (KN Γ BS mt_Ck_settle.2.2.2) 193 [(0, vR Γ 7), (1, vI x1), (3, vI x2)] [] γ (f_Ck_settle_b193 k37 γ x1 x2) := by
  intro γ x1 x2 hx1 hx2
  unfold f_Ck_settle_b193
  refine sb_iinc 2 [(3, vI (x2 + (-1))), (0, vR Γ 7), (1, vI x1)] d_Ck_settle_193 rfl (by decide) rfl ?_
  refine sb_chk (fun c3 => ?_)
  refine sb_goto 37 d_Ck_settle_196 (by decide) ?_
  exact sb_lv [1, 2, 0] rfl (hk37 γ x1 (x2 + (-1)) hx1 c3)
set_option maxHeartbeats 4000000 in
theorem s_Ck_settle_L152 {Γ : Ctx} {e193 : St → Int → Int → Option (Int × St)} (he193 : ∀ (γ : St) (x20 : Int) (x21 : Int), i32 x20 → i32 x21 → SB Γ BS mt_Ck_settle (RmN 7 261) 0 0 (KN Γ BS mt_Ck_settle.2.2.2) 193 [(0, vR Γ 7), (1, vI x20), (3, vI x21)] [] γ (e193 γ x20 x21)) : ∀ (n : Nat) (γ : St) (x6 : Int) (x7 : Int) (x8 : Int) (x9 : Int), i32 x6 → i32 x7 → i32 x8 → i32 x9 → SB Γ BS mt_Ck_settle (RmN 7 261) 0 0 (KN Γ BS mt_Ck_settle.2.2.2) 152 [(0, vR Γ 7), (1, vI x6), (3, vI x7), (5, vI x8), (6, vI x9)] [] γ (f_Ck_settle_L152 e193 n γ x6 x7 x8 x9) := by
  intro n
  induction n with
  | zero => intros; exact sb_none
  | succ n ih =>
    intro γ x6 x7 x8 x9 hx6 hx7 hx8 hx9
    unfold f_Ck_settle_L152
    refine sb_iload 4 d_Ck_settle_152 rfl ?_
    refine sb_aload_n 0 d_Ck_settle_154 rfl ?_
    refine g_Ck_24 d_Ck_settle_155 ?_
    refine g_Ck_103 d_Ck_settle_158 ?_
    refine sb_iload_n 2 d_Ck_settle_161 rfl ?_
    refine al_S_40 d_Ck_settle_162 (fun _ c12 => ?_)
    refine sb_icmp_ge 193 hx9 c12 d_Ck_settle_163 (by decide) (fun _ => ?_) (fun _ => ?_)
    · exact sb_lv [0, 1, 2] rfl (he193 γ x6 x7 hx6 hx7)
    · refine sb_aload_n 0 d_Ck_settle_166 rfl ?_
      refine g_Ck_10 d_Ck_settle_167 ?_
      refine sb_aload_n 0 d_Ck_settle_170 rfl ?_
      refine g_Ck_68 d_Ck_settle_171 (fun c14 => ?_)
      refine sb_iload 3 d_Ck_settle_174 rfl ?_
      refine as_S_53 hx8 d_Ck_settle_176 (fun _ => ?_)
      refine sb_aps (fun γ15 => ?_)
      refine sb_aload_n 0 d_Ck_settle_177 rfl ?_
      refine sb_dup d_Ck_settle_178 rfl ?_
      refine g_Ck_68 d_Ck_settle_179 (fun c16 => ?_)
      refine sb_iconst d_Ck_settle_182 ?_
      refine sb_iadd d_Ck_settle_183 ?_
      refine sb_chk (fun c17 => ?_)
      refine p_Ck_68 c17 d_Ck_settle_184 ?_
      refine sb_aps (fun γ18 => ?_)
      refine sb_iinc 4 [(6, vI (x9 + 1)), (0, vR Γ 7), (1, vI x6), (3, vI x7), (5, vI x8)] d_Ck_settle_187 rfl (by decide) rfl ?_
      refine sb_chk (fun c19 => ?_)
      refine sb_goto 152 d_Ck_settle_190 (by decide) ?_
      exact sb_lv [1, 2, 3, 4, 0] rfl (ih γ18 x6 x7 x8 (x9 + 1) hx6 hx7 hx8 c19)
set_option maxHeartbeats 4000000 in
theorem s_Ck_settle_b138 {Γ : Ctx} {k37 : St → Int → Int → Option (Int × St)} (hk37 : ∀ (γ : St) (x29 : Int) (x30 : Int), i32 x29 → i32 x30 → SB Γ BS mt_Ck_settle (RmN 7 261) 0 0 (KN Γ BS mt_Ck_settle.2.2.2) 37 [(0, vR Γ 7), (1, vI x29), (3, vI x30)] [] γ (k37 γ x29 x30)) : ∀ (γ : St) (x22 : Int) (x23 : Int) (x24 : Int) (x25 : Int), i32 x22 → i32 x23 → i32 x24 → i32 x25 → SB Γ BS mt_Ck_settle (RmN 7 261) 0 0 (KN Γ BS mt_Ck_settle.2.2.2) 138 [(0, vR Γ 7), (1, vI x22), (3, vI x23), (4, vI x24), (5, vI x25)] [] γ (f_Ck_settle_b138 k37 γ x22 x23 x24 x25) := by
  intro γ x22 x23 x24 x25 hx22 hx23 hx24 hx25
  unfold f_Ck_settle_b138
  refine sb_aload_n 0 d_Ck_settle_138 rfl ?_
  refine g_Ck_24 d_Ck_settle_139 ?_
  refine g_Ck_144 d_Ck_settle_142 ?_
  refine sb_iload_n 2 d_Ck_settle_145 rfl ?_
  refine sb_iload 3 d_Ck_settle_146 rfl ?_
  refine as_S_41 hx24 d_Ck_settle_148 (fun _ => ?_)
  refine sb_aps (fun γ28 => ?_)
  refine sb_iconst d_Ck_settle_149 ?_
  refine sb_istore [(6, vI 0), (0, vR Γ 7), (1, vI x22), (3, vI x23), (4, vI x24), (5, vI x25)] d_Ck_settle_150 (by decide) rfl ?_
  exact sb_lv [1, 2, 3, 5, 0] rfl (s_Ck_settle_L152 (s_Ck_settle_b193 hk37) FU γ28 x22 x23 x25 0 hx22 hx23 hx25 (by decide))
set_option maxHeartbeats 4000000 in
theorem s_Ck_settle_L37 {Γ : Ctx} : ∀ (n : Nat) (γ : St) (x31 : Int) (x32 : Int), i32 x31 → i32 x32 → SB Γ BS mt_Ck_settle (RmN 7 261) 0 0 (KN Γ BS mt_Ck_settle.2.2.2) 37 [(0, vR Γ 7), (1, vI x31), (3, vI x32)] [] γ (f_Ck_settle_L37 n γ x31 x32) := by
  intro n
  induction n with
  | zero => intros; exact sb_none
  | succ n ih =>
    intro γ x31 x32 hx31 hx32
    unfold f_Ck_settle_L37
    refine sb_iload_n 2 d_Ck_settle_37 rfl ?_
    refine sb_aload_n 0 d_Ck_settle_38 rfl ?_
    refine g_Ck_24 d_Ck_settle_39 ?_
    refine g_Ck_74 d_Ck_settle_42 ?_
    refine sb_iload_n 1 d_Ck_settle_45 rfl ?_
    refine al_S_43 d_Ck_settle_46 (fun _ c35 => ?_)
    refine sb_icmp_lt 199 hx32 c35 d_Ck_settle_47 (by decide) (fun _ => ?_) (fun _ => ?_)
    · exact sn_v rfl d_Ck_settle_199
    · refine sb_aload_n 0 d_Ck_settle_50 rfl ?_
      refine sb_dup d_Ck_settle_51 rfl ?_
      refine g_Ck_68 d_Ck_settle_52 (fun c36 => ?_)
      refine sb_iconst d_Ck_settle_55 ?_
      refine sb_isub d_Ck_settle_56 ?_
      refine sb_chk (fun c37 => ?_)
      refine p_Ck_68 c37 d_Ck_settle_57 ?_
      refine sb_aps (fun γ38 => ?_)
      refine sb_aload_n 0 d_Ck_settle_60 rfl ?_
      refine g_Ck_10 d_Ck_settle_61 ?_
      refine sb_aload_n 0 d_Ck_settle_64 rfl ?_
      refine g_Ck_68 d_Ck_settle_65 (fun c40 => ?_)
      refine al_S_53 d_Ck_settle_68 (fun _ c41 => ?_)
      refine sb_istore [(4, vI (γ38 53 (γ38 7 4))), (0, vR Γ 7), (1, vI x31), (3, vI x32)] d_Ck_settle_69 (by decide) rfl ?_
      refine sb_nme (e := γ38 53 (γ38 7 4)) (fun x42 => [(4, vI x42), (0, vR Γ 7), (1, vI x31), (3, vI x32)]) c41 (fun x42 hx42 => ?_)
      refine sb_iload 0 d_Ck_settle_71 rfl ?_
      refine sb_istore [(5, vI x42), (4, vI x42), (0, vR Γ 7), (1, vI x31), (3, vI x32)] d_Ck_settle_73 (by decide) rfl ?_
      refine sb_aload_n 2 d_Ck_settle_75 rfl ?_
      refine g_Ck_24 d_Ck_settle_76 ?_
      refine g_Ck_100 d_Ck_settle_79 ?_
      refine sb_iload_n 4 d_Ck_settle_82 rfl ?_
      refine al_S_38 d_Ck_settle_83 (fun _ c45 => ?_)
      refine sb_bipush d_Ck_settle_84 (by decide) ?_
      refine sb_icmp_ne 107 c45 (by decide) d_Ck_settle_86 (by decide) (fun _ => ?_) (fun _ => ?_)
      · refine sb_aload_n 2 d_Ck_settle_107 rfl ?_
        refine g_Ck_24 d_Ck_settle_108 ?_
        refine g_Ck_100 d_Ck_settle_111 ?_
        refine sb_iload_n 4 d_Ck_settle_114 rfl ?_
        refine al_S_38 d_Ck_settle_115 (fun _ c48 => ?_)
        refine sb_bipush d_Ck_settle_116 (by decide) ?_
        refine sb_icmp_ne 138 c48 (by decide) d_Ck_settle_118 (by decide) (fun _ => ?_) (fun _ => ?_)
        · exact sb_lv [2, 3, 4, 1, 0] rfl (s_Ck_settle_b138 ih γ38 x31 x32 x42 x42 hx31 hx32 hx42 hx42)
        · refine sb_aload_n 2 d_Ck_settle_121 rfl ?_
          refine g_Ck_24 d_Ck_settle_122 ?_
          refine g_Ck_144 d_Ck_settle_125 ?_
          refine sb_iload_n 4 d_Ck_settle_128 rfl ?_
          refine sb_iconst d_Ck_settle_129 ?_
          refine sb_isub d_Ck_settle_130 ?_
          refine sb_chk (fun c51 => ?_)
          refine al_S_41 d_Ck_settle_131 (fun _ c52 => ?_)
          refine sb_istore [(5, vI (γ38 41 (x32 - 1))), (4, vI x42), (0, vR Γ 7), (1, vI x31), (3, vI x32)] d_Ck_settle_132 (by decide) rfl ?_
          refine sb_nme (e := γ38 41 (x32 - 1)) (fun x53 => [(5, vI x53), (4, vI x42), (0, vR Γ 7), (1, vI x31), (3, vI x32)]) c52 (fun x53 hx53 => ?_)
          refine sb_iload 0 d_Ck_settle_134 rfl ?_
          refine sb_istore [(4, vI x53), (5, vI x53), (0, vR Γ 7), (1, vI x31), (3, vI x32)] d_Ck_settle_136 (by decide) rfl ?_
          exact sb_lv [2, 3, 4, 0, 1] rfl (s_Ck_settle_b138 ih γ38 x31 x32 x53 x53 hx31 hx32 hx53 hx53)
      · refine sb_aload_n 2 d_Ck_settle_89 rfl ?_
        refine sb_aload_n 2 d_Ck_settle_90 rfl ?_
        refine g_Ck_24 d_Ck_settle_91 ?_
        refine g_Ck_119 d_Ck_settle_94 ?_
        refine sb_iload_n 4 d_Ck_settle_97 rfl ?_
        refine al_S_39 d_Ck_settle_98 (fun _ c56 => ?_)
        refine sb_cVi vf_Ck_clockOfC (c_Ck_clockOfC γ38 (γ38 39 x32) c56) rfl ml_Ck_141 (As := [vI (γ38 39 x32)]) rfl rfl (Nat.le_of_ble_eq_true rfl) ⟨by decide, by decide⟩ d_Ck_settle_99 (fun r57 γ58 hr57 => ?_)
        refine sb_istore [(5, vI r57), (4, vI x42), (0, vR Γ 7), (1, vI x31), (3, vI x32)] d_Ck_settle_102 (by decide) rfl ?_
        refine sb_goto 138 d_Ck_settle_104 (by decide) ?_
        exact sb_lv [2, 3, 4, 1, 0] rfl (s_Ck_settle_b138 ih γ58 x31 x32 x42 r57 hx31 hx32 hx42 hr57)
set_option maxHeartbeats 4000000 in
theorem c_Ck_settle {Γ : Ctx} (γ : St) (a0 : Int) (a1 : Int) (ha0 : i32 a0) (ha1 : i32 a1) : NC Γ BS y_Ck_settle mt_Ck_settle 7 261 [vR Γ 7, vI a0, vI a1] γ (f_Ck_settle γ a0 a1) := by
  refine nc_of (by decide) rfl (Nat.le_of_ble_eq_true rfl) ?_
  show SB Γ BS mt_Ck_settle (RmN 7 261) 0 0 (KN Γ BS mt_Ck_settle.2.2.2) 0 [(0, vR Γ 7), (1, vI a0), (2, vI a1)] [] γ _
  unfold f_Ck_settle
  refine sb_aload_n 0 d_Ck_settle_0 rfl ?_
  refine sb_iconst d_Ck_settle_1 ?_
  refine p_Ck_68 (by decide) d_Ck_settle_2 ?_
  refine sb_aps (fun γ59 => ?_)
  refine sb_aload_n 0 d_Ck_settle_5 rfl ?_
  refine g_Ck_10 d_Ck_settle_6 ?_
  refine sb_aload_n 0 d_Ck_settle_9 rfl ?_
  refine g_Ck_68 d_Ck_settle_10 (fun c61 => ?_)
  refine sb_iload_n 2 d_Ck_settle_13 rfl ?_
  refine as_S_53 ha1 d_Ck_settle_14 (fun _ => ?_)
  refine sb_aps (fun γ62 => ?_)
  refine sb_aload_n 0 d_Ck_settle_15 rfl ?_
  refine sb_dup d_Ck_settle_16 rfl ?_
  refine g_Ck_68 d_Ck_settle_17 (fun c63 => ?_)
  refine sb_iconst d_Ck_settle_20 ?_
  refine sb_iadd d_Ck_settle_21 ?_
  refine sb_chk (fun c64 => ?_)
  refine p_Ck_68 c64 d_Ck_settle_22 ?_
  refine sb_aps (fun γ65 => ?_)
  refine sb_aload_n 0 d_Ck_settle_25 rfl ?_
  refine g_Ck_24 d_Ck_settle_26 ?_
  refine g_Ck_71 d_Ck_settle_29 ?_
  refine sb_iload_n 1 d_Ck_settle_32 rfl ?_
  refine al_S_44 d_Ck_settle_33 (fun _ c68 => ?_)
  refine sb_iconst d_Ck_settle_34 ?_
  refine sb_isub d_Ck_settle_35 ?_
  refine sb_chk (fun c69 => ?_)
  refine sb_istore_n [(3, vI ((γ65 44 a0) - 1)), (0, vR Γ 7), (1, vI a0), (2, vI a1)] d_Ck_settle_36 (by decide) rfl ?_
  refine sb_nme (e := (γ65 44 a0) - 1) (fun x70 => [(3, vI x70), (0, vR Γ 7), (1, vI a0), (2, vI a1)]) c69 (fun x70 hx70 => ?_)
  exact sb_lv [1, 2, 0] rfl (s_Ck_settle_L37  FU γ65 a0 x70 ha0 hx70)
theorem d_Ck_clocksFit_0 : decode b_Ck_clocksFit 0 = .ok (.aload_n 0, 1) := by decide +kernel
theorem d_Ck_clocksFit_1 : decode b_Ck_clocksFit 1 = .ok (.iconst 0, 1) := by decide +kernel
theorem d_Ck_clocksFit_2 : decode b_Ck_clocksFit 2 = .ok (.putfield 68, 3) := by decide +kernel
theorem d_Ck_clocksFit_5 : decode b_Ck_clocksFit 5 = .ok (.iconst 1, 1) := by decide +kernel
theorem d_Ck_clocksFit_6 : decode b_Ck_clocksFit 6 = .ok (.istore_n 2, 1) := by decide +kernel
theorem d_Ck_clocksFit_7 : decode b_Ck_clocksFit 7 = .ok (.aload_n 0, 1) := by decide +kernel
theorem d_Ck_clocksFit_8 : decode b_Ck_clocksFit 8 = .ok (.getfield 24, 3) := by decide +kernel
theorem d_Ck_clocksFit_11 : decode b_Ck_clocksFit 11 = .ok (.getfield 74, 3) := by decide +kernel
theorem d_Ck_clocksFit_14 : decode b_Ck_clocksFit 14 = .ok (.iload_n 1, 1) := by decide +kernel
theorem d_Ck_clocksFit_15 : decode b_Ck_clocksFit 15 = .ok (.iaload, 1) := by decide +kernel
theorem d_Ck_clocksFit_16 : decode b_Ck_clocksFit 16 = .ok (.istore_n 3, 1) := by decide +kernel
theorem d_Ck_clocksFit_17 : decode b_Ck_clocksFit 17 = .ok (.iload_n 2, 1) := by decide +kernel
theorem d_Ck_clocksFit_18 : decode b_Ck_clocksFit 18 = .ok (.ifCond .eq 28, 3) := by decide +kernel
theorem d_Ck_clocksFit_21 : decode b_Ck_clocksFit 21 = .ok (.iload_n 3, 1) := by decide +kernel
theorem d_Ck_clocksFit_22 : decode b_Ck_clocksFit 22 = .ok (.aload_n 0, 1) := by decide +kernel
theorem d_Ck_clocksFit_23 : decode b_Ck_clocksFit 23 = .ok (.getfield 24, 3) := by decide +kernel
theorem d_Ck_clocksFit_26 : decode b_Ck_clocksFit 26 = .ok (.getfield 71, 3) := by decide +kernel
theorem d_Ck_clocksFit_29 : decode b_Ck_clocksFit 29 = .ok (.iload_n 1, 1) := by decide +kernel
theorem d_Ck_clocksFit_30 : decode b_Ck_clocksFit 30 = .ok (.iaload, 1) := by decide +kernel
theorem d_Ck_clocksFit_31 : decode b_Ck_clocksFit 31 = .ok (.if_icmp .ge 15, 3) := by decide +kernel
theorem d_Ck_clocksFit_34 : decode b_Ck_clocksFit 34 = .ok (.aload_n 0, 1) := by decide +kernel
theorem d_Ck_clocksFit_35 : decode b_Ck_clocksFit 35 = .ok (.iload_n 3, 1) := by decide +kernel
theorem d_Ck_clocksFit_36 : decode b_Ck_clocksFit 36 = .ok (.invokevirtual 128, 3) := by decide +kernel
theorem d_Ck_clocksFit_39 : decode b_Ck_clocksFit 39 = .ok (.istore_n 2, 1) := by decide +kernel
theorem d_Ck_clocksFit_40 : decode b_Ck_clocksFit 40 = .ok (.iinc 3 1, 3) := by decide +kernel
theorem d_Ck_clocksFit_43 : decode b_Ck_clocksFit 43 = .ok (.goto (-26), 3) := by decide +kernel
theorem d_Ck_clocksFit_46 : decode b_Ck_clocksFit 46 = .ok (.aload_n 0, 1) := by decide +kernel
theorem d_Ck_clocksFit_47 : decode b_Ck_clocksFit 47 = .ok (.getfield 24, 3) := by decide +kernel
theorem d_Ck_clocksFit_50 : decode b_Ck_clocksFit 50 = .ok (.getfield 87, 3) := by decide +kernel
theorem d_Ck_clocksFit_53 : decode b_Ck_clocksFit 53 = .ok (.iload_n 1, 1) := by decide +kernel
theorem d_Ck_clocksFit_54 : decode b_Ck_clocksFit 54 = .ok (.iaload, 1) := by decide +kernel
theorem d_Ck_clocksFit_55 : decode b_Ck_clocksFit 55 = .ok (.istore_n 3, 1) := by decide +kernel
theorem d_Ck_clocksFit_56 : decode b_Ck_clocksFit 56 = .ok (.aload_n 0, 1) := by decide +kernel
theorem d_Ck_clocksFit_57 : decode b_Ck_clocksFit 57 = .ok (.getfield 20, 3) := by decide +kernel
theorem d_Ck_clocksFit_60 : decode b_Ck_clocksFit 60 = .ok (.getfield 131, 3) := by decide +kernel
theorem d_Ck_clocksFit_63 : decode b_Ck_clocksFit 63 = .ok (.aload_n 0, 1) := by decide +kernel
theorem d_Ck_clocksFit_64 : decode b_Ck_clocksFit 64 = .ok (.getfield 37, 3) := by decide +kernel
theorem d_Ck_clocksFit_67 : decode b_Ck_clocksFit 67 = .ok (.aload_n 0, 1) := by decide +kernel
theorem d_Ck_clocksFit_68 : decode b_Ck_clocksFit 68 = .ok (.getfield 24, 3) := by decide +kernel
theorem d_Ck_clocksFit_71 : decode b_Ck_clocksFit 71 = .ok (.getfield 84, 3) := by decide +kernel
theorem d_Ck_clocksFit_74 : decode b_Ck_clocksFit 74 = .ok (.iload_n 3, 1) := by decide +kernel
theorem d_Ck_clocksFit_75 : decode b_Ck_clocksFit 75 = .ok (.iaload, 1) := by decide +kernel
theorem d_Ck_clocksFit_76 : decode b_Ck_clocksFit 76 = .ok (.iadd, 1) := by decide +kernel
theorem d_Ck_clocksFit_77 : decode b_Ck_clocksFit 77 = .ok (.iaload, 1) := by decide +kernel
theorem d_Ck_clocksFit_78 : decode b_Ck_clocksFit 78 = .ok (.istore 4, 2) := by decide +kernel
theorem d_Ck_clocksFit_80 : decode b_Ck_clocksFit 80 = .ok (.iconst 1, 1) := by decide +kernel
theorem d_Ck_clocksFit_81 : decode b_Ck_clocksFit 81 = .ok (.istore 5, 2) := by decide +kernel
theorem d_Ck_clocksFit_83 : decode b_Ck_clocksFit 83 = .ok (.iload 5, 2) := by decide +kernel
theorem d_Ck_clocksFit_85 : decode b_Ck_clocksFit 85 = .ok (.aload_n 0, 1) := by decide +kernel
theorem d_Ck_clocksFit_86 : decode b_Ck_clocksFit 86 = .ok (.getfield 24, 3) := by decide +kernel
theorem d_Ck_clocksFit_89 : decode b_Ck_clocksFit 89 = .ok (.getfield 77, 3) := by decide +kernel
theorem d_Ck_clocksFit_92 : decode b_Ck_clocksFit 92 = .ok (.iload_n 1, 1) := by decide +kernel
theorem d_Ck_clocksFit_93 : decode b_Ck_clocksFit 93 = .ok (.iaload, 1) := by decide +kernel
theorem d_Ck_clocksFit_94 : decode b_Ck_clocksFit 94 = .ok (.if_icmp .ge 49, 3) := by decide +kernel
theorem d_Ck_clocksFit_97 : decode b_Ck_clocksFit 97 = .ok (.iload_n 2, 1) := by decide +kernel
theorem d_Ck_clocksFit_98 : decode b_Ck_clocksFit 98 = .ok (.ifCond .eq 37, 3) := by decide +kernel
theorem d_Ck_clocksFit_101 : decode b_Ck_clocksFit 101 = .ok (.aload_n 0, 1) := by decide +kernel
theorem d_Ck_clocksFit_102 : decode b_Ck_clocksFit 102 = .ok (.getfield 20, 3) := by decide +kernel
theorem d_Ck_clocksFit_105 : decode b_Ck_clocksFit 105 = .ok (.getfield 131, 3) := by decide +kernel
theorem d_Ck_clocksFit_108 : decode b_Ck_clocksFit 108 = .ok (.aload_n 0, 1) := by decide +kernel
theorem d_Ck_clocksFit_109 : decode b_Ck_clocksFit 109 = .ok (.getfield 37, 3) := by decide +kernel
theorem d_Ck_clocksFit_112 : decode b_Ck_clocksFit 112 = .ok (.aload_n 0, 1) := by decide +kernel
theorem d_Ck_clocksFit_113 : decode b_Ck_clocksFit 113 = .ok (.getfield 24, 3) := by decide +kernel
theorem d_Ck_clocksFit_116 : decode b_Ck_clocksFit 116 = .ok (.getfield 84, 3) := by decide +kernel
theorem d_Ck_clocksFit_119 : decode b_Ck_clocksFit 119 = .ok (.iload_n 3, 1) := by decide +kernel
theorem d_Ck_clocksFit_120 : decode b_Ck_clocksFit 120 = .ok (.iload 5, 2) := by decide +kernel
theorem d_Ck_clocksFit_122 : decode b_Ck_clocksFit 122 = .ok (.iadd, 1) := by decide +kernel
theorem d_Ck_clocksFit_123 : decode b_Ck_clocksFit 123 = .ok (.iaload, 1) := by decide +kernel
theorem d_Ck_clocksFit_124 : decode b_Ck_clocksFit 124 = .ok (.iadd, 1) := by decide +kernel
theorem d_Ck_clocksFit_125 : decode b_Ck_clocksFit 125 = .ok (.iaload, 1) := by decide +kernel
theorem d_Ck_clocksFit_126 : decode b_Ck_clocksFit 126 = .ok (.iload 4, 2) := by decide +kernel
theorem d_Ck_clocksFit_128 : decode b_Ck_clocksFit 128 = .ok (.if_icmp .ne 7, 3) := by decide +kernel
theorem d_Ck_clocksFit_131 : decode b_Ck_clocksFit 131 = .ok (.iconst 1, 1) := by decide +kernel
theorem d_Ck_clocksFit_132 : decode b_Ck_clocksFit 132 = .ok (.goto 4, 3) := by decide +kernel
theorem d_Ck_clocksFit_135 : decode b_Ck_clocksFit 135 = .ok (.iconst 0, 1) := by decide +kernel
theorem d_Ck_clocksFit_136 : decode b_Ck_clocksFit 136 = .ok (.istore_n 2, 1) := by decide +kernel
theorem d_Ck_clocksFit_137 : decode b_Ck_clocksFit 137 = .ok (.iinc 5 1, 3) := by decide +kernel
theorem d_Ck_clocksFit_140 : decode b_Ck_clocksFit 140 = .ok (.goto (-57), 3) := by decide +kernel
theorem d_Ck_clocksFit_143 : decode b_Ck_clocksFit 143 = .ok (.iload_n 2, 1) := by decide +kernel
theorem d_Ck_clocksFit_144 : decode b_Ck_clocksFit 144 = .ok (.ifCond .eq 25, 3) := by decide +kernel
theorem d_Ck_clocksFit_147 : decode b_Ck_clocksFit 147 = .ok (.aload_n 0, 1) := by decide +kernel
theorem d_Ck_clocksFit_148 : decode b_Ck_clocksFit 148 = .ok (.getfield 10, 3) := by decide +kernel
theorem d_Ck_clocksFit_151 : decode b_Ck_clocksFit 151 = .ok (.iconst 0, 1) := by decide +kernel
theorem d_Ck_clocksFit_152 : decode b_Ck_clocksFit 152 = .ok (.iaload, 1) := by decide +kernel
theorem d_Ck_clocksFit_153 : decode b_Ck_clocksFit 153 = .ok (.bipush (-2), 2) := by decide +kernel
theorem d_Ck_clocksFit_155 : decode b_Ck_clocksFit 155 = .ok (.if_icmp .eq 33, 3) := by decide +kernel
theorem d_Ck_clocksFit_158 : decode b_Ck_clocksFit 158 = .ok (.aload_n 0, 1) := by decide +kernel
theorem d_Ck_clocksFit_159 : decode b_Ck_clocksFit 159 = .ok (.getfield 10, 3) := by decide +kernel
theorem d_Ck_clocksFit_162 : decode b_Ck_clocksFit 162 = .ok (.iconst 0, 1) := by decide +kernel
theorem d_Ck_clocksFit_163 : decode b_Ck_clocksFit 163 = .ok (.iaload, 1) := by decide +kernel
theorem d_Ck_clocksFit_164 : decode b_Ck_clocksFit 164 = .ok (.iload 4, 2) := by decide +kernel
theorem d_Ck_clocksFit_166 : decode b_Ck_clocksFit 166 = .ok (.if_icmp .eq 22, 3) := by decide +kernel
theorem d_Ck_clocksFit_169 : decode b_Ck_clocksFit 169 = .ok (.aload_n 0, 1) := by decide +kernel
theorem d_Ck_clocksFit_170 : decode b_Ck_clocksFit 170 = .ok (.getfield 16, 3) := by decide +kernel
theorem d_Ck_clocksFit_173 : decode b_Ck_clocksFit 173 = .ok (.bipush 6, 2) := by decide +kernel
theorem d_Ck_clocksFit_175 : decode b_Ck_clocksFit 175 = .ok (.aload_n 0, 1) := by decide +kernel
theorem d_Ck_clocksFit_176 : decode b_Ck_clocksFit 176 = .ok (.getfield 24, 3) := by decide +kernel
theorem d_Ck_clocksFit_179 : decode b_Ck_clocksFit 179 = .ok (.getfield 93, 3) := by decide +kernel
theorem d_Ck_clocksFit_182 : decode b_Ck_clocksFit 182 = .ok (.iload_n 1, 1) := by decide +kernel
theorem d_Ck_clocksFit_183 : decode b_Ck_clocksFit 183 = .ok (.iaload, 1) := by decide +kernel
theorem d_Ck_clocksFit_184 : decode b_Ck_clocksFit 184 = .ok (.invokevirtual 96, 3) := by decide +kernel
theorem d_Ck_clocksFit_187 : decode b_Ck_clocksFit 187 = .ok (.ireturn, 1) := by decide +kernel
theorem d_Ck_clocksFit_188 : decode b_Ck_clocksFit 188 = .ok (.aload_n 0, 1) := by decide +kernel
theorem d_Ck_clocksFit_189 : decode b_Ck_clocksFit 189 = .ok (.iload_n 1, 1) := by decide +kernel
theorem d_Ck_clocksFit_190 : decode b_Ck_clocksFit 190 = .ok (.iload 4, 2) := by decide +kernel
theorem d_Ck_clocksFit_192 : decode b_Ck_clocksFit 192 = .ok (.invokevirtual 134, 3) := by decide +kernel
theorem d_Ck_clocksFit_195 : decode b_Ck_clocksFit 195 = .ok (.iconst 1, 1) := by decide +kernel
theorem d_Ck_clocksFit_196 : decode b_Ck_clocksFit 196 = .ok (.ireturn, 1) := by decide +kernel
abbrev mt_Ck_clocksFit : MT := (R_Ck, b_Ck_clocksFit, 6, some .boolean)
theorem vf_Ck_clocksFit : VF y_Ck_clocksFit mt_Ck_clocksFit 1 1 := ⟨im_Ck_clocksFit, se_Ck_clocksFit, in_Ck, co_Ck_clocksFit, by decide +kernel, _, _, rfl⟩
def f_Ck_clocksFit_b169 (γ : St) (x1 : Int) : Option (Int × St) :=
  chk (inb x1 16385) (bndN (f_Tk_failAt γ 6 (γ 42 x1)) fun r6 γ7 =>
  some (r6, γ7))
def f_Ck_clocksFit_b188 (γ : St) (x8 : Int) (x9 : Int) : Option (Int × St) :=
  bndN (f_Ck_settle γ x8 x9) fun _ γ11 =>
  some (1, γ11)
def f_Ck_clocksFit_b143 (γ : St) (x12 : Int) (x13 : Int) (x14 : Int) : Option (Int × St) :=
  if x13 = 0 then
  (f_Ck_clocksFit_b169 γ x12)
  else
  (chk (inb 0 32769) (if (γ 53 0) = (-2) then
  (f_Ck_clocksFit_b188 γ x12 x14)
  else
  (chk (inb 0 32769) (if (γ 53 0) = x14 then
  (f_Ck_clocksFit_b188 γ x12 x14)
  else
  (f_Ck_clocksFit_b169 γ x12)))))
def f_Ck_clocksFit_b136 (k83 : St → Int → Int → Int → Int → Int → Option (Int × St)) (e143 : St → Int → Int → Int → Option (Int × St)) (γ : St) (x19 : Int) (x20 : Int) (x21 : Int) (x22 : Int) (x23 : Int) : Option (Int × St) :=
  chk (i32 (x22 + 1)) (k83 γ x19 x23 x20 x21 (x22 + 1))
def f_Ck_clocksFit_b135 (k83 : St → Int → Int → Int → Int → Int → Option (Int × St)) (e143 : St → Int → Int → Int → Option (Int × St)) (γ : St) (x33 : Int) (x34 : Int) (x35 : Int) (x36 : Int) : Option (Int × St) :=
  f_Ck_clocksFit_b136 k83 e143 γ x33 x34 x35 x36 0
def f_Ck_clocksFit_L83 (e143 : St → Int → Int → Int → Option (Int × St)) : Nat → St → Int → Int → Int → Int → Int → Option (Int × St)
  | 0, _, _, _, _, _, _ => none
  | n + 1, γ, x45, x46, x47, x48, x49 =>
  chk (inb x45 16385) (if (γ 46 x45) ≤ x49 then
  (e143 γ x45 x46 x48)
  else
  (if x46 = 0 then
  (f_Ck_clocksFit_b135 (f_Ck_clocksFit_L83 e143 n) e143 γ x45 x47 x48 x49)
  else
  (chk (i32 (x47 + x49)) (chk (inb (x47 + x49) 32769) (chk (i32 ((γ 7 5) + (γ 47 (x47 + x49)))) (chk (inb ((γ 7 5) + (γ 47 (x47 + x49))) 5841) (if (γ 34 ((γ 7 5) + (γ 47 (x47 + x49)))) ≠ x48 then
  (f_Ck_clocksFit_b135 (f_Ck_clocksFit_L83 e143 n) e143 γ x45 x47 x48 x49)
  else
  (f_Ck_clocksFit_b136 (f_Ck_clocksFit_L83 e143 n) e143 γ x45 x47 x48 x49 1))))))))
def f_Ck_clocksFit_b46 (γ : St) (x65 : Int) (x66 : Int) : Option (Int × St) :=
  chk (inb x65 16385) (ap (γ 45 x65) fun x70 =>
  chk (inb x70 32769) (chk (i32 ((γ 7 5) + (γ 47 x70))) (chk (inb ((γ 7 5) + (γ 47 x70)) 5841) (ap (γ 34 ((γ 7 5) + (γ 47 x70))) fun x79 =>
  f_Ck_clocksFit_L83 (f_Ck_clocksFit_b143) FU γ x65 x66 x70 x79 1))))
def f_Ck_clocksFit_L17 (e46 : St → Int → Int → Option (Int × St)) : Nat → St → Int → Int → Int → Option (Int × St)
  | 0, _, _, _, _ => none
  | n + 1, γ, x80, x81, x82 =>
  if x81 = 0 then
  (e46 γ x80 x81)
  else
  (chk (inb x80 16385) (if (γ 44 x80) ≤ x82 then
  (e46 γ x80 x81)
  else
  (bndN (f_Ck_checkClock γ x82) fun r86 γ87 =>
  chk (i32 (x82 + 1)) ((f_Ck_clocksFit_L17 e46 n) γ87 x80 r86 (x82 + 1)))))
def f_Ck_clocksFit (γ : St) (a0 : Int) : Option (Int × St) :=
  ap (setA γ 7 4 0) fun γ91 =>
  chk (inb a0 16385) (ap (γ91 43 a0) fun x95 =>
  f_Ck_clocksFit_L17 (f_Ck_clocksFit_b46) FU γ91 a0 1 x95)
set_option maxHeartbeats 4000000 in
theorem s_Ck_clocksFit_b169 {Γ : Ctx} : ∀ (γ : St) (x1 : Int), i32 x1 → SB Γ BS mt_Ck_clocksFit (RmN 8 288) 0 0 (KN Γ BS mt_Ck_clocksFit.2.2.2) 169 [(0, vR Γ 7), (1, vI x1)] [] γ (f_Ck_clocksFit_b169 γ x1) := by
  intro γ x1 hx1
  unfold f_Ck_clocksFit_b169
  refine sb_aload_n 0 d_Ck_clocksFit_169 rfl ?_
  refine g_Ck_16 d_Ck_clocksFit_170 ?_
  refine sb_bipush d_Ck_clocksFit_173 (by decide) ?_
  refine sb_aload_n 0 d_Ck_clocksFit_175 rfl ?_
  refine g_Ck_24 d_Ck_clocksFit_176 ?_
  refine g_Ck_93 d_Ck_clocksFit_179 ?_
  refine sb_iload_n 1 d_Ck_clocksFit_182 rfl ?_
  refine al_S_42 d_Ck_clocksFit_183 (fun _ c5 => ?_)
  refine sb_cVz vf_Tk_failAt (c_Tk_failAt γ 6 (γ 42 x1) (by decide) c5) rfl ml_Ck_96 (As := [vI 6, vI (γ 42 x1)]) rfl rfl (Nat.le_of_ble_eq_true rfl) ⟨by decide, by decide⟩ d_Ck_clocksFit_184 (fun r6 γ7 hr6 => ?_)
  exact sn_z rfl hr6 d_Ck_clocksFit_187
set_option maxHeartbeats 4000000 in
theorem s_Ck_clocksFit_b188 {Γ : Ctx} : ∀ (γ : St) (x8 : Int) (x9 : Int), i32 x8 → i32 x9 → SB Γ BS mt_Ck_clocksFit (RmN 8 288) 0 0 (KN Γ BS mt_Ck_clocksFit.2.2.2) 188 [(0, vR Γ 7), (1, vI x8), (4, vI x9)] [] γ (f_Ck_clocksFit_b188 γ x8 x9) := by
  intro γ x8 x9 hx8 hx9
  unfold f_Ck_clocksFit_b188
  refine sb_aload_n 0 d_Ck_clocksFit_188 rfl ?_
  refine sb_iload_n 1 d_Ck_clocksFit_189 rfl ?_
  refine sb_iload 2 d_Ck_clocksFit_190 rfl ?_
  refine sb_cVv vf_Ck_settle (c_Ck_settle γ x8 x9 hx8 hx9) rfl ml_Ck_134 (As := [vI x8, vI x9]) rfl rfl (Nat.le_of_ble_eq_true rfl) ⟨by decide, by decide⟩ d_Ck_clocksFit_192 (fun _ γ11 => ?_)
  refine sb_iconst d_Ck_clocksFit_195 ?_
  exact sn_z rfl (by decide) d_Ck_clocksFit_196
set_option maxHeartbeats 4000000 in
theorem s_Ck_clocksFit_b143 {Γ : Ctx} : ∀ (γ : St) (x12 : Int) (x13 : Int) (x14 : Int), i32 x12 → i32 x13 → i32 x14 → SB Γ BS mt_Ck_clocksFit (RmN 8 288) 0 0 (KN Γ BS mt_Ck_clocksFit.2.2.2) 143 [(0, vR Γ 7), (1, vI x12), (2, vI x13), (4, vI x14)] [] γ (f_Ck_clocksFit_b143 γ x12 x13 x14) := by
  intro γ x12 x13 x14 hx12 hx13 hx14
  unfold f_Ck_clocksFit_b143
  refine sb_iload_n 2 d_Ck_clocksFit_143 rfl ?_
  refine sb_if_eq 169 hx13 d_Ck_clocksFit_144 (by decide) (fun _ => ?_) (fun _ => ?_)
  · exact sb_lv [0, 1] rfl (s_Ck_clocksFit_b169 γ x12 hx12)
  · refine sb_aload_n 0 d_Ck_clocksFit_147 rfl ?_
    refine g_Ck_10 d_Ck_clocksFit_148 ?_
    refine sb_iconst d_Ck_clocksFit_151 ?_
    refine al_S_53 d_Ck_clocksFit_152 (fun _ c16 => ?_)
    refine sb_bipush d_Ck_clocksFit_153 (by decide) ?_
    refine sb_icmp_eq 188 c16 (by decide) d_Ck_clocksFit_155 (by decide) (fun _ => ?_) (fun _ => ?_)
    · exact sb_lv [0, 1, 3] rfl (s_Ck_clocksFit_b188 γ x12 x14 hx12 hx14)
    · refine sb_aload_n 0 d_Ck_clocksFit_158 rfl ?_
      refine g_Ck_10 d_Ck_clocksFit_159 ?_
      refine sb_iconst d_Ck_clocksFit_162 ?_
      refine al_S_53 d_Ck_clocksFit_163 (fun _ c18 => ?_)
      refine sb_iload 3 d_Ck_clocksFit_164 rfl ?_
      refine sb_icmp_eq 188 c18 hx14 d_Ck_clocksFit_166 (by decide) (fun _ => ?_) (fun _ => ?_)
      · exact sb_lv [0, 1, 3] rfl (s_Ck_clocksFit_b188 γ x12 x14 hx12 hx14)
      · exact sb_lv [0, 1] rfl (s_Ck_clocksFit_b169 γ x12 hx12)
set_option maxHeartbeats 4000000 in
theorem s_Ck_clocksFit_b136 {Γ : Ctx} {k83 : St → Int → Int → Int → Int → Int → Option (Int × St)} {e143 : St → Int → Int → Int → Option (Int × St)} (hk83 : ∀ (γ : St) (x25 : Int) (x26 : Int) (x27 : Int) (x28 : Int) (x29 : Int), i32 x25 → i32 x26 → i32 x27 → i32 x28 → i32 x29 → SB Γ BS mt_Ck_clocksFit (RmN 8 288) 0 0 (KN Γ BS mt_Ck_clocksFit.2.2.2) 83 [(0, vR Γ 7), (1, vI x25), (2, vI x26), (3, vI x27), (4, vI x28), (5, vI x29)] [] γ (k83 γ x25 x26 x27 x28 x29)) (he143 : ∀ (γ : St) (x30 : Int) (x31 : Int) (x32 : Int), i32 x30 → i32 x31 → i32 x32 → SB Γ BS mt_Ck_clocksFit (RmN 8 288) 0 0 (KN Γ BS mt_Ck_clocksFit.2.2.2) 143 [(0, vR Γ 7), (1, vI x30), (2, vI x31), (4, vI x32)] [] γ (e143 γ x30 x31 x32)) : ∀ (γ : St) (x19 : Int) (x20 : Int) (x21 : Int) (x22 : Int) (x23 : Int), i32 x19 → i32 x20 → i32 x21 → i32 x22 → i32 x23 → SB Γ BS mt_Ck_clocksFit (RmN 8 288) 0 0 (KN Γ BS mt_Ck_clocksFit.2.2.2) 136 [(0, vR Γ 7), (1, vI x19), (3, vI x20), (4, vI x21), (5, vI x22)] [vI x23] γ (f_Ck_clocksFit_b136 k83 e143 γ x19 x20 x21 x22 x23) := by
  intro γ x19 x20 x21 x22 x23 hx19 hx20 hx21 hx22 hx23
  unfold f_Ck_clocksFit_b136
  refine sb_istore_n [(2, vI x23), (0, vR Γ 7), (1, vI x19), (3, vI x20), (4, vI x21), (5, vI x22)] d_Ck_clocksFit_136 (by decide) rfl ?_
  refine sb_iinc 5 [(5, vI (x22 + 1)), (2, vI x23), (0, vR Γ 7), (1, vI x19), (3, vI x20), (4, vI x21)] d_Ck_clocksFit_137 rfl (by decide) rfl ?_
  refine sb_chk (fun c24 => ?_)
  refine sb_goto 83 d_Ck_clocksFit_140 (by decide) ?_
  exact sb_lv [2, 3, 1, 4, 5, 0] rfl (hk83 γ x19 x23 x20 x21 (x22 + 1) hx19 hx23 hx20 hx21 c24)
set_option maxHeartbeats 4000000 in
theorem s_Ck_clocksFit_b135 {Γ : Ctx} {k83 : St → Int → Int → Int → Int → Int → Option (Int × St)} {e143 : St → Int → Int → Int → Option (Int × St)} (hk83 : ∀ (γ : St) (x37 : Int) (x38 : Int) (x39 : Int) (x40 : Int) (x41 : Int), i32 x37 → i32 x38 → i32 x39 → i32 x40 → i32 x41 → SB Γ BS mt_Ck_clocksFit (RmN 8 288) 0 0 (KN Γ BS mt_Ck_clocksFit.2.2.2) 83 [(0, vR Γ 7), (1, vI x37), (2, vI x38), (3, vI x39), (4, vI x40), (5, vI x41)] [] γ (k83 γ x37 x38 x39 x40 x41)) (he143 : ∀ (γ : St) (x42 : Int) (x43 : Int) (x44 : Int), i32 x42 → i32 x43 → i32 x44 → SB Γ BS mt_Ck_clocksFit (RmN 8 288) 0 0 (KN Γ BS mt_Ck_clocksFit.2.2.2) 143 [(0, vR Γ 7), (1, vI x42), (2, vI x43), (4, vI x44)] [] γ (e143 γ x42 x43 x44)) : ∀ (γ : St) (x33 : Int) (x34 : Int) (x35 : Int) (x36 : Int), i32 x33 → i32 x34 → i32 x35 → i32 x36 → SB Γ BS mt_Ck_clocksFit (RmN 8 288) 0 0 (KN Γ BS mt_Ck_clocksFit.2.2.2) 135 [(0, vR Γ 7), (1, vI x33), (3, vI x34), (4, vI x35), (5, vI x36)] [] γ (f_Ck_clocksFit_b135 k83 e143 γ x33 x34 x35 x36) := by
  intro γ x33 x34 x35 x36 hx33 hx34 hx35 hx36
  unfold f_Ck_clocksFit_b135
  refine sb_iconst d_Ck_clocksFit_135 ?_
  exact sb_lv [0, 1, 2, 3, 4] rfl (s_Ck_clocksFit_b136 hk83 he143 γ x33 x34 x35 x36 0 hx33 hx34 hx35 hx36 (by decide))
set_option maxHeartbeats 4000000 in
theorem s_Ck_clocksFit_L83 {Γ : Ctx} {e143 : St → Int → Int → Int → Option (Int × St)} (he143 : ∀ (γ : St) (x62 : Int) (x63 : Int) (x64 : Int), i32 x62 → i32 x63 → i32 x64 → SB Γ BS mt_Ck_clocksFit (RmN 8 288) 0 0 (KN Γ BS mt_Ck_clocksFit.2.2.2) 143 [(0, vR Γ 7), (1, vI x62), (2, vI x63), (4, vI x64)] [] γ (e143 γ x62 x63 x64)) : ∀ (n : Nat) (γ : St) (x45 : Int) (x46 : Int) (x47 : Int) (x48 : Int) (x49 : Int), i32 x45 → i32 x46 → i32 x47 → i32 x48 → i32 x49 → SB Γ BS mt_Ck_clocksFit (RmN 8 288) 0 0 (KN Γ BS mt_Ck_clocksFit.2.2.2) 83 [(0, vR Γ 7), (1, vI x45), (2, vI x46), (3, vI x47), (4, vI x48), (5, vI x49)] [] γ (f_Ck_clocksFit_L83 e143 n γ x45 x46 x47 x48 x49) := by
  intro n
  induction n with
  | zero => intros; exact sb_none
  | succ n ih =>
    intro γ x45 x46 x47 x48 x49 hx45 hx46 hx47 hx48 hx49
    unfold f_Ck_clocksFit_L83
    refine sb_iload 5 d_Ck_clocksFit_83 rfl ?_
    refine sb_aload_n 0 d_Ck_clocksFit_85 rfl ?_
    refine g_Ck_24 d_Ck_clocksFit_86 ?_
    refine g_Ck_77 d_Ck_clocksFit_89 ?_
    refine sb_iload_n 1 d_Ck_clocksFit_92 rfl ?_
    refine al_S_46 d_Ck_clocksFit_93 (fun _ c52 => ?_)
    refine sb_icmp_ge 143 hx49 c52 d_Ck_clocksFit_94 (by decide) (fun _ => ?_) (fun _ => ?_)
    · exact sb_lv [0, 1, 2, 4] rfl (he143 γ x45 x46 x48 hx45 hx46 hx48)
    · refine sb_iload_n 2 d_Ck_clocksFit_97 rfl ?_
      refine sb_if_eq 135 hx46 d_Ck_clocksFit_98 (by decide) (fun _ => ?_) (fun _ => ?_)
      · exact sb_lv [0, 1, 3, 4, 5] rfl (s_Ck_clocksFit_b135 ih he143 γ x45 x47 x48 x49 hx45 hx47 hx48 hx49)
      · refine sb_aload_n 0 d_Ck_clocksFit_101 rfl ?_
        refine g_Ck_20 d_Ck_clocksFit_102 ?_
        refine g_Ck_131 d_Ck_clocksFit_105 ?_
        refine sb_aload_n 0 d_Ck_clocksFit_108 rfl ?_
        refine g_Ck_37 d_Ck_clocksFit_109 (fun c55 => ?_)
        refine sb_aload_n 0 d_Ck_clocksFit_112 rfl ?_
        refine g_Ck_24 d_Ck_clocksFit_113 ?_
        refine g_Ck_84 d_Ck_clocksFit_116 ?_
        refine sb_iload_n 3 d_Ck_clocksFit_119 rfl ?_
        refine sb_iload 5 d_Ck_clocksFit_120 rfl ?_
        refine sb_iadd d_Ck_clocksFit_122 ?_
        refine sb_chk (fun c58 => ?_)
        refine al_S_47 d_Ck_clocksFit_123 (fun _ c59 => ?_)
        refine sb_iadd d_Ck_clocksFit_124 ?_
        refine sb_chk (fun c60 => ?_)
        refine al_S_34 d_Ck_clocksFit_125 (fun _ c61 => ?_)
        refine sb_iload 4 d_Ck_clocksFit_126 rfl ?_
        refine sb_icmp_ne 135 c61 hx48 d_Ck_clocksFit_128 (by decide) (fun _ => ?_) (fun _ => ?_)
        · exact sb_lv [0, 1, 3, 4, 5] rfl (s_Ck_clocksFit_b135 ih he143 γ x45 x47 x48 x49 hx45 hx47 hx48 hx49)
        · refine sb_iconst d_Ck_clocksFit_131 ?_
          refine sb_goto 136 d_Ck_clocksFit_132 (by decide) ?_
          exact sb_lv [0, 1, 3, 4, 5] rfl (s_Ck_clocksFit_b136 ih he143 γ x45 x47 x48 x49 1 hx45 hx47 hx48 hx49 (by decide))
set_option maxHeartbeats 4000000 in
theorem s_Ck_clocksFit_b46 {Γ : Ctx} : ∀ (γ : St) (x65 : Int) (x66 : Int), i32 x65 → i32 x66 → SB Γ BS mt_Ck_clocksFit (RmN 8 288) 0 0 (KN Γ BS mt_Ck_clocksFit.2.2.2) 46 [(0, vR Γ 7), (1, vI x65), (2, vI x66)] [] γ (f_Ck_clocksFit_b46 γ x65 x66) := by
  intro γ x65 x66 hx65 hx66
  unfold f_Ck_clocksFit_b46
  refine sb_aload_n 0 d_Ck_clocksFit_46 rfl ?_
  refine g_Ck_24 d_Ck_clocksFit_47 ?_
  refine g_Ck_87 d_Ck_clocksFit_50 ?_
  refine sb_iload_n 1 d_Ck_clocksFit_53 rfl ?_
  refine al_S_45 d_Ck_clocksFit_54 (fun _ c69 => ?_)
  refine sb_istore_n [(3, vI (γ 45 x65)), (0, vR Γ 7), (1, vI x65), (2, vI x66)] d_Ck_clocksFit_55 (by decide) rfl ?_
  refine sb_nme (e := γ 45 x65) (fun x70 => [(3, vI x70), (0, vR Γ 7), (1, vI x65), (2, vI x66)]) c69 (fun x70 hx70 => ?_)
  refine sb_aload_n 1 d_Ck_clocksFit_56 rfl ?_
  refine g_Ck_20 d_Ck_clocksFit_57 ?_
  refine g_Ck_131 d_Ck_clocksFit_60 ?_
  refine sb_aload_n 1 d_Ck_clocksFit_63 rfl ?_
  refine g_Ck_37 d_Ck_clocksFit_64 (fun c73 => ?_)
  refine sb_aload_n 1 d_Ck_clocksFit_67 rfl ?_
  refine g_Ck_24 d_Ck_clocksFit_68 ?_
  refine g_Ck_84 d_Ck_clocksFit_71 ?_
  refine sb_iload_n 0 d_Ck_clocksFit_74 rfl ?_
  refine al_S_47 d_Ck_clocksFit_75 (fun _ c76 => ?_)
  refine sb_iadd d_Ck_clocksFit_76 ?_
  refine sb_chk (fun c77 => ?_)
  refine al_S_34 d_Ck_clocksFit_77 (fun _ c78 => ?_)
  refine sb_istore [(4, vI (γ 34 ((γ 7 5) + (γ 47 x70)))), (3, vI x70), (0, vR Γ 7), (1, vI x65), (2, vI x66)] d_Ck_clocksFit_78 (by decide) rfl ?_
  refine sb_nme (e := γ 34 ((γ 7 5) + (γ 47 x70))) (fun x79 => [(4, vI x79), (3, vI x70), (0, vR Γ 7), (1, vI x65), (2, vI x66)]) c78 (fun x79 hx79 => ?_)
  refine sb_iconst d_Ck_clocksFit_80 ?_
  refine sb_istore [(5, vI 1), (4, vI x79), (3, vI x70), (0, vR Γ 7), (1, vI x65), (2, vI x66)] d_Ck_clocksFit_81 (by decide) rfl ?_
  exact sb_lv [3, 4, 5, 2, 1, 0] rfl (s_Ck_clocksFit_L83 (s_Ck_clocksFit_b143) FU γ x65 x66 x70 x79 1 hx65 hx66 hx70 hx79 (by decide))
set_option maxHeartbeats 4000000 in
theorem s_Ck_clocksFit_L17 {Γ : Ctx} {e46 : St → Int → Int → Option (Int × St)} (he46 : ∀ (γ : St) (x89 : Int) (x90 : Int), i32 x89 → i32 x90 → SB Γ BS mt_Ck_clocksFit (RmN 8 288) 0 0 (KN Γ BS mt_Ck_clocksFit.2.2.2) 46 [(0, vR Γ 7), (1, vI x89), (2, vI x90)] [] γ (e46 γ x89 x90)) : ∀ (n : Nat) (γ : St) (x80 : Int) (x81 : Int) (x82 : Int), i32 x80 → i32 x81 → i32 x82 → SB Γ BS mt_Ck_clocksFit (RmN 8 288) 0 0 (KN Γ BS mt_Ck_clocksFit.2.2.2) 17 [(0, vR Γ 7), (1, vI x80), (2, vI x81), (3, vI x82)] [] γ (f_Ck_clocksFit_L17 e46 n γ x80 x81 x82) := by
  intro n
  induction n with
  | zero => intros; exact sb_none
  | succ n ih =>
    intro γ x80 x81 x82 hx80 hx81 hx82
    unfold f_Ck_clocksFit_L17
    refine sb_iload_n 2 d_Ck_clocksFit_17 rfl ?_
    refine sb_if_eq 46 hx81 d_Ck_clocksFit_18 (by decide) (fun _ => ?_) (fun _ => ?_)
    · exact sb_lv [0, 1, 2] rfl (he46 γ x80 x81 hx80 hx81)
    · refine sb_iload_n 3 d_Ck_clocksFit_21 rfl ?_
      refine sb_aload_n 0 d_Ck_clocksFit_22 rfl ?_
      refine g_Ck_24 d_Ck_clocksFit_23 ?_
      refine g_Ck_71 d_Ck_clocksFit_26 ?_
      refine sb_iload_n 1 d_Ck_clocksFit_29 rfl ?_
      refine al_S_44 d_Ck_clocksFit_30 (fun _ c85 => ?_)
      refine sb_icmp_ge 46 hx82 c85 d_Ck_clocksFit_31 (by decide) (fun _ => ?_) (fun _ => ?_)
      · exact sb_lv [0, 1, 2] rfl (he46 γ x80 x81 hx80 hx81)
      · refine sb_aload_n 0 d_Ck_clocksFit_34 rfl ?_
        refine sb_iload_n 3 d_Ck_clocksFit_35 rfl ?_
        refine sb_cVz vf_Ck_checkClock (c_Ck_checkClock γ x82 hx82) rfl ml_Ck_128 (As := [vI x82]) rfl rfl (Nat.le_of_ble_eq_true rfl) ⟨by decide, by decide⟩ d_Ck_clocksFit_36 (fun r86 γ87 hr86 => ?_)
        refine sb_istore_n [(2, vI r86), (0, vR Γ 7), (1, vI x80), (3, vI x82)] d_Ck_clocksFit_39 (by decide) rfl ?_
        refine sb_iinc 3 [(3, vI (x82 + 1)), (2, vI r86), (0, vR Γ 7), (1, vI x80)] d_Ck_clocksFit_40 rfl (by decide) rfl ?_
        refine sb_chk (fun c88 => ?_)
        refine sb_goto 17 d_Ck_clocksFit_43 (by decide) ?_
        exact sb_lv [2, 3, 1, 0] rfl (ih γ87 x80 r86 (x82 + 1) hx80 (z2i hr86) c88)
set_option maxHeartbeats 4000000 in
theorem c_Ck_clocksFit {Γ : Ctx} (γ : St) (a0 : Int) (ha0 : i32 a0) : NC Γ BS y_Ck_clocksFit mt_Ck_clocksFit 8 288 [vR Γ 7, vI a0] γ (f_Ck_clocksFit γ a0) := by
  refine nc_of (by decide) rfl (Nat.le_of_ble_eq_true rfl) ?_
  show SB Γ BS mt_Ck_clocksFit (RmN 8 288) 0 0 (KN Γ BS mt_Ck_clocksFit.2.2.2) 0 [(0, vR Γ 7), (1, vI a0)] [] γ _
  unfold f_Ck_clocksFit
  refine sb_aload_n 0 d_Ck_clocksFit_0 rfl ?_
  refine sb_iconst d_Ck_clocksFit_1 ?_
  refine p_Ck_68 (by decide) d_Ck_clocksFit_2 ?_
  refine sb_aps (fun γ91 => ?_)
  refine sb_iconst d_Ck_clocksFit_5 ?_
  refine sb_istore_n [(2, vI 1), (0, vR Γ 7), (1, vI a0)] d_Ck_clocksFit_6 (by decide) rfl ?_
  refine sb_aload_n 1 d_Ck_clocksFit_7 rfl ?_
  refine g_Ck_24 d_Ck_clocksFit_8 ?_
  refine g_Ck_74 d_Ck_clocksFit_11 ?_
  refine sb_iload_n 2 d_Ck_clocksFit_14 rfl ?_
  refine al_S_43 d_Ck_clocksFit_15 (fun _ c94 => ?_)
  refine sb_istore_n [(3, vI (γ91 43 a0)), (2, vI 1), (0, vR Γ 7), (1, vI a0)] d_Ck_clocksFit_16 (by decide) rfl ?_
  refine sb_nme (e := γ91 43 a0) (fun x95 => [(3, vI x95), (2, vI 1), (0, vR Γ 7), (1, vI a0)]) c94 (fun x95 hx95 => ?_)
  exact sb_lv [2, 3, 1, 0] rfl (s_Ck_clocksFit_L17 (s_Ck_clocksFit_b46) FU γ91 a0 1 x95 ha0 (by decide) hx95)
theorem d_Ck_check_0 : decode b_Ck_check 0 = .ok (.aload_n 0, 1) := by decide +kernel
theorem d_Ck_check_1 : decode b_Ck_check 1 = .ok (.getfield 20, 3) := by decide +kernel
theorem d_Ck_check_4 : decode b_Ck_check 4 = .ok (.getfield 28, 3) := by decide +kernel
theorem d_Ck_check_7 : decode b_Ck_check 7 = .ok (.istore_n 1, 1) := by decide +kernel
theorem d_Ck_check_8 : decode b_Ck_check 8 = .ok (.aload_n 0, 1) := by decide +kernel
theorem d_Ck_check_9 : decode b_Ck_check 9 = .ok (.aload_n 0, 1) := by decide +kernel
theorem d_Ck_check_10 : decode b_Ck_check 10 = .ok (.getfield 20, 3) := by decide +kernel
theorem d_Ck_check_13 : decode b_Ck_check 13 = .ok (.getfield 34, 3) := by decide +kernel
theorem d_Ck_check_16 : decode b_Ck_check 16 = .ok (.iload_n 1, 1) := by decide +kernel
theorem d_Ck_check_17 : decode b_Ck_check 17 = .ok (.iaload, 1) := by decide +kernel
theorem d_Ck_check_18 : decode b_Ck_check 18 = .ok (.putfield 37, 3) := by decide +kernel
theorem d_Ck_check_21 : decode b_Ck_check 21 = .ok (.aload_n 0, 1) := by decide +kernel
theorem d_Ck_check_22 : decode b_Ck_check 22 = .ok (.getfield 37, 3) := by decide +kernel
theorem d_Ck_check_25 : decode b_Ck_check 25 = .ok (.aload_n 0, 1) := by decide +kernel
theorem d_Ck_check_26 : decode b_Ck_check 26 = .ok (.getfield 20, 3) := by decide +kernel
theorem d_Ck_check_29 : decode b_Ck_check 29 = .ok (.getfield 39, 3) := by decide +kernel
theorem d_Ck_check_32 : decode b_Ck_check 32 = .ok (.iload_n 1, 1) := by decide +kernel
theorem d_Ck_check_33 : decode b_Ck_check 33 = .ok (.iaload, 1) := by decide +kernel
theorem d_Ck_check_34 : decode b_Ck_check 34 = .ok (.iadd, 1) := by decide +kernel
theorem d_Ck_check_35 : decode b_Ck_check 35 = .ok (.istore_n 2, 1) := by decide +kernel
theorem d_Ck_check_36 : decode b_Ck_check 36 = .ok (.iload_n 2, 1) := by decide +kernel
theorem d_Ck_check_37 : decode b_Ck_check 37 = .ok (.aload_n 0, 1) := by decide +kernel
theorem d_Ck_check_38 : decode b_Ck_check 38 = .ok (.getfield 20, 3) := by decide +kernel
theorem d_Ck_check_41 : decode b_Ck_check 41 = .ok (.getfield 42, 3) := by decide +kernel
theorem d_Ck_check_44 : decode b_Ck_check 44 = .ok (.if_icmp .ge 31, 3) := by decide +kernel
theorem d_Ck_check_47 : decode b_Ck_check 47 = .ok (.aload_n 0, 1) := by decide +kernel
theorem d_Ck_check_48 : decode b_Ck_check 48 = .ok (.getfield 20, 3) := by decide +kernel
theorem d_Ck_check_51 : decode b_Ck_check 51 = .ok (.getfield 45, 3) := by decide +kernel
theorem d_Ck_check_54 : decode b_Ck_check 54 = .ok (.iload_n 2, 1) := by decide +kernel
theorem d_Ck_check_55 : decode b_Ck_check 55 = .ok (.iaload, 1) := by decide +kernel
theorem d_Ck_check_56 : decode b_Ck_check 56 = .ok (.iconst 1, 1) := by decide +kernel
theorem d_Ck_check_57 : decode b_Ck_check 57 = .ok (.if_icmp .eq 12, 3) := by decide +kernel
theorem d_Ck_check_60 : decode b_Ck_check 60 = .ok (.aload_n 0, 1) := by decide +kernel
theorem d_Ck_check_61 : decode b_Ck_check 61 = .ok (.getfield 16, 3) := by decide +kernel
theorem d_Ck_check_64 : decode b_Ck_check 64 = .ok (.iconst 2, 1) := by decide +kernel
theorem d_Ck_check_65 : decode b_Ck_check 65 = .ok (.invokevirtual 48, 3) := by decide +kernel
theorem d_Ck_check_68 : decode b_Ck_check 68 = .ok (.ireturn, 1) := by decide +kernel
theorem d_Ck_check_69 : decode b_Ck_check 69 = .ok (.iinc 2 1, 3) := by decide +kernel
theorem d_Ck_check_72 : decode b_Ck_check 72 = .ok (.goto (-36), 3) := by decide +kernel
theorem d_Ck_check_75 : decode b_Ck_check 75 = .ok (.iconst 1, 1) := by decide +kernel
theorem d_Ck_check_76 : decode b_Ck_check 76 = .ok (.istore_n 2, 1) := by decide +kernel
theorem d_Ck_check_77 : decode b_Ck_check 77 = .ok (.aload_n 0, 1) := by decide +kernel
theorem d_Ck_check_78 : decode b_Ck_check 78 = .ok (.getfield 20, 3) := by decide +kernel
theorem d_Ck_check_81 : decode b_Ck_check 81 = .ok (.getfield 54, 3) := by decide +kernel
theorem d_Ck_check_84 : decode b_Ck_check 84 = .ok (.iload_n 1, 1) := by decide +kernel
theorem d_Ck_check_85 : decode b_Ck_check 85 = .ok (.iaload, 1) := by decide +kernel
theorem d_Ck_check_86 : decode b_Ck_check 86 = .ok (.istore_n 3, 1) := by decide +kernel
theorem d_Ck_check_87 : decode b_Ck_check 87 = .ok (.iload_n 2, 1) := by decide +kernel
theorem d_Ck_check_88 : decode b_Ck_check 88 = .ok (.ifCond .eq 42, 3) := by decide +kernel
theorem d_Ck_check_91 : decode b_Ck_check 91 = .ok (.iload_n 3, 1) := by decide +kernel
theorem d_Ck_check_92 : decode b_Ck_check 92 = .ok (.aload_n 0, 1) := by decide +kernel
theorem d_Ck_check_93 : decode b_Ck_check 93 = .ok (.getfield 24, 3) := by decide +kernel
theorem d_Ck_check_96 : decode b_Ck_check 96 = .ok (.getfield 57, 3) := by decide +kernel
theorem d_Ck_check_99 : decode b_Ck_check 99 = .ok (.if_icmp .ge 31, 3) := by decide +kernel
theorem d_Ck_check_102 : decode b_Ck_check 102 = .ok (.aload_n 0, 1) := by decide +kernel
theorem d_Ck_check_103 : decode b_Ck_check 103 = .ok (.iload_n 3, 1) := by decide +kernel
theorem d_Ck_check_104 : decode b_Ck_check 104 = .ok (.invokevirtual 62, 3) := by decide +kernel
theorem d_Ck_check_107 : decode b_Ck_check 107 = .ok (.ifCond .eq 15, 3) := by decide +kernel
theorem d_Ck_check_110 : decode b_Ck_check 110 = .ok (.aload_n 0, 1) := by decide +kernel
theorem d_Ck_check_111 : decode b_Ck_check 111 = .ok (.iload_n 3, 1) := by decide +kernel
theorem d_Ck_check_112 : decode b_Ck_check 112 = .ok (.invokevirtual 65, 3) := by decide +kernel
theorem d_Ck_check_115 : decode b_Ck_check 115 = .ok (.ifCond .eq 7, 3) := by decide +kernel
theorem d_Ck_check_118 : decode b_Ck_check 118 = .ok (.iconst 1, 1) := by decide +kernel
theorem d_Ck_check_119 : decode b_Ck_check 119 = .ok (.goto 4, 3) := by decide +kernel
theorem d_Ck_check_122 : decode b_Ck_check 122 = .ok (.iconst 0, 1) := by decide +kernel
theorem d_Ck_check_123 : decode b_Ck_check 123 = .ok (.istore_n 2, 1) := by decide +kernel
theorem d_Ck_check_124 : decode b_Ck_check 124 = .ok (.iinc 3 1, 3) := by decide +kernel
theorem d_Ck_check_127 : decode b_Ck_check 127 = .ok (.goto (-40), 3) := by decide +kernel
theorem d_Ck_check_130 : decode b_Ck_check 130 = .ok (.iload_n 2, 1) := by decide +kernel
theorem d_Ck_check_131 : decode b_Ck_check 131 = .ok (.ireturn, 1) := by decide +kernel
abbrev mt_Ck_check : MT := (R_Ck, b_Ck_check, 4, some .boolean)
theorem vf_Ck_check : VF y_Ck_check mt_Ck_check 1 0 := ⟨im_Ck_check, se_Ck_check, in_Ck, co_Ck_check, by decide +kernel, _, _, rfl⟩
def f_Ck_check_b60 (γ : St) : Option (Int × St) :=
  bndN (f_Tk_fail γ 2) fun r2 γ3 =>
  some (r2, γ3)
def f_Ck_check_b123 (k87 : St → Int → Int → Option (Int × St)) (γ : St) (x4 : Int) (x5 : Int) : Option (Int × St) :=
  chk (i32 (x4 + 1)) (k87 γ x5 (x4 + 1))
def f_Ck_check_b122 (k87 : St → Int → Int → Option (Int × St)) (γ : St) (x9 : Int) : Option (Int × St) :=
  f_Ck_check_b123 k87 γ x9 0
def f_Ck_check_L87 : Nat → St → Int → Int → Option (Int × St)
  | 0, _, _, _ => none
  | n + 1, γ, x12, x13 =>
  if x12 = 0 then
  (chk (x12 = 0 ∨ x12 = 1) (some (x12, γ)))
  else
  (if (γ 4 10) ≤ x13 then
  (chk (x12 = 0 ∨ x12 = 1) (some (x12, γ)))
  else
  (bndN (f_Ck_typesFit γ x13) fun r18 γ19 =>
  if r18 = 0 then
  (f_Ck_check_b122 (f_Ck_check_L87 n) γ19 x13)
  else
  (bndN (f_Ck_clocksFit γ19 x13) fun r20 γ21 =>
  if r20 = 0 then
  (f_Ck_check_b122 (f_Ck_check_L87 n) γ21 x13)
  else
  (f_Ck_check_b123 (f_Ck_check_L87 n) γ21 x13 1))))
def f_Ck_check_b75 (γ : St) (x22 : Int) : Option (Int × St) :=
  chk (inb x22 59) (ap (γ 29 x22) fun x26 =>
  f_Ck_check_L87  FU γ 1 x26)
def f_Ck_check_L36 (e60 : St → Option (Int × St)) (e75 : St → Int → Option (Int × St)) : Nat → St → Int → Int → Option (Int × St)
  | 0, _, _, _ => none
  | n + 1, γ, x27, x28 =>
  if (γ 3 15) ≤ x28 then
  (e75 γ x27)
  else
  (chk (inb x28 5841) (if (γ 36 x28) = 1 then
  (chk (i32 (x28 + 1)) ((f_Ck_check_L36 e60 e75 n) γ x27 (x28 + 1)))
  else
  (e60 γ )))
def f_Ck_check (γ : St) : Option (Int × St) :=
  ap (γ 3 9) fun x38 =>
  chk (inb x38 59) (ap (setA γ 7 5 (γ 25 x38)) fun γ42 =>
  chk (inb x38 59) (chk (i32 ((γ42 7 5) + (γ42 26 x38))) (ap ((γ42 7 5) + (γ42 26 x38)) fun x48 =>
  f_Ck_check_L36 (f_Ck_check_b60) (f_Ck_check_b75) FU γ42 x38 x48)))
set_option maxHeartbeats 4000000 in
theorem s_Ck_check_b60 {Γ : Ctx} : ∀ (γ : St), SB Γ BS mt_Ck_check (RmN 10 333) 0 0 (KN Γ BS mt_Ck_check.2.2.2) 60 [(0, vR Γ 7)] [] γ (f_Ck_check_b60 γ ) := by
  intro γ
  unfold f_Ck_check_b60
  refine sb_aload_n 0 d_Ck_check_60 rfl ?_
  refine g_Ck_16 d_Ck_check_61 ?_
  refine sb_iconst d_Ck_check_64 ?_
  refine sb_cVz vf_Tk_fail (c_Tk_fail γ 2 (by decide)) rfl ml_Ck_48 (As := [vI 2]) rfl rfl (Nat.le_of_ble_eq_true rfl) ⟨by decide, by decide⟩ d_Ck_check_65 (fun r2 γ3 hr2 => ?_)
  exact sn_z rfl hr2 d_Ck_check_68
set_option maxHeartbeats 4000000 in
theorem s_Ck_check_b123 {Γ : Ctx} {k87 : St → Int → Int → Option (Int × St)} (hk87 : ∀ (γ : St) (x7 : Int) (x8 : Int), i32 x7 → i32 x8 → SB Γ BS mt_Ck_check (RmN 10 333) 0 0 (KN Γ BS mt_Ck_check.2.2.2) 87 [(0, vR Γ 7), (2, vI x7), (3, vI x8)] [] γ (k87 γ x7 x8)) : ∀ (γ : St) (x4 : Int) (x5 : Int), i32 x4 → i32 x5 → SB Γ BS mt_Ck_check (RmN 10 333) 0 0 (KN Γ BS mt_Ck_check.2.2.2) 123 [(0, vR Γ 7), (3, vI x4)] [vI x5] γ (f_Ck_check_b123 k87 γ x4 x5) := by
  intro γ x4 x5 hx4 hx5
  unfold f_Ck_check_b123
  refine sb_istore_n [(2, vI x5), (0, vR Γ 7), (3, vI x4)] d_Ck_check_123 (by decide) rfl ?_
  refine sb_iinc 2 [(3, vI (x4 + 1)), (2, vI x5), (0, vR Γ 7)] d_Ck_check_124 rfl (by decide) rfl ?_
  refine sb_chk (fun c6 => ?_)
  refine sb_goto 87 d_Ck_check_127 (by decide) ?_
  exact sb_lv [2, 1, 0] rfl (hk87 γ x5 (x4 + 1) hx5 c6)
set_option maxHeartbeats 4000000 in
theorem s_Ck_check_b122 {Γ : Ctx} {k87 : St → Int → Int → Option (Int × St)} (hk87 : ∀ (γ : St) (x10 : Int) (x11 : Int), i32 x10 → i32 x11 → SB Γ BS mt_Ck_check (RmN 10 333) 0 0 (KN Γ BS mt_Ck_check.2.2.2) 87 [(0, vR Γ 7), (2, vI x10), (3, vI x11)] [] γ (k87 γ x10 x11)) : ∀ (γ : St) (x9 : Int), i32 x9 → SB Γ BS mt_Ck_check (RmN 10 333) 0 0 (KN Γ BS mt_Ck_check.2.2.2) 122 [(0, vR Γ 7), (3, vI x9)] [] γ (f_Ck_check_b122 k87 γ x9) := by
  intro γ x9 hx9
  unfold f_Ck_check_b122
  refine sb_iconst d_Ck_check_122 ?_
  exact sb_lv [0, 1] rfl (s_Ck_check_b123 hk87 γ x9 0 hx9 (by decide))
set_option maxHeartbeats 4000000 in
theorem s_Ck_check_L87 {Γ : Ctx} : ∀ (n : Nat) (γ : St) (x12 : Int) (x13 : Int), i32 x12 → i32 x13 → SB Γ BS mt_Ck_check (RmN 10 333) 0 0 (KN Γ BS mt_Ck_check.2.2.2) 87 [(0, vR Γ 7), (2, vI x12), (3, vI x13)] [] γ (f_Ck_check_L87 n γ x12 x13) := by
  intro n
  induction n with
  | zero => intros; exact sb_none
  | succ n ih =>
    intro γ x12 x13 hx12 hx13
    unfold f_Ck_check_L87
    refine sb_iload_n 1 d_Ck_check_87 rfl ?_
    refine sb_if_eq 130 hx12 d_Ck_check_88 (by decide) (fun _ => ?_) (fun _ => ?_)
    · refine sb_iload_n 1 d_Ck_check_130 rfl ?_
      refine sb_chk (fun c14 => ?_)
      exact sn_z rfl c14 d_Ck_check_131
    · refine sb_iload_n 2 d_Ck_check_91 rfl ?_
      refine sb_aload_n 0 d_Ck_check_92 rfl ?_
      refine g_Ck_24 d_Ck_check_93 ?_
      refine g_Ck_57 d_Ck_check_96 (fun c16 => ?_)
      refine sb_icmp_ge 130 hx13 c16 d_Ck_check_99 (by decide) (fun _ => ?_) (fun _ => ?_)
      · refine sb_iload_n 1 d_Ck_check_130 rfl ?_
        refine sb_chk (fun c17 => ?_)
        exact sn_z rfl c17 d_Ck_check_131
      · refine sb_aload_n 0 d_Ck_check_102 rfl ?_
        refine sb_iload_n 2 d_Ck_check_103 rfl ?_
        refine sb_cVz vf_Ck_typesFit (c_Ck_typesFit γ x13 hx13) rfl ml_Ck_62 (As := [vI x13]) rfl rfl (Nat.le_of_ble_eq_true rfl) ⟨by decide, by decide⟩ d_Ck_check_104 (fun r18 γ19 hr18 => ?_)
        refine sb_if_eq 122 (z2i hr18) d_Ck_check_107 (by decide) (fun _ => ?_) (fun _ => ?_)
        · exact sb_lv [0, 2] rfl (s_Ck_check_b122 ih γ19 x13 hx13)
        · refine sb_aload_n 0 d_Ck_check_110 rfl ?_
          refine sb_iload_n 2 d_Ck_check_111 rfl ?_
          refine sb_cVz vf_Ck_clocksFit (c_Ck_clocksFit γ19 x13 hx13) rfl ml_Ck_65 (As := [vI x13]) rfl rfl (Nat.le_of_ble_eq_true rfl) ⟨by decide, by decide⟩ d_Ck_check_112 (fun r20 γ21 hr20 => ?_)
          refine sb_if_eq 122 (z2i hr20) d_Ck_check_115 (by decide) (fun _ => ?_) (fun _ => ?_)
          · exact sb_lv [0, 2] rfl (s_Ck_check_b122 ih γ21 x13 hx13)
          · refine sb_iconst d_Ck_check_118 ?_
            refine sb_goto 123 d_Ck_check_119 (by decide) ?_
            exact sb_lv [0, 2] rfl (s_Ck_check_b123 ih γ21 x13 1 hx13 (by decide))
set_option maxHeartbeats 4000000 in
theorem s_Ck_check_b75 {Γ : Ctx} : ∀ (γ : St) (x22 : Int), i32 x22 → SB Γ BS mt_Ck_check (RmN 10 333) 0 0 (KN Γ BS mt_Ck_check.2.2.2) 75 [(0, vR Γ 7), (1, vI x22)] [] γ (f_Ck_check_b75 γ x22) := by
  intro γ x22 hx22
  unfold f_Ck_check_b75
  refine sb_iconst d_Ck_check_75 ?_
  refine sb_istore_n [(2, vI 1), (0, vR Γ 7), (1, vI x22)] d_Ck_check_76 (by decide) rfl ?_
  refine sb_aload_n 1 d_Ck_check_77 rfl ?_
  refine g_Ck_20 d_Ck_check_78 ?_
  refine g_Ck_54 d_Ck_check_81 ?_
  refine sb_iload_n 2 d_Ck_check_84 rfl ?_
  refine al_S_29 d_Ck_check_85 (fun _ c25 => ?_)
  refine sb_istore_n [(3, vI (γ 29 x22)), (2, vI 1), (0, vR Γ 7), (1, vI x22)] d_Ck_check_86 (by decide) rfl ?_
  refine sb_nme (e := γ 29 x22) (fun x26 => [(3, vI x26), (2, vI 1), (0, vR Γ 7), (1, vI x22)]) c25 (fun x26 hx26 => ?_)
  exact sb_lv [2, 1, 0] rfl (s_Ck_check_L87  FU γ 1 x26 (by decide) hx26)
set_option maxHeartbeats 4000000 in
theorem s_Ck_check_L36 {Γ : Ctx} {e60 : St → Option (Int × St)} {e75 : St → Int → Option (Int × St)} (he60 : ∀ (γ : St), SB Γ BS mt_Ck_check (RmN 10 333) 0 0 (KN Γ BS mt_Ck_check.2.2.2) 60 [(0, vR Γ 7)] [] γ (e60 γ )) (he75 : ∀ (γ : St) (x35 : Int), i32 x35 → SB Γ BS mt_Ck_check (RmN 10 333) 0 0 (KN Γ BS mt_Ck_check.2.2.2) 75 [(0, vR Γ 7), (1, vI x35)] [] γ (e75 γ x35)) : ∀ (n : Nat) (γ : St) (x27 : Int) (x28 : Int), i32 x27 → i32 x28 → SB Γ BS mt_Ck_check (RmN 10 333) 0 0 (KN Γ BS mt_Ck_check.2.2.2) 36 [(0, vR Γ 7), (1, vI x27), (2, vI x28)] [] γ (f_Ck_check_L36 e60 e75 n γ x27 x28) := by
  intro n
  induction n with
  | zero => intros; exact sb_none
  | succ n ih =>
    intro γ x27 x28 hx27 hx28
    unfold f_Ck_check_L36
    refine sb_iload_n 2 d_Ck_check_36 rfl ?_
    refine sb_aload_n 0 d_Ck_check_37 rfl ?_
    refine g_Ck_20 d_Ck_check_38 ?_
    refine g_Ck_42 d_Ck_check_41 (fun c30 => ?_)
    refine sb_icmp_ge 75 hx28 c30 d_Ck_check_44 (by decide) (fun _ => ?_) (fun _ => ?_)
    · exact sb_lv [0, 1] rfl (he75 γ x27 hx27)
    · refine sb_aload_n 0 d_Ck_check_47 rfl ?_
      refine g_Ck_20 d_Ck_check_48 ?_
      refine g_Ck_45 d_Ck_check_51 ?_
      refine sb_iload_n 2 d_Ck_check_54 rfl ?_
      refine al_S_36 d_Ck_check_55 (fun _ c33 => ?_)
      refine sb_iconst d_Ck_check_56 ?_
      refine sb_icmp_eq 69 c33 (by decide) d_Ck_check_57 (by decide) (fun _ => ?_) (fun _ => ?_)
      · refine sb_iinc 2 [(2, vI (x28 + 1)), (0, vR Γ 7), (1, vI x27)] d_Ck_check_69 rfl (by decide) rfl ?_
        refine sb_chk (fun c34 => ?_)
        refine sb_goto 36 d_Ck_check_72 (by decide) ?_
        exact sb_lv [1, 2, 0] rfl (ih γ x27 (x28 + 1) hx27 c34)
      · exact sb_lv [0] rfl (he60 γ  )
set_option maxHeartbeats 4000000 in
theorem c_Ck_check {Γ : Ctx} (γ : St) : NC Γ BS y_Ck_check mt_Ck_check 10 333 [vR Γ 7] γ (f_Ck_check γ) := by
  refine nc_of (by decide) rfl (Nat.le_of_ble_eq_true rfl) ?_
  show SB Γ BS mt_Ck_check (RmN 10 333) 0 0 (KN Γ BS mt_Ck_check.2.2.2) 0 [(0, vR Γ 7)] [] γ _
  unfold f_Ck_check
  refine sb_aload_n 0 d_Ck_check_0 rfl ?_
  refine g_Ck_20 d_Ck_check_1 ?_
  refine g_Ck_28 d_Ck_check_4 (fun c37 => ?_)
  refine sb_istore_n [(1, vI (γ 3 9)), (0, vR Γ 7)] d_Ck_check_7 (by decide) rfl ?_
  refine sb_nme (e := γ 3 9) (fun x38 => [(1, vI x38), (0, vR Γ 7)]) c37 (fun x38 hx38 => ?_)
  refine sb_aload_n 1 d_Ck_check_8 rfl ?_
  refine sb_aload_n 1 d_Ck_check_9 rfl ?_
  refine g_Ck_20 d_Ck_check_10 ?_
  refine g_Ck_34 d_Ck_check_13 ?_
  refine sb_iload_n 0 d_Ck_check_16 rfl ?_
  refine al_S_25 d_Ck_check_17 (fun _ c41 => ?_)
  refine p_Ck_37 c41 d_Ck_check_18 ?_
  refine sb_aps (fun γ42 => ?_)
  refine sb_aload_n 1 d_Ck_check_21 rfl ?_
  refine g_Ck_37 d_Ck_check_22 (fun c43 => ?_)
  refine sb_aload_n 1 d_Ck_check_25 rfl ?_
  refine g_Ck_20 d_Ck_check_26 ?_
  refine g_Ck_39 d_Ck_check_29 ?_
  refine sb_iload_n 0 d_Ck_check_32 rfl ?_
  refine al_S_26 d_Ck_check_33 (fun _ c46 => ?_)
  refine sb_iadd d_Ck_check_34 ?_
  refine sb_chk (fun c47 => ?_)
  refine sb_istore_n [(2, vI ((γ42 7 5) + (γ42 26 x38))), (1, vI x38), (0, vR Γ 7)] d_Ck_check_35 (by decide) rfl ?_
  refine sb_nme (e := (γ42 7 5) + (γ42 26 x38)) (fun x48 => [(2, vI x48), (1, vI x38), (0, vR Γ 7)]) c47 (fun x48 hx48 => ?_)
  exact sb_lv [2, 1, 0] rfl (s_Ck_check_L36 (s_Ck_check_b60) (s_Ck_check_b75) FU γ42 x38 x48 hx38 hx48)
theorem d_Nr_closeNode_0 : decode b_Nr_closeNode 0 = .ok (.aload_n 0, 1) := by decide +kernel
theorem d_Nr_closeNode_1 : decode b_Nr_closeNode 1 = .ok (.getfield 15, 3) := by decide +kernel
theorem d_Nr_closeNode_4 : decode b_Nr_closeNode 4 = .ok (.aload_n 0, 1) := by decide +kernel
theorem d_Nr_closeNode_5 : decode b_Nr_closeNode 5 = .ok (.getfield 19, 3) := by decide +kernel
theorem d_Nr_closeNode_8 : decode b_Nr_closeNode 8 = .ok (.invokevirtual 81, 3) := by decide +kernel
theorem d_Nr_closeNode_11 : decode b_Nr_closeNode 11 = .ok (.aload_n 0, 1) := by decide +kernel
theorem d_Nr_closeNode_12 : decode b_Nr_closeNode 12 = .ok (.getfield 9, 3) := by decide +kernel
theorem d_Nr_closeNode_15 : decode b_Nr_closeNode 15 = .ok (.getfield 85, 3) := by decide +kernel
theorem d_Nr_closeNode_18 : decode b_Nr_closeNode 18 = .ok (.getfield 89, 3) := by decide +kernel
theorem d_Nr_closeNode_21 : decode b_Nr_closeNode 21 = .ok (.aload_n 0, 1) := by decide +kernel
theorem d_Nr_closeNode_22 : decode b_Nr_closeNode 22 = .ok (.getfield 15, 3) := by decide +kernel
theorem d_Nr_closeNode_25 : decode b_Nr_closeNode 25 = .ok (.getfield 95, 3) := by decide +kernel
theorem d_Nr_closeNode_28 : decode b_Nr_closeNode 28 = .ok (.aload_n 0, 1) := by decide +kernel
theorem d_Nr_closeNode_29 : decode b_Nr_closeNode 29 = .ok (.getfield 15, 3) := by decide +kernel
theorem d_Nr_closeNode_32 : decode b_Nr_closeNode 32 = .ok (.getfield 45, 3) := by decide +kernel
theorem d_Nr_closeNode_35 : decode b_Nr_closeNode 35 = .ok (.iconst 1, 1) := by decide +kernel
theorem d_Nr_closeNode_36 : decode b_Nr_closeNode 36 = .ok (.isub, 1) := by decide +kernel
theorem d_Nr_closeNode_37 : decode b_Nr_closeNode 37 = .ok (.iaload, 1) := by decide +kernel
theorem d_Nr_closeNode_38 : decode b_Nr_closeNode 38 = .ok (.aload_n 0, 1) := by decide +kernel
theorem d_Nr_closeNode_39 : decode b_Nr_closeNode 39 = .ok (.getfield 15, 3) := by decide +kernel
theorem d_Nr_closeNode_42 : decode b_Nr_closeNode 42 = .ok (.getfield 45, 3) := by decide +kernel
theorem d_Nr_closeNode_45 : decode b_Nr_closeNode 45 = .ok (.iastore, 1) := by decide +kernel
theorem d_Nr_closeNode_46 : decode b_Nr_closeNode 46 = .ok (.aload_n 0, 1) := by decide +kernel
theorem d_Nr_closeNode_47 : decode b_Nr_closeNode 47 = .ok (.getfield 9, 3) := by decide +kernel
theorem d_Nr_closeNode_50 : decode b_Nr_closeNode 50 = .ok (.invokevirtual 98, 3) := by decide +kernel
theorem d_Nr_closeNode_53 : decode b_Nr_closeNode 53 = .ok (.iconst 1, 1) := by decide +kernel
theorem d_Nr_closeNode_54 : decode b_Nr_closeNode 54 = .ok (.ireturn, 1) := by decide +kernel
abbrev mt_Nr_closeNode : MT := (R_Nr, b_Nr_closeNode, 1, some .boolean)
theorem vf_Nr_closeNode : VF y_Nr_closeNode mt_Nr_closeNode 5 0 := ⟨im_Nr_closeNode, se_Nr_closeNode, in_Nr, co_Nr_closeNode, by decide +kernel, _, _, rfl⟩
def f_Nr_closeNode (γ : St) : Option (Int × St) :=
  bndN (f_Nd_close γ) fun _ γ4 =>
  chk (i32 ((γ4 3 9) - 1)) (chk (inb ((γ4 3 9) - 1) 59) (chk (inb (γ4 24 ((γ4 3 9) - 1)) 5923) (ap (setA γ4 23 (γ4 24 ((γ4 3 9) - 1)) (γ4 3 9)) fun γ16 =>
  bndN (f_Tk_step γ16) fun _ γ19 =>
  some (1, γ19))))
set_option maxHeartbeats 4000000 in
theorem c_Nr_closeNode {Γ : Ctx} (γ : St) : NC Γ BS y_Nr_closeNode mt_Nr_closeNode 7 267 [vR Γ 5] γ (f_Nr_closeNode γ) := by
  refine nc_of (by decide) rfl (Nat.le_of_ble_eq_true rfl) ?_
  show SB Γ BS mt_Nr_closeNode (RmN 7 267) 0 0 (KN Γ BS mt_Nr_closeNode.2.2.2) 0 [(0, vR Γ 5)] [] γ _
  unfold f_Nr_closeNode
  refine sb_aload_n 0 d_Nr_closeNode_0 rfl ?_
  refine g_Nr_15 d_Nr_closeNode_1 ?_
  refine sb_aload_n 0 d_Nr_closeNode_4 rfl ?_
  refine g_Nr_19 d_Nr_closeNode_5 ?_
  refine sb_cVv vf_Nd_close (c_Nd_close γ  ) rfl ml_Nr_81 (As := [vR Γ 4]) rfl rfl (Nat.le_of_ble_eq_true rfl) ⟨by decide, by decide⟩ d_Nr_closeNode_8 (fun _ γ4 => ?_)
  refine sb_aload_n 0 d_Nr_closeNode_11 rfl ?_
  refine g_Nr_9 d_Nr_closeNode_12 ?_
  refine g_Nr_85 d_Nr_closeNode_15 ?_
  refine g_Nr_89 d_Nr_closeNode_18 ?_
  refine sb_aload_n 0 d_Nr_closeNode_21 rfl ?_
  refine g_Nr_15 d_Nr_closeNode_22 ?_
  refine g_Nr_95 d_Nr_closeNode_25 ?_
  refine sb_aload_n 0 d_Nr_closeNode_28 rfl ?_
  refine g_Nr_15 d_Nr_closeNode_29 ?_
  refine g_Nr_45 d_Nr_closeNode_32 (fun c11 => ?_)
  refine sb_iconst d_Nr_closeNode_35 ?_
  refine sb_isub d_Nr_closeNode_36 ?_
  refine sb_chk (fun c12 => ?_)
  refine al_S_24 d_Nr_closeNode_37 (fun _ c13 => ?_)
  refine sb_aload_n 0 d_Nr_closeNode_38 rfl ?_
  refine g_Nr_15 d_Nr_closeNode_39 ?_
  refine g_Nr_45 d_Nr_closeNode_42 (fun c15 => ?_)
  refine as_S_23 c15 d_Nr_closeNode_45 (fun _ => ?_)
  refine sb_aps (fun γ16 => ?_)
  refine sb_aload_n 0 d_Nr_closeNode_46 rfl ?_
  refine g_Nr_9 d_Nr_closeNode_47 ?_
  refine sb_cVv vf_Tk_step (c_Tk_step γ16  ) rfl ml_Nr_98 (As := []) rfl rfl (Nat.le_of_ble_eq_true rfl) ⟨by decide, by decide⟩ d_Nr_closeNode_50 (fun _ γ19 => ?_)
  refine sb_iconst d_Nr_closeNode_53 ?_
  exact sn_z rfl (by decide) d_Nr_closeNode_54
theorem d_Nr_readBody_0 : decode b_Nr_readBody 0 = .ok (.aload_n 0, 1) := by decide +kernel
theorem d_Nr_readBody_1 : decode b_Nr_readBody 1 = .ok (.invokevirtual 68, 3) := by decide +kernel
theorem d_Nr_readBody_4 : decode b_Nr_readBody 4 = .ok (.ifCond .eq 26, 3) := by decide +kernel
theorem d_Nr_readBody_7 : decode b_Nr_readBody 7 = .ok (.aload_n 0, 1) := by decide +kernel
theorem d_Nr_readBody_8 : decode b_Nr_readBody 8 = .ok (.getfield 9, 3) := by decide +kernel
theorem d_Nr_readBody_11 : decode b_Nr_readBody 11 = .ok (.bipush 23, 2) := by decide +kernel
theorem d_Nr_readBody_13 : decode b_Nr_readBody 13 = .ok (.invokevirtual 55, 3) := by decide +kernel
theorem d_Nr_readBody_16 : decode b_Nr_readBody 16 = .ok (.ifCond .eq 14, 3) := by decide +kernel
theorem d_Nr_readBody_19 : decode b_Nr_readBody 19 = .ok (.aload_n 0, 1) := by decide +kernel
theorem d_Nr_readBody_20 : decode b_Nr_readBody 20 = .ok (.invokevirtual 71, 3) := by decide +kernel
theorem d_Nr_readBody_23 : decode b_Nr_readBody 23 = .ok (.ifCond .eq 7, 3) := by decide +kernel
theorem d_Nr_readBody_26 : decode b_Nr_readBody 26 = .ok (.iconst 1, 1) := by decide +kernel
theorem d_Nr_readBody_27 : decode b_Nr_readBody 27 = .ok (.goto 4, 3) := by decide +kernel
theorem d_Nr_readBody_30 : decode b_Nr_readBody 30 = .ok (.iconst 0, 1) := by decide +kernel
theorem d_Nr_readBody_31 : decode b_Nr_readBody 31 = .ok (.istore_n 1, 1) := by decide +kernel
theorem d_Nr_readBody_32 : decode b_Nr_readBody 32 = .ok (.iconst 0, 1) := by decide +kernel
theorem d_Nr_readBody_33 : decode b_Nr_readBody 33 = .ok (.istore_n 2, 1) := by decide +kernel
theorem d_Nr_readBody_34 : decode b_Nr_readBody 34 = .ok (.iload_n 1, 1) := by decide +kernel
theorem d_Nr_readBody_35 : decode b_Nr_readBody 35 = .ok (.ifCond .eq 37, 3) := by decide +kernel
theorem d_Nr_readBody_38 : decode b_Nr_readBody 38 = .ok (.iload_n 2, 1) := by decide +kernel
theorem d_Nr_readBody_39 : decode b_Nr_readBody 39 = .ok (.aload_n 0, 1) := by decide +kernel
theorem d_Nr_readBody_40 : decode b_Nr_readBody 40 = .ok (.getfield 9, 3) := by decide +kernel
theorem d_Nr_readBody_43 : decode b_Nr_readBody 43 = .ok (.getfield 74, 3) := by decide +kernel
theorem d_Nr_readBody_46 : decode b_Nr_readBody 46 = .ok (.if_icmp .ge 26, 3) := by decide +kernel
theorem d_Nr_readBody_49 : decode b_Nr_readBody 49 = .ok (.aload_n 0, 1) := by decide +kernel
theorem d_Nr_readBody_50 : decode b_Nr_readBody 50 = .ok (.getfield 9, 3) := by decide +kernel
theorem d_Nr_readBody_53 : decode b_Nr_readBody 53 = .ok (.invokevirtual 39, 3) := by decide +kernel
theorem d_Nr_readBody_56 : decode b_Nr_readBody 56 = .ok (.bipush 24, 2) := by decide +kernel
theorem d_Nr_readBody_58 : decode b_Nr_readBody 58 = .ok (.if_icmp .eq 14, 3) := by decide +kernel
theorem d_Nr_readBody_61 : decode b_Nr_readBody 61 = .ok (.aload_n 0, 1) := by decide +kernel
theorem d_Nr_readBody_62 : decode b_Nr_readBody 62 = .ok (.invokevirtual 71, 3) := by decide +kernel
theorem d_Nr_readBody_65 : decode b_Nr_readBody 65 = .ok (.istore_n 1, 1) := by decide +kernel
theorem d_Nr_readBody_66 : decode b_Nr_readBody 66 = .ok (.iinc 2 1, 3) := by decide +kernel
theorem d_Nr_readBody_69 : decode b_Nr_readBody 69 = .ok (.goto (-35), 3) := by decide +kernel
theorem d_Nr_readBody_72 : decode b_Nr_readBody 72 = .ok (.iload_n 1, 1) := by decide +kernel
theorem d_Nr_readBody_73 : decode b_Nr_readBody 73 = .ok (.ifCond .eq 24, 3) := by decide +kernel
theorem d_Nr_readBody_76 : decode b_Nr_readBody 76 = .ok (.aload_n 0, 1) := by decide +kernel
theorem d_Nr_readBody_77 : decode b_Nr_readBody 77 = .ok (.getfield 35, 3) := by decide +kernel
theorem d_Nr_readBody_80 : decode b_Nr_readBody 80 = .ok (.invokevirtual 75, 3) := by decide +kernel
theorem d_Nr_readBody_83 : decode b_Nr_readBody 83 = .ok (.ifCond .eq 14, 3) := by decide +kernel
theorem d_Nr_readBody_86 : decode b_Nr_readBody 86 = .ok (.aload_n 0, 1) := by decide +kernel
theorem d_Nr_readBody_87 : decode b_Nr_readBody 87 = .ok (.invokevirtual 78, 3) := by decide +kernel
theorem d_Nr_readBody_90 : decode b_Nr_readBody 90 = .ok (.ifCond .eq 7, 3) := by decide +kernel
theorem d_Nr_readBody_93 : decode b_Nr_readBody 93 = .ok (.iconst 1, 1) := by decide +kernel
theorem d_Nr_readBody_94 : decode b_Nr_readBody 94 = .ok (.goto 4, 3) := by decide +kernel
theorem d_Nr_readBody_97 : decode b_Nr_readBody 97 = .ok (.iconst 0, 1) := by decide +kernel
theorem d_Nr_readBody_98 : decode b_Nr_readBody 98 = .ok (.ireturn, 1) := by decide +kernel
abbrev mt_Nr_readBody : MT := (R_Nr, b_Nr_readBody, 3, some .boolean)
theorem vf_Nr_readBody : VF y_Nr_readBody mt_Nr_readBody 5 0 := ⟨im_Nr_readBody, se_Nr_readBody, in_Nr, co_Nr_readBody, by decide +kernel, _, _, rfl⟩
def f_Nr_readBody_b72 (γ : St) (x1 : Int) : Option (Int × St) :=
  if x1 = 0 then
  (some (0, γ))
  else
  (bndN (f_Ck_check γ) fun r3 γ4 =>
  if r3 = 0 then
  (some (0, γ4))
  else
  (bndN (f_Nr_closeNode γ4) fun r5 γ6 =>
  if r5 = 0 then
  (some (0, γ6))
  else
  (some (1, γ6))))
def f_Nr_readBody_L34 (e72 : St → Int → Option (Int × St)) : Nat → St → Int → Int → Option (Int × St)
  | 0, _, _, _ => none
  | n + 1, γ, x7, x8 =>
  if x7 = 0 then
  (e72 γ x7)
  else
  (if (γ 1 5) ≤ x8 then
  (e72 γ x7)
  else
  (bndN (f_Tk_kindNow γ) fun r12 γ13 =>
  if r12 = 24 then
  (e72 γ13 x7)
  else
  (bndN (f_Nr_readEquation γ13) fun r14 γ15 =>
  chk (i32 (x8 + 1)) ((f_Nr_readBody_L34 e72 n) γ15 r14 (x8 + 1)))))
def f_Nr_readBody_b31 (γ : St) (x18 : Int) : Option (Int × St) :=
  f_Nr_readBody_L34 (f_Nr_readBody_b72) FU γ x18 0
def f_Nr_readBody_b30 (γ : St) : Option (Int × St) :=
  f_Nr_readBody_b31 γ 0
def f_Nr_readBody (γ : St) : Option (Int × St) :=
  bndN (f_Nr_readVars γ) fun r19 γ20 =>
  if r19 = 0 then
  (f_Nr_readBody_b30 γ20 )
  else
  (bndN (f_Tk_expect γ20 23) fun r22 γ23 =>
  if r22 = 0 then
  (f_Nr_readBody_b30 γ23 )
  else
  (bndN (f_Nr_readEquation γ23) fun r24 γ25 =>
  if r24 = 0 then
  (f_Nr_readBody_b30 γ25 )
  else
  (f_Nr_readBody_b31 γ25 1)))
set_option maxHeartbeats 4000000 in
theorem s_Nr_readBody_b72 {Γ : Ctx} : ∀ (γ : St) (x1 : Int), i32 x1 → SB Γ BS mt_Nr_readBody (RmN 12 380) 0 0 (KN Γ BS mt_Nr_readBody.2.2.2) 72 [(0, vR Γ 5), (1, vI x1)] [] γ (f_Nr_readBody_b72 γ x1) := by
  intro γ x1 hx1
  unfold f_Nr_readBody_b72
  refine sb_iload_n 1 d_Nr_readBody_72 rfl ?_
  refine sb_if_eq 97 hx1 d_Nr_readBody_73 (by decide) (fun _ => ?_) (fun _ => ?_)
  · refine sb_iconst d_Nr_readBody_97 ?_
    exact sn_z rfl (by decide) d_Nr_readBody_98
  · refine sb_aload_n 0 d_Nr_readBody_76 rfl ?_
    refine g_Nr_35 d_Nr_readBody_77 ?_
    refine sb_cVz vf_Ck_check (c_Ck_check γ  ) rfl ml_Nr_75 (As := []) rfl rfl (Nat.le_of_ble_eq_true rfl) ⟨by decide, by decide⟩ d_Nr_readBody_80 (fun r3 γ4 hr3 => ?_)
    refine sb_if_eq 97 (z2i hr3) d_Nr_readBody_83 (by decide) (fun _ => ?_) (fun _ => ?_)
    · refine sb_iconst d_Nr_readBody_97 ?_
      exact sn_z rfl (by decide) d_Nr_readBody_98
    · refine sb_aload_n 0 d_Nr_readBody_86 rfl ?_
      refine sb_cVz vf_Nr_closeNode (c_Nr_closeNode γ4  ) rfl ml_Nr_78 (As := []) rfl rfl (Nat.le_of_ble_eq_true rfl) ⟨by decide, by decide⟩ d_Nr_readBody_87 (fun r5 γ6 hr5 => ?_)
      refine sb_if_eq 97 (z2i hr5) d_Nr_readBody_90 (by decide) (fun _ => ?_) (fun _ => ?_)
      · refine sb_iconst d_Nr_readBody_97 ?_
        exact sn_z rfl (by decide) d_Nr_readBody_98
      · refine sb_iconst d_Nr_readBody_93 ?_
        refine sb_goto 98 d_Nr_readBody_94 (by decide) ?_
        exact sn_z rfl (by decide) d_Nr_readBody_98
set_option maxHeartbeats 4000000 in
theorem s_Nr_readBody_L34 {Γ : Ctx} {e72 : St → Int → Option (Int × St)} (he72 : ∀ (γ : St) (x17 : Int), i32 x17 → SB Γ BS mt_Nr_readBody (RmN 12 380) 0 0 (KN Γ BS mt_Nr_readBody.2.2.2) 72 [(0, vR Γ 5), (1, vI x17)] [] γ (e72 γ x17)) : ∀ (n : Nat) (γ : St) (x7 : Int) (x8 : Int), i32 x7 → i32 x8 → SB Γ BS mt_Nr_readBody (RmN 12 380) 0 0 (KN Γ BS mt_Nr_readBody.2.2.2) 34 [(0, vR Γ 5), (1, vI x7), (2, vI x8)] [] γ (f_Nr_readBody_L34 e72 n γ x7 x8) := by
  intro n
  induction n with
  | zero => intros; exact sb_none
  | succ n ih =>
    intro γ x7 x8 hx7 hx8
    unfold f_Nr_readBody_L34
    refine sb_iload_n 1 d_Nr_readBody_34 rfl ?_
    refine sb_if_eq 72 hx7 d_Nr_readBody_35 (by decide) (fun _ => ?_) (fun _ => ?_)
    · exact sb_lv [0, 1] rfl (he72 γ x7 hx7)
    · refine sb_iload_n 2 d_Nr_readBody_38 rfl ?_
      refine sb_aload_n 0 d_Nr_readBody_39 rfl ?_
      refine g_Nr_9 d_Nr_readBody_40 ?_
      refine g_Nr_74 d_Nr_readBody_43 (fun c10 => ?_)
      refine sb_icmp_ge 72 hx8 c10 d_Nr_readBody_46 (by decide) (fun _ => ?_) (fun _ => ?_)
      · exact sb_lv [0, 1] rfl (he72 γ x7 hx7)
      · refine sb_aload_n 0 d_Nr_readBody_49 rfl ?_
        refine g_Nr_9 d_Nr_readBody_50 ?_
        refine sb_cVi vf_Tk_kindNow (c_Tk_kindNow γ  ) rfl ml_Nr_39 (As := []) rfl rfl (Nat.le_of_ble_eq_true rfl) ⟨by decide, by decide⟩ d_Nr_readBody_53 (fun r12 γ13 hr12 => ?_)
        refine sb_bipush d_Nr_readBody_56 (by decide) ?_
        refine sb_icmp_eq 72 hr12 (by decide) d_Nr_readBody_58 (by decide) (fun _ => ?_) (fun _ => ?_)
        · exact sb_lv [0, 1] rfl (he72 γ13 x7 hx7)
        · refine sb_aload_n 0 d_Nr_readBody_61 rfl ?_
          refine sb_cVz vf_Nr_readEquation (c_Nr_readEquation γ13  ) rfl ml_Nr_71 (As := []) rfl rfl (Nat.le_of_ble_eq_true rfl) ⟨by decide, by decide⟩ d_Nr_readBody_62 (fun r14 γ15 hr14 => ?_)
          refine sb_istore_n [(1, vI r14), (0, vR Γ 5), (2, vI x8)] d_Nr_readBody_65 (by decide) rfl ?_
          refine sb_iinc 2 [(2, vI (x8 + 1)), (1, vI r14), (0, vR Γ 5)] d_Nr_readBody_66 rfl (by decide) rfl ?_
          refine sb_chk (fun c16 => ?_)
          refine sb_goto 34 d_Nr_readBody_69 (by decide) ?_
          exact sb_lv [2, 1, 0] rfl (ih γ15 r14 (x8 + 1) (z2i hr14) c16)
set_option maxHeartbeats 4000000 in
theorem s_Nr_readBody_b31 {Γ : Ctx} : ∀ (γ : St) (x18 : Int), i32 x18 → SB Γ BS mt_Nr_readBody (RmN 12 380) 0 0 (KN Γ BS mt_Nr_readBody.2.2.2) 31 [(0, vR Γ 5)] [vI x18] γ (f_Nr_readBody_b31 γ x18) := by
  intro γ x18 hx18
  unfold f_Nr_readBody_b31
  refine sb_istore_n [(1, vI x18), (0, vR Γ 5)] d_Nr_readBody_31 (by decide) rfl ?_
  refine sb_iconst d_Nr_readBody_32 ?_
  refine sb_istore_n [(2, vI 0), (1, vI x18), (0, vR Γ 5)] d_Nr_readBody_33 (by decide) rfl ?_
  exact sb_lv [2, 1, 0] rfl (s_Nr_readBody_L34 (s_Nr_readBody_b72) FU γ x18 0 hx18 (by decide))
set_option maxHeartbeats 4000000 in
theorem s_Nr_readBody_b30 {Γ : Ctx} : ∀ (γ : St), SB Γ BS mt_Nr_readBody (RmN 12 380) 0 0 (KN Γ BS mt_Nr_readBody.2.2.2) 30 [(0, vR Γ 5)] [] γ (f_Nr_readBody_b30 γ ) := by
  intro γ
  unfold f_Nr_readBody_b30
  refine sb_iconst d_Nr_readBody_30 ?_
  exact sb_lv [0] rfl (s_Nr_readBody_b31 γ 0 (by decide))
set_option maxHeartbeats 4000000 in
theorem c_Nr_readBody {Γ : Ctx} (γ : St) : NC Γ BS y_Nr_readBody mt_Nr_readBody 12 380 [vR Γ 5] γ (f_Nr_readBody γ) := by
  refine nc_of (by decide) rfl (Nat.le_of_ble_eq_true rfl) ?_
  show SB Γ BS mt_Nr_readBody (RmN 12 380) 0 0 (KN Γ BS mt_Nr_readBody.2.2.2) 0 [(0, vR Γ 5)] [] γ _
  unfold f_Nr_readBody
  refine sb_aload_n 0 d_Nr_readBody_0 rfl ?_
  refine sb_cVz vf_Nr_readVars (c_Nr_readVars γ  ) rfl ml_Nr_68 (As := []) rfl rfl (Nat.le_of_ble_eq_true rfl) ⟨by decide, by decide⟩ d_Nr_readBody_1 (fun r19 γ20 hr19 => ?_)
  refine sb_if_eq 30 (z2i hr19) d_Nr_readBody_4 (by decide) (fun _ => ?_) (fun _ => ?_)
  · exact sb_lv [0] rfl (s_Nr_readBody_b30 γ20  )
  · refine sb_aload_n 0 d_Nr_readBody_7 rfl ?_
    refine g_Nr_9 d_Nr_readBody_8 ?_
    refine sb_bipush d_Nr_readBody_11 (by decide) ?_
    refine sb_cVz vf_Tk_expect (c_Tk_expect γ20 23 (by decide)) rfl ml_Nr_55 (As := [vI 23]) rfl rfl (Nat.le_of_ble_eq_true rfl) ⟨by decide, by decide⟩ d_Nr_readBody_13 (fun r22 γ23 hr22 => ?_)
    refine sb_if_eq 30 (z2i hr22) d_Nr_readBody_16 (by decide) (fun _ => ?_) (fun _ => ?_)
    · exact sb_lv [0] rfl (s_Nr_readBody_b30 γ23  )
    · refine sb_aload_n 0 d_Nr_readBody_19 rfl ?_
      refine sb_cVz vf_Nr_readEquation (c_Nr_readEquation γ23  ) rfl ml_Nr_71 (As := []) rfl rfl (Nat.le_of_ble_eq_true rfl) ⟨by decide, by decide⟩ d_Nr_readBody_20 (fun r24 γ25 hr24 => ?_)
      refine sb_if_eq 30 (z2i hr24) d_Nr_readBody_23 (by decide) (fun _ => ?_) (fun _ => ?_)
      · exact sb_lv [0] rfl (s_Nr_readBody_b30 γ25  )
      · refine sb_iconst d_Nr_readBody_26 ?_
        refine sb_goto 31 d_Nr_readBody_27 (by decide) ?_
        exact sb_lv [0] rfl (s_Nr_readBody_b31 γ25 1 (by decide))
