/-! the reference as functions: instants -/
theorem d_M_present_0 : decode b_M_present 0 = .ok (.iload_n 2, 1) := by decide +kernel
theorem d_M_present_1 : decode b_M_present 1 = .ok (.iconst (-1), 1) := by decide +kernel
theorem d_M_present_2 : decode b_M_present 2 = .ok (.if_icmp .ne 42, 3) := by decide +kernel
theorem d_M_present_5 : decode b_M_present 5 = .ok (.aload_n 0, 1) := by decide +kernel
theorem d_M_present_6 : decode b_M_present 6 = .ok (.getfield 187, 3) := by decide +kernel
theorem d_M_present_9 : decode b_M_present 9 = .ok (.iload_n 1, 1) := by decide +kernel
theorem d_M_present_10 : decode b_M_present 10 = .ok (.iaload, 1) := by decide +kernel
theorem d_M_present_11 : decode b_M_present 11 = .ok (.ifCond .lt 27, 3) := by decide +kernel
theorem d_M_present_14 : decode b_M_present 14 = .ok (.aload_n 0, 1) := by decide +kernel
theorem d_M_present_15 : decode b_M_present 15 = .ok (.aload_n 0, 1) := by decide +kernel
theorem d_M_present_16 : decode b_M_present 16 = .ok (.getfield 187, 3) := by decide +kernel
theorem d_M_present_19 : decode b_M_present 19 = .ok (.iload_n 1, 1) := by decide +kernel
theorem d_M_present_20 : decode b_M_present 20 = .ok (.iaload, 1) := by decide +kernel
theorem d_M_present_21 : decode b_M_present 21 = .ok (.aload_n 0, 1) := by decide +kernel
theorem d_M_present_22 : decode b_M_present 22 = .ok (.getfield 145, 3) := by decide +kernel
theorem d_M_present_25 : decode b_M_present 25 = .ok (.aload_n 0, 1) := by decide +kernel
theorem d_M_present_26 : decode b_M_present 26 = .ok (.getfield 190, 3) := by decide +kernel
theorem d_M_present_29 : decode b_M_present 29 = .ok (.iload_n 1, 1) := by decide +kernel
theorem d_M_present_30 : decode b_M_present 30 = .ok (.iaload, 1) := by decide +kernel
theorem d_M_present_31 : decode b_M_present 31 = .ok (.iaload, 1) := by decide +kernel
theorem d_M_present_32 : decode b_M_present 32 = .ok (.invokevirtual 527, 3) := by decide +kernel
theorem d_M_present_35 : decode b_M_present 35 = .ok (.ifCond .eq 7, 3) := by decide +kernel
theorem d_M_present_38 : decode b_M_present 38 = .ok (.iconst 1, 1) := by decide +kernel
theorem d_M_present_39 : decode b_M_present 39 = .ok (.goto 4, 3) := by decide +kernel
theorem d_M_present_42 : decode b_M_present 42 = .ok (.iconst 0, 1) := by decide +kernel
theorem d_M_present_43 : decode b_M_present 43 = .ok (.ireturn, 1) := by decide +kernel
theorem d_M_present_44 : decode b_M_present 44 = .ok (.aload_n 0, 1) := by decide +kernel
theorem d_M_present_45 : decode b_M_present 45 = .ok (.getfield 193, 3) := by decide +kernel
theorem d_M_present_48 : decode b_M_present 48 = .ok (.iload_n 1, 1) := by decide +kernel
theorem d_M_present_49 : decode b_M_present 49 = .ok (.iaload, 1) := by decide +kernel
theorem d_M_present_50 : decode b_M_present 50 = .ok (.iload_n 2, 1) := by decide +kernel
theorem d_M_present_51 : decode b_M_present 51 = .ok (.iconst 2, 1) := by decide +kernel
theorem d_M_present_52 : decode b_M_present 52 = .ok (.idiv, 1) := by decide +kernel
theorem d_M_present_53 : decode b_M_present 53 = .ok (.iadd, 1) := by decide +kernel
theorem d_M_present_54 : decode b_M_present 54 = .ok (.istore_n 3, 1) := by decide +kernel
theorem d_M_present_55 : decode b_M_present 55 = .ok (.aload_n 0, 1) := by decide +kernel
theorem d_M_present_56 : decode b_M_present 56 = .ok (.getfield 251, 3) := by decide +kernel
theorem d_M_present_59 : decode b_M_present 59 = .ok (.iload_n 3, 1) := by decide +kernel
theorem d_M_present_60 : decode b_M_present 60 = .ok (.baload, 1) := by decide +kernel
theorem d_M_present_61 : decode b_M_present 61 = .ok (.ifCond .eq 19, 3) := by decide +kernel
theorem d_M_present_64 : decode b_M_present 64 = .ok (.aload_n 0, 1) := by decide +kernel
theorem d_M_present_65 : decode b_M_present 65 = .ok (.getfield 239, 3) := by decide +kernel
theorem d_M_present_68 : decode b_M_present 68 = .ok (.iload_n 3, 1) := by decide +kernel
theorem d_M_present_69 : decode b_M_present 69 = .ok (.iaload, 1) := by decide +kernel
theorem d_M_present_70 : decode b_M_present 70 = .ok (.iload_n 2, 1) := by decide +kernel
theorem d_M_present_71 : decode b_M_present 71 = .ok (.iconst 1, 1) := by decide +kernel
theorem d_M_present_72 : decode b_M_present 72 = .ok (.iand, 1) := by decide +kernel
theorem d_M_present_73 : decode b_M_present 73 = .ok (.if_icmp .ne 7, 3) := by decide +kernel
theorem d_M_present_76 : decode b_M_present 76 = .ok (.iconst 1, 1) := by decide +kernel
theorem d_M_present_77 : decode b_M_present 77 = .ok (.goto 4, 3) := by decide +kernel
theorem d_M_present_80 : decode b_M_present 80 = .ok (.iconst 0, 1) := by decide +kernel
theorem d_M_present_81 : decode b_M_present 81 = .ok (.ireturn, 1) := by decide +kernel
abbrev mt_M_present : MT := (R_M, b_M_present, 4, some .boolean)
theorem vf_M_present : VF y_M_present mt_M_present 12 2 := ⟨im_M_present, se_M_present, in_M, co_M_present, by decide +kernel, _, _, rfl⟩
def f_M_present (E : Nat → St → Int → Int → Option (Int × St)) (γ : St) (a0 : Int) (a1 : Int) : Option (Int × St) :=
  if a1 ≠ (-1) then
  (chk (inb a0 3200) (chk ((2 : Int) ≠ 0) (chk (i32 ((γ 38 a0) + (idiv a1 2))) (ap ((γ 38 a0) + (idiv a1 2)) fun x4 =>
  chk (inb x4 6100) (if (γ 55 x4) = 0 then
  (some (0, γ))
  else
  (chk (inb x4 6100) (if (γ 51 x4) ≠ (iand a1 1) then
  (some (0, γ))
  else
  (some (1, γ)))))))))
  else
  (chk (inb a0 3200) (if (γ 36 a0) < 0 then
  (some (1, γ))
  else
  (chk (inb a0 3200) (chk (inb a0 3200) (chk (inb (γ 37 a0) 66000) (bndN (E 0 γ (γ 36 a0) (γ 29 (γ 37 a0))) fun r17 γ18 =>
  if r17 = 0 then
  (some (0, γ18))
  else
  (some (1, γ18))))))))
set_option maxHeartbeats 4000000 in
theorem c_M_present {Γ : Ctx} {n9 : Nat} {E : Nat → St → Int → Int → Option (Int × St)} (hE0 : ∀ (γ : St) (a0 : Int) (a1 : Int), i32 a0 → i32 a1 → NC Γ BM y_M_present mt_M_present (n9 + 6) (70 * n9 + 240) [vR Γ 0, vI a0, vI a1] γ (E 0 γ a0 a1)) (γ : St) (a0 : Int) (a1 : Int) (ha0 : i32 a0) (ha1 : i32 a1) : NC Γ BM y_M_present mt_M_present (n9 + 1 + 6) (70 * (n9 + 1) + 240) [vR Γ 0, vI a0, vI a1] γ (f_M_present E γ a0 a1) := by
  refine nc_of (by decide) rfl (Nat.le_of_ble_eq_true rfl) ?_
  show SB Γ BM mt_M_present (RmN (n9 + 1 + 6) (70 * (n9 + 1) + 240)) 0 0 (KN Γ BM mt_M_present.2.2.2) 0 [(0, vR Γ 0), (1, vI a0), (2, vI a1)] [] γ _
  unfold f_M_present
  refine sb_iload_n 2 d_M_present_0 rfl ?_
  refine sb_iconst d_M_present_1 ?_
  refine sb_icmp_ne 44 ha1 (by decide) d_M_present_2 (by decide) (fun _ => ?_) (fun _ => ?_)
  · refine sb_aload_n 0 d_M_present_44 rfl ?_
    refine g_M_193 d_M_present_45 ?_
    refine sb_iload_n 1 d_M_present_48 rfl ?_
    refine al_M_38 d_M_present_49 (fun _ c2 => ?_)
    refine sb_iload_n 2 d_M_present_50 rfl ?_
    refine sb_iconst d_M_present_51 ?_
    refine sb_idiv (by decide) d_M_present_52 (fun _ => ?_)
    refine sb_iadd d_M_present_53 ?_
    refine sb_chk (fun c3 => ?_)
    refine sb_istore_n [(3, vI ((γ 38 a0) + (idiv a1 2))), (0, vR Γ 0), (1, vI a0), (2, vI a1)] d_M_present_54 (by decide) rfl ?_
    refine sb_nme (e := (γ 38 a0) + (idiv a1 2)) (fun x4 => [(3, vI x4), (0, vR Γ 0), (1, vI a0), (2, vI a1)]) c3 (fun x4 hx4 => ?_)
    refine sb_aload_n 1 d_M_present_55 rfl ?_
    refine g_M_251 d_M_present_56 ?_
    refine sb_iload_n 0 d_M_present_59 rfl ?_
    refine al_M_55 d_M_present_60 (fun _ c6 => ?_)
    refine sb_if_eq 80 c6 d_M_present_61 (by decide) (fun _ => ?_) (fun _ => ?_)
    · refine sb_iconst d_M_present_80 ?_
      exact sn_z rfl (by decide) d_M_present_81
    · refine sb_aload_n 1 d_M_present_64 rfl ?_
      refine g_M_239 d_M_present_65 ?_
      refine sb_iload_n 0 d_M_present_68 rfl ?_
      refine al_M_51 d_M_present_69 (fun _ c8 => ?_)
      refine sb_iload_n 3 d_M_present_70 rfl ?_
      refine sb_iconst d_M_present_71 ?_
      refine sb_iand d_M_present_72 ?_
      refine sb_icmp_ne 80 c8 (iand_b _ _) d_M_present_73 (by decide) (fun _ => ?_) (fun _ => ?_)
      · refine sb_iconst d_M_present_80 ?_
        exact sn_z rfl (by decide) d_M_present_81
      · refine sb_iconst d_M_present_76 ?_
        refine sb_goto 81 d_M_present_77 (by decide) ?_
        exact sn_z rfl (by decide) d_M_present_81
  · refine sb_aload_n 0 d_M_present_5 rfl ?_
    refine g_M_187 d_M_present_6 ?_
    refine sb_iload_n 1 d_M_present_9 rfl ?_
    refine al_M_36 d_M_present_10 (fun _ c10 => ?_)
    refine sb_if_lt 38 c10 d_M_present_11 (by decide) (fun _ => ?_) (fun _ => ?_)
    · refine sb_iconst d_M_present_38 ?_
      refine sb_goto 43 d_M_present_39 (by decide) ?_
      exact sn_z rfl (by decide) d_M_present_43
    · refine sb_aload_n 0 d_M_present_14 rfl ?_
      refine sb_aload_n 0 d_M_present_15 rfl ?_
      refine g_M_187 d_M_present_16 ?_
      refine sb_iload_n 1 d_M_present_19 rfl ?_
      refine al_M_36 d_M_present_20 (fun _ c12 => ?_)
      refine sb_aload_n 0 d_M_present_21 rfl ?_
      refine g_M_145 d_M_present_22 ?_
      refine sb_aload_n 0 d_M_present_25 rfl ?_
      refine g_M_190 d_M_present_26 ?_
      refine sb_iload_n 1 d_M_present_29 rfl ?_
      refine al_M_37 d_M_present_30 (fun _ c15 => ?_)
      refine al_M_29 d_M_present_31 (fun _ c16 => ?_)
      refine sb_cVz vf_M_present (hE0 γ (γ 36 a0) (γ 29 (γ 37 a0)) c12 c16) rfl ml_M_527 (As := [vI (γ 36 a0), vI (γ 29 (γ 37 a0))]) rfl rfl (Nat.le_of_ble_eq_true rfl) ⟨by first | omega | (simp only [RmT, RmN]; omega), by first | omega | (simp only [RmT, RmN]; omega)⟩ d_M_present_32 (fun r17 γ18 hr17 => ?_)
      refine sb_if_eq 42 (z2i hr17) d_M_present_35 (by decide) (fun _ => ?_) (fun _ => ?_)
      · refine sb_iconst d_M_present_42 ?_
        exact sn_z rfl (by decide) d_M_present_43
      · refine sb_iconst d_M_present_38 ?_
        refine sb_goto 43 d_M_present_39 (by decide) ?_
        exact sn_z rfl (by decide) d_M_present_43
def MH : Nat → Nat → St → Int → Int → Option (Int × St)
  | 0, _, _, _, _ => none
  | n + 1, t, γ, a0, a1 =>
    if t = 0 then f_M_present (MH n) γ a0 a1 else none
theorem MH_c {Γ : Ctx} : ∀ n : Nat, (∀ (γ : St) (a0 : Int) (a1 : Int), i32 a0 → i32 a1 → NC Γ BM y_M_present mt_M_present (n + 6) (70 * n + 240) [vR Γ 0, vI a0, vI a1] γ (MH n 0 γ a0 a1)) := by
  intro n
  induction n with
  | zero => exact fun _ _ _ _ _ => nc_none
  | succ n ih =>
    have h0 := ih
    exact fun γ a0 a1 ha0 ha1 => c_M_present h0 γ a0 a1 ha0 ha1
def F_M_present (γ : St) (a0 : Int) (a1 : Int) : Option (Int × St) := MH 100 0 γ a0 a1
theorem C_M_present {Γ : Ctx} (γ : St) (a0 : Int) (a1 : Int) (ha0 : i32 a0) (ha1 : i32 a1) : NC Γ BM y_M_present mt_M_present 106 7240 [vR Γ 0, vI a0, vI a1] γ (F_M_present γ a0 a1) := (MH_c 100) γ a0 a1 ha0 ha1
theorem d_M_truth_0 : decode b_M_truth 0 = .ok (.iload_n 0, 1) := by decide +kernel
theorem d_M_truth_1 : decode b_M_truth 1 = .ok (.ifCond .eq 7, 3) := by decide +kernel
theorem d_M_truth_4 : decode b_M_truth 4 = .ok (.iconst 1, 1) := by decide +kernel
theorem d_M_truth_5 : decode b_M_truth 5 = .ok (.goto 4, 3) := by decide +kernel
theorem d_M_truth_8 : decode b_M_truth 8 = .ok (.iconst 0, 1) := by decide +kernel
theorem d_M_truth_9 : decode b_M_truth 9 = .ok (.ireturn, 1) := by decide +kernel
abbrev mt_M_truth : MT := (R_M, b_M_truth, 1, some .int)
theorem vf_M_truth : SF y_M_truth mt_M_truth 1 := ⟨sm_M_truth, in_M, co_M_truth, by decide +kernel⟩
def f_M_truth (γ : St) (a0 : Int) : Option (Int × St) :=
  if a0 = 0 then
  (some (0, γ))
  else
  (some (1, γ))
set_option maxHeartbeats 4000000 in
theorem c_M_truth {Γ : Ctx} (γ : St) (a0 : Int) (ha0 : i32 a0) : NC Γ BM y_M_truth mt_M_truth 6 240 [vI a0] γ (f_M_truth γ a0) := by
  refine nc_of (by decide) rfl (Nat.le_of_ble_eq_true rfl) ?_
  show SB Γ BM mt_M_truth (RmN 6 240) 0 0 (KN Γ BM mt_M_truth.2.2.2) 0 [(0, vI a0)] [] γ _
  unfold f_M_truth
  refine sb_iload_n 0 d_M_truth_0 rfl ?_
  refine sb_if_eq 8 ha0 d_M_truth_1 (by decide) (fun _ => ?_) (fun _ => ?_)
  · refine sb_iconst d_M_truth_8 ?_
    exact sn_i rfl (by decide) d_M_truth_9
  · refine sb_iconst d_M_truth_4 ?_
    refine sb_goto 9 d_M_truth_5 (by decide) ?_
    exact sn_i rfl (by decide) d_M_truth_9
theorem d_M_joined_0 : decode b_M_joined 0 = .ok (.iload_n 0, 1) := by decide +kernel
theorem d_M_joined_1 : decode b_M_joined 1 = .ok (.tableswitch 209 7 20 #[71, 89, 93, 97, 101, 115, 129, 143, 157, 171, 185, 189, 193, 197], 71) := by decide +kernel
theorem d_M_joined_72 : decode b_M_joined 72 = .ok (.iload_n 1, 1) := by decide +kernel
theorem d_M_joined_73 : decode b_M_joined 73 = .ok (.ifCond .eq 8, 3) := by decide +kernel
theorem d_M_joined_76 : decode b_M_joined 76 = .ok (.iload_n 2, 1) := by decide +kernel
theorem d_M_joined_77 : decode b_M_joined 77 = .ok (.iconst 1, 1) := by decide +kernel
theorem d_M_joined_78 : decode b_M_joined 78 = .ok (.if_icmp .ne 7, 3) := by decide +kernel
theorem d_M_joined_81 : decode b_M_joined 81 = .ok (.iconst 1, 1) := by decide +kernel
theorem d_M_joined_82 : decode b_M_joined 82 = .ok (.goto 4, 3) := by decide +kernel
theorem d_M_joined_85 : decode b_M_joined 85 = .ok (.iconst 0, 1) := by decide +kernel
theorem d_M_joined_86 : decode b_M_joined 86 = .ok (.invokestatic 533, 3) := by decide +kernel
theorem d_M_joined_89 : decode b_M_joined 89 = .ok (.ireturn, 1) := by decide +kernel
theorem d_M_joined_90 : decode b_M_joined 90 = .ok (.iload_n 1, 1) := by decide +kernel
theorem d_M_joined_91 : decode b_M_joined 91 = .ok (.iload_n 2, 1) := by decide +kernel
theorem d_M_joined_92 : decode b_M_joined 92 = .ok (.ior, 1) := by decide +kernel
theorem d_M_joined_93 : decode b_M_joined 93 = .ok (.ireturn, 1) := by decide +kernel
theorem d_M_joined_94 : decode b_M_joined 94 = .ok (.iload_n 1, 1) := by decide +kernel
theorem d_M_joined_95 : decode b_M_joined 95 = .ok (.iload_n 2, 1) := by decide +kernel
theorem d_M_joined_96 : decode b_M_joined 96 = .ok (.ixor, 1) := by decide +kernel
theorem d_M_joined_97 : decode b_M_joined 97 = .ok (.ireturn, 1) := by decide +kernel
theorem d_M_joined_98 : decode b_M_joined 98 = .ok (.iload_n 1, 1) := by decide +kernel
theorem d_M_joined_99 : decode b_M_joined 99 = .ok (.iload_n 2, 1) := by decide +kernel
theorem d_M_joined_100 : decode b_M_joined 100 = .ok (.iand, 1) := by decide +kernel
theorem d_M_joined_101 : decode b_M_joined 101 = .ok (.ireturn, 1) := by decide +kernel
theorem d_M_joined_102 : decode b_M_joined 102 = .ok (.iload_n 1, 1) := by decide +kernel
theorem d_M_joined_103 : decode b_M_joined 103 = .ok (.iload_n 2, 1) := by decide +kernel
theorem d_M_joined_104 : decode b_M_joined 104 = .ok (.if_icmp .ne 7, 3) := by decide +kernel
theorem d_M_joined_107 : decode b_M_joined 107 = .ok (.iconst 1, 1) := by decide +kernel
theorem d_M_joined_108 : decode b_M_joined 108 = .ok (.goto 4, 3) := by decide +kernel
theorem d_M_joined_111 : decode b_M_joined 111 = .ok (.iconst 0, 1) := by decide +kernel
theorem d_M_joined_112 : decode b_M_joined 112 = .ok (.invokestatic 533, 3) := by decide +kernel
theorem d_M_joined_115 : decode b_M_joined 115 = .ok (.ireturn, 1) := by decide +kernel
theorem d_M_joined_116 : decode b_M_joined 116 = .ok (.iload_n 1, 1) := by decide +kernel
theorem d_M_joined_117 : decode b_M_joined 117 = .ok (.iload_n 2, 1) := by decide +kernel
theorem d_M_joined_118 : decode b_M_joined 118 = .ok (.if_icmp .eq 7, 3) := by decide +kernel
theorem d_M_joined_121 : decode b_M_joined 121 = .ok (.iconst 1, 1) := by decide +kernel
theorem d_M_joined_122 : decode b_M_joined 122 = .ok (.goto 4, 3) := by decide +kernel
theorem d_M_joined_125 : decode b_M_joined 125 = .ok (.iconst 0, 1) := by decide +kernel
theorem d_M_joined_126 : decode b_M_joined 126 = .ok (.invokestatic 533, 3) := by decide +kernel
theorem d_M_joined_129 : decode b_M_joined 129 = .ok (.ireturn, 1) := by decide +kernel
theorem d_M_joined_130 : decode b_M_joined 130 = .ok (.iload_n 1, 1) := by decide +kernel
theorem d_M_joined_131 : decode b_M_joined 131 = .ok (.iload_n 2, 1) := by decide +kernel
theorem d_M_joined_132 : decode b_M_joined 132 = .ok (.if_icmp .ge 7, 3) := by decide +kernel
theorem d_M_joined_135 : decode b_M_joined 135 = .ok (.iconst 1, 1) := by decide +kernel
theorem d_M_joined_136 : decode b_M_joined 136 = .ok (.goto 4, 3) := by decide +kernel
theorem d_M_joined_139 : decode b_M_joined 139 = .ok (.iconst 0, 1) := by decide +kernel
theorem d_M_joined_140 : decode b_M_joined 140 = .ok (.invokestatic 533, 3) := by decide +kernel
theorem d_M_joined_143 : decode b_M_joined 143 = .ok (.ireturn, 1) := by decide +kernel
theorem d_M_joined_144 : decode b_M_joined 144 = .ok (.iload_n 1, 1) := by decide +kernel
theorem d_M_joined_145 : decode b_M_joined 145 = .ok (.iload_n 2, 1) := by decide +kernel
theorem d_M_joined_146 : decode b_M_joined 146 = .ok (.if_icmp .gt 7, 3) := by decide +kernel
theorem d_M_joined_149 : decode b_M_joined 149 = .ok (.iconst 1, 1) := by decide +kernel
theorem d_M_joined_150 : decode b_M_joined 150 = .ok (.goto 4, 3) := by decide +kernel
theorem d_M_joined_153 : decode b_M_joined 153 = .ok (.iconst 0, 1) := by decide +kernel
theorem d_M_joined_154 : decode b_M_joined 154 = .ok (.invokestatic 533, 3) := by decide +kernel
theorem d_M_joined_157 : decode b_M_joined 157 = .ok (.ireturn, 1) := by decide +kernel
theorem d_M_joined_158 : decode b_M_joined 158 = .ok (.iload_n 1, 1) := by decide +kernel
theorem d_M_joined_159 : decode b_M_joined 159 = .ok (.iload_n 2, 1) := by decide +kernel
theorem d_M_joined_160 : decode b_M_joined 160 = .ok (.if_icmp .le 7, 3) := by decide +kernel
theorem d_M_joined_163 : decode b_M_joined 163 = .ok (.iconst 1, 1) := by decide +kernel
theorem d_M_joined_164 : decode b_M_joined 164 = .ok (.goto 4, 3) := by decide +kernel
theorem d_M_joined_167 : decode b_M_joined 167 = .ok (.iconst 0, 1) := by decide +kernel
theorem d_M_joined_168 : decode b_M_joined 168 = .ok (.invokestatic 533, 3) := by decide +kernel
theorem d_M_joined_171 : decode b_M_joined 171 = .ok (.ireturn, 1) := by decide +kernel
theorem d_M_joined_172 : decode b_M_joined 172 = .ok (.iload_n 1, 1) := by decide +kernel
theorem d_M_joined_173 : decode b_M_joined 173 = .ok (.iload_n 2, 1) := by decide +kernel
theorem d_M_joined_174 : decode b_M_joined 174 = .ok (.if_icmp .lt 7, 3) := by decide +kernel
theorem d_M_joined_177 : decode b_M_joined 177 = .ok (.iconst 1, 1) := by decide +kernel
theorem d_M_joined_178 : decode b_M_joined 178 = .ok (.goto 4, 3) := by decide +kernel
theorem d_M_joined_181 : decode b_M_joined 181 = .ok (.iconst 0, 1) := by decide +kernel
theorem d_M_joined_182 : decode b_M_joined 182 = .ok (.invokestatic 533, 3) := by decide +kernel
theorem d_M_joined_185 : decode b_M_joined 185 = .ok (.ireturn, 1) := by decide +kernel
theorem d_M_joined_186 : decode b_M_joined 186 = .ok (.iload_n 1, 1) := by decide +kernel
theorem d_M_joined_187 : decode b_M_joined 187 = .ok (.iload_n 2, 1) := by decide +kernel
theorem d_M_joined_188 : decode b_M_joined 188 = .ok (.iadd, 1) := by decide +kernel
theorem d_M_joined_189 : decode b_M_joined 189 = .ok (.ireturn, 1) := by decide +kernel
theorem d_M_joined_190 : decode b_M_joined 190 = .ok (.iload_n 1, 1) := by decide +kernel
theorem d_M_joined_191 : decode b_M_joined 191 = .ok (.iload_n 2, 1) := by decide +kernel
theorem d_M_joined_192 : decode b_M_joined 192 = .ok (.isub, 1) := by decide +kernel
theorem d_M_joined_193 : decode b_M_joined 193 = .ok (.ireturn, 1) := by decide +kernel
theorem d_M_joined_194 : decode b_M_joined 194 = .ok (.iload_n 1, 1) := by decide +kernel
theorem d_M_joined_195 : decode b_M_joined 195 = .ok (.iload_n 2, 1) := by decide +kernel
theorem d_M_joined_196 : decode b_M_joined 196 = .ok (.imul, 1) := by decide +kernel
theorem d_M_joined_197 : decode b_M_joined 197 = .ok (.ireturn, 1) := by decide +kernel
theorem d_M_joined_198 : decode b_M_joined 198 = .ok (.iload_n 2, 1) := by decide +kernel
theorem d_M_joined_199 : decode b_M_joined 199 = .ok (.ifCond .ne 7, 3) := by decide +kernel
theorem d_M_joined_202 : decode b_M_joined 202 = .ok (.iconst 0, 1) := by decide +kernel
theorem d_M_joined_203 : decode b_M_joined 203 = .ok (.goto 6, 3) := by decide +kernel
theorem d_M_joined_206 : decode b_M_joined 206 = .ok (.iload_n 1, 1) := by decide +kernel
theorem d_M_joined_207 : decode b_M_joined 207 = .ok (.iload_n 2, 1) := by decide +kernel
theorem d_M_joined_208 : decode b_M_joined 208 = .ok (.idiv, 1) := by decide +kernel
theorem d_M_joined_209 : decode b_M_joined 209 = .ok (.ireturn, 1) := by decide +kernel
theorem d_M_joined_210 : decode b_M_joined 210 = .ok (.iload_n 2, 1) := by decide +kernel
theorem d_M_joined_211 : decode b_M_joined 211 = .ok (.ifCond .ne 7, 3) := by decide +kernel
theorem d_M_joined_214 : decode b_M_joined 214 = .ok (.iconst 0, 1) := by decide +kernel
theorem d_M_joined_215 : decode b_M_joined 215 = .ok (.goto 6, 3) := by decide +kernel
theorem d_M_joined_218 : decode b_M_joined 218 = .ok (.iload_n 1, 1) := by decide +kernel
theorem d_M_joined_219 : decode b_M_joined 219 = .ok (.iload_n 2, 1) := by decide +kernel
theorem d_M_joined_220 : decode b_M_joined 220 = .ok (.irem, 1) := by decide +kernel
theorem d_M_joined_221 : decode b_M_joined 221 = .ok (.ireturn, 1) := by decide +kernel
abbrev mt_M_joined : MT := (R_M, b_M_joined, 3, some .int)
theorem vf_M_joined : SF y_M_joined mt_M_joined 3 := ⟨sm_M_joined, in_M, co_M_joined, by decide +kernel⟩
def f_M_joined_b86 (γ : St) (x1 : Int) : Option (Int × St) :=
  bndN (f_M_truth γ x1) fun r2 γ3 =>
  some (r2, γ3)
def f_M_joined_b81 (γ : St) : Option (Int × St) :=
  f_M_joined_b86 γ 1
def f_M_joined_b112 (γ : St) (x4 : Int) : Option (Int × St) :=
  bndN (f_M_truth γ x4) fun r5 γ6 =>
  some (r5, γ6)
def f_M_joined_b126 (γ : St) (x7 : Int) : Option (Int × St) :=
  bndN (f_M_truth γ x7) fun r8 γ9 =>
  some (r8, γ9)
def f_M_joined_b140 (γ : St) (x10 : Int) : Option (Int × St) :=
  bndN (f_M_truth γ x10) fun r11 γ12 =>
  some (r11, γ12)
def f_M_joined_b154 (γ : St) (x13 : Int) : Option (Int × St) :=
  bndN (f_M_truth γ x13) fun r14 γ15 =>
  some (r14, γ15)
def f_M_joined_b168 (γ : St) (x16 : Int) : Option (Int × St) :=
  bndN (f_M_truth γ x16) fun r17 γ18 =>
  some (r17, γ18)
def f_M_joined_b182 (γ : St) (x19 : Int) : Option (Int × St) :=
  bndN (f_M_truth γ x19) fun r20 γ21 =>
  some (r20, γ21)
def f_M_joined (γ : St) (a0 : Int) (a1 : Int) (a2 : Int) : Option (Int × St) :=
  if a0 = 7 then
  (if a1 = 0 then
  (f_M_joined_b81 γ )
  else
  (if a2 ≠ 1 then
  (f_M_joined_b86 γ 0)
  else
  (f_M_joined_b81 γ )))
  else if a0 = 8 then
  (some (ior a1 a2, γ))
  else if a0 = 9 then
  (some (ixor a1 a2, γ))
  else if a0 = 10 then
  (some (iand a1 a2, γ))
  else if a0 = 11 then
  (if a1 ≠ a2 then
  (f_M_joined_b112 γ 0)
  else
  (f_M_joined_b112 γ 1))
  else if a0 = 12 then
  (if a1 = a2 then
  (f_M_joined_b126 γ 0)
  else
  (f_M_joined_b126 γ 1))
  else if a0 = 13 then
  (if a2 ≤ a1 then
  (f_M_joined_b140 γ 0)
  else
  (f_M_joined_b140 γ 1))
  else if a0 = 14 then
  (if a2 < a1 then
  (f_M_joined_b154 γ 0)
  else
  (f_M_joined_b154 γ 1))
  else if a0 = 15 then
  (if a1 ≤ a2 then
  (f_M_joined_b168 γ 0)
  else
  (f_M_joined_b168 γ 1))
  else if a0 = 16 then
  (if a1 < a2 then
  (f_M_joined_b182 γ 0)
  else
  (f_M_joined_b182 γ 1))
  else if a0 = 17 then
  (some (wr (a1 + a2), γ))
  else if a0 = 18 then
  (some (wr (a1 - a2), γ))
  else if a0 = 19 then
  (some (wr (a1 * a2), γ))
  else if a0 = 20 then
  (if a2 ≠ 0 then
  (chk ((a2 : Int) ≠ 0) (some (idiv a1 a2, γ)))
  else
  (some (0, γ)))
  else (if a2 ≠ 0 then
  (chk ((a2 : Int) ≠ 0) (some (irem a1 a2, γ)))
  else
  (some (0, γ)))
set_option maxHeartbeats 4000000 in
theorem s_M_joined_b86 {Γ : Ctx} : ∀ (γ : St) (x1 : Int), i32 x1 → SB Γ BM mt_M_joined (RmN 7 260) 0 0 (KN Γ BM mt_M_joined.2.2.2) 86 [] [vI x1] γ (f_M_joined_b86 γ x1) := by
  intro γ x1 hx1
  unfold f_M_joined_b86
  refine sb_cSi vf_M_truth rfl (c_M_truth γ x1 hx1) ml_M_533 (As := [vI x1]) rfl rfl (Nat.le_of_ble_eq_true rfl) ⟨by decide, by decide⟩ d_M_joined_86 (fun r2 γ3 hr2 => ?_)
  exact sn_i rfl hr2 d_M_joined_89
set_option maxHeartbeats 4000000 in
theorem s_M_joined_b81 {Γ : Ctx} : ∀ (γ : St), SB Γ BM mt_M_joined (RmN 7 260) 0 0 (KN Γ BM mt_M_joined.2.2.2) 81 [] [] γ (f_M_joined_b81 γ ) := by
  intro γ
  unfold f_M_joined_b81
  refine sb_iconst d_M_joined_81 ?_
  refine sb_goto 86 d_M_joined_82 (by decide) ?_
  exact sb_lv [] rfl (s_M_joined_b86 γ 1 (by decide))
set_option maxHeartbeats 4000000 in
theorem s_M_joined_b112 {Γ : Ctx} : ∀ (γ : St) (x4 : Int), i32 x4 → SB Γ BM mt_M_joined (RmN 7 260) 0 0 (KN Γ BM mt_M_joined.2.2.2) 112 [] [vI x4] γ (f_M_joined_b112 γ x4) := by
  intro γ x4 hx4
  unfold f_M_joined_b112
  refine sb_cSi vf_M_truth rfl (c_M_truth γ x4 hx4) ml_M_533 (As := [vI x4]) rfl rfl (Nat.le_of_ble_eq_true rfl) ⟨by decide, by decide⟩ d_M_joined_112 (fun r5 γ6 hr5 => ?_)
  exact sn_i rfl hr5 d_M_joined_115
set_option maxHeartbeats 4000000 in
theorem s_M_joined_b126 {Γ : Ctx} : ∀ (γ : St) (x7 : Int), i32 x7 → SB Γ BM mt_M_joined (RmN 7 260) 0 0 (KN Γ BM mt_M_joined.2.2.2) 126 [] [vI x7] γ (f_M_joined_b126 γ x7) := by
  intro γ x7 hx7
  unfold f_M_joined_b126
  refine sb_cSi vf_M_truth rfl (c_M_truth γ x7 hx7) ml_M_533 (As := [vI x7]) rfl rfl (Nat.le_of_ble_eq_true rfl) ⟨by decide, by decide⟩ d_M_joined_126 (fun r8 γ9 hr8 => ?_)
  exact sn_i rfl hr8 d_M_joined_129
set_option maxHeartbeats 4000000 in
theorem s_M_joined_b140 {Γ : Ctx} : ∀ (γ : St) (x10 : Int), i32 x10 → SB Γ BM mt_M_joined (RmN 7 260) 0 0 (KN Γ BM mt_M_joined.2.2.2) 140 [] [vI x10] γ (f_M_joined_b140 γ x10) := by
  intro γ x10 hx10
  unfold f_M_joined_b140
  refine sb_cSi vf_M_truth rfl (c_M_truth γ x10 hx10) ml_M_533 (As := [vI x10]) rfl rfl (Nat.le_of_ble_eq_true rfl) ⟨by decide, by decide⟩ d_M_joined_140 (fun r11 γ12 hr11 => ?_)
  exact sn_i rfl hr11 d_M_joined_143
set_option maxHeartbeats 4000000 in
theorem s_M_joined_b154 {Γ : Ctx} : ∀ (γ : St) (x13 : Int), i32 x13 → SB Γ BM mt_M_joined (RmN 7 260) 0 0 (KN Γ BM mt_M_joined.2.2.2) 154 [] [vI x13] γ (f_M_joined_b154 γ x13) := by
  intro γ x13 hx13
  unfold f_M_joined_b154
  refine sb_cSi vf_M_truth rfl (c_M_truth γ x13 hx13) ml_M_533 (As := [vI x13]) rfl rfl (Nat.le_of_ble_eq_true rfl) ⟨by decide, by decide⟩ d_M_joined_154 (fun r14 γ15 hr14 => ?_)
  exact sn_i rfl hr14 d_M_joined_157
set_option maxHeartbeats 4000000 in
theorem s_M_joined_b168 {Γ : Ctx} : ∀ (γ : St) (x16 : Int), i32 x16 → SB Γ BM mt_M_joined (RmN 7 260) 0 0 (KN Γ BM mt_M_joined.2.2.2) 168 [] [vI x16] γ (f_M_joined_b168 γ x16) := by
  intro γ x16 hx16
  unfold f_M_joined_b168
  refine sb_cSi vf_M_truth rfl (c_M_truth γ x16 hx16) ml_M_533 (As := [vI x16]) rfl rfl (Nat.le_of_ble_eq_true rfl) ⟨by decide, by decide⟩ d_M_joined_168 (fun r17 γ18 hr17 => ?_)
  exact sn_i rfl hr17 d_M_joined_171
set_option maxHeartbeats 4000000 in
theorem s_M_joined_b182 {Γ : Ctx} : ∀ (γ : St) (x19 : Int), i32 x19 → SB Γ BM mt_M_joined (RmN 7 260) 0 0 (KN Γ BM mt_M_joined.2.2.2) 182 [] [vI x19] γ (f_M_joined_b182 γ x19) := by
  intro γ x19 hx19
  unfold f_M_joined_b182
  refine sb_cSi vf_M_truth rfl (c_M_truth γ x19 hx19) ml_M_533 (As := [vI x19]) rfl rfl (Nat.le_of_ble_eq_true rfl) ⟨by decide, by decide⟩ d_M_joined_182 (fun r20 γ21 hr20 => ?_)
  exact sn_i rfl hr20 d_M_joined_185
set_option maxHeartbeats 4000000 in
theorem c_M_joined {Γ : Ctx} (γ : St) (a0 : Int) (a1 : Int) (a2 : Int) (ha0 : i32 a0) (ha1 : i32 a1) (ha2 : i32 a2) : NC Γ BM y_M_joined mt_M_joined 7 260 [vI a0, vI a1, vI a2] γ (f_M_joined γ a0 a1 a2) := by
  refine nc_of (by decide) rfl (Nat.le_of_ble_eq_true rfl) ?_
  show SB Γ BM mt_M_joined (RmN 7 260) 0 0 (KN Γ BM mt_M_joined.2.2.2) 0 [(0, vI a0), (1, vI a1), (2, vI a2)] [] γ _
  unfold f_M_joined
  refine sb_iload_n 0 d_M_joined_0 rfl ?_
  refine sb_tc (off := 71) 7 72 ha0 d_M_joined_1 (by decide) (by decide) (fun _ => ?_) (fun n22 => ?_)
  · refine sb_iload_n 1 d_M_joined_72 rfl ?_
    refine sb_if_eq 81 ha1 d_M_joined_73 (by decide) (fun _ => ?_) (fun _ => ?_)
    · exact sb_lv [] rfl (s_M_joined_b81 γ  )
    · refine sb_iload_n 2 d_M_joined_76 rfl ?_
      refine sb_iconst d_M_joined_77 ?_
      refine sb_icmp_ne 85 ha2 (by decide) d_M_joined_78 (by decide) (fun _ => ?_) (fun _ => ?_)
      · refine sb_iconst d_M_joined_85 ?_
        exact sb_lv [] rfl (s_M_joined_b86 γ 0 (by decide))
      · exact sb_lv [] rfl (s_M_joined_b81 γ  )
  refine sb_tc (off := 89) 8 90 ha0 d_M_joined_1 (by decide) (by decide) (fun _ => ?_) (fun n23 => ?_)
  · refine sb_iload_n 1 d_M_joined_90 rfl ?_
    refine sb_iload_n 2 d_M_joined_91 rfl ?_
    refine sb_ior d_M_joined_92 ?_
    exact sn_i rfl (ior_b _ _) d_M_joined_93
  refine sb_tc (off := 93) 9 94 ha0 d_M_joined_1 (by decide) (by decide) (fun _ => ?_) (fun n24 => ?_)
  · refine sb_iload_n 1 d_M_joined_94 rfl ?_
    refine sb_iload_n 2 d_M_joined_95 rfl ?_
    refine sb_ixor d_M_joined_96 ?_
    exact sn_i rfl (ixor_b _ _) d_M_joined_97
  refine sb_tc (off := 97) 10 98 ha0 d_M_joined_1 (by decide) (by decide) (fun _ => ?_) (fun n25 => ?_)
  · refine sb_iload_n 1 d_M_joined_98 rfl ?_
    refine sb_iload_n 2 d_M_joined_99 rfl ?_
    refine sb_iand d_M_joined_100 ?_
    exact sn_i rfl (iand_b _ _) d_M_joined_101
  refine sb_tc (off := 101) 11 102 ha0 d_M_joined_1 (by decide) (by decide) (fun _ => ?_) (fun n26 => ?_)
  · refine sb_iload_n 1 d_M_joined_102 rfl ?_
    refine sb_iload_n 2 d_M_joined_103 rfl ?_
    refine sb_icmp_ne 111 ha1 ha2 d_M_joined_104 (by decide) (fun _ => ?_) (fun _ => ?_)
    · refine sb_iconst d_M_joined_111 ?_
      exact sb_lv [] rfl (s_M_joined_b112 γ 0 (by decide))
    · refine sb_iconst d_M_joined_107 ?_
      refine sb_goto 112 d_M_joined_108 (by decide) ?_
      exact sb_lv [] rfl (s_M_joined_b112 γ 1 (by decide))
  refine sb_tc (off := 115) 12 116 ha0 d_M_joined_1 (by decide) (by decide) (fun _ => ?_) (fun n27 => ?_)
  · refine sb_iload_n 1 d_M_joined_116 rfl ?_
    refine sb_iload_n 2 d_M_joined_117 rfl ?_
    refine sb_icmp_eq 125 ha1 ha2 d_M_joined_118 (by decide) (fun _ => ?_) (fun _ => ?_)
    · refine sb_iconst d_M_joined_125 ?_
      exact sb_lv [] rfl (s_M_joined_b126 γ 0 (by decide))
    · refine sb_iconst d_M_joined_121 ?_
      refine sb_goto 126 d_M_joined_122 (by decide) ?_
      exact sb_lv [] rfl (s_M_joined_b126 γ 1 (by decide))
  refine sb_tc (off := 129) 13 130 ha0 d_M_joined_1 (by decide) (by decide) (fun _ => ?_) (fun n28 => ?_)
  · refine sb_iload_n 1 d_M_joined_130 rfl ?_
    refine sb_iload_n 2 d_M_joined_131 rfl ?_
    refine sb_icmp_ge 139 ha1 ha2 d_M_joined_132 (by decide) (fun _ => ?_) (fun _ => ?_)
    · refine sb_iconst d_M_joined_139 ?_
      exact sb_lv [] rfl (s_M_joined_b140 γ 0 (by decide))
    · refine sb_iconst d_M_joined_135 ?_
      refine sb_goto 140 d_M_joined_136 (by decide) ?_
      exact sb_lv [] rfl (s_M_joined_b140 γ 1 (by decide))
  refine sb_tc (off := 143) 14 144 ha0 d_M_joined_1 (by decide) (by decide) (fun _ => ?_) (fun n29 => ?_)
  · refine sb_iload_n 1 d_M_joined_144 rfl ?_
    refine sb_iload_n 2 d_M_joined_145 rfl ?_
    refine sb_icmp_gt 153 ha1 ha2 d_M_joined_146 (by decide) (fun _ => ?_) (fun _ => ?_)
    · refine sb_iconst d_M_joined_153 ?_
      exact sb_lv [] rfl (s_M_joined_b154 γ 0 (by decide))
    · refine sb_iconst d_M_joined_149 ?_
      refine sb_goto 154 d_M_joined_150 (by decide) ?_
      exact sb_lv [] rfl (s_M_joined_b154 γ 1 (by decide))
  refine sb_tc (off := 157) 15 158 ha0 d_M_joined_1 (by decide) (by decide) (fun _ => ?_) (fun n30 => ?_)
  · refine sb_iload_n 1 d_M_joined_158 rfl ?_
    refine sb_iload_n 2 d_M_joined_159 rfl ?_
    refine sb_icmp_le 167 ha1 ha2 d_M_joined_160 (by decide) (fun _ => ?_) (fun _ => ?_)
    · refine sb_iconst d_M_joined_167 ?_
      exact sb_lv [] rfl (s_M_joined_b168 γ 0 (by decide))
    · refine sb_iconst d_M_joined_163 ?_
      refine sb_goto 168 d_M_joined_164 (by decide) ?_
      exact sb_lv [] rfl (s_M_joined_b168 γ 1 (by decide))
  refine sb_tc (off := 171) 16 172 ha0 d_M_joined_1 (by decide) (by decide) (fun _ => ?_) (fun n31 => ?_)
  · refine sb_iload_n 1 d_M_joined_172 rfl ?_
    refine sb_iload_n 2 d_M_joined_173 rfl ?_
    refine sb_icmp_lt 181 ha1 ha2 d_M_joined_174 (by decide) (fun _ => ?_) (fun _ => ?_)
    · refine sb_iconst d_M_joined_181 ?_
      exact sb_lv [] rfl (s_M_joined_b182 γ 0 (by decide))
    · refine sb_iconst d_M_joined_177 ?_
      refine sb_goto 182 d_M_joined_178 (by decide) ?_
      exact sb_lv [] rfl (s_M_joined_b182 γ 1 (by decide))
  refine sb_tc (off := 185) 17 186 ha0 d_M_joined_1 (by decide) (by decide) (fun _ => ?_) (fun n32 => ?_)
  · refine sb_iload_n 1 d_M_joined_186 rfl ?_
    refine sb_iload_n 2 d_M_joined_187 rfl ?_
    refine sb_iadd d_M_joined_188 ?_
    refine sb_wr ?_
    exact sn_i rfl (wr_b _) d_M_joined_189
  refine sb_tc (off := 189) 18 190 ha0 d_M_joined_1 (by decide) (by decide) (fun _ => ?_) (fun n33 => ?_)
  · refine sb_iload_n 1 d_M_joined_190 rfl ?_
    refine sb_iload_n 2 d_M_joined_191 rfl ?_
    refine sb_isub d_M_joined_192 ?_
    refine sb_wr ?_
    exact sn_i rfl (wr_b _) d_M_joined_193
  refine sb_tc (off := 193) 19 194 ha0 d_M_joined_1 (by decide) (by decide) (fun _ => ?_) (fun n34 => ?_)
  · refine sb_iload_n 1 d_M_joined_194 rfl ?_
    refine sb_iload_n 2 d_M_joined_195 rfl ?_
    refine sb_imul d_M_joined_196 ?_
    refine sb_wr ?_
    exact sn_i rfl (wr_b _) d_M_joined_197
  refine sb_tc (off := 197) 20 198 ha0 d_M_joined_1 (by decide) (by decide) (fun _ => ?_) (fun n35 => ?_)
  · refine sb_iload_n 2 d_M_joined_198 rfl ?_
    refine sb_if_ne 206 ha2 d_M_joined_199 (by decide) (fun _ => ?_) (fun _ => ?_)
    · refine sb_iload_n 1 d_M_joined_206 rfl ?_
      refine sb_iload_n 2 d_M_joined_207 rfl ?_
      refine sb_idiv ha2 d_M_joined_208 (fun _ => ?_)
      exact sn_i rfl (idiv_b _ _) d_M_joined_209
    · refine sb_iconst d_M_joined_202 ?_
      refine sb_goto 209 d_M_joined_203 (by decide) ?_
      exact sn_i rfl (by decide) d_M_joined_209
  refine sb_td 210 ha0 d_M_joined_1 (by omega) (by decide) ?_
  refine sb_iload_n 2 d_M_joined_210 rfl ?_
  refine sb_if_ne 218 ha2 d_M_joined_211 (by decide) (fun _ => ?_) (fun _ => ?_)
  · refine sb_iload_n 1 d_M_joined_218 rfl ?_
    refine sb_iload_n 2 d_M_joined_219 rfl ?_
    refine sb_irem ha2 d_M_joined_220 (fun _ => ?_)
    exact sn_i rfl (irem_b _ _) d_M_joined_221
  · refine sb_iconst d_M_joined_214 ?_
    refine sb_goto 221 d_M_joined_215 (by decide) ?_
    exact sn_i rfl (by decide) d_M_joined_221
theorem d_M_work_0 : decode b_M_work 0 = .ok (.aload_n 0, 1) := by decide +kernel
theorem d_M_work_1 : decode b_M_work 1 = .ok (.getfield 118, 3) := by decide +kernel
theorem d_M_work_4 : decode b_M_work 4 = .ok (.iload_n 2, 1) := by decide +kernel
theorem d_M_work_5 : decode b_M_work 5 = .ok (.iaload, 1) := by decide +kernel
theorem d_M_work_6 : decode b_M_work 6 = .ok (.istore_n 3, 1) := by decide +kernel
theorem d_M_work_7 : decode b_M_work 7 = .ok (.iload_n 3, 1) := by decide +kernel
theorem d_M_work_8 : decode b_M_work 8 = .ok (.ifCond .ge 7, 3) := by decide +kernel
theorem d_M_work_11 : decode b_M_work 11 = .ok (.iconst (-1), 1) := by decide +kernel
theorem d_M_work_12 : decode b_M_work 12 = .ok (.goto 9, 3) := by decide +kernel
theorem d_M_work_15 : decode b_M_work 15 = .ok (.aload_n 0, 1) := by decide +kernel
theorem d_M_work_16 : decode b_M_work 16 = .ok (.getfield 121, 3) := by decide +kernel
theorem d_M_work_19 : decode b_M_work 19 = .ok (.iload_n 3, 1) := by decide +kernel
theorem d_M_work_20 : decode b_M_work 20 = .ok (.iaload, 1) := by decide +kernel
theorem d_M_work_21 : decode b_M_work 21 = .ok (.istore 4, 2) := by decide +kernel
theorem d_M_work_23 : decode b_M_work 23 = .ok (.aload_n 0, 1) := by decide +kernel
theorem d_M_work_24 : decode b_M_work 24 = .ok (.getfield 196, 3) := by decide +kernel
theorem d_M_work_27 : decode b_M_work 27 = .ok (.iload_n 1, 1) := by decide +kernel
theorem d_M_work_28 : decode b_M_work 28 = .ok (.iaload, 1) := by decide +kernel
theorem d_M_work_29 : decode b_M_work 29 = .ok (.aload_n 0, 1) := by decide +kernel
theorem d_M_work_30 : decode b_M_work 30 = .ok (.getfield 127, 3) := by decide +kernel
theorem d_M_work_33 : decode b_M_work 33 = .ok (.iload_n 2, 1) := by decide +kernel
theorem d_M_work_34 : decode b_M_work 34 = .ok (.iaload, 1) := by decide +kernel
theorem d_M_work_35 : decode b_M_work 35 = .ok (.iadd, 1) := by decide +kernel
theorem d_M_work_36 : decode b_M_work 36 = .ok (.istore 5, 2) := by decide +kernel
theorem d_M_work_38 : decode b_M_work 38 = .ok (.aload_n 0, 1) := by decide +kernel
theorem d_M_work_39 : decode b_M_work 39 = .ok (.getfield 112, 3) := by decide +kernel
theorem d_M_work_42 : decode b_M_work 42 = .ok (.iload_n 2, 1) := by decide +kernel
theorem d_M_work_43 : decode b_M_work 43 = .ok (.iaload, 1) := by decide +kernel
theorem d_M_work_44 : decode b_M_work 44 = .ok (.tableswitch 405 0 26 #[124, 124, 139, 166, 187, 228, 264, 405, 405, 405, 405, 405, 405, 405, 405, 405, 405, 405, 405, 405, 405, 405, 302, 318, 335, 351, 390], 124) := by decide +kernel
theorem d_M_work_168 : decode b_M_work 168 = .ok (.aload_n 0, 1) := by decide +kernel
theorem d_M_work_169 : decode b_M_work 169 = .ok (.getfield 248, 3) := by decide +kernel
theorem d_M_work_172 : decode b_M_work 172 = .ok (.iload_n 2, 1) := by decide +kernel
theorem d_M_work_173 : decode b_M_work 173 = .ok (.aload_n 0, 1) := by decide +kernel
theorem d_M_work_174 : decode b_M_work 174 = .ok (.getfield 115, 3) := by decide +kernel
theorem d_M_work_177 : decode b_M_work 177 = .ok (.iload_n 2, 1) := by decide +kernel
theorem d_M_work_178 : decode b_M_work 178 = .ok (.iaload, 1) := by decide +kernel
theorem d_M_work_179 : decode b_M_work 179 = .ok (.iastore, 1) := by decide +kernel
theorem d_M_work_180 : decode b_M_work 180 = .ok (.goto 297, 3) := by decide +kernel
theorem d_M_work_183 : decode b_M_work 183 = .ok (.aload_n 0, 1) := by decide +kernel
theorem d_M_work_184 : decode b_M_work 184 = .ok (.getfield 248, 3) := by decide +kernel
theorem d_M_work_187 : decode b_M_work 187 = .ok (.iload_n 2, 1) := by decide +kernel
theorem d_M_work_188 : decode b_M_work 188 = .ok (.aload_n 0, 1) := by decide +kernel
theorem d_M_work_189 : decode b_M_work 189 = .ok (.getfield 239, 3) := by decide +kernel
theorem d_M_work_192 : decode b_M_work 192 = .ok (.aload_n 0, 1) := by decide +kernel
theorem d_M_work_193 : decode b_M_work 193 = .ok (.getfield 193, 3) := by decide +kernel
theorem d_M_work_196 : decode b_M_work 196 = .ok (.iload_n 1, 1) := by decide +kernel
theorem d_M_work_197 : decode b_M_work 197 = .ok (.iaload, 1) := by decide +kernel
theorem d_M_work_198 : decode b_M_work 198 = .ok (.aload_n 0, 1) := by decide +kernel
theorem d_M_work_199 : decode b_M_work 199 = .ok (.getfield 115, 3) := by decide +kernel
theorem d_M_work_202 : decode b_M_work 202 = .ok (.iload_n 2, 1) := by decide +kernel
theorem d_M_work_203 : decode b_M_work 203 = .ok (.iaload, 1) := by decide +kernel
theorem d_M_work_204 : decode b_M_work 204 = .ok (.iadd, 1) := by decide +kernel
theorem d_M_work_205 : decode b_M_work 205 = .ok (.iaload, 1) := by decide +kernel
theorem d_M_work_206 : decode b_M_work 206 = .ok (.iastore, 1) := by decide +kernel
theorem d_M_work_207 : decode b_M_work 207 = .ok (.goto 270, 3) := by decide +kernel
theorem d_M_work_210 : decode b_M_work 210 = .ok (.aload_n 0, 1) := by decide +kernel
theorem d_M_work_211 : decode b_M_work 211 = .ok (.getfield 248, 3) := by decide +kernel
theorem d_M_work_214 : decode b_M_work 214 = .ok (.iload_n 2, 1) := by decide +kernel
theorem d_M_work_215 : decode b_M_work 215 = .ok (.aload_n 0, 1) := by decide +kernel
theorem d_M_work_216 : decode b_M_work 216 = .ok (.getfield 239, 3) := by decide +kernel
theorem d_M_work_219 : decode b_M_work 219 = .ok (.aload_n 0, 1) := by decide +kernel
theorem d_M_work_220 : decode b_M_work 220 = .ok (.iload_n 1, 1) := by decide +kernel
theorem d_M_work_221 : decode b_M_work 221 = .ok (.iload_n 2, 1) := by decide +kernel
theorem d_M_work_222 : decode b_M_work 222 = .ok (.iconst 0, 1) := by decide +kernel
theorem d_M_work_223 : decode b_M_work 223 = .ok (.invokevirtual 483, 3) := by decide +kernel
theorem d_M_work_226 : decode b_M_work 226 = .ok (.iaload, 1) := by decide +kernel
theorem d_M_work_227 : decode b_M_work 227 = .ok (.iastore, 1) := by decide +kernel
theorem d_M_work_228 : decode b_M_work 228 = .ok (.goto 249, 3) := by decide +kernel
theorem d_M_work_231 : decode b_M_work 231 = .ok (.aload_n 0, 1) := by decide +kernel
theorem d_M_work_232 : decode b_M_work 232 = .ok (.getfield 248, 3) := by decide +kernel
theorem d_M_work_235 : decode b_M_work 235 = .ok (.iload_n 2, 1) := by decide +kernel
theorem d_M_work_236 : decode b_M_work 236 = .ok (.aload_n 0, 1) := by decide +kernel
theorem d_M_work_237 : decode b_M_work 237 = .ok (.getfield 248, 3) := by decide +kernel
theorem d_M_work_240 : decode b_M_work 240 = .ok (.iload_n 3, 1) := by decide +kernel
theorem d_M_work_241 : decode b_M_work 241 = .ok (.iaload, 1) := by decide +kernel
theorem d_M_work_242 : decode b_M_work 242 = .ok (.iconst 1, 1) := by decide +kernel
theorem d_M_work_243 : decode b_M_work 243 = .ok (.if_icmp .ne 13, 3) := by decide +kernel
theorem d_M_work_246 : decode b_M_work 246 = .ok (.aload_n 0, 1) := by decide +kernel
theorem d_M_work_247 : decode b_M_work 247 = .ok (.getfield 248, 3) := by decide +kernel
theorem d_M_work_250 : decode b_M_work 250 = .ok (.iload 4, 2) := by decide +kernel
theorem d_M_work_252 : decode b_M_work 252 = .ok (.iaload, 1) := by decide +kernel
theorem d_M_work_253 : decode b_M_work 253 = .ok (.goto 15, 3) := by decide +kernel
theorem d_M_work_256 : decode b_M_work 256 = .ok (.aload_n 0, 1) := by decide +kernel
theorem d_M_work_257 : decode b_M_work 257 = .ok (.getfield 248, 3) := by decide +kernel
theorem d_M_work_260 : decode b_M_work 260 = .ok (.aload_n 0, 1) := by decide +kernel
theorem d_M_work_261 : decode b_M_work 261 = .ok (.getfield 121, 3) := by decide +kernel
theorem d_M_work_264 : decode b_M_work 264 = .ok (.iload 4, 2) := by decide +kernel
theorem d_M_work_266 : decode b_M_work 266 = .ok (.iaload, 1) := by decide +kernel
theorem d_M_work_267 : decode b_M_work 267 = .ok (.iaload, 1) := by decide +kernel
theorem d_M_work_268 : decode b_M_work 268 = .ok (.iastore, 1) := by decide +kernel
theorem d_M_work_269 : decode b_M_work 269 = .ok (.goto 208, 3) := by decide +kernel
theorem d_M_work_272 : decode b_M_work 272 = .ok (.aload_n 0, 1) := by decide +kernel
theorem d_M_work_273 : decode b_M_work 273 = .ok (.getfield 248, 3) := by decide +kernel
theorem d_M_work_276 : decode b_M_work 276 = .ok (.iload_n 2, 1) := by decide +kernel
theorem d_M_work_277 : decode b_M_work 277 = .ok (.aload_n 0, 1) := by decide +kernel
theorem d_M_work_278 : decode b_M_work 278 = .ok (.getfield 242, 3) := by decide +kernel
theorem d_M_work_281 : decode b_M_work 281 = .ok (.iload 5, 2) := by decide +kernel
theorem d_M_work_283 : decode b_M_work 283 = .ok (.iaload, 1) := by decide +kernel
theorem d_M_work_284 : decode b_M_work 284 = .ok (.iconst 1, 1) := by decide +kernel
theorem d_M_work_285 : decode b_M_work 285 = .ok (.if_icmp .ne 13, 3) := by decide +kernel
theorem d_M_work_288 : decode b_M_work 288 = .ok (.aload_n 0, 1) := by decide +kernel
theorem d_M_work_289 : decode b_M_work 289 = .ok (.getfield 248, 3) := by decide +kernel
theorem d_M_work_292 : decode b_M_work 292 = .ok (.iload 4, 2) := by decide +kernel
theorem d_M_work_294 : decode b_M_work 294 = .ok (.iaload, 1) := by decide +kernel
theorem d_M_work_295 : decode b_M_work 295 = .ok (.goto 9, 3) := by decide +kernel
theorem d_M_work_298 : decode b_M_work 298 = .ok (.aload_n 0, 1) := by decide +kernel
theorem d_M_work_299 : decode b_M_work 299 = .ok (.getfield 248, 3) := by decide +kernel
theorem d_M_work_302 : decode b_M_work 302 = .ok (.iload_n 3, 1) := by decide +kernel
theorem d_M_work_303 : decode b_M_work 303 = .ok (.iaload, 1) := by decide +kernel
theorem d_M_work_304 : decode b_M_work 304 = .ok (.iastore, 1) := by decide +kernel
theorem d_M_work_305 : decode b_M_work 305 = .ok (.goto 172, 3) := by decide +kernel
theorem d_M_work_308 : decode b_M_work 308 = .ok (.aload_n 0, 1) := by decide +kernel
theorem d_M_work_309 : decode b_M_work 309 = .ok (.getfield 248, 3) := by decide +kernel
theorem d_M_work_312 : decode b_M_work 312 = .ok (.iload_n 2, 1) := by decide +kernel
theorem d_M_work_313 : decode b_M_work 313 = .ok (.aload_n 0, 1) := by decide +kernel
theorem d_M_work_314 : decode b_M_work 314 = .ok (.getfield 242, 3) := by decide +kernel
theorem d_M_work_317 : decode b_M_work 317 = .ok (.iload 5, 2) := by decide +kernel
theorem d_M_work_319 : decode b_M_work 319 = .ok (.iconst 1, 1) := by decide +kernel
theorem d_M_work_320 : decode b_M_work 320 = .ok (.iadd, 1) := by decide +kernel
theorem d_M_work_321 : decode b_M_work 321 = .ok (.iaload, 1) := by decide +kernel
theorem d_M_work_322 : decode b_M_work 322 = .ok (.iconst 1, 1) := by decide +kernel
theorem d_M_work_323 : decode b_M_work 323 = .ok (.if_icmp .ne 13, 3) := by decide +kernel
theorem d_M_work_326 : decode b_M_work 326 = .ok (.aload_n 0, 1) := by decide +kernel
theorem d_M_work_327 : decode b_M_work 327 = .ok (.getfield 242, 3) := by decide +kernel
theorem d_M_work_330 : decode b_M_work 330 = .ok (.iload 5, 2) := by decide +kernel
theorem d_M_work_332 : decode b_M_work 332 = .ok (.iaload, 1) := by decide +kernel
theorem d_M_work_333 : decode b_M_work 333 = .ok (.goto 9, 3) := by decide +kernel
theorem d_M_work_336 : decode b_M_work 336 = .ok (.aload_n 0, 1) := by decide +kernel
theorem d_M_work_337 : decode b_M_work 337 = .ok (.getfield 248, 3) := by decide +kernel
theorem d_M_work_340 : decode b_M_work 340 = .ok (.iload_n 3, 1) := by decide +kernel
theorem d_M_work_341 : decode b_M_work 341 = .ok (.iaload, 1) := by decide +kernel
theorem d_M_work_342 : decode b_M_work 342 = .ok (.iastore, 1) := by decide +kernel
theorem d_M_work_343 : decode b_M_work 343 = .ok (.goto 134, 3) := by decide +kernel
theorem d_M_work_346 : decode b_M_work 346 = .ok (.aload_n 0, 1) := by decide +kernel
theorem d_M_work_347 : decode b_M_work 347 = .ok (.getfield 248, 3) := by decide +kernel
theorem d_M_work_350 : decode b_M_work 350 = .ok (.iload_n 2, 1) := by decide +kernel
theorem d_M_work_351 : decode b_M_work 351 = .ok (.aload_n 0, 1) := by decide +kernel
theorem d_M_work_352 : decode b_M_work 352 = .ok (.getfield 248, 3) := by decide +kernel
theorem d_M_work_355 : decode b_M_work 355 = .ok (.iload_n 3, 1) := by decide +kernel
theorem d_M_work_356 : decode b_M_work 356 = .ok (.iaload, 1) := by decide +kernel
theorem d_M_work_357 : decode b_M_work 357 = .ok (.ineg, 1) := by decide +kernel
theorem d_M_work_358 : decode b_M_work 358 = .ok (.iastore, 1) := by decide +kernel
theorem d_M_work_359 : decode b_M_work 359 = .ok (.goto 118, 3) := by decide +kernel
theorem d_M_work_362 : decode b_M_work 362 = .ok (.aload_n 0, 1) := by decide +kernel
theorem d_M_work_363 : decode b_M_work 363 = .ok (.getfield 248, 3) := by decide +kernel
theorem d_M_work_366 : decode b_M_work 366 = .ok (.iload_n 2, 1) := by decide +kernel
theorem d_M_work_367 : decode b_M_work 367 = .ok (.iconst 1, 1) := by decide +kernel
theorem d_M_work_368 : decode b_M_work 368 = .ok (.aload_n 0, 1) := by decide +kernel
theorem d_M_work_369 : decode b_M_work 369 = .ok (.getfield 248, 3) := by decide +kernel
theorem d_M_work_372 : decode b_M_work 372 = .ok (.iload_n 3, 1) := by decide +kernel
theorem d_M_work_373 : decode b_M_work 373 = .ok (.iaload, 1) := by decide +kernel
theorem d_M_work_374 : decode b_M_work 374 = .ok (.isub, 1) := by decide +kernel
theorem d_M_work_375 : decode b_M_work 375 = .ok (.iastore, 1) := by decide +kernel
theorem d_M_work_376 : decode b_M_work 376 = .ok (.goto 101, 3) := by decide +kernel
theorem d_M_work_379 : decode b_M_work 379 = .ok (.aload_n 0, 1) := by decide +kernel
theorem d_M_work_380 : decode b_M_work 380 = .ok (.getfield 248, 3) := by decide +kernel
theorem d_M_work_383 : decode b_M_work 383 = .ok (.iload_n 2, 1) := by decide +kernel
theorem d_M_work_384 : decode b_M_work 384 = .ok (.aload_n 0, 1) := by decide +kernel
theorem d_M_work_385 : decode b_M_work 385 = .ok (.getfield 242, 3) := by decide +kernel
theorem d_M_work_388 : decode b_M_work 388 = .ok (.iload 5, 2) := by decide +kernel
theorem d_M_work_390 : decode b_M_work 390 = .ok (.iaload, 1) := by decide +kernel
theorem d_M_work_391 : decode b_M_work 391 = .ok (.iastore, 1) := by decide +kernel
theorem d_M_work_392 : decode b_M_work 392 = .ok (.goto 85, 3) := by decide +kernel
theorem d_M_work_395 : decode b_M_work 395 = .ok (.aload_n 0, 1) := by decide +kernel
theorem d_M_work_396 : decode b_M_work 396 = .ok (.getfield 248, 3) := by decide +kernel
theorem d_M_work_399 : decode b_M_work 399 = .ok (.iload_n 2, 1) := by decide +kernel
theorem d_M_work_400 : decode b_M_work 400 = .ok (.aload_n 0, 1) := by decide +kernel
theorem d_M_work_401 : decode b_M_work 401 = .ok (.iload_n 1, 1) := by decide +kernel
theorem d_M_work_402 : decode b_M_work 402 = .ok (.aload_n 0, 1) := by decide +kernel
theorem d_M_work_403 : decode b_M_work 403 = .ok (.getfield 145, 3) := by decide +kernel
theorem d_M_work_406 : decode b_M_work 406 = .ok (.iload_n 3, 1) := by decide +kernel
theorem d_M_work_407 : decode b_M_work 407 = .ok (.iaload, 1) := by decide +kernel
theorem d_M_work_408 : decode b_M_work 408 = .ok (.invokevirtual 527, 3) := by decide +kernel
theorem d_M_work_411 : decode b_M_work 411 = .ok (.ifCond .eq 12, 3) := by decide +kernel
theorem d_M_work_414 : decode b_M_work 414 = .ok (.aload_n 0, 1) := by decide +kernel
theorem d_M_work_415 : decode b_M_work 415 = .ok (.getfield 248, 3) := by decide +kernel
theorem d_M_work_418 : decode b_M_work 418 = .ok (.iload_n 3, 1) := by decide +kernel
theorem d_M_work_419 : decode b_M_work 419 = .ok (.iaload, 1) := by decide +kernel
theorem d_M_work_420 : decode b_M_work 420 = .ok (.goto 10, 3) := by decide +kernel
theorem d_M_work_423 : decode b_M_work 423 = .ok (.aload_n 0, 1) := by decide +kernel
theorem d_M_work_424 : decode b_M_work 424 = .ok (.getfield 242, 3) := by decide +kernel
theorem d_M_work_427 : decode b_M_work 427 = .ok (.iload 5, 2) := by decide +kernel
theorem d_M_work_429 : decode b_M_work 429 = .ok (.iaload, 1) := by decide +kernel
theorem d_M_work_430 : decode b_M_work 430 = .ok (.iastore, 1) := by decide +kernel
theorem d_M_work_431 : decode b_M_work 431 = .ok (.goto 46, 3) := by decide +kernel
theorem d_M_work_434 : decode b_M_work 434 = .ok (.aload_n 0, 1) := by decide +kernel
theorem d_M_work_435 : decode b_M_work 435 = .ok (.getfield 248, 3) := by decide +kernel
theorem d_M_work_438 : decode b_M_work 438 = .ok (.iload_n 2, 1) := by decide +kernel
theorem d_M_work_439 : decode b_M_work 439 = .ok (.aload_n 0, 1) := by decide +kernel
theorem d_M_work_440 : decode b_M_work 440 = .ok (.getfield 248, 3) := by decide +kernel
theorem d_M_work_443 : decode b_M_work 443 = .ok (.iload_n 3, 1) := by decide +kernel
theorem d_M_work_444 : decode b_M_work 444 = .ok (.iaload, 1) := by decide +kernel
theorem d_M_work_445 : decode b_M_work 445 = .ok (.iastore, 1) := by decide +kernel
theorem d_M_work_446 : decode b_M_work 446 = .ok (.goto 31, 3) := by decide +kernel
theorem d_M_work_449 : decode b_M_work 449 = .ok (.aload_n 0, 1) := by decide +kernel
theorem d_M_work_450 : decode b_M_work 450 = .ok (.getfield 248, 3) := by decide +kernel
theorem d_M_work_453 : decode b_M_work 453 = .ok (.iload_n 2, 1) := by decide +kernel
theorem d_M_work_454 : decode b_M_work 454 = .ok (.aload_n 0, 1) := by decide +kernel
theorem d_M_work_455 : decode b_M_work 455 = .ok (.getfield 112, 3) := by decide +kernel
theorem d_M_work_458 : decode b_M_work 458 = .ok (.iload_n 2, 1) := by decide +kernel
theorem d_M_work_459 : decode b_M_work 459 = .ok (.iaload, 1) := by decide +kernel
theorem d_M_work_460 : decode b_M_work 460 = .ok (.aload_n 0, 1) := by decide +kernel
theorem d_M_work_461 : decode b_M_work 461 = .ok (.getfield 248, 3) := by decide +kernel
theorem d_M_work_464 : decode b_M_work 464 = .ok (.iload_n 3, 1) := by decide +kernel
theorem d_M_work_465 : decode b_M_work 465 = .ok (.iaload, 1) := by decide +kernel
theorem d_M_work_466 : decode b_M_work 466 = .ok (.aload_n 0, 1) := by decide +kernel
theorem d_M_work_467 : decode b_M_work 467 = .ok (.getfield 248, 3) := by decide +kernel
theorem d_M_work_470 : decode b_M_work 470 = .ok (.iload 4, 2) := by decide +kernel
theorem d_M_work_472 : decode b_M_work 472 = .ok (.iaload, 1) := by decide +kernel
theorem d_M_work_473 : decode b_M_work 473 = .ok (.invokestatic 530, 3) := by decide +kernel
theorem d_M_work_476 : decode b_M_work 476 = .ok (.iastore, 1) := by decide +kernel
theorem d_M_work_477 : decode b_M_work 477 = .ok (.return_, 1) := by decide +kernel
abbrev mt_M_work : MT := (R_M, b_M_work, 6, none)
theorem vf_M_work : VF y_M_work mt_M_work 12 2 := ⟨im_M_work, se_M_work, in_M, co_M_work, by decide +kernel, _, _, rfl⟩
def f_M_work_b21 (γ : St) (x1 : Int) (x2 : Int) (x3 : Int) (x4 : Int) : Option (Int × St) :=
  chk (inb x1 3200) (chk (inb x2 66000) (chk (i32 ((γ 39 x1) + (γ 25 x2))) (ap ((γ 39 x1) + (γ 25 x2)) fun x10 =>
  chk (inb x2 66000) (if (γ 20 x2) = 0 then
  (chk (inb x2 66000) (chk (inb x2 66000) (ap (setA γ 54 x2 (γ 21 x2)) fun γ16 =>
  some (0, γ16))))
  else if (γ 20 x2) = 1 then
  (chk (inb x2 66000) (chk (inb x2 66000) (ap (setA γ 54 x2 (γ 21 x2)) fun γ21 =>
  some (0, γ21))))
  else if (γ 20 x2) = 2 then
  (chk (inb x1 3200) (chk (inb x2 66000) (chk (i32 ((γ 38 x1) + (γ 21 x2))) (chk (inb ((γ 38 x1) + (γ 21 x2)) 6100) (chk (inb x2 66000) (ap (setA γ 54 x2 (γ 51 ((γ 38 x1) + (γ 21 x2)))) fun γ31 =>
  some (0, γ31)))))))
  else if (γ 20 x2) = 3 then
  (bndN (f_M_output γ x1 x2 0) fun r35 γ36 =>
  chk (inb r35 6100) (chk (inb x2 66000) (ap (setA γ36 54 x2 (γ36 51 r35)) fun γ38 =>
  some (0, γ38))))
  else if (γ 20 x2) = 4 then
  (chk (inb x3 66000) (if (γ 54 x3) ≠ 1 then
  (chk (inb x4 66000) (chk (inb (γ 23 x4) 66000) (chk (inb x2 66000) (ap (setA γ 54 x2 (γ 54 (γ 23 x4))) fun γ47 =>
  some (0, γ47)))))
  else
  (chk (inb x4 66000) (chk (inb x2 66000) (ap (setA γ 54 x2 (γ 54 x4)) fun γ50 =>
  some (0, γ50))))))
  else if (γ 20 x2) = 5 then
  (chk (inb x10 6600) (if (γ 52 x10) ≠ 1 then
  (chk (inb x3 66000) (chk (inb x2 66000) (ap (setA γ 54 x2 (γ 54 x3)) fun γ57 =>
  some (0, γ57))))
  else
  (chk (inb x4 66000) (chk (inb x2 66000) (ap (setA γ 54 x2 (γ 54 x4)) fun γ60 =>
  some (0, γ60))))))
  else if (γ 20 x2) = 6 then
  (chk (i32 (x10 + 1)) (chk (inb (x10 + 1) 6600) (if (γ 52 (x10 + 1)) ≠ 1 then
  (chk (inb x3 66000) (chk (inb x2 66000) (ap (setA γ 54 x2 (γ 54 x3)) fun γ68 =>
  some (0, γ68))))
  else
  (chk (inb x10 6600) (chk (inb x2 66000) (ap (setA γ 54 x2 (γ 52 x10)) fun γ71 =>
  some (0, γ71)))))))
  else if (γ 20 x2) = 22 then
  (chk (inb x3 66000) (chk (inb x2 66000) (ap (setA γ 54 x2 (wr (-(γ 54 x3)))) fun γ76 =>
  some (0, γ76))))
  else if (γ 20 x2) = 23 then
  (chk (inb x3 66000) (chk (inb x2 66000) (ap (setA γ 54 x2 (wr (1 - (γ 54 x3)))) fun γ81 =>
  some (0, γ81))))
  else if (γ 20 x2) = 24 then
  (chk (inb x10 6600) (chk (inb x2 66000) (ap (setA γ 54 x2 (γ 52 x10)) fun γ86 =>
  some (0, γ86))))
  else if (γ 20 x2) = 25 then
  (chk (inb x3 66000) (bndN (F_M_present γ x1 (γ 29 x3)) fun r91 γ92 =>
  if r91 = 0 then
  (chk (inb x10 6600) (chk (inb x2 66000) (ap (setA γ92 54 x2 (γ92 52 x10)) fun γ95 =>
  some (0, γ95))))
  else
  (chk (inb x3 66000) (chk (inb x2 66000) (ap (setA γ92 54 x2 (γ92 54 x3)) fun γ98 =>
  some (0, γ98))))))
  else if (γ 20 x2) = 26 then
  (chk (inb x3 66000) (chk (inb x2 66000) (ap (setA γ 54 x2 (γ 54 x3)) fun γ103 =>
  some (0, γ103))))
  else (chk (inb x2 66000) (chk (inb x3 66000) (chk (inb x4 66000) (bndN (f_M_joined γ (γ 20 x2) (γ 54 x3) (γ 54 x4)) fun r112 γ113 =>
  chk (inb x2 66000) (ap (setA γ113 54 x2 r112) fun γ114 =>
  some (0, γ114))))))))))
def f_M_work (γ : St) (a0 : Int) (a1 : Int) : Option (Int × St) :=
  chk (inb a1 66000) (ap (γ 22 a1) fun x132 =>
  if 0 ≤ x132 then
  (chk (inb x132 66000) (f_M_work_b21 γ a0 a1 x132 (γ 23 x132)))
  else
  (f_M_work_b21 γ a0 a1 x132 (-1)))
set_option maxHeartbeats 4000000 in
theorem s_M_work_b21 {Γ : Ctx} : ∀ (γ : St) (x1 : Int) (x2 : Int) (x3 : Int) (x4 : Int), i32 x1 → i32 x2 → i32 x3 → i32 x4 → SB Γ BM mt_M_work (RmN 107 7263) 0 0 (KN Γ BM mt_M_work.2.2.2) 21 [(0, vR Γ 0), (1, vI x1), (2, vI x2), (3, vI x3)] [vI x4] γ (f_M_work_b21 γ x1 x2 x3 x4) := by
  intro γ x1 x2 x3 x4 hx1 hx2 hx3 hx4
  unfold f_M_work_b21
  refine sb_istore [(4, vI x4), (0, vR Γ 0), (1, vI x1), (2, vI x2), (3, vI x3)] d_M_work_21 (by decide) rfl ?_
  refine sb_aload_n 1 d_M_work_23 rfl ?_
  refine g_M_196 d_M_work_24 ?_
  refine sb_iload_n 2 d_M_work_27 rfl ?_
  refine al_M_39 d_M_work_28 (fun _ c6 => ?_)
  refine sb_aload_n 1 d_M_work_29 rfl ?_
  refine g_M_127 d_M_work_30 ?_
  refine sb_iload_n 3 d_M_work_33 rfl ?_
  refine al_M_25 d_M_work_34 (fun _ c8 => ?_)
  refine sb_iadd d_M_work_35 ?_
  refine sb_chk (fun c9 => ?_)
  refine sb_istore [(5, vI ((γ 39 x1) + (γ 25 x2))), (4, vI x4), (0, vR Γ 0), (1, vI x1), (2, vI x2), (3, vI x3)] d_M_work_36 (by decide) rfl ?_
  refine sb_nme (e := (γ 39 x1) + (γ 25 x2)) (fun x10 => [(5, vI x10), (4, vI x4), (0, vR Γ 0), (1, vI x1), (2, vI x2), (3, vI x3)]) c9 (fun x10 hx10 => ?_)
  refine sb_aload_n 2 d_M_work_38 rfl ?_
  refine g_M_112 d_M_work_39 ?_
  refine sb_iload_n 4 d_M_work_42 rfl ?_
  refine al_M_20 d_M_work_43 (fun _ c12 => ?_)
  refine sb_tc (off := 124) 0 168 c12 d_M_work_44 (by decide) (by decide) (fun _ => ?_) (fun n17 => ?_)
  · refine sb_aload_n 2 d_M_work_168 rfl ?_
    refine g_M_248 d_M_work_169 ?_
    refine sb_iload_n 4 d_M_work_172 rfl ?_
    refine sb_aload_n 2 d_M_work_173 rfl ?_
    refine g_M_115 d_M_work_174 ?_
    refine sb_iload_n 4 d_M_work_177 rfl ?_
    refine al_M_21 d_M_work_178 (fun _ c15 => ?_)
    refine as_M_54 c15 d_M_work_179 (fun _ => ?_)
    refine sb_aps (fun γ16 => ?_)
    refine sb_goto 477 d_M_work_180 (by decide) ?_
    exact sn_v rfl d_M_work_477
  refine sb_tc (off := 124) 1 168 c12 d_M_work_44 (by decide) (by decide) (fun _ => ?_) (fun n22 => ?_)
  · refine sb_aload_n 2 d_M_work_168 rfl ?_
    refine g_M_248 d_M_work_169 ?_
    refine sb_iload_n 4 d_M_work_172 rfl ?_
    refine sb_aload_n 2 d_M_work_173 rfl ?_
    refine g_M_115 d_M_work_174 ?_
    refine sb_iload_n 4 d_M_work_177 rfl ?_
    refine al_M_21 d_M_work_178 (fun _ c20 => ?_)
    refine as_M_54 c20 d_M_work_179 (fun _ => ?_)
    refine sb_aps (fun γ21 => ?_)
    refine sb_goto 477 d_M_work_180 (by decide) ?_
    exact sn_v rfl d_M_work_477
  refine sb_tc (off := 139) 2 183 c12 d_M_work_44 (by decide) (by decide) (fun _ => ?_) (fun n32 => ?_)
  · refine sb_aload_n 2 d_M_work_183 rfl ?_
    refine g_M_248 d_M_work_184 ?_
    refine sb_iload_n 4 d_M_work_187 rfl ?_
    refine sb_aload_n 2 d_M_work_188 rfl ?_
    refine g_M_239 d_M_work_189 ?_
    refine sb_aload_n 2 d_M_work_192 rfl ?_
    refine g_M_193 d_M_work_193 ?_
    refine sb_iload_n 3 d_M_work_196 rfl ?_
    refine al_M_38 d_M_work_197 (fun _ c26 => ?_)
    refine sb_aload_n 2 d_M_work_198 rfl ?_
    refine g_M_115 d_M_work_199 ?_
    refine sb_iload_n 4 d_M_work_202 rfl ?_
    refine al_M_21 d_M_work_203 (fun _ c28 => ?_)
    refine sb_iadd d_M_work_204 ?_
    refine sb_chk (fun c29 => ?_)
    refine al_M_51 d_M_work_205 (fun _ c30 => ?_)
    refine as_M_54 c30 d_M_work_206 (fun _ => ?_)
    refine sb_aps (fun γ31 => ?_)
    refine sb_goto 477 d_M_work_207 (by decide) ?_
    exact sn_v rfl d_M_work_477
  refine sb_tc (off := 166) 3 210 c12 d_M_work_44 (by decide) (by decide) (fun _ => ?_) (fun n39 => ?_)
  · refine sb_aload_n 2 d_M_work_210 rfl ?_
    refine g_M_248 d_M_work_211 ?_
    refine sb_iload_n 4 d_M_work_214 rfl ?_
    refine sb_aload_n 2 d_M_work_215 rfl ?_
    refine g_M_239 d_M_work_216 ?_
    refine sb_aload_n 2 d_M_work_219 rfl ?_
    refine sb_iload_n 3 d_M_work_220 rfl ?_
    refine sb_iload_n 4 d_M_work_221 rfl ?_
    refine sb_iconst d_M_work_222 ?_
    refine sb_cVi vf_M_output (c_M_output γ x1 x2 0 hx1 hx2 (by decide)) rfl ml_M_483 (As := [vI x1, vI x2, vI 0]) rfl rfl (Nat.le_of_ble_eq_true rfl) ⟨by decide, by decide⟩ d_M_work_223 (fun r35 γ36 hr35 => ?_)
    refine al_M_51 d_M_work_226 (fun _ c37 => ?_)
    refine as_M_54 c37 d_M_work_227 (fun _ => ?_)
    refine sb_aps (fun γ38 => ?_)
    refine sb_goto 477 d_M_work_228 (by decide) ?_
    exact sn_v rfl d_M_work_477
  refine sb_tc (off := 187) 4 231 c12 d_M_work_44 (by decide) (by decide) (fun _ => ?_) (fun n51 => ?_)
  · refine sb_aload_n 2 d_M_work_231 rfl ?_
    refine g_M_248 d_M_work_232 ?_
    refine sb_iload_n 4 d_M_work_235 rfl ?_
    refine sb_aload_n 2 d_M_work_236 rfl ?_
    refine g_M_248 d_M_work_237 ?_
    refine sb_iload_n 5 d_M_work_240 rfl ?_
    refine al_M_54 d_M_work_241 (fun _ c42 => ?_)
    refine sb_iconst d_M_work_242 ?_
    refine sb_icmp_ne 256 c42 (by decide) d_M_work_243 (by decide) (fun _ => ?_) (fun _ => ?_)
    · refine sb_aload_n 2 d_M_work_256 rfl ?_
      refine g_M_248 d_M_work_257 ?_
      refine sb_aload_n 2 d_M_work_260 rfl ?_
      refine g_M_121 d_M_work_261 ?_
      refine sb_iload 1 d_M_work_264 rfl ?_
      refine al_M_23 d_M_work_266 (fun _ c45 => ?_)
      refine al_M_54 d_M_work_267 (fun _ c46 => ?_)
      refine as_M_54 c46 d_M_work_268 (fun _ => ?_)
      refine sb_aps (fun γ47 => ?_)
      refine sb_goto 477 d_M_work_269 (by decide) ?_
      exact sn_v rfl d_M_work_477
    · refine sb_aload_n 2 d_M_work_246 rfl ?_
      refine g_M_248 d_M_work_247 ?_
      refine sb_iload 1 d_M_work_250 rfl ?_
      refine al_M_54 d_M_work_252 (fun _ c49 => ?_)
      refine sb_goto 268 d_M_work_253 (by decide) ?_
      refine as_M_54 c49 d_M_work_268 (fun _ => ?_)
      refine sb_aps (fun γ50 => ?_)
      refine sb_goto 477 d_M_work_269 (by decide) ?_
      exact sn_v rfl d_M_work_477
  refine sb_tc (off := 228) 5 272 c12 d_M_work_44 (by decide) (by decide) (fun _ => ?_) (fun n61 => ?_)
  · refine sb_aload_n 2 d_M_work_272 rfl ?_
    refine g_M_248 d_M_work_273 ?_
    refine sb_iload_n 4 d_M_work_276 rfl ?_
    refine sb_aload_n 2 d_M_work_277 rfl ?_
    refine g_M_242 d_M_work_278 ?_
    refine sb_iload 0 d_M_work_281 rfl ?_
    refine al_M_52 d_M_work_283 (fun _ c54 => ?_)
    refine sb_iconst d_M_work_284 ?_
    refine sb_icmp_ne 298 c54 (by decide) d_M_work_285 (by decide) (fun _ => ?_) (fun _ => ?_)
    · refine sb_aload_n 2 d_M_work_298 rfl ?_
      refine g_M_248 d_M_work_299 ?_
      refine sb_iload_n 5 d_M_work_302 rfl ?_
      refine al_M_54 d_M_work_303 (fun _ c56 => ?_)
      refine as_M_54 c56 d_M_work_304 (fun _ => ?_)
      refine sb_aps (fun γ57 => ?_)
      refine sb_goto 477 d_M_work_305 (by decide) ?_
      exact sn_v rfl d_M_work_477
    · refine sb_aload_n 2 d_M_work_288 rfl ?_
      refine g_M_248 d_M_work_289 ?_
      refine sb_iload 1 d_M_work_292 rfl ?_
      refine al_M_54 d_M_work_294 (fun _ c59 => ?_)
      refine sb_goto 304 d_M_work_295 (by decide) ?_
      refine as_M_54 c59 d_M_work_304 (fun _ => ?_)
      refine sb_aps (fun γ60 => ?_)
      refine sb_goto 477 d_M_work_305 (by decide) ?_
      exact sn_v rfl d_M_work_477
  refine sb_tc (off := 264) 6 308 c12 d_M_work_44 (by decide) (by decide) (fun _ => ?_) (fun n72 => ?_)
  · refine sb_aload_n 2 d_M_work_308 rfl ?_
    refine g_M_248 d_M_work_309 ?_
    refine sb_iload_n 4 d_M_work_312 rfl ?_
    refine sb_aload_n 2 d_M_work_313 rfl ?_
    refine g_M_242 d_M_work_314 ?_
    refine sb_iload 0 d_M_work_317 rfl ?_
    refine sb_iconst d_M_work_319 ?_
    refine sb_iadd d_M_work_320 ?_
    refine sb_chk (fun c64 => ?_)
    refine al_M_52 d_M_work_321 (fun _ c65 => ?_)
    refine sb_iconst d_M_work_322 ?_
    refine sb_icmp_ne 336 c65 (by decide) d_M_work_323 (by decide) (fun _ => ?_) (fun _ => ?_)
    · refine sb_aload_n 2 d_M_work_336 rfl ?_
      refine g_M_248 d_M_work_337 ?_
      refine sb_iload_n 5 d_M_work_340 rfl ?_
      refine al_M_54 d_M_work_341 (fun _ c67 => ?_)
      refine as_M_54 c67 d_M_work_342 (fun _ => ?_)
      refine sb_aps (fun γ68 => ?_)
      refine sb_goto 477 d_M_work_343 (by decide) ?_
      exact sn_v rfl d_M_work_477
    · refine sb_aload_n 2 d_M_work_326 rfl ?_
      refine g_M_242 d_M_work_327 ?_
      refine sb_iload 0 d_M_work_330 rfl ?_
      refine al_M_52 d_M_work_332 (fun _ c70 => ?_)
      refine sb_goto 342 d_M_work_333 (by decide) ?_
      refine as_M_54 c70 d_M_work_342 (fun _ => ?_)
      refine sb_aps (fun γ71 => ?_)
      refine sb_goto 477 d_M_work_343 (by decide) ?_
      exact sn_v rfl d_M_work_477
  refine sb_tc (off := 302) 22 346 c12 d_M_work_44 (by decide) (by decide) (fun _ => ?_) (fun n77 => ?_)
  · refine sb_aload_n 2 d_M_work_346 rfl ?_
    refine g_M_248 d_M_work_347 ?_
    refine sb_iload_n 4 d_M_work_350 rfl ?_
    refine sb_aload_n 2 d_M_work_351 rfl ?_
    refine g_M_248 d_M_work_352 ?_
    refine sb_iload_n 5 d_M_work_355 rfl ?_
    refine al_M_54 d_M_work_356 (fun _ c75 => ?_)
    refine sb_ineg d_M_work_357 ?_
    refine sb_wr ?_
    refine as_M_54 (wr_b _) d_M_work_358 (fun _ => ?_)
    refine sb_aps (fun γ76 => ?_)
    refine sb_goto 477 d_M_work_359 (by decide) ?_
    exact sn_v rfl d_M_work_477
  refine sb_tc (off := 318) 23 362 c12 d_M_work_44 (by decide) (by decide) (fun _ => ?_) (fun n82 => ?_)
  · refine sb_aload_n 2 d_M_work_362 rfl ?_
    refine g_M_248 d_M_work_363 ?_
    refine sb_iload_n 4 d_M_work_366 rfl ?_
    refine sb_iconst d_M_work_367 ?_
    refine sb_aload_n 2 d_M_work_368 rfl ?_
    refine g_M_248 d_M_work_369 ?_
    refine sb_iload_n 5 d_M_work_372 rfl ?_
    refine al_M_54 d_M_work_373 (fun _ c80 => ?_)
    refine sb_isub d_M_work_374 ?_
    refine sb_wr ?_
    refine as_M_54 (wr_b _) d_M_work_375 (fun _ => ?_)
    refine sb_aps (fun γ81 => ?_)
    refine sb_goto 477 d_M_work_376 (by decide) ?_
    exact sn_v rfl d_M_work_477
  refine sb_tc (off := 335) 24 379 c12 d_M_work_44 (by decide) (by decide) (fun _ => ?_) (fun n87 => ?_)
  · refine sb_aload_n 2 d_M_work_379 rfl ?_
    refine g_M_248 d_M_work_380 ?_
    refine sb_iload_n 4 d_M_work_383 rfl ?_
    refine sb_aload_n 2 d_M_work_384 rfl ?_
    refine g_M_242 d_M_work_385 ?_
    refine sb_iload 0 d_M_work_388 rfl ?_
    refine al_M_52 d_M_work_390 (fun _ c85 => ?_)
    refine as_M_54 c85 d_M_work_391 (fun _ => ?_)
    refine sb_aps (fun γ86 => ?_)
    refine sb_goto 477 d_M_work_392 (by decide) ?_
    exact sn_v rfl d_M_work_477
  refine sb_tc (off := 351) 25 395 c12 d_M_work_44 (by decide) (by decide) (fun _ => ?_) (fun n99 => ?_)
  · refine sb_aload_n 2 d_M_work_395 rfl ?_
    refine g_M_248 d_M_work_396 ?_
    refine sb_iload_n 4 d_M_work_399 rfl ?_
    refine sb_aload_n 2 d_M_work_400 rfl ?_
    refine sb_iload_n 3 d_M_work_401 rfl ?_
    refine sb_aload_n 2 d_M_work_402 rfl ?_
    refine g_M_145 d_M_work_403 ?_
    refine sb_iload_n 5 d_M_work_406 rfl ?_
    refine al_M_29 d_M_work_407 (fun _ c90 => ?_)
    refine sb_cVz vf_M_present (C_M_present γ x1 (γ 29 x3) hx1 c90) rfl ml_M_527 (As := [vI x1, vI (γ 29 x3)]) rfl rfl (Nat.le_of_ble_eq_true rfl) ⟨by decide, by decide⟩ d_M_work_408 (fun r91 γ92 hr91 => ?_)
    refine sb_if_eq 423 (z2i hr91) d_M_work_411 (by decide) (fun _ => ?_) (fun _ => ?_)
    · refine sb_aload_n 2 d_M_work_423 rfl ?_
      refine g_M_242 d_M_work_424 ?_
      refine sb_iload 0 d_M_work_427 rfl ?_
      refine al_M_52 d_M_work_429 (fun _ c94 => ?_)
      refine as_M_54 c94 d_M_work_430 (fun _ => ?_)
      refine sb_aps (fun γ95 => ?_)
      refine sb_goto 477 d_M_work_431 (by decide) ?_
      exact sn_v rfl d_M_work_477
    · refine sb_aload_n 2 d_M_work_414 rfl ?_
      refine g_M_248 d_M_work_415 ?_
      refine sb_iload_n 5 d_M_work_418 rfl ?_
      refine al_M_54 d_M_work_419 (fun _ c97 => ?_)
      refine sb_goto 430 d_M_work_420 (by decide) ?_
      refine as_M_54 c97 d_M_work_430 (fun _ => ?_)
      refine sb_aps (fun γ98 => ?_)
      refine sb_goto 477 d_M_work_431 (by decide) ?_
      exact sn_v rfl d_M_work_477
  refine sb_tc (off := 390) 26 434 c12 d_M_work_44 (by decide) (by decide) (fun _ => ?_) (fun n104 => ?_)
  · refine sb_aload_n 2 d_M_work_434 rfl ?_
    refine g_M_248 d_M_work_435 ?_
    refine sb_iload_n 4 d_M_work_438 rfl ?_
    refine sb_aload_n 2 d_M_work_439 rfl ?_
    refine g_M_248 d_M_work_440 ?_
    refine sb_iload_n 5 d_M_work_443 rfl ?_
    refine al_M_54 d_M_work_444 (fun _ c102 => ?_)
    refine as_M_54 c102 d_M_work_445 (fun _ => ?_)
    refine sb_aps (fun γ103 => ?_)
    refine sb_goto 477 d_M_work_446 (by decide) ?_
    exact sn_v rfl d_M_work_477
  refine sb_tg (off := 405) 7 449 c12 d_M_work_44 (by decide) (by decide) (fun _ => ?_) (fun n115 => ?_)
  · refine sb_aload_n 2 d_M_work_449 rfl ?_
    refine g_M_248 d_M_work_450 ?_
    refine sb_iload_n 4 d_M_work_453 rfl ?_
    refine sb_aload_n 2 d_M_work_454 rfl ?_
    refine g_M_112 d_M_work_455 ?_
    refine sb_iload_n 4 d_M_work_458 rfl ?_
    refine al_M_20 d_M_work_459 (fun _ c107 => ?_)
    refine sb_aload_n 2 d_M_work_460 rfl ?_
    refine g_M_248 d_M_work_461 ?_
    refine sb_iload_n 5 d_M_work_464 rfl ?_
    refine al_M_54 d_M_work_465 (fun _ c109 => ?_)
    refine sb_aload_n 2 d_M_work_466 rfl ?_
    refine g_M_248 d_M_work_467 ?_
    refine sb_iload 1 d_M_work_470 rfl ?_
    refine al_M_54 d_M_work_472 (fun _ c111 => ?_)
    refine sb_cSi vf_M_joined rfl (c_M_joined γ (γ 20 x2) (γ 54 x3) (γ 54 x4) c107 c109 c111) ml_M_530 (As := [vI (γ 20 x2), vI (γ 54 x3), vI (γ 54 x4)]) rfl rfl (Nat.le_of_ble_eq_true rfl) ⟨by decide, by decide⟩ d_M_work_473 (fun r112 γ113 hr112 => ?_)
    refine as_M_54 hr112 d_M_work_476 (fun _ => ?_)
    refine sb_aps (fun γ114 => ?_)
    exact sn_v rfl d_M_work_477
  refine sb_tg (off := 405) 8 449 c12 d_M_work_44 (by decide) (by decide) (fun _ => ?_) (fun n116 => ?_)
  · refine sb_aload_n 2 d_M_work_449 rfl ?_
    refine g_M_248 d_M_work_450 ?_
    refine sb_iload_n 4 d_M_work_453 rfl ?_
    refine sb_aload_n 2 d_M_work_454 rfl ?_
    refine g_M_112 d_M_work_455 ?_
    refine sb_iload_n 4 d_M_work_458 rfl ?_
    refine al_M_20 d_M_work_459 (fun _ c107 => ?_)
    refine sb_aload_n 2 d_M_work_460 rfl ?_
    refine g_M_248 d_M_work_461 ?_
    refine sb_iload_n 5 d_M_work_464 rfl ?_
    refine al_M_54 d_M_work_465 (fun _ c109 => ?_)
    refine sb_aload_n 2 d_M_work_466 rfl ?_
    refine g_M_248 d_M_work_467 ?_
    refine sb_iload 1 d_M_work_470 rfl ?_
    refine al_M_54 d_M_work_472 (fun _ c111 => ?_)
    refine sb_cSi vf_M_joined rfl (c_M_joined γ (γ 20 x2) (γ 54 x3) (γ 54 x4) c107 c109 c111) ml_M_530 (As := [vI (γ 20 x2), vI (γ 54 x3), vI (γ 54 x4)]) rfl rfl (Nat.le_of_ble_eq_true rfl) ⟨by decide, by decide⟩ d_M_work_473 (fun r112 γ113 hr112 => ?_)
    refine as_M_54 hr112 d_M_work_476 (fun _ => ?_)
    refine sb_aps (fun γ114 => ?_)
    exact sn_v rfl d_M_work_477
  refine sb_tg (off := 405) 9 449 c12 d_M_work_44 (by decide) (by decide) (fun _ => ?_) (fun n117 => ?_)
  · refine sb_aload_n 2 d_M_work_449 rfl ?_
    refine g_M_248 d_M_work_450 ?_
    refine sb_iload_n 4 d_M_work_453 rfl ?_
    refine sb_aload_n 2 d_M_work_454 rfl ?_
    refine g_M_112 d_M_work_455 ?_
    refine sb_iload_n 4 d_M_work_458 rfl ?_
    refine al_M_20 d_M_work_459 (fun _ c107 => ?_)
    refine sb_aload_n 2 d_M_work_460 rfl ?_
    refine g_M_248 d_M_work_461 ?_
    refine sb_iload_n 5 d_M_work_464 rfl ?_
    refine al_M_54 d_M_work_465 (fun _ c109 => ?_)
    refine sb_aload_n 2 d_M_work_466 rfl ?_
    refine g_M_248 d_M_work_467 ?_
    refine sb_iload 1 d_M_work_470 rfl ?_
    refine al_M_54 d_M_work_472 (fun _ c111 => ?_)
    refine sb_cSi vf_M_joined rfl (c_M_joined γ (γ 20 x2) (γ 54 x3) (γ 54 x4) c107 c109 c111) ml_M_530 (As := [vI (γ 20 x2), vI (γ 54 x3), vI (γ 54 x4)]) rfl rfl (Nat.le_of_ble_eq_true rfl) ⟨by decide, by decide⟩ d_M_work_473 (fun r112 γ113 hr112 => ?_)
    refine as_M_54 hr112 d_M_work_476 (fun _ => ?_)
    refine sb_aps (fun γ114 => ?_)
    exact sn_v rfl d_M_work_477
  refine sb_tg (off := 405) 10 449 c12 d_M_work_44 (by decide) (by decide) (fun _ => ?_) (fun n118 => ?_)
  · refine sb_aload_n 2 d_M_work_449 rfl ?_
    refine g_M_248 d_M_work_450 ?_
    refine sb_iload_n 4 d_M_work_453 rfl ?_
    refine sb_aload_n 2 d_M_work_454 rfl ?_
    refine g_M_112 d_M_work_455 ?_
    refine sb_iload_n 4 d_M_work_458 rfl ?_
    refine al_M_20 d_M_work_459 (fun _ c107 => ?_)
    refine sb_aload_n 2 d_M_work_460 rfl ?_
    refine g_M_248 d_M_work_461 ?_
    refine sb_iload_n 5 d_M_work_464 rfl ?_
    refine al_M_54 d_M_work_465 (fun _ c109 => ?_)
    refine sb_aload_n 2 d_M_work_466 rfl ?_
    refine g_M_248 d_M_work_467 ?_
    refine sb_iload 1 d_M_work_470 rfl ?_
    refine al_M_54 d_M_work_472 (fun _ c111 => ?_)
    refine sb_cSi vf_M_joined rfl (c_M_joined γ (γ 20 x2) (γ 54 x3) (γ 54 x4) c107 c109 c111) ml_M_530 (As := [vI (γ 20 x2), vI (γ 54 x3), vI (γ 54 x4)]) rfl rfl (Nat.le_of_ble_eq_true rfl) ⟨by decide, by decide⟩ d_M_work_473 (fun r112 γ113 hr112 => ?_)
    refine as_M_54 hr112 d_M_work_476 (fun _ => ?_)
    refine sb_aps (fun γ114 => ?_)
    exact sn_v rfl d_M_work_477
  refine sb_tg (off := 405) 11 449 c12 d_M_work_44 (by decide) (by decide) (fun _ => ?_) (fun n119 => ?_)
  · refine sb_aload_n 2 d_M_work_449 rfl ?_
    refine g_M_248 d_M_work_450 ?_
    refine sb_iload_n 4 d_M_work_453 rfl ?_
    refine sb_aload_n 2 d_M_work_454 rfl ?_
    refine g_M_112 d_M_work_455 ?_
    refine sb_iload_n 4 d_M_work_458 rfl ?_
    refine al_M_20 d_M_work_459 (fun _ c107 => ?_)
    refine sb_aload_n 2 d_M_work_460 rfl ?_
    refine g_M_248 d_M_work_461 ?_
    refine sb_iload_n 5 d_M_work_464 rfl ?_
    refine al_M_54 d_M_work_465 (fun _ c109 => ?_)
    refine sb_aload_n 2 d_M_work_466 rfl ?_
    refine g_M_248 d_M_work_467 ?_
    refine sb_iload 1 d_M_work_470 rfl ?_
    refine al_M_54 d_M_work_472 (fun _ c111 => ?_)
    refine sb_cSi vf_M_joined rfl (c_M_joined γ (γ 20 x2) (γ 54 x3) (γ 54 x4) c107 c109 c111) ml_M_530 (As := [vI (γ 20 x2), vI (γ 54 x3), vI (γ 54 x4)]) rfl rfl (Nat.le_of_ble_eq_true rfl) ⟨by decide, by decide⟩ d_M_work_473 (fun r112 γ113 hr112 => ?_)
    refine as_M_54 hr112 d_M_work_476 (fun _ => ?_)
    refine sb_aps (fun γ114 => ?_)
    exact sn_v rfl d_M_work_477
  refine sb_tg (off := 405) 12 449 c12 d_M_work_44 (by decide) (by decide) (fun _ => ?_) (fun n120 => ?_)
  · refine sb_aload_n 2 d_M_work_449 rfl ?_
    refine g_M_248 d_M_work_450 ?_
    refine sb_iload_n 4 d_M_work_453 rfl ?_
    refine sb_aload_n 2 d_M_work_454 rfl ?_
    refine g_M_112 d_M_work_455 ?_
    refine sb_iload_n 4 d_M_work_458 rfl ?_
    refine al_M_20 d_M_work_459 (fun _ c107 => ?_)
    refine sb_aload_n 2 d_M_work_460 rfl ?_
    refine g_M_248 d_M_work_461 ?_
    refine sb_iload_n 5 d_M_work_464 rfl ?_
    refine al_M_54 d_M_work_465 (fun _ c109 => ?_)
    refine sb_aload_n 2 d_M_work_466 rfl ?_
    refine g_M_248 d_M_work_467 ?_
    refine sb_iload 1 d_M_work_470 rfl ?_
    refine al_M_54 d_M_work_472 (fun _ c111 => ?_)
    refine sb_cSi vf_M_joined rfl (c_M_joined γ (γ 20 x2) (γ 54 x3) (γ 54 x4) c107 c109 c111) ml_M_530 (As := [vI (γ 20 x2), vI (γ 54 x3), vI (γ 54 x4)]) rfl rfl (Nat.le_of_ble_eq_true rfl) ⟨by decide, by decide⟩ d_M_work_473 (fun r112 γ113 hr112 => ?_)
    refine as_M_54 hr112 d_M_work_476 (fun _ => ?_)
    refine sb_aps (fun γ114 => ?_)
    exact sn_v rfl d_M_work_477
  refine sb_tg (off := 405) 13 449 c12 d_M_work_44 (by decide) (by decide) (fun _ => ?_) (fun n121 => ?_)
  · refine sb_aload_n 2 d_M_work_449 rfl ?_
    refine g_M_248 d_M_work_450 ?_
    refine sb_iload_n 4 d_M_work_453 rfl ?_
    refine sb_aload_n 2 d_M_work_454 rfl ?_
    refine g_M_112 d_M_work_455 ?_
    refine sb_iload_n 4 d_M_work_458 rfl ?_
    refine al_M_20 d_M_work_459 (fun _ c107 => ?_)
    refine sb_aload_n 2 d_M_work_460 rfl ?_
    refine g_M_248 d_M_work_461 ?_
    refine sb_iload_n 5 d_M_work_464 rfl ?_
    refine al_M_54 d_M_work_465 (fun _ c109 => ?_)
    refine sb_aload_n 2 d_M_work_466 rfl ?_
    refine g_M_248 d_M_work_467 ?_
    refine sb_iload 1 d_M_work_470 rfl ?_
    refine al_M_54 d_M_work_472 (fun _ c111 => ?_)
    refine sb_cSi vf_M_joined rfl (c_M_joined γ (γ 20 x2) (γ 54 x3) (γ 54 x4) c107 c109 c111) ml_M_530 (As := [vI (γ 20 x2), vI (γ 54 x3), vI (γ 54 x4)]) rfl rfl (Nat.le_of_ble_eq_true rfl) ⟨by decide, by decide⟩ d_M_work_473 (fun r112 γ113 hr112 => ?_)
    refine as_M_54 hr112 d_M_work_476 (fun _ => ?_)
    refine sb_aps (fun γ114 => ?_)
    exact sn_v rfl d_M_work_477
  refine sb_tg (off := 405) 14 449 c12 d_M_work_44 (by decide) (by decide) (fun _ => ?_) (fun n122 => ?_)
  · refine sb_aload_n 2 d_M_work_449 rfl ?_
    refine g_M_248 d_M_work_450 ?_
    refine sb_iload_n 4 d_M_work_453 rfl ?_
    refine sb_aload_n 2 d_M_work_454 rfl ?_
    refine g_M_112 d_M_work_455 ?_
    refine sb_iload_n 4 d_M_work_458 rfl ?_
    refine al_M_20 d_M_work_459 (fun _ c107 => ?_)
    refine sb_aload_n 2 d_M_work_460 rfl ?_
    refine g_M_248 d_M_work_461 ?_
    refine sb_iload_n 5 d_M_work_464 rfl ?_
    refine al_M_54 d_M_work_465 (fun _ c109 => ?_)
    refine sb_aload_n 2 d_M_work_466 rfl ?_
    refine g_M_248 d_M_work_467 ?_
    refine sb_iload 1 d_M_work_470 rfl ?_
    refine al_M_54 d_M_work_472 (fun _ c111 => ?_)
    refine sb_cSi vf_M_joined rfl (c_M_joined γ (γ 20 x2) (γ 54 x3) (γ 54 x4) c107 c109 c111) ml_M_530 (As := [vI (γ 20 x2), vI (γ 54 x3), vI (γ 54 x4)]) rfl rfl (Nat.le_of_ble_eq_true rfl) ⟨by decide, by decide⟩ d_M_work_473 (fun r112 γ113 hr112 => ?_)
    refine as_M_54 hr112 d_M_work_476 (fun _ => ?_)
    refine sb_aps (fun γ114 => ?_)
    exact sn_v rfl d_M_work_477
  refine sb_tg (off := 405) 15 449 c12 d_M_work_44 (by decide) (by decide) (fun _ => ?_) (fun n123 => ?_)
  · refine sb_aload_n 2 d_M_work_449 rfl ?_
    refine g_M_248 d_M_work_450 ?_
    refine sb_iload_n 4 d_M_work_453 rfl ?_
    refine sb_aload_n 2 d_M_work_454 rfl ?_
    refine g_M_112 d_M_work_455 ?_
    refine sb_iload_n 4 d_M_work_458 rfl ?_
    refine al_M_20 d_M_work_459 (fun _ c107 => ?_)
    refine sb_aload_n 2 d_M_work_460 rfl ?_
    refine g_M_248 d_M_work_461 ?_
    refine sb_iload_n 5 d_M_work_464 rfl ?_
    refine al_M_54 d_M_work_465 (fun _ c109 => ?_)
    refine sb_aload_n 2 d_M_work_466 rfl ?_
    refine g_M_248 d_M_work_467 ?_
    refine sb_iload 1 d_M_work_470 rfl ?_
    refine al_M_54 d_M_work_472 (fun _ c111 => ?_)
    refine sb_cSi vf_M_joined rfl (c_M_joined γ (γ 20 x2) (γ 54 x3) (γ 54 x4) c107 c109 c111) ml_M_530 (As := [vI (γ 20 x2), vI (γ 54 x3), vI (γ 54 x4)]) rfl rfl (Nat.le_of_ble_eq_true rfl) ⟨by decide, by decide⟩ d_M_work_473 (fun r112 γ113 hr112 => ?_)
    refine as_M_54 hr112 d_M_work_476 (fun _ => ?_)
    refine sb_aps (fun γ114 => ?_)
    exact sn_v rfl d_M_work_477
  refine sb_tg (off := 405) 16 449 c12 d_M_work_44 (by decide) (by decide) (fun _ => ?_) (fun n124 => ?_)
  · refine sb_aload_n 2 d_M_work_449 rfl ?_
    refine g_M_248 d_M_work_450 ?_
    refine sb_iload_n 4 d_M_work_453 rfl ?_
    refine sb_aload_n 2 d_M_work_454 rfl ?_
    refine g_M_112 d_M_work_455 ?_
    refine sb_iload_n 4 d_M_work_458 rfl ?_
    refine al_M_20 d_M_work_459 (fun _ c107 => ?_)
    refine sb_aload_n 2 d_M_work_460 rfl ?_
    refine g_M_248 d_M_work_461 ?_
    refine sb_iload_n 5 d_M_work_464 rfl ?_
    refine al_M_54 d_M_work_465 (fun _ c109 => ?_)
    refine sb_aload_n 2 d_M_work_466 rfl ?_
    refine g_M_248 d_M_work_467 ?_
    refine sb_iload 1 d_M_work_470 rfl ?_
    refine al_M_54 d_M_work_472 (fun _ c111 => ?_)
    refine sb_cSi vf_M_joined rfl (c_M_joined γ (γ 20 x2) (γ 54 x3) (γ 54 x4) c107 c109 c111) ml_M_530 (As := [vI (γ 20 x2), vI (γ 54 x3), vI (γ 54 x4)]) rfl rfl (Nat.le_of_ble_eq_true rfl) ⟨by decide, by decide⟩ d_M_work_473 (fun r112 γ113 hr112 => ?_)
    refine as_M_54 hr112 d_M_work_476 (fun _ => ?_)
    refine sb_aps (fun γ114 => ?_)
    exact sn_v rfl d_M_work_477
  refine sb_tg (off := 405) 17 449 c12 d_M_work_44 (by decide) (by decide) (fun _ => ?_) (fun n125 => ?_)
  · refine sb_aload_n 2 d_M_work_449 rfl ?_
    refine g_M_248 d_M_work_450 ?_
    refine sb_iload_n 4 d_M_work_453 rfl ?_
    refine sb_aload_n 2 d_M_work_454 rfl ?_
    refine g_M_112 d_M_work_455 ?_
    refine sb_iload_n 4 d_M_work_458 rfl ?_
    refine al_M_20 d_M_work_459 (fun _ c107 => ?_)
    refine sb_aload_n 2 d_M_work_460 rfl ?_
    refine g_M_248 d_M_work_461 ?_
    refine sb_iload_n 5 d_M_work_464 rfl ?_
    refine al_M_54 d_M_work_465 (fun _ c109 => ?_)
    refine sb_aload_n 2 d_M_work_466 rfl ?_
    refine g_M_248 d_M_work_467 ?_
    refine sb_iload 1 d_M_work_470 rfl ?_
    refine al_M_54 d_M_work_472 (fun _ c111 => ?_)
    refine sb_cSi vf_M_joined rfl (c_M_joined γ (γ 20 x2) (γ 54 x3) (γ 54 x4) c107 c109 c111) ml_M_530 (As := [vI (γ 20 x2), vI (γ 54 x3), vI (γ 54 x4)]) rfl rfl (Nat.le_of_ble_eq_true rfl) ⟨by decide, by decide⟩ d_M_work_473 (fun r112 γ113 hr112 => ?_)
    refine as_M_54 hr112 d_M_work_476 (fun _ => ?_)
    refine sb_aps (fun γ114 => ?_)
    exact sn_v rfl d_M_work_477
  refine sb_tg (off := 405) 18 449 c12 d_M_work_44 (by decide) (by decide) (fun _ => ?_) (fun n126 => ?_)
  · refine sb_aload_n 2 d_M_work_449 rfl ?_
    refine g_M_248 d_M_work_450 ?_
    refine sb_iload_n 4 d_M_work_453 rfl ?_
    refine sb_aload_n 2 d_M_work_454 rfl ?_
    refine g_M_112 d_M_work_455 ?_
    refine sb_iload_n 4 d_M_work_458 rfl ?_
    refine al_M_20 d_M_work_459 (fun _ c107 => ?_)
    refine sb_aload_n 2 d_M_work_460 rfl ?_
    refine g_M_248 d_M_work_461 ?_
    refine sb_iload_n 5 d_M_work_464 rfl ?_
    refine al_M_54 d_M_work_465 (fun _ c109 => ?_)
    refine sb_aload_n 2 d_M_work_466 rfl ?_
    refine g_M_248 d_M_work_467 ?_
    refine sb_iload 1 d_M_work_470 rfl ?_
    refine al_M_54 d_M_work_472 (fun _ c111 => ?_)
    refine sb_cSi vf_M_joined rfl (c_M_joined γ (γ 20 x2) (γ 54 x3) (γ 54 x4) c107 c109 c111) ml_M_530 (As := [vI (γ 20 x2), vI (γ 54 x3), vI (γ 54 x4)]) rfl rfl (Nat.le_of_ble_eq_true rfl) ⟨by decide, by decide⟩ d_M_work_473 (fun r112 γ113 hr112 => ?_)
    refine as_M_54 hr112 d_M_work_476 (fun _ => ?_)
    refine sb_aps (fun γ114 => ?_)
    exact sn_v rfl d_M_work_477
  refine sb_tg (off := 405) 19 449 c12 d_M_work_44 (by decide) (by decide) (fun _ => ?_) (fun n127 => ?_)
  · refine sb_aload_n 2 d_M_work_449 rfl ?_
    refine g_M_248 d_M_work_450 ?_
    refine sb_iload_n 4 d_M_work_453 rfl ?_
    refine sb_aload_n 2 d_M_work_454 rfl ?_
    refine g_M_112 d_M_work_455 ?_
    refine sb_iload_n 4 d_M_work_458 rfl ?_
    refine al_M_20 d_M_work_459 (fun _ c107 => ?_)
    refine sb_aload_n 2 d_M_work_460 rfl ?_
    refine g_M_248 d_M_work_461 ?_
    refine sb_iload_n 5 d_M_work_464 rfl ?_
    refine al_M_54 d_M_work_465 (fun _ c109 => ?_)
    refine sb_aload_n 2 d_M_work_466 rfl ?_
    refine g_M_248 d_M_work_467 ?_
    refine sb_iload 1 d_M_work_470 rfl ?_
    refine al_M_54 d_M_work_472 (fun _ c111 => ?_)
    refine sb_cSi vf_M_joined rfl (c_M_joined γ (γ 20 x2) (γ 54 x3) (γ 54 x4) c107 c109 c111) ml_M_530 (As := [vI (γ 20 x2), vI (γ 54 x3), vI (γ 54 x4)]) rfl rfl (Nat.le_of_ble_eq_true rfl) ⟨by decide, by decide⟩ d_M_work_473 (fun r112 γ113 hr112 => ?_)
    refine as_M_54 hr112 d_M_work_476 (fun _ => ?_)
    refine sb_aps (fun γ114 => ?_)
    exact sn_v rfl d_M_work_477
  refine sb_tg (off := 405) 20 449 c12 d_M_work_44 (by decide) (by decide) (fun _ => ?_) (fun n128 => ?_)
  · refine sb_aload_n 2 d_M_work_449 rfl ?_
    refine g_M_248 d_M_work_450 ?_
    refine sb_iload_n 4 d_M_work_453 rfl ?_
    refine sb_aload_n 2 d_M_work_454 rfl ?_
    refine g_M_112 d_M_work_455 ?_
    refine sb_iload_n 4 d_M_work_458 rfl ?_
    refine al_M_20 d_M_work_459 (fun _ c107 => ?_)
    refine sb_aload_n 2 d_M_work_460 rfl ?_
    refine g_M_248 d_M_work_461 ?_
    refine sb_iload_n 5 d_M_work_464 rfl ?_
    refine al_M_54 d_M_work_465 (fun _ c109 => ?_)
    refine sb_aload_n 2 d_M_work_466 rfl ?_
    refine g_M_248 d_M_work_467 ?_
    refine sb_iload 1 d_M_work_470 rfl ?_
    refine al_M_54 d_M_work_472 (fun _ c111 => ?_)
    refine sb_cSi vf_M_joined rfl (c_M_joined γ (γ 20 x2) (γ 54 x3) (γ 54 x4) c107 c109 c111) ml_M_530 (As := [vI (γ 20 x2), vI (γ 54 x3), vI (γ 54 x4)]) rfl rfl (Nat.le_of_ble_eq_true rfl) ⟨by decide, by decide⟩ d_M_work_473 (fun r112 γ113 hr112 => ?_)
    refine as_M_54 hr112 d_M_work_476 (fun _ => ?_)
    refine sb_aps (fun γ114 => ?_)
    exact sn_v rfl d_M_work_477
  refine sb_tg (off := 405) 21 449 c12 d_M_work_44 (by decide) (by decide) (fun _ => ?_) (fun n129 => ?_)
  · refine sb_aload_n 2 d_M_work_449 rfl ?_
    refine g_M_248 d_M_work_450 ?_
    refine sb_iload_n 4 d_M_work_453 rfl ?_
    refine sb_aload_n 2 d_M_work_454 rfl ?_
    refine g_M_112 d_M_work_455 ?_
    refine sb_iload_n 4 d_M_work_458 rfl ?_
    refine al_M_20 d_M_work_459 (fun _ c107 => ?_)
    refine sb_aload_n 2 d_M_work_460 rfl ?_
    refine g_M_248 d_M_work_461 ?_
    refine sb_iload_n 5 d_M_work_464 rfl ?_
    refine al_M_54 d_M_work_465 (fun _ c109 => ?_)
    refine sb_aload_n 2 d_M_work_466 rfl ?_
    refine g_M_248 d_M_work_467 ?_
    refine sb_iload 1 d_M_work_470 rfl ?_
    refine al_M_54 d_M_work_472 (fun _ c111 => ?_)
    refine sb_cSi vf_M_joined rfl (c_M_joined γ (γ 20 x2) (γ 54 x3) (γ 54 x4) c107 c109 c111) ml_M_530 (As := [vI (γ 20 x2), vI (γ 54 x3), vI (γ 54 x4)]) rfl rfl (Nat.le_of_ble_eq_true rfl) ⟨by decide, by decide⟩ d_M_work_473 (fun r112 γ113 hr112 => ?_)
    refine as_M_54 hr112 d_M_work_476 (fun _ => ?_)
    refine sb_aps (fun γ114 => ?_)
    exact sn_v rfl d_M_work_477
  refine sb_td 449 c12 d_M_work_44 (by omega) (by decide) ?_
  refine sb_aload_n 2 d_M_work_449 rfl ?_
  refine g_M_248 d_M_work_450 ?_
  refine sb_iload_n 4 d_M_work_453 rfl ?_
  refine sb_aload_n 2 d_M_work_454 rfl ?_
  refine g_M_112 d_M_work_455 ?_
  refine sb_iload_n 4 d_M_work_458 rfl ?_
  refine al_M_20 d_M_work_459 (fun _ c107 => ?_)
  refine sb_aload_n 2 d_M_work_460 rfl ?_
  refine g_M_248 d_M_work_461 ?_
  refine sb_iload_n 5 d_M_work_464 rfl ?_
  refine al_M_54 d_M_work_465 (fun _ c109 => ?_)
  refine sb_aload_n 2 d_M_work_466 rfl ?_
  refine g_M_248 d_M_work_467 ?_
  refine sb_iload 1 d_M_work_470 rfl ?_
  refine al_M_54 d_M_work_472 (fun _ c111 => ?_)
  refine sb_cSi vf_M_joined rfl (c_M_joined γ (γ 20 x2) (γ 54 x3) (γ 54 x4) c107 c109 c111) ml_M_530 (As := [vI (γ 20 x2), vI (γ 54 x3), vI (γ 54 x4)]) rfl rfl (Nat.le_of_ble_eq_true rfl) ⟨by decide, by decide⟩ d_M_work_473 (fun r112 γ113 hr112 => ?_)
  refine as_M_54 hr112 d_M_work_476 (fun _ => ?_)
  refine sb_aps (fun γ114 => ?_)
  exact sn_v rfl d_M_work_477
set_option maxHeartbeats 4000000 in
theorem c_M_work {Γ : Ctx} (γ : St) (a0 : Int) (a1 : Int) (ha0 : i32 a0) (ha1 : i32 a1) : NC Γ BM y_M_work mt_M_work 107 7263 [vR Γ 0, vI a0, vI a1] γ (f_M_work γ a0 a1) := by
  refine nc_of (by decide) rfl (Nat.le_of_ble_eq_true rfl) ?_
  show SB Γ BM mt_M_work (RmN 107 7263) 0 0 (KN Γ BM mt_M_work.2.2.2) 0 [(0, vR Γ 0), (1, vI a0), (2, vI a1)] [] γ _
  unfold f_M_work
  refine sb_aload_n 0 d_M_work_0 rfl ?_
  refine g_M_118 d_M_work_1 ?_
  refine sb_iload_n 2 d_M_work_4 rfl ?_
  refine al_M_22 d_M_work_5 (fun _ c131 => ?_)
  refine sb_istore_n [(3, vI (γ 22 a1)), (0, vR Γ 0), (1, vI a0), (2, vI a1)] d_M_work_6 (by decide) rfl ?_
  refine sb_nme (e := γ 22 a1) (fun x132 => [(3, vI x132), (0, vR Γ 0), (1, vI a0), (2, vI a1)]) c131 (fun x132 hx132 => ?_)
  refine sb_iload_n 0 d_M_work_7 rfl ?_
  refine sb_if_ge 15 hx132 d_M_work_8 (by decide) (fun _ => ?_) (fun _ => ?_)
  · refine sb_aload_n 1 d_M_work_15 rfl ?_
    refine g_M_121 d_M_work_16 ?_
    refine sb_iload_n 0 d_M_work_19 rfl ?_
    refine al_M_23 d_M_work_20 (fun _ c134 => ?_)
    exact sb_lv [1, 2, 3, 0] rfl (s_M_work_b21 γ a0 a1 x132 (γ 23 x132) ha0 ha1 hx132 c134)
  · refine sb_iconst d_M_work_11 ?_
    refine sb_goto 21 d_M_work_12 (by decide) ?_
    exact sb_lv [1, 2, 3, 0] rfl (s_M_work_b21 γ a0 a1 x132 (-1) ha0 ha1 hx132 (by decide))
theorem d_M_partOf_0 : decode b_M_partOf 0 = .ok (.aload_n 0, 1) := by decide +kernel
theorem d_M_partOf_1 : decode b_M_partOf 1 = .ok (.getfield 151, 3) := by decide +kernel
theorem d_M_partOf_4 : decode b_M_partOf 4 = .ok (.iload_n 2, 1) := by decide +kernel
theorem d_M_partOf_5 : decode b_M_partOf 5 = .ok (.iaload, 1) := by decide +kernel
theorem d_M_partOf_6 : decode b_M_partOf 6 = .ok (.istore_n 3, 1) := by decide +kernel
theorem d_M_partOf_7 : decode b_M_partOf 7 = .ok (.iload_n 3, 1) := by decide +kernel
theorem d_M_partOf_8 : decode b_M_partOf 8 = .ok (.iload_n 2, 1) := by decide +kernel
theorem d_M_partOf_9 : decode b_M_partOf 9 = .ok (.if_icmp .gt 39, 3) := by decide +kernel
theorem d_M_partOf_12 : decode b_M_partOf 12 = .ok (.aload_n 0, 1) := by decide +kernel
theorem d_M_partOf_13 : decode b_M_partOf 13 = .ok (.getfield 148, 3) := by decide +kernel
theorem d_M_partOf_16 : decode b_M_partOf 16 = .ok (.iload_n 3, 1) := by decide +kernel
theorem d_M_partOf_17 : decode b_M_partOf 17 = .ok (.iaload, 1) := by decide +kernel
theorem d_M_partOf_18 : decode b_M_partOf 18 = .ok (.iload_n 2, 1) := by decide +kernel
theorem d_M_partOf_19 : decode b_M_partOf 19 = .ok (.if_icmp .ne 23, 3) := by decide +kernel
theorem d_M_partOf_22 : decode b_M_partOf 22 = .ok (.aload_n 0, 1) := by decide +kernel
theorem d_M_partOf_23 : decode b_M_partOf 23 = .ok (.iload_n 1, 1) := by decide +kernel
theorem d_M_partOf_24 : decode b_M_partOf 24 = .ok (.aload_n 0, 1) := by decide +kernel
theorem d_M_partOf_25 : decode b_M_partOf 25 = .ok (.getfield 145, 3) := by decide +kernel
theorem d_M_partOf_28 : decode b_M_partOf 28 = .ok (.iload_n 3, 1) := by decide +kernel
theorem d_M_partOf_29 : decode b_M_partOf 29 = .ok (.iaload, 1) := by decide +kernel
theorem d_M_partOf_30 : decode b_M_partOf 30 = .ok (.invokevirtual 527, 3) := by decide +kernel
theorem d_M_partOf_33 : decode b_M_partOf 33 = .ok (.ifCond .eq 9, 3) := by decide +kernel
theorem d_M_partOf_36 : decode b_M_partOf 36 = .ok (.aload_n 0, 1) := by decide +kernel
theorem d_M_partOf_37 : decode b_M_partOf 37 = .ok (.iload_n 1, 1) := by decide +kernel
theorem d_M_partOf_38 : decode b_M_partOf 38 = .ok (.iload_n 3, 1) := by decide +kernel
theorem d_M_partOf_39 : decode b_M_partOf 39 = .ok (.invokevirtual 536, 3) := by decide +kernel
theorem d_M_partOf_42 : decode b_M_partOf 42 = .ok (.iinc 3 1, 3) := by decide +kernel
theorem d_M_partOf_45 : decode b_M_partOf 45 = .ok (.goto (-38), 3) := by decide +kernel
theorem d_M_partOf_48 : decode b_M_partOf 48 = .ok (.aload_n 0, 1) := by decide +kernel
theorem d_M_partOf_49 : decode b_M_partOf 49 = .ok (.getfield 248, 3) := by decide +kernel
theorem d_M_partOf_52 : decode b_M_partOf 52 = .ok (.iload_n 2, 1) := by decide +kernel
theorem d_M_partOf_53 : decode b_M_partOf 53 = .ok (.iaload, 1) := by decide +kernel
theorem d_M_partOf_54 : decode b_M_partOf 54 = .ok (.ireturn, 1) := by decide +kernel
abbrev mt_M_partOf : MT := (R_M, b_M_partOf, 4, some .int)
theorem vf_M_partOf : VF y_M_partOf mt_M_partOf 12 2 := ⟨im_M_partOf, se_M_partOf, in_M, co_M_partOf, by decide +kernel, _, _, rfl⟩
def f_M_partOf_b42 (k7 : St → Int → Int → Int → Option (Int × St)) (γ : St) (x1 : Int) (x2 : Int) (x3 : Int) : Option (Int × St) :=
  chk (i32 (x3 + 1)) (k7 γ x1 x2 (x3 + 1))
def f_M_partOf_L7 : Nat → St → Int → Int → Int → Option (Int × St)
  | 0, _, _, _, _ => none
  | n + 1, γ, x8, x9, x10 =>
  if x9 < x10 then
  (chk (inb x9 66000) (some (γ 54 x9, γ)))
  else
  (chk (inb x10 66000) (if (γ 30 x10) ≠ x9 then
  (f_M_partOf_b42 (f_M_partOf_L7 n) γ x8 x9 x10)
  else
  (chk (inb x10 66000) (bndN (F_M_present γ x8 (γ 29 x10)) fun r17 γ18 =>
  if r17 = 0 then
  (f_M_partOf_b42 (f_M_partOf_L7 n) γ18 x8 x9 x10)
  else
  (bndN (f_M_work γ18 x8 x10) fun _ γ20 =>
  f_M_partOf_b42 (f_M_partOf_L7 n) γ20 x8 x9 x10)))))
def f_M_partOf (γ : St) (a0 : Int) (a1 : Int) : Option (Int × St) :=
  chk (inb a1 66000) (ap (γ 31 a1) fun x23 =>
  f_M_partOf_L7  FU γ a0 a1 x23)
set_option maxHeartbeats 4000000 in
theorem s_M_partOf_b42 {Γ : Ctx} {k7 : St → Int → Int → Int → Option (Int × St)} (hk7 : ∀ (γ : St) (x5 : Int) (x6 : Int) (x7 : Int), i32 x5 → i32 x6 → i32 x7 → SB Γ BM mt_M_partOf (RmN 108 7288) 0 0 (KN Γ BM mt_M_partOf.2.2.2) 7 [(0, vR Γ 0), (1, vI x5), (2, vI x6), (3, vI x7)] [] γ (k7 γ x5 x6 x7)) : ∀ (γ : St) (x1 : Int) (x2 : Int) (x3 : Int), i32 x1 → i32 x2 → i32 x3 → SB Γ BM mt_M_partOf (RmN 108 7288) 0 0 (KN Γ BM mt_M_partOf.2.2.2) 42 [(0, vR Γ 0), (1, vI x1), (2, vI x2), (3, vI x3)] [] γ (f_M_partOf_b42 k7 γ x1 x2 x3) := by
  intro γ x1 x2 x3 hx1 hx2 hx3
  unfold f_M_partOf_b42
  refine sb_iinc 3 [(3, vI (x3 + 1)), (0, vR Γ 0), (1, vI x1), (2, vI x2)] d_M_partOf_42 rfl (by decide) rfl ?_
  refine sb_chk (fun c4 => ?_)
  refine sb_goto 7 d_M_partOf_45 (by decide) ?_
  exact sb_lv [1, 2, 3, 0] rfl (hk7 γ x1 x2 (x3 + 1) hx1 hx2 c4)
set_option maxHeartbeats 4000000 in
theorem s_M_partOf_L7 {Γ : Ctx} : ∀ (n : Nat) (γ : St) (x8 : Int) (x9 : Int) (x10 : Int), i32 x8 → i32 x9 → i32 x10 → SB Γ BM mt_M_partOf (RmN 108 7288) 0 0 (KN Γ BM mt_M_partOf.2.2.2) 7 [(0, vR Γ 0), (1, vI x8), (2, vI x9), (3, vI x10)] [] γ (f_M_partOf_L7 n γ x8 x9 x10) := by
  intro n
  induction n with
  | zero => intros; exact sb_none
  | succ n ih =>
    intro γ x8 x9 x10 hx8 hx9 hx10
    unfold f_M_partOf_L7
    refine sb_iload_n 3 d_M_partOf_7 rfl ?_
    refine sb_iload_n 2 d_M_partOf_8 rfl ?_
    refine sb_icmp_gt 48 hx10 hx9 d_M_partOf_9 (by decide) (fun _ => ?_) (fun _ => ?_)
    · refine sb_aload_n 0 d_M_partOf_48 rfl ?_
      refine g_M_248 d_M_partOf_49 ?_
      refine sb_iload_n 2 d_M_partOf_52 rfl ?_
      refine al_M_54 d_M_partOf_53 (fun _ c12 => ?_)
      exact sn_i rfl c12 d_M_partOf_54
    · refine sb_aload_n 0 d_M_partOf_12 rfl ?_
      refine g_M_148 d_M_partOf_13 ?_
      refine sb_iload_n 3 d_M_partOf_16 rfl ?_
      refine al_M_30 d_M_partOf_17 (fun _ c14 => ?_)
      refine sb_iload_n 2 d_M_partOf_18 rfl ?_
      refine sb_icmp_ne 42 c14 hx9 d_M_partOf_19 (by decide) (fun _ => ?_) (fun _ => ?_)
      · exact sb_lv [0, 1, 2, 3] rfl (s_M_partOf_b42 ih γ x8 x9 x10 hx8 hx9 hx10)
      · refine sb_aload_n 0 d_M_partOf_22 rfl ?_
        refine sb_iload_n 1 d_M_partOf_23 rfl ?_
        refine sb_aload_n 0 d_M_partOf_24 rfl ?_
        refine g_M_145 d_M_partOf_25 ?_
        refine sb_iload_n 3 d_M_partOf_28 rfl ?_
        refine al_M_29 d_M_partOf_29 (fun _ c16 => ?_)
        refine sb_cVz vf_M_present (C_M_present γ x8 (γ 29 x10) hx8 c16) rfl ml_M_527 (As := [vI x8, vI (γ 29 x10)]) rfl rfl (Nat.le_of_ble_eq_true rfl) ⟨by decide, by decide⟩ d_M_partOf_30 (fun r17 γ18 hr17 => ?_)
        refine sb_if_eq 42 (z2i hr17) d_M_partOf_33 (by decide) (fun _ => ?_) (fun _ => ?_)
        · exact sb_lv [0, 1, 2, 3] rfl (s_M_partOf_b42 ih γ18 x8 x9 x10 hx8 hx9 hx10)
        · refine sb_aload_n 0 d_M_partOf_36 rfl ?_
          refine sb_iload_n 1 d_M_partOf_37 rfl ?_
          refine sb_iload_n 3 d_M_partOf_38 rfl ?_
          refine sb_cVv vf_M_work (c_M_work γ18 x8 x10 hx8 hx10) rfl ml_M_536 (As := [vI x8, vI x10]) rfl rfl (Nat.le_of_ble_eq_true rfl) ⟨by decide, by decide⟩ d_M_partOf_39 (fun _ γ20 => ?_)
          exact sb_lv [0, 1, 2, 3] rfl (s_M_partOf_b42 ih γ20 x8 x9 x10 hx8 hx9 hx10)
set_option maxHeartbeats 4000000 in
theorem c_M_partOf {Γ : Ctx} (γ : St) (a0 : Int) (a1 : Int) (ha0 : i32 a0) (ha1 : i32 a1) : NC Γ BM y_M_partOf mt_M_partOf 108 7288 [vR Γ 0, vI a0, vI a1] γ (f_M_partOf γ a0 a1) := by
  refine nc_of (by decide) rfl (Nat.le_of_ble_eq_true rfl) ?_
  show SB Γ BM mt_M_partOf (RmN 108 7288) 0 0 (KN Γ BM mt_M_partOf.2.2.2) 0 [(0, vR Γ 0), (1, vI a0), (2, vI a1)] [] γ _
  unfold f_M_partOf
  refine sb_aload_n 0 d_M_partOf_0 rfl ?_
  refine g_M_151 d_M_partOf_1 ?_
  refine sb_iload_n 2 d_M_partOf_4 rfl ?_
  refine al_M_31 d_M_partOf_5 (fun _ c22 => ?_)
  refine sb_istore_n [(3, vI (γ 31 a1)), (0, vR Γ 0), (1, vI a0), (2, vI a1)] d_M_partOf_6 (by decide) rfl ?_
  refine sb_nme (e := γ 31 a1) (fun x23 => [(3, vI x23), (0, vR Γ 0), (1, vI a0), (2, vI a1)]) c22 (fun x23 hx23 => ?_)
  exact sb_lv [1, 2, 3, 0] rfl (s_M_partOf_L7  FU γ a0 a1 x23 ha0 ha1 hx23)
theorem d_M_remember_0 : decode b_M_remember 0 = .ok (.aload_n 0, 1) := by decide +kernel
theorem d_M_remember_1 : decode b_M_remember 1 = .ok (.getfield 184, 3) := by decide +kernel
theorem d_M_remember_4 : decode b_M_remember 4 = .ok (.iload_n 1, 1) := by decide +kernel
theorem d_M_remember_5 : decode b_M_remember 5 = .ok (.iaload, 1) := by decide +kernel
theorem d_M_remember_6 : decode b_M_remember 6 = .ok (.istore_n 2, 1) := by decide +kernel
theorem d_M_remember_7 : decode b_M_remember 7 = .ok (.aload_n 0, 1) := by decide +kernel
theorem d_M_remember_8 : decode b_M_remember 8 = .ok (.getfield 59, 3) := by decide +kernel
theorem d_M_remember_11 : decode b_M_remember 11 = .ok (.iload_n 2, 1) := by decide +kernel
theorem d_M_remember_12 : decode b_M_remember 12 = .ok (.iaload, 1) := by decide +kernel
theorem d_M_remember_13 : decode b_M_remember 13 = .ok (.istore_n 3, 1) := by decide +kernel
theorem d_M_remember_14 : decode b_M_remember 14 = .ok (.iload_n 3, 1) := by decide +kernel
theorem d_M_remember_15 : decode b_M_remember 15 = .ok (.aload_n 0, 1) := by decide +kernel
theorem d_M_remember_16 : decode b_M_remember 16 = .ok (.getfield 59, 3) := by decide +kernel
theorem d_M_remember_19 : decode b_M_remember 19 = .ok (.iload_n 2, 1) := by decide +kernel
theorem d_M_remember_20 : decode b_M_remember 20 = .ok (.iconst 1, 1) := by decide +kernel
theorem d_M_remember_21 : decode b_M_remember 21 = .ok (.iadd, 1) := by decide +kernel
theorem d_M_remember_22 : decode b_M_remember 22 = .ok (.iaload, 1) := by decide +kernel
theorem d_M_remember_23 : decode b_M_remember 23 = .ok (.if_icmp .ge 214, 3) := by decide +kernel
theorem d_M_remember_26 : decode b_M_remember 26 = .ok (.aload_n 0, 1) := by decide +kernel
theorem d_M_remember_27 : decode b_M_remember 27 = .ok (.getfield 103, 3) := by decide +kernel
theorem d_M_remember_30 : decode b_M_remember 30 = .ok (.iload_n 3, 1) := by decide +kernel
theorem d_M_remember_31 : decode b_M_remember 31 = .ok (.iaload, 1) := by decide +kernel
theorem d_M_remember_32 : decode b_M_remember 32 = .ok (.istore 4, 2) := by decide +kernel
theorem d_M_remember_34 : decode b_M_remember 34 = .ok (.iload 4, 2) := by decide +kernel
theorem d_M_remember_36 : decode b_M_remember 36 = .ok (.aload_n 0, 1) := by decide +kernel
theorem d_M_remember_37 : decode b_M_remember 37 = .ok (.getfield 96, 3) := by decide +kernel
theorem d_M_remember_40 : decode b_M_remember 40 = .ok (.iload_n 3, 1) := by decide +kernel
theorem d_M_remember_41 : decode b_M_remember 41 = .ok (.iaload, 1) := by decide +kernel
theorem d_M_remember_42 : decode b_M_remember 42 = .ok (.if_icmp .gt 189, 3) := by decide +kernel
theorem d_M_remember_45 : decode b_M_remember 45 = .ok (.aload_n 0, 1) := by decide +kernel
theorem d_M_remember_46 : decode b_M_remember 46 = .ok (.iload_n 1, 1) := by decide +kernel
theorem d_M_remember_47 : decode b_M_remember 47 = .ok (.aload_n 0, 1) := by decide +kernel
theorem d_M_remember_48 : decode b_M_remember 48 = .ok (.getfield 145, 3) := by decide +kernel
theorem d_M_remember_51 : decode b_M_remember 51 = .ok (.iload 4, 2) := by decide +kernel
theorem d_M_remember_53 : decode b_M_remember 53 = .ok (.iaload, 1) := by decide +kernel
theorem d_M_remember_54 : decode b_M_remember 54 = .ok (.invokevirtual 527, 3) := by decide +kernel
theorem d_M_remember_57 : decode b_M_remember 57 = .ok (.ifCond .ne 6, 3) := by decide +kernel
theorem d_M_remember_60 : decode b_M_remember 60 = .ok (.goto 165, 3) := by decide +kernel
theorem d_M_remember_63 : decode b_M_remember 63 = .ok (.aload_n 0, 1) := by decide +kernel
theorem d_M_remember_64 : decode b_M_remember 64 = .ok (.iload_n 1, 1) := by decide +kernel
theorem d_M_remember_65 : decode b_M_remember 65 = .ok (.iload 4, 2) := by decide +kernel
theorem d_M_remember_67 : decode b_M_remember 67 = .ok (.invokevirtual 536, 3) := by decide +kernel
theorem d_M_remember_70 : decode b_M_remember 70 = .ok (.aload_n 0, 1) := by decide +kernel
theorem d_M_remember_71 : decode b_M_remember 71 = .ok (.getfield 196, 3) := by decide +kernel
theorem d_M_remember_74 : decode b_M_remember 74 = .ok (.iload_n 1, 1) := by decide +kernel
theorem d_M_remember_75 : decode b_M_remember 75 = .ok (.iaload, 1) := by decide +kernel
theorem d_M_remember_76 : decode b_M_remember 76 = .ok (.aload_n 0, 1) := by decide +kernel
theorem d_M_remember_77 : decode b_M_remember 77 = .ok (.getfield 127, 3) := by decide +kernel
theorem d_M_remember_80 : decode b_M_remember 80 = .ok (.iload 4, 2) := by decide +kernel
theorem d_M_remember_82 : decode b_M_remember 82 = .ok (.iaload, 1) := by decide +kernel
theorem d_M_remember_83 : decode b_M_remember 83 = .ok (.iadd, 1) := by decide +kernel
theorem d_M_remember_84 : decode b_M_remember 84 = .ok (.istore 5, 2) := by decide +kernel
theorem d_M_remember_86 : decode b_M_remember 86 = .ok (.aload_n 0, 1) := by decide +kernel
theorem d_M_remember_87 : decode b_M_remember 87 = .ok (.getfield 118, 3) := by decide +kernel
theorem d_M_remember_90 : decode b_M_remember 90 = .ok (.iload 4, 2) := by decide +kernel
theorem d_M_remember_92 : decode b_M_remember 92 = .ok (.iaload, 1) := by decide +kernel
theorem d_M_remember_93 : decode b_M_remember 93 = .ok (.istore 6, 2) := by decide +kernel
theorem d_M_remember_95 : decode b_M_remember 95 = .ok (.aload_n 0, 1) := by decide +kernel
theorem d_M_remember_96 : decode b_M_remember 96 = .ok (.getfield 112, 3) := by decide +kernel
theorem d_M_remember_99 : decode b_M_remember 99 = .ok (.iload 4, 2) := by decide +kernel
theorem d_M_remember_101 : decode b_M_remember 101 = .ok (.iaload, 1) := by decide +kernel
theorem d_M_remember_102 : decode b_M_remember 102 = .ok (.bipush 24, 2) := by decide +kernel
theorem d_M_remember_104 : decode b_M_remember 104 = .ok (.if_icmp .ne 17, 3) := by decide +kernel
theorem d_M_remember_107 : decode b_M_remember 107 = .ok (.aload_n 0, 1) := by decide +kernel
theorem d_M_remember_108 : decode b_M_remember 108 = .ok (.getfield 245, 3) := by decide +kernel
theorem d_M_remember_111 : decode b_M_remember 111 = .ok (.iload 5, 2) := by decide +kernel
theorem d_M_remember_113 : decode b_M_remember 113 = .ok (.aload_n 0, 1) := by decide +kernel
theorem d_M_remember_114 : decode b_M_remember 114 = .ok (.getfield 248, 3) := by decide +kernel
theorem d_M_remember_117 : decode b_M_remember 117 = .ok (.iload 6, 2) := by decide +kernel
theorem d_M_remember_119 : decode b_M_remember 119 = .ok (.iaload, 1) := by decide +kernel
theorem d_M_remember_120 : decode b_M_remember 120 = .ok (.iastore, 1) := by decide +kernel
theorem d_M_remember_121 : decode b_M_remember 121 = .ok (.aload_n 0, 1) := by decide +kernel
theorem d_M_remember_122 : decode b_M_remember 122 = .ok (.getfield 112, 3) := by decide +kernel
theorem d_M_remember_125 : decode b_M_remember 125 = .ok (.iload 4, 2) := by decide +kernel
theorem d_M_remember_127 : decode b_M_remember 127 = .ok (.iaload, 1) := by decide +kernel
theorem d_M_remember_128 : decode b_M_remember 128 = .ok (.iconst 5, 1) := by decide +kernel
theorem d_M_remember_129 : decode b_M_remember 129 = .ok (.if_icmp .ne 11, 3) := by decide +kernel
theorem d_M_remember_132 : decode b_M_remember 132 = .ok (.aload_n 0, 1) := by decide +kernel
theorem d_M_remember_133 : decode b_M_remember 133 = .ok (.getfield 245, 3) := by decide +kernel
theorem d_M_remember_136 : decode b_M_remember 136 = .ok (.iload 5, 2) := by decide +kernel
theorem d_M_remember_138 : decode b_M_remember 138 = .ok (.iconst 1, 1) := by decide +kernel
theorem d_M_remember_139 : decode b_M_remember 139 = .ok (.iastore, 1) := by decide +kernel
theorem d_M_remember_140 : decode b_M_remember 140 = .ok (.aload_n 0, 1) := by decide +kernel
theorem d_M_remember_141 : decode b_M_remember 141 = .ok (.getfield 112, 3) := by decide +kernel
theorem d_M_remember_144 : decode b_M_remember 144 = .ok (.iload 4, 2) := by decide +kernel
theorem d_M_remember_146 : decode b_M_remember 146 = .ok (.iaload, 1) := by decide +kernel
theorem d_M_remember_147 : decode b_M_remember 147 = .ok (.bipush 25, 2) := by decide +kernel
theorem d_M_remember_149 : decode b_M_remember 149 = .ok (.if_icmp .ne 32, 3) := by decide +kernel
theorem d_M_remember_152 : decode b_M_remember 152 = .ok (.aload_n 0, 1) := by decide +kernel
theorem d_M_remember_153 : decode b_M_remember 153 = .ok (.iload_n 1, 1) := by decide +kernel
theorem d_M_remember_154 : decode b_M_remember 154 = .ok (.aload_n 0, 1) := by decide +kernel
theorem d_M_remember_155 : decode b_M_remember 155 = .ok (.getfield 145, 3) := by decide +kernel
theorem d_M_remember_158 : decode b_M_remember 158 = .ok (.iload 6, 2) := by decide +kernel
theorem d_M_remember_160 : decode b_M_remember 160 = .ok (.iaload, 1) := by decide +kernel
theorem d_M_remember_161 : decode b_M_remember 161 = .ok (.invokevirtual 527, 3) := by decide +kernel
theorem d_M_remember_164 : decode b_M_remember 164 = .ok (.ifCond .eq 17, 3) := by decide +kernel
theorem d_M_remember_167 : decode b_M_remember 167 = .ok (.aload_n 0, 1) := by decide +kernel
theorem d_M_remember_168 : decode b_M_remember 168 = .ok (.getfield 245, 3) := by decide +kernel
theorem d_M_remember_171 : decode b_M_remember 171 = .ok (.iload 5, 2) := by decide +kernel
theorem d_M_remember_173 : decode b_M_remember 173 = .ok (.aload_n 0, 1) := by decide +kernel
theorem d_M_remember_174 : decode b_M_remember 174 = .ok (.getfield 248, 3) := by decide +kernel
theorem d_M_remember_177 : decode b_M_remember 177 = .ok (.iload 6, 2) := by decide +kernel
theorem d_M_remember_179 : decode b_M_remember 179 = .ok (.iaload, 1) := by decide +kernel
theorem d_M_remember_180 : decode b_M_remember 180 = .ok (.iastore, 1) := by decide +kernel
theorem d_M_remember_181 : decode b_M_remember 181 = .ok (.aload_n 0, 1) := by decide +kernel
theorem d_M_remember_182 : decode b_M_remember 182 = .ok (.getfield 112, 3) := by decide +kernel
theorem d_M_remember_185 : decode b_M_remember 185 = .ok (.iload 4, 2) := by decide +kernel
theorem d_M_remember_187 : decode b_M_remember 187 = .ok (.iaload, 1) := by decide +kernel
theorem d_M_remember_188 : decode b_M_remember 188 = .ok (.bipush 6, 2) := by decide +kernel
theorem d_M_remember_190 : decode b_M_remember 190 = .ok (.if_icmp .eq 6, 3) := by decide +kernel
theorem d_M_remember_193 : decode b_M_remember 193 = .ok (.goto 32, 3) := by decide +kernel
theorem d_M_remember_196 : decode b_M_remember 196 = .ok (.aload_n 0, 1) := by decide +kernel
theorem d_M_remember_197 : decode b_M_remember 197 = .ok (.getfield 245, 3) := by decide +kernel
theorem d_M_remember_200 : decode b_M_remember 200 = .ok (.iload 5, 2) := by decide +kernel
theorem d_M_remember_202 : decode b_M_remember 202 = .ok (.aload_n 0, 1) := by decide +kernel
theorem d_M_remember_203 : decode b_M_remember 203 = .ok (.getfield 248, 3) := by decide +kernel
theorem d_M_remember_206 : decode b_M_remember 206 = .ok (.aload_n 0, 1) := by decide +kernel
theorem d_M_remember_207 : decode b_M_remember 207 = .ok (.getfield 121, 3) := by decide +kernel
theorem d_M_remember_210 : decode b_M_remember 210 = .ok (.iload 6, 2) := by decide +kernel
theorem d_M_remember_212 : decode b_M_remember 212 = .ok (.iaload, 1) := by decide +kernel
theorem d_M_remember_213 : decode b_M_remember 213 = .ok (.iaload, 1) := by decide +kernel
theorem d_M_remember_214 : decode b_M_remember 214 = .ok (.iastore, 1) := by decide +kernel
theorem d_M_remember_215 : decode b_M_remember 215 = .ok (.aload_n 0, 1) := by decide +kernel
theorem d_M_remember_216 : decode b_M_remember 216 = .ok (.getfield 245, 3) := by decide +kernel
theorem d_M_remember_219 : decode b_M_remember 219 = .ok (.iload 5, 2) := by decide +kernel
theorem d_M_remember_221 : decode b_M_remember 221 = .ok (.iconst 1, 1) := by decide +kernel
theorem d_M_remember_222 : decode b_M_remember 222 = .ok (.iadd, 1) := by decide +kernel
theorem d_M_remember_223 : decode b_M_remember 223 = .ok (.iconst 1, 1) := by decide +kernel
theorem d_M_remember_224 : decode b_M_remember 224 = .ok (.iastore, 1) := by decide +kernel
theorem d_M_remember_225 : decode b_M_remember 225 = .ok (.iinc 4 1, 3) := by decide +kernel
theorem d_M_remember_228 : decode b_M_remember 228 = .ok (.goto (-194), 3) := by decide +kernel
theorem d_M_remember_231 : decode b_M_remember 231 = .ok (.iinc 3 1, 3) := by decide +kernel
theorem d_M_remember_234 : decode b_M_remember 234 = .ok (.goto (-220), 3) := by decide +kernel
theorem d_M_remember_237 : decode b_M_remember 237 = .ok (.return_, 1) := by decide +kernel
abbrev mt_M_remember : MT := (R_M, b_M_remember, 7, none)
theorem vf_M_remember : VF y_M_remember mt_M_remember 12 1 := ⟨im_M_remember, se_M_remember, in_M, co_M_remember, by decide +kernel, _, _, rfl⟩
def f_M_remember_b231 (k14 : St → Int → Int → Int → Option (Int × St)) (γ : St) (x1 : Int) (x2 : Int) (x3 : Int) : Option (Int × St) :=
  chk (i32 (x3 + 1)) (k14 γ x1 x2 (x3 + 1))
def f_M_remember_b225 (k34 : St → Int → Int → Int → Int → Option (Int × St)) (x231 : St → Int → Int → Int → Option (Int × St)) (γ : St) (x8 : Int) (x9 : Int) (x10 : Int) (x11 : Int) : Option (Int × St) :=
  chk (i32 (x11 + 1)) (k34 γ x8 x9 x10 (x11 + 1))
def f_M_remember_b181 (k34 : St → Int → Int → Int → Int → Option (Int × St)) (x231 : St → Int → Int → Int → Option (Int × St)) (γ : St) (x20 : Int) (x21 : Int) (x22 : Int) (x23 : Int) (x24 : Int) (x25 : Int) : Option (Int × St) :=
  chk (inb x23 66000) (if (γ 20 x23) = 6 then
  (chk (inb x25 66000) (chk (inb (γ 23 x25) 66000) (chk (inb x24 6600) (ap (setA γ 53 x24 (γ 54 (γ 23 x25))) fun γ33 =>
  chk (i32 (x24 + 1)) (chk (inb (x24 + 1) 6600) (ap (setA γ33 53 (x24 + 1) 1) fun γ36 =>
  f_M_remember_b225 k34 x231 γ36 x20 x21 x22 x23))))))
  else
  (f_M_remember_b225 k34 x231 γ x20 x21 x22 x23))
def f_M_remember_b140 (k34 : St → Int → Int → Int → Int → Option (Int × St)) (x231 : St → Int → Int → Int → Option (Int × St)) (γ : St) (x44 : Int) (x45 : Int) (x46 : Int) (x47 : Int) (x48 : Int) (x49 : Int) : Option (Int × St) :=
  chk (inb x47 66000) (if (γ 20 x47) ≠ 25 then
  (f_M_remember_b181 k34 x231 γ x44 x45 x46 x47 x48 x49)
  else
  (chk (inb x49 66000) (bndN (F_M_present γ x44 (γ 29 x49)) fun r54 γ55 =>
  if r54 = 0 then
  (f_M_remember_b181 k34 x231 γ55 x44 x45 x46 x47 x48 x49)
  else
  (chk (inb x49 66000) (chk (inb x48 6600) (ap (setA γ55 53 x48 (γ55 54 x49)) fun γ59 =>
  f_M_remember_b181 k34 x231 γ59 x44 x45 x46 x47 x48 x49))))))
def f_M_remember_b121 (k34 : St → Int → Int → Int → Int → Option (Int × St)) (x231 : St → Int → Int → Int → Option (Int × St)) (γ : St) (x67 : Int) (x68 : Int) (x69 : Int) (x70 : Int) (x71 : Int) (x72 : Int) : Option (Int × St) :=
  chk (inb x70 66000) (if (γ 20 x70) ≠ 5 then
  (f_M_remember_b140 k34 x231 γ x67 x68 x69 x70 x71 x72)
  else
  (chk (inb x71 6600) (ap (setA γ 53 x71 1) fun γ76 =>
  f_M_remember_b140 k34 x231 γ76 x67 x68 x69 x70 x71 x72)))
def f_M_remember_L34 (x231 : St → Int → Int → Int → Option (Int × St)) : Nat → St → Int → Int → Int → Int → Option (Int × St)
  | 0, _, _, _, _, _ => none
  | n + 1, γ, x84, x85, x86, x87 =>
  chk (inb x86 17000) (if (γ 17 x86) < x87 then
  (x231 γ x84 x85 x86)
  else
  (chk (inb x87 66000) (bndN (F_M_present γ x84 (γ 29 x87)) fun r92 γ93 =>
  if r92 ≠ 0 then
  (bndN (f_M_work γ93 x84 x87) fun _ γ95 =>
  chk (inb x84 3200) (chk (inb x87 66000) (chk (i32 ((γ95 39 x84) + (γ95 25 x87))) (ap ((γ95 39 x84) + (γ95 25 x87)) fun x101 =>
  chk (inb x87 66000) (ap (γ95 22 x87) fun x104 =>
  chk (inb x87 66000) (if (γ95 20 x87) ≠ 24 then
  (f_M_remember_b121 (f_M_remember_L34 x231 n) x231 γ95 x84 x85 x86 x87 x101 x104)
  else
  (chk (inb x104 66000) (chk (inb x101 6600) (ap (setA γ95 53 x101 (γ95 54 x104)) fun γ110 =>
  f_M_remember_b121 (f_M_remember_L34 x231 n) x231 γ110 x84 x85 x86 x87 x101 x104)))))))))
  else
  (f_M_remember_b225 (f_M_remember_L34 x231 n) x231 γ93 x84 x85 x86 x87))))
def f_M_remember_L14 : Nat → St → Int → Int → Int → Option (Int × St)
  | 0, _, _, _, _ => none
  | n + 1, γ, x114, x115, x116 =>
  chk (i32 (x115 + 1)) (chk (inb (x115 + 1) 61) (if (γ 7 (x115 + 1)) ≤ x116 then
  (some (0, γ))
  else
  (chk (inb x116 17000) (ap (γ 19 x116) fun x122 =>
  f_M_remember_L34 (f_M_remember_b231 (f_M_remember_L14 n)) FU γ x114 x115 x116 x122))))
def f_M_remember (γ : St) (a0 : Int) : Option (Int × St) :=
  chk (inb a0 3200) (ap (γ 35 a0) fun x125 =>
  chk (inb x125 61) (ap (γ 7 x125) fun x128 =>
  f_M_remember_L14  FU γ a0 x125 x128))
set_option maxHeartbeats 4000000 in
theorem s_M_remember_b231 {Γ : Ctx} {k14 : St → Int → Int → Int → Option (Int × St)} (hk14 : ∀ (γ : St) (x5 : Int) (x6 : Int) (x7 : Int), i32 x5 → i32 x6 → i32 x7 → SB Γ BM mt_M_remember (RmN 108 7288) 0 0 (KN Γ BM mt_M_remember.2.2.2) 14 [(0, vR Γ 0), (1, vI x5), (2, vI x6), (3, vI x7)] [] γ (k14 γ x5 x6 x7)) : ∀ (γ : St) (x1 : Int) (x2 : Int) (x3 : Int), i32 x1 → i32 x2 → i32 x3 → SB Γ BM mt_M_remember (RmN 108 7288) 0 0 (KN Γ BM mt_M_remember.2.2.2) 231 [(0, vR Γ 0), (1, vI x1), (2, vI x2), (3, vI x3)] [] γ (f_M_remember_b231 k14 γ x1 x2 x3) := by
  intro γ x1 x2 x3 hx1 hx2 hx3
  unfold f_M_remember_b231
  refine sb_iinc 3 [(3, vI (x3 + 1)), (0, vR Γ 0), (1, vI x1), (2, vI x2)] d_M_remember_231 rfl (by decide) rfl ?_
  refine sb_chk (fun c4 => ?_)
  refine sb_goto 14 d_M_remember_234 (by decide) ?_
  exact sb_lv [1, 2, 3, 0] rfl (hk14 γ x1 x2 (x3 + 1) hx1 hx2 c4)
set_option maxHeartbeats 4000000 in
theorem s_M_remember_b225 {Γ : Ctx} {k34 : St → Int → Int → Int → Int → Option (Int × St)} {x231 : St → Int → Int → Int → Option (Int × St)} (hk34 : ∀ (γ : St) (x13 : Int) (x14 : Int) (x15 : Int) (x16 : Int), i32 x13 → i32 x14 → i32 x15 → i32 x16 → SB Γ BM mt_M_remember (RmN 108 7288) 0 0 (KN Γ BM mt_M_remember.2.2.2) 34 [(0, vR Γ 0), (1, vI x13), (2, vI x14), (3, vI x15), (4, vI x16)] [] γ (k34 γ x13 x14 x15 x16)) (hx231 : ∀ (γ : St) (x17 : Int) (x18 : Int) (x19 : Int), i32 x17 → i32 x18 → i32 x19 → SB Γ BM mt_M_remember (RmN 108 7288) 0 0 (KN Γ BM mt_M_remember.2.2.2) 231 [(0, vR Γ 0), (1, vI x17), (2, vI x18), (3, vI x19)] [] γ (x231 γ x17 x18 x19)) : ∀ (γ : St) (x8 : Int) (x9 : Int) (x10 : Int) (x11 : Int), i32 x8 → i32 x9 → i32 x10 → i32 x11 → SB Γ BM mt_M_remember (RmN 108 7288) 0 0 (KN Γ BM mt_M_remember.2.2.2) 225 [(0, vR Γ 0), (1, vI x8), (2, vI x9), (3, vI x10), (4, vI x11)] [] γ (f_M_remember_b225 k34 x231 γ x8 x9 x10 x11) := by
  intro γ x8 x9 x10 x11 hx8 hx9 hx10 hx11
  unfold f_M_remember_b225
  refine sb_iinc 4 [(4, vI (x11 + 1)), (0, vR Γ 0), (1, vI x8), (2, vI x9), (3, vI x10)] d_M_remember_225 rfl (by decide) rfl ?_
  refine sb_chk (fun c12 => ?_)
  refine sb_goto 34 d_M_remember_228 (by decide) ?_
  exact sb_lv [1, 2, 3, 4, 0] rfl (hk34 γ x8 x9 x10 (x11 + 1) hx8 hx9 hx10 c12)
set_option maxHeartbeats 4000000 in
theorem s_M_remember_b181 {Γ : Ctx} {k34 : St → Int → Int → Int → Int → Option (Int × St)} {x231 : St → Int → Int → Int → Option (Int × St)} (hk34 : ∀ (γ : St) (x37 : Int) (x38 : Int) (x39 : Int) (x40 : Int), i32 x37 → i32 x38 → i32 x39 → i32 x40 → SB Γ BM mt_M_remember (RmN 108 7288) 0 0 (KN Γ BM mt_M_remember.2.2.2) 34 [(0, vR Γ 0), (1, vI x37), (2, vI x38), (3, vI x39), (4, vI x40)] [] γ (k34 γ x37 x38 x39 x40)) (hx231 : ∀ (γ : St) (x41 : Int) (x42 : Int) (x43 : Int), i32 x41 → i32 x42 → i32 x43 → SB Γ BM mt_M_remember (RmN 108 7288) 0 0 (KN Γ BM mt_M_remember.2.2.2) 231 [(0, vR Γ 0), (1, vI x41), (2, vI x42), (3, vI x43)] [] γ (x231 γ x41 x42 x43)) : ∀ (γ : St) (x20 : Int) (x21 : Int) (x22 : Int) (x23 : Int) (x24 : Int) (x25 : Int), i32 x20 → i32 x21 → i32 x22 → i32 x23 → i32 x24 → i32 x25 → SB Γ BM mt_M_remember (RmN 108 7288) 0 0 (KN Γ BM mt_M_remember.2.2.2) 181 [(0, vR Γ 0), (1, vI x20), (2, vI x21), (3, vI x22), (4, vI x23), (5, vI x24), (6, vI x25)] [] γ (f_M_remember_b181 k34 x231 γ x20 x21 x22 x23 x24 x25) := by
  intro γ x20 x21 x22 x23 x24 x25 hx20 hx21 hx22 hx23 hx24 hx25
  unfold f_M_remember_b181
  refine sb_aload_n 0 d_M_remember_181 rfl ?_
  refine g_M_112 d_M_remember_182 ?_
  refine sb_iload 4 d_M_remember_185 rfl ?_
  refine al_M_20 d_M_remember_187 (fun _ c27 => ?_)
  refine sb_bipush d_M_remember_188 (by decide) ?_
  refine sb_icmp_eq 196 c27 (by decide) d_M_remember_190 (by decide) (fun _ => ?_) (fun _ => ?_)
  · refine sb_aload_n 0 d_M_remember_196 rfl ?_
    refine g_M_245 d_M_remember_197 ?_
    refine sb_iload 5 d_M_remember_200 rfl ?_
    refine sb_aload_n 0 d_M_remember_202 rfl ?_
    refine g_M_248 d_M_remember_203 ?_
    refine sb_aload_n 0 d_M_remember_206 rfl ?_
    refine g_M_121 d_M_remember_207 ?_
    refine sb_iload 6 d_M_remember_210 rfl ?_
    refine al_M_23 d_M_remember_212 (fun _ c31 => ?_)
    refine al_M_54 d_M_remember_213 (fun _ c32 => ?_)
    refine as_M_53 c32 d_M_remember_214 (fun _ => ?_)
    refine sb_aps (fun γ33 => ?_)
    refine sb_aload_n 0 d_M_remember_215 rfl ?_
    refine g_M_245 d_M_remember_216 ?_
    refine sb_iload 5 d_M_remember_219 rfl ?_
    refine sb_iconst d_M_remember_221 ?_
    refine sb_iadd d_M_remember_222 ?_
    refine sb_chk (fun c35 => ?_)
    refine sb_iconst d_M_remember_223 ?_
    refine as_M_53 (by decide) d_M_remember_224 (fun _ => ?_)
    refine sb_aps (fun γ36 => ?_)
    exact sb_lv [0, 1, 2, 3, 4] rfl (s_M_remember_b225 hk34 hx231 γ36 x20 x21 x22 x23 hx20 hx21 hx22 hx23)
  · refine sb_goto 225 d_M_remember_193 (by decide) ?_
    exact sb_lv [0, 1, 2, 3, 4] rfl (s_M_remember_b225 hk34 hx231 γ x20 x21 x22 x23 hx20 hx21 hx22 hx23)
set_option maxHeartbeats 4000000 in
theorem s_M_remember_b140 {Γ : Ctx} {k34 : St → Int → Int → Int → Int → Option (Int × St)} {x231 : St → Int → Int → Int → Option (Int × St)} (hk34 : ∀ (γ : St) (x60 : Int) (x61 : Int) (x62 : Int) (x63 : Int), i32 x60 → i32 x61 → i32 x62 → i32 x63 → SB Γ BM mt_M_remember (RmN 108 7288) 0 0 (KN Γ BM mt_M_remember.2.2.2) 34 [(0, vR Γ 0), (1, vI x60), (2, vI x61), (3, vI x62), (4, vI x63)] [] γ (k34 γ x60 x61 x62 x63)) (hx231 : ∀ (γ : St) (x64 : Int) (x65 : Int) (x66 : Int), i32 x64 → i32 x65 → i32 x66 → SB Γ BM mt_M_remember (RmN 108 7288) 0 0 (KN Γ BM mt_M_remember.2.2.2) 231 [(0, vR Γ 0), (1, vI x64), (2, vI x65), (3, vI x66)] [] γ (x231 γ x64 x65 x66)) : ∀ (γ : St) (x44 : Int) (x45 : Int) (x46 : Int) (x47 : Int) (x48 : Int) (x49 : Int), i32 x44 → i32 x45 → i32 x46 → i32 x47 → i32 x48 → i32 x49 → SB Γ BM mt_M_remember (RmN 108 7288) 0 0 (KN Γ BM mt_M_remember.2.2.2) 140 [(0, vR Γ 0), (1, vI x44), (2, vI x45), (3, vI x46), (4, vI x47), (5, vI x48), (6, vI x49)] [] γ (f_M_remember_b140 k34 x231 γ x44 x45 x46 x47 x48 x49) := by
  intro γ x44 x45 x46 x47 x48 x49 hx44 hx45 hx46 hx47 hx48 hx49
  unfold f_M_remember_b140
  refine sb_aload_n 0 d_M_remember_140 rfl ?_
  refine g_M_112 d_M_remember_141 ?_
  refine sb_iload 4 d_M_remember_144 rfl ?_
  refine al_M_20 d_M_remember_146 (fun _ c51 => ?_)
  refine sb_bipush d_M_remember_147 (by decide) ?_
  refine sb_icmp_ne 181 c51 (by decide) d_M_remember_149 (by decide) (fun _ => ?_) (fun _ => ?_)
  · exact sb_lv [0, 1, 2, 3, 4, 5, 6] rfl (s_M_remember_b181 hk34 hx231 γ x44 x45 x46 x47 x48 x49 hx44 hx45 hx46 hx47 hx48 hx49)
  · refine sb_aload_n 0 d_M_remember_152 rfl ?_
    refine sb_iload_n 1 d_M_remember_153 rfl ?_
    refine sb_aload_n 0 d_M_remember_154 rfl ?_
    refine g_M_145 d_M_remember_155 ?_
    refine sb_iload 6 d_M_remember_158 rfl ?_
    refine al_M_29 d_M_remember_160 (fun _ c53 => ?_)
    refine sb_cVz vf_M_present (C_M_present γ x44 (γ 29 x49) hx44 c53) rfl ml_M_527 (As := [vI x44, vI (γ 29 x49)]) rfl rfl (Nat.le_of_ble_eq_true rfl) ⟨by decide, by decide⟩ d_M_remember_161 (fun r54 γ55 hr54 => ?_)
    refine sb_if_eq 181 (z2i hr54) d_M_remember_164 (by decide) (fun _ => ?_) (fun _ => ?_)
    · exact sb_lv [0, 1, 2, 3, 4, 5, 6] rfl (s_M_remember_b181 hk34 hx231 γ55 x44 x45 x46 x47 x48 x49 hx44 hx45 hx46 hx47 hx48 hx49)
    · refine sb_aload_n 0 d_M_remember_167 rfl ?_
      refine g_M_245 d_M_remember_168 ?_
      refine sb_iload 5 d_M_remember_171 rfl ?_
      refine sb_aload_n 0 d_M_remember_173 rfl ?_
      refine g_M_248 d_M_remember_174 ?_
      refine sb_iload 6 d_M_remember_177 rfl ?_
      refine al_M_54 d_M_remember_179 (fun _ c58 => ?_)
      refine as_M_53 c58 d_M_remember_180 (fun _ => ?_)
      refine sb_aps (fun γ59 => ?_)
      exact sb_lv [0, 1, 2, 3, 4, 5, 6] rfl (s_M_remember_b181 hk34 hx231 γ59 x44 x45 x46 x47 x48 x49 hx44 hx45 hx46 hx47 hx48 hx49)
set_option maxHeartbeats 4000000 in
theorem s_M_remember_b121 {Γ : Ctx} {k34 : St → Int → Int → Int → Int → Option (Int × St)} {x231 : St → Int → Int → Int → Option (Int × St)} (hk34 : ∀ (γ : St) (x77 : Int) (x78 : Int) (x79 : Int) (x80 : Int), i32 x77 → i32 x78 → i32 x79 → i32 x80 → SB Γ BM mt_M_remember (RmN 108 7288) 0 0 (KN Γ BM mt_M_remember.2.2.2) 34 [(0, vR Γ 0), (1, vI x77), (2, vI x78), (3, vI x79), (4, vI x80)] [] γ (k34 γ x77 x78 x79 x80)) (hx231 : ∀ (γ : St) (x81 : Int) (x82 : Int) (x83 : Int), i32 x81 → i32 x82 → i32 x83 → SB Γ BM mt_M_remember (RmN 108 7288) 0 0 (KN Γ BM mt_M_remember.2.2.2) 231 [(0, vR Γ 0), (1, vI x81), (2, vI x82), (3, vI x83)] [] γ (x231 γ x81 x82 x83)) : ∀ (γ : St) (x67 : Int) (x68 : Int) (x69 : Int) (x70 : Int) (x71 : Int) (x72 : Int), i32 x67 → i32 x68 → i32 x69 → i32 x70 → i32 x71 → i32 x72 → SB Γ BM mt_M_remember (RmN 108 7288) 0 0 (KN Γ BM mt_M_remember.2.2.2) 121 [(0, vR Γ 0), (1, vI x67), (2, vI x68), (3, vI x69), (4, vI x70), (5, vI x71), (6, vI x72)] [] γ (f_M_remember_b121 k34 x231 γ x67 x68 x69 x70 x71 x72) := by
  intro γ x67 x68 x69 x70 x71 x72 hx67 hx68 hx69 hx70 hx71 hx72
  unfold f_M_remember_b121
  refine sb_aload_n 0 d_M_remember_121 rfl ?_
  refine g_M_112 d_M_remember_122 ?_
  refine sb_iload 4 d_M_remember_125 rfl ?_
  refine al_M_20 d_M_remember_127 (fun _ c74 => ?_)
  refine sb_iconst d_M_remember_128 ?_
  refine sb_icmp_ne 140 c74 (by decide) d_M_remember_129 (by decide) (fun _ => ?_) (fun _ => ?_)
  · exact sb_lv [0, 1, 2, 3, 4, 5, 6] rfl (s_M_remember_b140 hk34 hx231 γ x67 x68 x69 x70 x71 x72 hx67 hx68 hx69 hx70 hx71 hx72)
  · refine sb_aload_n 0 d_M_remember_132 rfl ?_
    refine g_M_245 d_M_remember_133 ?_
    refine sb_iload 5 d_M_remember_136 rfl ?_
    refine sb_iconst d_M_remember_138 ?_
    refine as_M_53 (by decide) d_M_remember_139 (fun _ => ?_)
    refine sb_aps (fun γ76 => ?_)
    exact sb_lv [0, 1, 2, 3, 4, 5, 6] rfl (s_M_remember_b140 hk34 hx231 γ76 x67 x68 x69 x70 x71 x72 hx67 hx68 hx69 hx70 hx71 hx72)
set_option maxHeartbeats 4000000 in
theorem s_M_remember_L34 {Γ : Ctx} {x231 : St → Int → Int → Int → Option (Int × St)} (hx231 : ∀ (γ : St) (x111 : Int) (x112 : Int) (x113 : Int), i32 x111 → i32 x112 → i32 x113 → SB Γ BM mt_M_remember (RmN 108 7288) 0 0 (KN Γ BM mt_M_remember.2.2.2) 231 [(0, vR Γ 0), (1, vI x111), (2, vI x112), (3, vI x113)] [] γ (x231 γ x111 x112 x113)) : ∀ (n : Nat) (γ : St) (x84 : Int) (x85 : Int) (x86 : Int) (x87 : Int), i32 x84 → i32 x85 → i32 x86 → i32 x87 → SB Γ BM mt_M_remember (RmN 108 7288) 0 0 (KN Γ BM mt_M_remember.2.2.2) 34 [(0, vR Γ 0), (1, vI x84), (2, vI x85), (3, vI x86), (4, vI x87)] [] γ (f_M_remember_L34 x231 n γ x84 x85 x86 x87) := by
  intro n
  induction n with
  | zero => intros; exact sb_none
  | succ n ih =>
    intro γ x84 x85 x86 x87 hx84 hx85 hx86 hx87
    unfold f_M_remember_L34
    refine sb_iload 4 d_M_remember_34 rfl ?_
    refine sb_aload_n 0 d_M_remember_36 rfl ?_
    refine g_M_96 d_M_remember_37 ?_
    refine sb_iload_n 3 d_M_remember_40 rfl ?_
    refine al_M_17 d_M_remember_41 (fun _ c89 => ?_)
    refine sb_icmp_gt 231 hx87 c89 d_M_remember_42 (by decide) (fun _ => ?_) (fun _ => ?_)
    · exact sb_lv [0, 1, 2, 3] rfl (hx231 γ x84 x85 x86 hx84 hx85 hx86)
    · refine sb_aload_n 0 d_M_remember_45 rfl ?_
      refine sb_iload_n 1 d_M_remember_46 rfl ?_
      refine sb_aload_n 0 d_M_remember_47 rfl ?_
      refine g_M_145 d_M_remember_48 ?_
      refine sb_iload 4 d_M_remember_51 rfl ?_
      refine al_M_29 d_M_remember_53 (fun _ c91 => ?_)
      refine sb_cVz vf_M_present (C_M_present γ x84 (γ 29 x87) hx84 c91) rfl ml_M_527 (As := [vI x84, vI (γ 29 x87)]) rfl rfl (Nat.le_of_ble_eq_true rfl) ⟨by decide, by decide⟩ d_M_remember_54 (fun r92 γ93 hr92 => ?_)
      refine sb_if_ne 63 (z2i hr92) d_M_remember_57 (by decide) (fun _ => ?_) (fun _ => ?_)
      · refine sb_aload_n 0 d_M_remember_63 rfl ?_
        refine sb_iload_n 1 d_M_remember_64 rfl ?_
        refine sb_iload 4 d_M_remember_65 rfl ?_
        refine sb_cVv vf_M_work (c_M_work γ93 x84 x87 hx84 hx87) rfl ml_M_536 (As := [vI x84, vI x87]) rfl rfl (Nat.le_of_ble_eq_true rfl) ⟨by decide, by decide⟩ d_M_remember_67 (fun _ γ95 => ?_)
        refine sb_aload_n 0 d_M_remember_70 rfl ?_
        refine g_M_196 d_M_remember_71 ?_
        refine sb_iload_n 1 d_M_remember_74 rfl ?_
        refine al_M_39 d_M_remember_75 (fun _ c97 => ?_)
        refine sb_aload_n 0 d_M_remember_76 rfl ?_
        refine g_M_127 d_M_remember_77 ?_
        refine sb_iload 4 d_M_remember_80 rfl ?_
        refine al_M_25 d_M_remember_82 (fun _ c99 => ?_)
        refine sb_iadd d_M_remember_83 ?_
        refine sb_chk (fun c100 => ?_)
        refine sb_istore [(5, vI ((γ95 39 x84) + (γ95 25 x87))), (0, vR Γ 0), (1, vI x84), (2, vI x85), (3, vI x86), (4, vI x87)] d_M_remember_84 (by decide) rfl ?_
        refine sb_nme (e := (γ95 39 x84) + (γ95 25 x87)) (fun x101 => [(5, vI x101), (0, vR Γ 0), (1, vI x84), (2, vI x85), (3, vI x86), (4, vI x87)]) c100 (fun x101 hx101 => ?_)
        refine sb_aload_n 1 d_M_remember_86 rfl ?_
        refine g_M_118 d_M_remember_87 ?_
        refine sb_iload 5 d_M_remember_90 rfl ?_
        refine al_M_22 d_M_remember_92 (fun _ c103 => ?_)
        refine sb_istore [(6, vI (γ95 22 x87)), (5, vI x101), (0, vR Γ 0), (1, vI x84), (2, vI x85), (3, vI x86), (4, vI x87)] d_M_remember_93 (by decide) rfl ?_
        refine sb_nme (e := γ95 22 x87) (fun x104 => [(6, vI x104), (5, vI x101), (0, vR Γ 0), (1, vI x84), (2, vI x85), (3, vI x86), (4, vI x87)]) c103 (fun x104 hx104 => ?_)
        refine sb_aload_n 2 d_M_remember_95 rfl ?_
        refine g_M_112 d_M_remember_96 ?_
        refine sb_iload 6 d_M_remember_99 rfl ?_
        refine al_M_20 d_M_remember_101 (fun _ c106 => ?_)
        refine sb_bipush d_M_remember_102 (by decide) ?_
        refine sb_icmp_ne 121 c106 (by decide) d_M_remember_104 (by decide) (fun _ => ?_) (fun _ => ?_)
        · exact sb_lv [2, 3, 4, 5, 6, 1, 0] rfl (s_M_remember_b121 ih hx231 γ95 x84 x85 x86 x87 x101 x104 hx84 hx85 hx86 hx87 hx101 hx104)
        · refine sb_aload_n 2 d_M_remember_107 rfl ?_
          refine g_M_245 d_M_remember_108 ?_
          refine sb_iload 1 d_M_remember_111 rfl ?_
          refine sb_aload_n 2 d_M_remember_113 rfl ?_
          refine g_M_248 d_M_remember_114 ?_
          refine sb_iload 0 d_M_remember_117 rfl ?_
          refine al_M_54 d_M_remember_119 (fun _ c109 => ?_)
          refine as_M_53 c109 d_M_remember_120 (fun _ => ?_)
          refine sb_aps (fun γ110 => ?_)
          exact sb_lv [2, 3, 4, 5, 6, 1, 0] rfl (s_M_remember_b121 ih hx231 γ110 x84 x85 x86 x87 x101 x104 hx84 hx85 hx86 hx87 hx101 hx104)
      · refine sb_goto 225 d_M_remember_60 (by decide) ?_
        exact sb_lv [0, 1, 2, 3, 4] rfl (s_M_remember_b225 ih hx231 γ93 x84 x85 x86 x87 hx84 hx85 hx86 hx87)
set_option maxHeartbeats 4000000 in
theorem s_M_remember_L14 {Γ : Ctx} : ∀ (n : Nat) (γ : St) (x114 : Int) (x115 : Int) (x116 : Int), i32 x114 → i32 x115 → i32 x116 → SB Γ BM mt_M_remember (RmN 108 7288) 0 0 (KN Γ BM mt_M_remember.2.2.2) 14 [(0, vR Γ 0), (1, vI x114), (2, vI x115), (3, vI x116)] [] γ (f_M_remember_L14 n γ x114 x115 x116) := by
  intro n
  induction n with
  | zero => intros; exact sb_none
  | succ n ih =>
    intro γ x114 x115 x116 hx114 hx115 hx116
    unfold f_M_remember_L14
    refine sb_iload_n 3 d_M_remember_14 rfl ?_
    refine sb_aload_n 0 d_M_remember_15 rfl ?_
    refine g_M_59 d_M_remember_16 ?_
    refine sb_iload_n 2 d_M_remember_19 rfl ?_
    refine sb_iconst d_M_remember_20 ?_
    refine sb_iadd d_M_remember_21 ?_
    refine sb_chk (fun c118 => ?_)
    refine al_M_7 d_M_remember_22 (fun _ c119 => ?_)
    refine sb_icmp_ge 237 hx116 c119 d_M_remember_23 (by decide) (fun _ => ?_) (fun _ => ?_)
    · exact sn_v rfl d_M_remember_237
    · refine sb_aload_n 0 d_M_remember_26 rfl ?_
      refine g_M_103 d_M_remember_27 ?_
      refine sb_iload_n 3 d_M_remember_30 rfl ?_
      refine al_M_19 d_M_remember_31 (fun _ c121 => ?_)
      refine sb_istore [(4, vI (γ 19 x116)), (0, vR Γ 0), (1, vI x114), (2, vI x115), (3, vI x116)] d_M_remember_32 (by decide) rfl ?_
      refine sb_nme (e := γ 19 x116) (fun x122 => [(4, vI x122), (0, vR Γ 0), (1, vI x114), (2, vI x115), (3, vI x116)]) c121 (fun x122 hx122 => ?_)
      exact sb_lv [1, 2, 3, 4, 0] rfl (s_M_remember_L34 (s_M_remember_b231 ih) FU γ x114 x115 x116 x122 hx114 hx115 hx116 hx122)
set_option maxHeartbeats 4000000 in
theorem c_M_remember {Γ : Ctx} (γ : St) (a0 : Int) (ha0 : i32 a0) : NC Γ BM y_M_remember mt_M_remember 108 7288 [vR Γ 0, vI a0] γ (f_M_remember γ a0) := by
  refine nc_of (by decide) rfl (Nat.le_of_ble_eq_true rfl) ?_
  show SB Γ BM mt_M_remember (RmN 108 7288) 0 0 (KN Γ BM mt_M_remember.2.2.2) 0 [(0, vR Γ 0), (1, vI a0)] [] γ _
  unfold f_M_remember
  refine sb_aload_n 0 d_M_remember_0 rfl ?_
  refine g_M_184 d_M_remember_1 ?_
  refine sb_iload_n 1 d_M_remember_4 rfl ?_
  refine al_M_35 d_M_remember_5 (fun _ c124 => ?_)
  refine sb_istore_n [(2, vI (γ 35 a0)), (0, vR Γ 0), (1, vI a0)] d_M_remember_6 (by decide) rfl ?_
  refine sb_nme (e := γ 35 a0) (fun x125 => [(2, vI x125), (0, vR Γ 0), (1, vI a0)]) c124 (fun x125 hx125 => ?_)
  refine sb_aload_n 1 d_M_remember_7 rfl ?_
  refine g_M_59 d_M_remember_8 ?_
  refine sb_iload_n 0 d_M_remember_11 rfl ?_
  refine al_M_7 d_M_remember_12 (fun _ c127 => ?_)
  refine sb_istore_n [(3, vI (γ 7 x125)), (2, vI x125), (0, vR Γ 0), (1, vI a0)] d_M_remember_13 (by decide) rfl ?_
  refine sb_nme (e := γ 7 x125) (fun x128 => [(3, vI x128), (2, vI x125), (0, vR Γ 0), (1, vI a0)]) c127 (fun x128 hx128 => ?_)
  exact sb_lv [2, 3, 1, 0] rfl (s_M_remember_L14  FU γ a0 x125 x128 ha0 hx125 hx128)
theorem d_M_instant_0 : decode b_M_instant 0 = .ok (.iconst 0, 1) := by decide +kernel
theorem d_M_instant_1 : decode b_M_instant 1 = .ok (.istore_n 1, 1) := by decide +kernel
theorem d_M_instant_2 : decode b_M_instant 2 = .ok (.iload_n 1, 1) := by decide +kernel
theorem d_M_instant_3 : decode b_M_instant 3 = .ok (.aload_n 0, 1) := by decide +kernel
theorem d_M_instant_4 : decode b_M_instant 4 = .ok (.getfield 169, 3) := by decide +kernel
theorem d_M_instant_7 : decode b_M_instant 7 = .ok (.if_icmp .ge 16, 3) := by decide +kernel
theorem d_M_instant_10 : decode b_M_instant 10 = .ok (.aload_n 0, 1) := by decide +kernel
theorem d_M_instant_11 : decode b_M_instant 11 = .ok (.getfield 251, 3) := by decide +kernel
theorem d_M_instant_14 : decode b_M_instant 14 = .ok (.iload_n 1, 1) := by decide +kernel
theorem d_M_instant_15 : decode b_M_instant 15 = .ok (.iconst 0, 1) := by decide +kernel
theorem d_M_instant_16 : decode b_M_instant 16 = .ok (.bastore, 1) := by decide +kernel
theorem d_M_instant_17 : decode b_M_instant 17 = .ok (.iinc 1 1, 3) := by decide +kernel
theorem d_M_instant_20 : decode b_M_instant 20 = .ok (.goto (-18), 3) := by decide +kernel
theorem d_M_instant_23 : decode b_M_instant 23 = .ok (.iconst 0, 1) := by decide +kernel
theorem d_M_instant_24 : decode b_M_instant 24 = .ok (.istore_n 1, 1) := by decide +kernel
theorem d_M_instant_25 : decode b_M_instant 25 = .ok (.iload_n 1, 1) := by decide +kernel
theorem d_M_instant_26 : decode b_M_instant 26 = .ok (.aload_n 0, 1) := by decide +kernel
theorem d_M_instant_27 : decode b_M_instant 27 = .ok (.getfield 169, 3) := by decide +kernel
theorem d_M_instant_30 : decode b_M_instant 30 = .ok (.if_icmp .ge 220, 3) := by decide +kernel
theorem d_M_instant_33 : decode b_M_instant 33 = .ok (.aload_n 0, 1) := by decide +kernel
theorem d_M_instant_34 : decode b_M_instant 34 = .ok (.getfield 227, 3) := by decide +kernel
theorem d_M_instant_37 : decode b_M_instant 37 = .ok (.iload_n 1, 1) := by decide +kernel
theorem d_M_instant_38 : decode b_M_instant 38 = .ok (.iaload, 1) := by decide +kernel
theorem d_M_instant_39 : decode b_M_instant 39 = .ok (.istore_n 2, 1) := by decide +kernel
theorem d_M_instant_40 : decode b_M_instant 40 = .ok (.aload_n 0, 1) := by decide +kernel
theorem d_M_instant_41 : decode b_M_instant 41 = .ok (.getfield 205, 3) := by decide +kernel
theorem d_M_instant_44 : decode b_M_instant 44 = .ok (.iload_n 2, 1) := by decide +kernel
theorem d_M_instant_45 : decode b_M_instant 45 = .ok (.iaload, 1) := by decide +kernel
theorem d_M_instant_46 : decode b_M_instant 46 = .ok (.istore_n 3, 1) := by decide +kernel
theorem d_M_instant_47 : decode b_M_instant 47 = .ok (.aload_n 0, 1) := by decide +kernel
theorem d_M_instant_48 : decode b_M_instant 48 = .ok (.getfield 184, 3) := by decide +kernel
theorem d_M_instant_51 : decode b_M_instant 51 = .ok (.iload_n 3, 1) := by decide +kernel
theorem d_M_instant_52 : decode b_M_instant 52 = .ok (.iaload, 1) := by decide +kernel
theorem d_M_instant_53 : decode b_M_instant 53 = .ok (.istore 4, 2) := by decide +kernel
theorem d_M_instant_55 : decode b_M_instant 55 = .ok (.aload_n 0, 1) := by decide +kernel
theorem d_M_instant_56 : decode b_M_instant 56 = .ok (.getfield 208, 3) := by decide +kernel
theorem d_M_instant_59 : decode b_M_instant 59 = .ok (.iload_n 2, 1) := by decide +kernel
theorem d_M_instant_60 : decode b_M_instant 60 = .ok (.iaload, 1) := by decide +kernel
theorem d_M_instant_61 : decode b_M_instant 61 = .ok (.istore 5, 2) := by decide +kernel
theorem d_M_instant_63 : decode b_M_instant 63 = .ok (.aload_n 0, 1) := by decide +kernel
theorem d_M_instant_64 : decode b_M_instant 64 = .ok (.iload_n 3, 1) := by decide +kernel
theorem d_M_instant_65 : decode b_M_instant 65 = .ok (.aload_n 0, 1) := by decide +kernel
theorem d_M_instant_66 : decode b_M_instant 66 = .ok (.getfield 80, 3) := by decide +kernel
theorem d_M_instant_69 : decode b_M_instant 69 = .ok (.aload_n 0, 1) := by decide +kernel
theorem d_M_instant_70 : decode b_M_instant 70 = .ok (.getfield 50, 3) := by decide +kernel
theorem d_M_instant_73 : decode b_M_instant 73 = .ok (.iload 4, 2) := by decide +kernel
theorem d_M_instant_75 : decode b_M_instant 75 = .ok (.iaload, 1) := by decide +kernel
theorem d_M_instant_76 : decode b_M_instant 76 = .ok (.iload 5, 2) := by decide +kernel
theorem d_M_instant_78 : decode b_M_instant 78 = .ok (.iadd, 1) := by decide +kernel
theorem d_M_instant_79 : decode b_M_instant 79 = .ok (.iaload, 1) := by decide +kernel
theorem d_M_instant_80 : decode b_M_instant 80 = .ok (.invokevirtual 527, 3) := by decide +kernel
theorem d_M_instant_83 : decode b_M_instant 83 = .ok (.ifCond .ne 6, 3) := by decide +kernel
theorem d_M_instant_86 : decode b_M_instant 86 = .ok (.goto 158, 3) := by decide +kernel
theorem d_M_instant_89 : decode b_M_instant 89 = .ok (.aload_n 0, 1) := by decide +kernel
theorem d_M_instant_90 : decode b_M_instant 90 = .ok (.getfield 154, 3) := by decide +kernel
theorem d_M_instant_93 : decode b_M_instant 93 = .ok (.aload_n 0, 1) := by decide +kernel
theorem d_M_instant_94 : decode b_M_instant 94 = .ok (.getfield 50, 3) := by decide +kernel
theorem d_M_instant_97 : decode b_M_instant 97 = .ok (.iload 4, 2) := by decide +kernel
theorem d_M_instant_99 : decode b_M_instant 99 = .ok (.iaload, 1) := by decide +kernel
theorem d_M_instant_100 : decode b_M_instant 100 = .ok (.iload 5, 2) := by decide +kernel
theorem d_M_instant_102 : decode b_M_instant 102 = .ok (.iadd, 1) := by decide +kernel
theorem d_M_instant_103 : decode b_M_instant 103 = .ok (.iaload, 1) := by decide +kernel
theorem d_M_instant_104 : decode b_M_instant 104 = .ok (.istore 6, 2) := by decide +kernel
theorem d_M_instant_106 : decode b_M_instant 106 = .ok (.iload 5, 2) := by decide +kernel
theorem d_M_instant_108 : decode b_M_instant 108 = .ok (.aload_n 0, 1) := by decide +kernel
theorem d_M_instant_109 : decode b_M_instant 109 = .ok (.getfield 53, 3) := by decide +kernel
theorem d_M_instant_112 : decode b_M_instant 112 = .ok (.iload 4, 2) := by decide +kernel
theorem d_M_instant_114 : decode b_M_instant 114 = .ok (.iaload, 1) := by decide +kernel
theorem d_M_instant_115 : decode b_M_instant 115 = .ok (.if_icmp .lt 75, 3) := by decide +kernel
theorem d_M_instant_118 : decode b_M_instant 118 = .ok (.aload_n 0, 1) := by decide +kernel
theorem d_M_instant_119 : decode b_M_instant 119 = .ok (.getfield 239, 3) := by decide +kernel
theorem d_M_instant_122 : decode b_M_instant 122 = .ok (.iload_n 2, 1) := by decide +kernel
theorem d_M_instant_123 : decode b_M_instant 123 = .ok (.aload_n 0, 1) := by decide +kernel
theorem d_M_instant_124 : decode b_M_instant 124 = .ok (.getfield 112, 3) := by decide +kernel
theorem d_M_instant_127 : decode b_M_instant 127 = .ok (.aload_n 0, 1) := by decide +kernel
theorem d_M_instant_128 : decode b_M_instant 128 = .ok (.getfield 96, 3) := by decide +kernel
theorem d_M_instant_131 : decode b_M_instant 131 = .ok (.iload 6, 2) := by decide +kernel
theorem d_M_instant_133 : decode b_M_instant 133 = .ok (.iaload, 1) := by decide +kernel
theorem d_M_instant_134 : decode b_M_instant 134 = .ok (.iaload, 1) := by decide +kernel
theorem d_M_instant_135 : decode b_M_instant 135 = .ok (.iconst 3, 1) := by decide +kernel
theorem d_M_instant_136 : decode b_M_instant 136 = .ok (.if_icmp .ne 38, 3) := by decide +kernel
theorem d_M_instant_139 : decode b_M_instant 139 = .ok (.aload_n 0, 1) := by decide +kernel
theorem d_M_instant_140 : decode b_M_instant 140 = .ok (.getfield 239, 3) := by decide +kernel
theorem d_M_instant_143 : decode b_M_instant 143 = .ok (.aload_n 0, 1) := by decide +kernel
theorem d_M_instant_144 : decode b_M_instant 144 = .ok (.iload_n 3, 1) := by decide +kernel
theorem d_M_instant_145 : decode b_M_instant 145 = .ok (.aload_n 0, 1) := by decide +kernel
theorem d_M_instant_146 : decode b_M_instant 146 = .ok (.getfield 96, 3) := by decide +kernel
theorem d_M_instant_149 : decode b_M_instant 149 = .ok (.iload 6, 2) := by decide +kernel
theorem d_M_instant_151 : decode b_M_instant 151 = .ok (.iaload, 1) := by decide +kernel
theorem d_M_instant_152 : decode b_M_instant 152 = .ok (.aload_n 0, 1) := by decide +kernel
theorem d_M_instant_153 : decode b_M_instant 153 = .ok (.getfield 157, 3) := by decide +kernel
theorem d_M_instant_156 : decode b_M_instant 156 = .ok (.aload_n 0, 1) := by decide +kernel
theorem d_M_instant_157 : decode b_M_instant 157 = .ok (.getfield 50, 3) := by decide +kernel
theorem d_M_instant_160 : decode b_M_instant 160 = .ok (.iload 4, 2) := by decide +kernel
theorem d_M_instant_162 : decode b_M_instant 162 = .ok (.iaload, 1) := by decide +kernel
theorem d_M_instant_163 : decode b_M_instant 163 = .ok (.iload 5, 2) := by decide +kernel
theorem d_M_instant_165 : decode b_M_instant 165 = .ok (.iadd, 1) := by decide +kernel
theorem d_M_instant_166 : decode b_M_instant 166 = .ok (.iaload, 1) := by decide +kernel
theorem d_M_instant_167 : decode b_M_instant 167 = .ok (.invokevirtual 483, 3) := by decide +kernel
theorem d_M_instant_170 : decode b_M_instant 170 = .ok (.iaload, 1) := by decide +kernel
theorem d_M_instant_171 : decode b_M_instant 171 = .ok (.goto 15, 3) := by decide +kernel
theorem d_M_instant_174 : decode b_M_instant 174 = .ok (.aload_n 0, 1) := by decide +kernel
theorem d_M_instant_175 : decode b_M_instant 175 = .ok (.iload_n 3, 1) := by decide +kernel
theorem d_M_instant_176 : decode b_M_instant 176 = .ok (.aload_n 0, 1) := by decide +kernel
theorem d_M_instant_177 : decode b_M_instant 177 = .ok (.getfield 96, 3) := by decide +kernel
theorem d_M_instant_180 : decode b_M_instant 180 = .ok (.iload 6, 2) := by decide +kernel
theorem d_M_instant_182 : decode b_M_instant 182 = .ok (.iaload, 1) := by decide +kernel
theorem d_M_instant_183 : decode b_M_instant 183 = .ok (.invokevirtual 539, 3) := by decide +kernel
theorem d_M_instant_186 : decode b_M_instant 186 = .ok (.iastore, 1) := by decide +kernel
theorem d_M_instant_187 : decode b_M_instant 187 = .ok (.goto 50, 3) := by decide +kernel
theorem d_M_instant_190 : decode b_M_instant 190 = .ok (.aload_n 0, 1) := by decide +kernel
theorem d_M_instant_191 : decode b_M_instant 191 = .ok (.getfield 239, 3) := by decide +kernel
theorem d_M_instant_194 : decode b_M_instant 194 = .ok (.iload_n 2, 1) := by decide +kernel
theorem d_M_instant_195 : decode b_M_instant 195 = .ok (.aload_n 0, 1) := by decide +kernel
theorem d_M_instant_196 : decode b_M_instant 196 = .ok (.getfield 187, 3) := by decide +kernel
theorem d_M_instant_199 : decode b_M_instant 199 = .ok (.iload_n 3, 1) := by decide +kernel
theorem d_M_instant_200 : decode b_M_instant 200 = .ok (.iaload, 1) := by decide +kernel
theorem d_M_instant_201 : decode b_M_instant 201 = .ok (.ifCond .ge 13, 3) := by decide +kernel
theorem d_M_instant_204 : decode b_M_instant 204 = .ok (.aload_n 0, 1) := by decide +kernel
theorem d_M_instant_205 : decode b_M_instant 205 = .ok (.getfield 236, 3) := by decide +kernel
theorem d_M_instant_208 : decode b_M_instant 208 = .ok (.iload 5, 2) := by decide +kernel
theorem d_M_instant_210 : decode b_M_instant 210 = .ok (.iaload, 1) := by decide +kernel
theorem d_M_instant_211 : decode b_M_instant 211 = .ok (.goto 25, 3) := by decide +kernel
theorem d_M_instant_214 : decode b_M_instant 214 = .ok (.aload_n 0, 1) := by decide +kernel
theorem d_M_instant_215 : decode b_M_instant 215 = .ok (.aload_n 0, 1) := by decide +kernel
theorem d_M_instant_216 : decode b_M_instant 216 = .ok (.getfield 187, 3) := by decide +kernel
theorem d_M_instant_219 : decode b_M_instant 219 = .ok (.iload_n 3, 1) := by decide +kernel
theorem d_M_instant_220 : decode b_M_instant 220 = .ok (.iaload, 1) := by decide +kernel
theorem d_M_instant_221 : decode b_M_instant 221 = .ok (.aload_n 0, 1) := by decide +kernel
theorem d_M_instant_222 : decode b_M_instant 222 = .ok (.aload_n 0, 1) := by decide +kernel
theorem d_M_instant_223 : decode b_M_instant 223 = .ok (.getfield 190, 3) := by decide +kernel
theorem d_M_instant_226 : decode b_M_instant 226 = .ok (.iload_n 3, 1) := by decide +kernel
theorem d_M_instant_227 : decode b_M_instant 227 = .ok (.iaload, 1) := by decide +kernel
theorem d_M_instant_228 : decode b_M_instant 228 = .ok (.iload 5, 2) := by decide +kernel
theorem d_M_instant_230 : decode b_M_instant 230 = .ok (.invokevirtual 489, 3) := by decide +kernel
theorem d_M_instant_233 : decode b_M_instant 233 = .ok (.invokevirtual 539, 3) := by decide +kernel
theorem d_M_instant_236 : decode b_M_instant 236 = .ok (.iastore, 1) := by decide +kernel
theorem d_M_instant_237 : decode b_M_instant 237 = .ok (.aload_n 0, 1) := by decide +kernel
theorem d_M_instant_238 : decode b_M_instant 238 = .ok (.getfield 251, 3) := by decide +kernel
theorem d_M_instant_241 : decode b_M_instant 241 = .ok (.iload_n 2, 1) := by decide +kernel
theorem d_M_instant_242 : decode b_M_instant 242 = .ok (.iconst 1, 1) := by decide +kernel
theorem d_M_instant_243 : decode b_M_instant 243 = .ok (.bastore, 1) := by decide +kernel
theorem d_M_instant_244 : decode b_M_instant 244 = .ok (.iinc 1 1, 3) := by decide +kernel
theorem d_M_instant_247 : decode b_M_instant 247 = .ok (.goto (-222), 3) := by decide +kernel
theorem d_M_instant_250 : decode b_M_instant 250 = .ok (.aload_n 0, 1) := by decide +kernel
theorem d_M_instant_251 : decode b_M_instant 251 = .ok (.getfield 242, 3) := by decide +kernel
theorem d_M_instant_254 : decode b_M_instant 254 = .ok (.iconst 0, 1) := by decide +kernel
theorem d_M_instant_255 : decode b_M_instant 255 = .ok (.aload_n 0, 1) := by decide +kernel
theorem d_M_instant_256 : decode b_M_instant 256 = .ok (.getfield 245, 3) := by decide +kernel
theorem d_M_instant_259 : decode b_M_instant 259 = .ok (.iconst 0, 1) := by decide +kernel
theorem d_M_instant_260 : decode b_M_instant 260 = .ok (.aload_n 0, 1) := by decide +kernel
theorem d_M_instant_261 : decode b_M_instant 261 = .ok (.getfield 172, 3) := by decide +kernel
theorem d_M_instant_264 : decode b_M_instant 264 = .ok (.invokestatic 542, 3) := by decide +kernel
theorem d_M_instant_267 : decode b_M_instant 267 = .ok (.iconst 0, 1) := by decide +kernel
theorem d_M_instant_268 : decode b_M_instant 268 = .ok (.istore_n 1, 1) := by decide +kernel
theorem d_M_instant_269 : decode b_M_instant 269 = .ok (.iload_n 1, 1) := by decide +kernel
theorem d_M_instant_270 : decode b_M_instant 270 = .ok (.aload_n 0, 1) := by decide +kernel
theorem d_M_instant_271 : decode b_M_instant 271 = .ok (.getfield 166, 3) := by decide +kernel
theorem d_M_instant_274 : decode b_M_instant 274 = .ok (.if_icmp .ge 14, 3) := by decide +kernel
theorem d_M_instant_277 : decode b_M_instant 277 = .ok (.aload_n 0, 1) := by decide +kernel
theorem d_M_instant_278 : decode b_M_instant 278 = .ok (.iload_n 1, 1) := by decide +kernel
theorem d_M_instant_279 : decode b_M_instant 279 = .ok (.invokevirtual 548, 3) := by decide +kernel
theorem d_M_instant_282 : decode b_M_instant 282 = .ok (.iinc 1 1, 3) := by decide +kernel
theorem d_M_instant_285 : decode b_M_instant 285 = .ok (.goto (-16), 3) := by decide +kernel
theorem d_M_instant_288 : decode b_M_instant 288 = .ok (.aload_n 0, 1) := by decide +kernel
theorem d_M_instant_289 : decode b_M_instant 289 = .ok (.getfield 245, 3) := by decide +kernel
theorem d_M_instant_292 : decode b_M_instant 292 = .ok (.iconst 0, 1) := by decide +kernel
theorem d_M_instant_293 : decode b_M_instant 293 = .ok (.aload_n 0, 1) := by decide +kernel
theorem d_M_instant_294 : decode b_M_instant 294 = .ok (.getfield 242, 3) := by decide +kernel
theorem d_M_instant_297 : decode b_M_instant 297 = .ok (.iconst 0, 1) := by decide +kernel
theorem d_M_instant_298 : decode b_M_instant 298 = .ok (.aload_n 0, 1) := by decide +kernel
theorem d_M_instant_299 : decode b_M_instant 299 = .ok (.getfield 172, 3) := by decide +kernel
theorem d_M_instant_302 : decode b_M_instant 302 = .ok (.invokestatic 542, 3) := by decide +kernel
theorem d_M_instant_305 : decode b_M_instant 305 = .ok (.aload_n 0, 1) := by decide +kernel
theorem d_M_instant_306 : decode b_M_instant 306 = .ok (.dup, 1) := by decide +kernel
theorem d_M_instant_307 : decode b_M_instant 307 = .ok (.getfield 233, 3) := by decide +kernel
theorem d_M_instant_310 : decode b_M_instant 310 = .ok (.iconst 1, 1) := by decide +kernel
theorem d_M_instant_311 : decode b_M_instant 311 = .ok (.iadd, 1) := by decide +kernel
theorem d_M_instant_312 : decode b_M_instant 312 = .ok (.putfield 233, 3) := by decide +kernel
theorem d_M_instant_315 : decode b_M_instant 315 = .ok (.return_, 1) := by decide +kernel
abbrev mt_M_instant : MT := (R_M, b_M_instant, 7, none)
theorem vf_M_instant : VF y_M_instant mt_M_instant 12 0 := ⟨im_M_instant, se_M_instant, in_M, co_M_instant, by decide +kernel, _, _, rfl⟩
def f_M_instant_b288 (γ : St) : Option (Int × St) :=
  chk (0 ≤ (γ 0 52) ∧ (γ 0 52) ≤ 6600 ∧ (γ 0 52) ≤ 6600) (ap (cpA γ 53 52 (γ 0 52)) fun γ4 =>
  chk (i32 ((γ4 0 72) + 1)) (ap (setA γ4 0 72 ((γ4 0 72) + 1)) fun γ7 =>
  some (0, γ7)))
def f_M_instant_L269 (x288 : St → Option (Int × St)) : Nat → St → Int → Option (Int × St)
  | 0, _, _ => none
  | n + 1, γ, x8 =>
  if (γ 0 50) ≤ x8 then
  (x288 γ )
  else
  (bndN (f_M_remember γ x8) fun _ γ11 =>
  chk (i32 (x8 + 1)) ((f_M_instant_L269 x288 n) γ11 (x8 + 1)))
def f_M_instant_b250 (γ : St) : Option (Int × St) :=
  chk (0 ≤ (γ 0 52) ∧ (γ 0 52) ≤ 6600 ∧ (γ 0 52) ≤ 6600) (ap (cpA γ 52 53 (γ 0 52)) fun γ16 =>
  f_M_instant_L269 (f_M_instant_b288) FU γ16 0)
def f_M_instant_b244 (k25 : St → Int → Option (Int × St)) (x250 : St → Option (Int × St)) (γ : St) (x17 : Int) : Option (Int × St) :=
  chk (i32 (x17 + 1)) (k25 γ (x17 + 1))
def f_M_instant_b237 (k25 : St → Int → Option (Int × St)) (x250 : St → Option (Int × St)) (γ : St) (x20 : Int) (x21 : Int) : Option (Int × St) :=
  chk (inb x21 6100) (ap (setA γ 55 x21 1) fun γ23 =>
  f_M_instant_b244 k25 x250 γ23 x20)
def f_M_instant_b186 (k25 : St → Int → Option (Int × St)) (x250 : St → Option (Int × St)) (γ : St) (x25 : Int) (x26 : Int) (x27 : Int) (x28 : Int) : Option (Int × St) :=
  chk (inb x28 6100) (ap (setA γ 51 x28 x27) fun γ29 =>
  f_M_instant_b237 k25 x250 γ29 x25 x26)
def f_M_instant_b236 (k25 : St → Int → Option (Int × St)) (x250 : St → Option (Int × St)) (γ : St) (x31 : Int) (x32 : Int) (x33 : Int) (x34 : Int) : Option (Int × St) :=
  chk (inb x34 6100) (ap (setA γ 51 x34 x33) fun γ35 =>
  f_M_instant_b237 k25 x250 γ35 x31 x32)
def f_M_instant_L25 (x250 : St → Option (Int × St)) : Nat → St → Int → Option (Int × St)
  | 0, _, _ => none
  | n + 1, γ, x37 =>
  if (γ 0 51) ≤ x37 then
  (x250 γ )
  else
  (chk (inb x37 6100) (ap (γ 48 x37) fun x41 =>
  chk (inb x41 6100) (ap (γ 42 x41) fun x44 =>
  chk (inb x44 3200) (ap (γ 35 x44) fun x47 =>
  chk (inb x41 6100) (ap (γ 43 x41) fun x50 =>
  chk (inb x47 61) (chk (i32 ((γ 4 x47) + x50)) (chk (inb ((γ 4 x47) + x50) 6000) (bndN (F_M_present γ x44 (γ 12 ((γ 4 x47) + x50))) fun r56 γ57 =>
  if r56 ≠ 0 then
  (chk (inb x47 61) (chk (i32 ((γ57 4 x47) + x50)) (chk (inb ((γ57 4 x47) + x50) 6000) (ap (γ57 32 ((γ57 4 x47) + x50)) fun x63 =>
  chk (inb x47 60) (if x50 < (γ57 5 x47) then
  (chk (inb x44 3200) (if 0 ≤ (γ57 36 x44) then
  (chk (inb x44 3200) (chk (inb x44 3200) (bndN (f_M_argument γ57 (γ57 37 x44) x50) fun r73 γ74 =>
  bndN (f_M_partOf γ74 (γ57 36 x44) r73) fun r75 γ76 =>
  f_M_instant_b236 (f_M_instant_L25 x250 n) x250 γ76 x37 x41 r75 x41)))
  else
  (chk (inb x50 100) (f_M_instant_b236 (f_M_instant_L25 x250 n) x250 γ57 x37 x41 (γ57 50 x50) x41))))
  else
  (chk (inb x63 17000) (chk (inb (γ57 17 x63) 66000) (if (γ57 20 (γ57 17 x63)) ≠ 3 then
  (chk (inb x63 17000) (bndN (f_M_partOf γ57 x44 (γ57 17 x63)) fun r86 γ87 =>
  f_M_instant_b186 (f_M_instant_L25 x250 n) x250 γ87 x37 x41 r86 x41))
  else
  (chk (inb x63 17000) (chk (inb x47 61) (chk (i32 ((γ57 4 x47) + x50)) (chk (inb ((γ57 4 x47) + x50) 6000) (bndN (f_M_output γ57 x44 (γ57 17 x63) (γ57 33 ((γ57 4 x47) + x50))) fun r96 γ97 =>
  chk (inb r96 6100) (f_M_instant_b186 (f_M_instant_L25 x250 n) x250 γ97 x37 x41 (γ97 51 r96) x41))))))))))))))
  else
  (f_M_instant_b244 (f_M_instant_L25 x250 n) x250 γ57 x37)))))))))
def f_M_instant_b23 (γ : St) : Option (Int × St) :=
  f_M_instant_L25 (f_M_instant_b250) FU γ 0
def f_M_instant_L2 (x23 : St → Option (Int × St)) : Nat → St → Int → Option (Int × St)
  | 0, _, _ => none
  | n + 1, γ, x99 =>
  if (γ 0 51) ≤ x99 then
  (x23 γ )
  else
  (chk (inb x99 6100) (ap (setA γ 55 x99 0) fun γ102 =>
  chk (i32 (x99 + 1)) ((f_M_instant_L2 x23 n) γ102 (x99 + 1))))
def f_M_instant (γ : St) : Option (Int × St) :=
  f_M_instant_L2 (f_M_instant_b23) FU γ 0
set_option maxHeartbeats 4000000 in
theorem s_M_instant_b288 {Γ : Ctx} : ∀ (γ : St), SB Γ BM mt_M_instant (RmN 109 7314) 0 0 (KN Γ BM mt_M_instant.2.2.2) 288 [(0, vR Γ 0)] [] γ (f_M_instant_b288 γ ) := by
  intro γ
  unfold f_M_instant_b288
  refine sb_aload_n 0 d_M_instant_288 rfl ?_
  refine g_M_245 d_M_instant_289 ?_
  refine sb_iconst d_M_instant_292 ?_
  refine sb_aload_n 0 d_M_instant_293 rfl ?_
  refine g_M_242 d_M_instant_294 ?_
  refine sb_iconst d_M_instant_297 ?_
  refine sb_aload_n 0 d_M_instant_298 rfl ?_
  refine g_M_172 d_M_instant_299 (fun c3 => ?_)
  refine sb_cpI rfl rfl rfl rfl (by decide) ml_M_542 ⟨by decide, by decide⟩ d_M_instant_302 (fun γ4 => ?_)
  refine sb_aload_n 0 d_M_instant_305 rfl ?_
  refine sb_dup d_M_instant_306 rfl ?_
  refine g_M_233 d_M_instant_307 (fun c5 => ?_)
  refine sb_iconst d_M_instant_310 ?_
  refine sb_iadd d_M_instant_311 ?_
  refine sb_chk (fun c6 => ?_)
  refine p_M_233 c6 d_M_instant_312 ?_
  refine sb_aps (fun γ7 => ?_)
  exact sn_v rfl d_M_instant_315
set_option maxHeartbeats 4000000 in
theorem s_M_instant_L269 {Γ : Ctx} {x288 : St → Option (Int × St)} (hx288 : ∀ (γ : St), SB Γ BM mt_M_instant (RmN 109 7314) 0 0 (KN Γ BM mt_M_instant.2.2.2) 288 [(0, vR Γ 0)] [] γ (x288 γ )) : ∀ (n : Nat) (γ : St) (x8 : Int), i32 x8 → SB Γ BM mt_M_instant (RmN 109 7314) 0 0 (KN Γ BM mt_M_instant.2.2.2) 269 [(0, vR Γ 0), (1, vI x8)] [] γ (f_M_instant_L269 x288 n γ x8) := by
  intro n
  induction n with
  | zero => intros; exact sb_none
  | succ n ih =>
    intro γ x8 hx8
    unfold f_M_instant_L269
    refine sb_iload_n 1 d_M_instant_269 rfl ?_
    refine sb_aload_n 0 d_M_instant_270 rfl ?_
    refine g_M_166 d_M_instant_271 (fun c9 => ?_)
    refine sb_icmp_ge 288 hx8 c9 d_M_instant_274 (by decide) (fun _ => ?_) (fun _ => ?_)
    · exact sb_lv [0] rfl (hx288 γ  )
    · refine sb_aload_n 0 d_M_instant_277 rfl ?_
      refine sb_iload_n 1 d_M_instant_278 rfl ?_
      refine sb_cVv vf_M_remember (c_M_remember γ x8 hx8) rfl ml_M_548 (As := [vI x8]) rfl rfl (Nat.le_of_ble_eq_true rfl) ⟨by decide, by decide⟩ d_M_instant_279 (fun _ γ11 => ?_)
      refine sb_iinc 1 [(1, vI (x8 + 1)), (0, vR Γ 0)] d_M_instant_282 rfl (by decide) rfl ?_
      refine sb_chk (fun c12 => ?_)
      refine sb_goto 269 d_M_instant_285 (by decide) ?_
      exact sb_lv [1, 0] rfl (ih γ11 (x8 + 1) c12)
set_option maxHeartbeats 4000000 in
theorem s_M_instant_b250 {Γ : Ctx} : ∀ (γ : St), SB Γ BM mt_M_instant (RmN 109 7314) 0 0 (KN Γ BM mt_M_instant.2.2.2) 250 [(0, vR Γ 0)] [] γ (f_M_instant_b250 γ ) := by
  intro γ
  unfold f_M_instant_b250
  refine sb_aload_n 0 d_M_instant_250 rfl ?_
  refine g_M_242 d_M_instant_251 ?_
  refine sb_iconst d_M_instant_254 ?_
  refine sb_aload_n 0 d_M_instant_255 rfl ?_
  refine g_M_245 d_M_instant_256 ?_
  refine sb_iconst d_M_instant_259 ?_
  refine sb_aload_n 0 d_M_instant_260 rfl ?_
  refine g_M_172 d_M_instant_261 (fun c15 => ?_)
  refine sb_cpI rfl rfl rfl rfl (by decide) ml_M_542 ⟨by decide, by decide⟩ d_M_instant_264 (fun γ16 => ?_)
  refine sb_iconst d_M_instant_267 ?_
  refine sb_istore_n [(1, vI 0), (0, vR Γ 0)] d_M_instant_268 (by decide) rfl ?_
  exact sb_lv [1, 0] rfl (s_M_instant_L269 (s_M_instant_b288) FU γ16 0 (by decide))
set_option maxHeartbeats 4000000 in
theorem s_M_instant_b244 {Γ : Ctx} {k25 : St → Int → Option (Int × St)} {x250 : St → Option (Int × St)} (hk25 : ∀ (γ : St) (x19 : Int), i32 x19 → SB Γ BM mt_M_instant (RmN 109 7314) 0 0 (KN Γ BM mt_M_instant.2.2.2) 25 [(0, vR Γ 0), (1, vI x19)] [] γ (k25 γ x19)) (hx250 : ∀ (γ : St), SB Γ BM mt_M_instant (RmN 109 7314) 0 0 (KN Γ BM mt_M_instant.2.2.2) 250 [(0, vR Γ 0)] [] γ (x250 γ )) : ∀ (γ : St) (x17 : Int), i32 x17 → SB Γ BM mt_M_instant (RmN 109 7314) 0 0 (KN Γ BM mt_M_instant.2.2.2) 244 [(0, vR Γ 0), (1, vI x17)] [] γ (f_M_instant_b244 k25 x250 γ x17) := by
  intro γ x17 hx17
  unfold f_M_instant_b244
  refine sb_iinc 1 [(1, vI (x17 + 1)), (0, vR Γ 0)] d_M_instant_244 rfl (by decide) rfl ?_
  refine sb_chk (fun c18 => ?_)
  refine sb_goto 25 d_M_instant_247 (by decide) ?_
  exact sb_lv [1, 0] rfl (hk25 γ (x17 + 1) c18)
set_option maxHeartbeats 4000000 in
theorem s_M_instant_b237 {Γ : Ctx} {k25 : St → Int → Option (Int × St)} {x250 : St → Option (Int × St)} (hk25 : ∀ (γ : St) (x24 : Int), i32 x24 → SB Γ BM mt_M_instant (RmN 109 7314) 0 0 (KN Γ BM mt_M_instant.2.2.2) 25 [(0, vR Γ 0), (1, vI x24)] [] γ (k25 γ x24)) (hx250 : ∀ (γ : St), SB Γ BM mt_M_instant (RmN 109 7314) 0 0 (KN Γ BM mt_M_instant.2.2.2) 250 [(0, vR Γ 0)] [] γ (x250 γ )) : ∀ (γ : St) (x20 : Int) (x21 : Int), i32 x20 → i32 x21 → SB Γ BM mt_M_instant (RmN 109 7314) 0 0 (KN Γ BM mt_M_instant.2.2.2) 237 [(0, vR Γ 0), (1, vI x20), (2, vI x21)] [] γ (f_M_instant_b237 k25 x250 γ x20 x21) := by
  intro γ x20 x21 hx20 hx21
  unfold f_M_instant_b237
  refine sb_aload_n 0 d_M_instant_237 rfl ?_
  refine g_M_251 d_M_instant_238 ?_
  refine sb_iload_n 2 d_M_instant_241 rfl ?_
  refine sb_iconst d_M_instant_242 ?_
  refine as_M_55 (by decide) d_M_instant_243 (fun _ => ?_)
  refine sb_aps (fun γ23 => ?_)
  exact sb_lv [0, 1] rfl (s_M_instant_b244 hk25 hx250 γ23 x20 hx20)
set_option maxHeartbeats 4000000 in
theorem s_M_instant_b186 {Γ : Ctx} {k25 : St → Int → Option (Int × St)} {x250 : St → Option (Int × St)} (hk25 : ∀ (γ : St) (x30 : Int), i32 x30 → SB Γ BM mt_M_instant (RmN 109 7314) 0 0 (KN Γ BM mt_M_instant.2.2.2) 25 [(0, vR Γ 0), (1, vI x30)] [] γ (k25 γ x30)) (hx250 : ∀ (γ : St), SB Γ BM mt_M_instant (RmN 109 7314) 0 0 (KN Γ BM mt_M_instant.2.2.2) 250 [(0, vR Γ 0)] [] γ (x250 γ )) : ∀ (γ : St) (x25 : Int) (x26 : Int) (x27 : Int) (x28 : Int), i32 x25 → i32 x26 → i32 x27 → i32 x28 → SB Γ BM mt_M_instant (RmN 109 7314) 0 0 (KN Γ BM mt_M_instant.2.2.2) 186 [(0, vR Γ 0), (1, vI x25), (2, vI x26)] [vI x27, vI x28, vR Γ 51] γ (f_M_instant_b186 k25 x250 γ x25 x26 x27 x28) := by
  intro γ x25 x26 x27 x28 hx25 hx26 hx27 hx28
  unfold f_M_instant_b186
  refine as_M_51 hx27 d_M_instant_186 (fun _ => ?_)
  refine sb_aps (fun γ29 => ?_)
  refine sb_goto 237 d_M_instant_187 (by decide) ?_
  exact sb_lv [0, 1, 2] rfl (s_M_instant_b237 hk25 hx250 γ29 x25 x26 hx25 hx26)
set_option maxHeartbeats 4000000 in
theorem s_M_instant_b236 {Γ : Ctx} {k25 : St → Int → Option (Int × St)} {x250 : St → Option (Int × St)} (hk25 : ∀ (γ : St) (x36 : Int), i32 x36 → SB Γ BM mt_M_instant (RmN 109 7314) 0 0 (KN Γ BM mt_M_instant.2.2.2) 25 [(0, vR Γ 0), (1, vI x36)] [] γ (k25 γ x36)) (hx250 : ∀ (γ : St), SB Γ BM mt_M_instant (RmN 109 7314) 0 0 (KN Γ BM mt_M_instant.2.2.2) 250 [(0, vR Γ 0)] [] γ (x250 γ )) : ∀ (γ : St) (x31 : Int) (x32 : Int) (x33 : Int) (x34 : Int), i32 x31 → i32 x32 → i32 x33 → i32 x34 → SB Γ BM mt_M_instant (RmN 109 7314) 0 0 (KN Γ BM mt_M_instant.2.2.2) 236 [(0, vR Γ 0), (1, vI x31), (2, vI x32)] [vI x33, vI x34, vR Γ 51] γ (f_M_instant_b236 k25 x250 γ x31 x32 x33 x34) := by
  intro γ x31 x32 x33 x34 hx31 hx32 hx33 hx34
  unfold f_M_instant_b236
  refine as_M_51 hx33 d_M_instant_236 (fun _ => ?_)
  refine sb_aps (fun γ35 => ?_)
  exact sb_lv [0, 1, 2] rfl (s_M_instant_b237 hk25 hx250 γ35 x31 x32 hx31 hx32)
set_option maxHeartbeats 4000000 in
theorem s_M_instant_L25 {Γ : Ctx} {x250 : St → Option (Int × St)} (hx250 : ∀ (γ : St), SB Γ BM mt_M_instant (RmN 109 7314) 0 0 (KN Γ BM mt_M_instant.2.2.2) 250 [(0, vR Γ 0)] [] γ (x250 γ )) : ∀ (n : Nat) (γ : St) (x37 : Int), i32 x37 → SB Γ BM mt_M_instant (RmN 109 7314) 0 0 (KN Γ BM mt_M_instant.2.2.2) 25 [(0, vR Γ 0), (1, vI x37)] [] γ (f_M_instant_L25 x250 n γ x37) := by
  intro n
  induction n with
  | zero => intros; exact sb_none
  | succ n ih =>
    intro γ x37 hx37
    unfold f_M_instant_L25
    refine sb_iload_n 1 d_M_instant_25 rfl ?_
    refine sb_aload_n 0 d_M_instant_26 rfl ?_
    refine g_M_169 d_M_instant_27 (fun c38 => ?_)
    refine sb_icmp_ge 250 hx37 c38 d_M_instant_30 (by decide) (fun _ => ?_) (fun _ => ?_)
    · exact sb_lv [0] rfl (hx250 γ  )
    · refine sb_aload_n 0 d_M_instant_33 rfl ?_
      refine g_M_227 d_M_instant_34 ?_
      refine sb_iload_n 1 d_M_instant_37 rfl ?_
      refine al_M_48 d_M_instant_38 (fun _ c40 => ?_)
      refine sb_istore_n [(2, vI (γ 48 x37)), (0, vR Γ 0), (1, vI x37)] d_M_instant_39 (by decide) rfl ?_
      refine sb_nme (e := γ 48 x37) (fun x41 => [(2, vI x41), (0, vR Γ 0), (1, vI x37)]) c40 (fun x41 hx41 => ?_)
      refine sb_aload_n 1 d_M_instant_40 rfl ?_
      refine g_M_205 d_M_instant_41 ?_
      refine sb_iload_n 0 d_M_instant_44 rfl ?_
      refine al_M_42 d_M_instant_45 (fun _ c43 => ?_)
      refine sb_istore_n [(3, vI (γ 42 x41)), (2, vI x41), (0, vR Γ 0), (1, vI x37)] d_M_instant_46 (by decide) rfl ?_
      refine sb_nme (e := γ 42 x41) (fun x44 => [(3, vI x44), (2, vI x41), (0, vR Γ 0), (1, vI x37)]) c43 (fun x44 hx44 => ?_)
      refine sb_aload_n 2 d_M_instant_47 rfl ?_
      refine g_M_184 d_M_instant_48 ?_
      refine sb_iload_n 0 d_M_instant_51 rfl ?_
      refine al_M_35 d_M_instant_52 (fun _ c46 => ?_)
      refine sb_istore [(4, vI (γ 35 x44)), (3, vI x44), (2, vI x41), (0, vR Γ 0), (1, vI x37)] d_M_instant_53 (by decide) rfl ?_
      refine sb_nme (e := γ 35 x44) (fun x47 => [(4, vI x47), (3, vI x44), (2, vI x41), (0, vR Γ 0), (1, vI x37)]) c46 (fun x47 hx47 => ?_)
      refine sb_aload_n 3 d_M_instant_55 rfl ?_
      refine g_M_208 d_M_instant_56 ?_
      refine sb_iload_n 2 d_M_instant_59 rfl ?_
      refine al_M_43 d_M_instant_60 (fun _ c49 => ?_)
      refine sb_istore [(5, vI (γ 43 x41)), (4, vI x47), (3, vI x44), (2, vI x41), (0, vR Γ 0), (1, vI x37)] d_M_instant_61 (by decide) rfl ?_
      refine sb_nme (e := γ 43 x41) (fun x50 => [(5, vI x50), (4, vI x47), (3, vI x44), (2, vI x41), (0, vR Γ 0), (1, vI x37)]) c49 (fun x50 hx50 => ?_)
      refine sb_aload_n 4 d_M_instant_63 rfl ?_
      refine sb_iload_n 2 d_M_instant_64 rfl ?_
      refine sb_aload_n 4 d_M_instant_65 rfl ?_
      refine g_M_80 d_M_instant_66 ?_
      refine sb_aload_n 4 d_M_instant_69 rfl ?_
      refine g_M_50 d_M_instant_70 ?_
      refine sb_iload 1 d_M_instant_73 rfl ?_
      refine al_M_4 d_M_instant_75 (fun _ c53 => ?_)
      refine sb_iload 0 d_M_instant_76 rfl ?_
      refine sb_iadd d_M_instant_78 ?_
      refine sb_chk (fun c54 => ?_)
      refine al_M_12 d_M_instant_79 (fun _ c55 => ?_)
      refine sb_cVz vf_M_present (C_M_present γ x44 (γ 12 ((γ 4 x47) + x50)) hx44 c55) rfl ml_M_527 (As := [vI x44, vI (γ 12 ((γ 4 x47) + x50))]) rfl rfl (Nat.le_of_ble_eq_true rfl) ⟨by decide, by decide⟩ d_M_instant_80 (fun r56 γ57 hr56 => ?_)
      refine sb_if_ne 89 (z2i hr56) d_M_instant_83 (by decide) (fun _ => ?_) (fun _ => ?_)
      · refine sb_aload_n 4 d_M_instant_89 rfl ?_
        refine g_M_154 d_M_instant_90 ?_
        refine sb_aload_n 4 d_M_instant_93 rfl ?_
        refine g_M_50 d_M_instant_94 ?_
        refine sb_iload 1 d_M_instant_97 rfl ?_
        refine al_M_4 d_M_instant_99 (fun _ c60 => ?_)
        refine sb_iload 0 d_M_instant_100 rfl ?_
        refine sb_iadd d_M_instant_102 ?_
        refine sb_chk (fun c61 => ?_)
        refine al_M_32 d_M_instant_103 (fun _ c62 => ?_)
        refine sb_istore [(6, vI (γ57 32 ((γ57 4 x47) + x50))), (5, vI x50), (4, vI x47), (3, vI x44), (2, vI x41), (0, vR Γ 0), (1, vI x37)] d_M_instant_104 (by decide) rfl ?_
        refine sb_nme (e := γ57 32 ((γ57 4 x47) + x50)) (fun x63 => [(6, vI x63), (5, vI x50), (4, vI x47), (3, vI x44), (2, vI x41), (0, vR Γ 0), (1, vI x37)]) c62 (fun x63 hx63 => ?_)
        refine sb_iload 1 d_M_instant_106 rfl ?_
        refine sb_aload_n 5 d_M_instant_108 rfl ?_
        refine g_M_53 d_M_instant_109 ?_
        refine sb_iload 2 d_M_instant_112 rfl ?_
        refine al_M_5 d_M_instant_114 (fun _ c65 => ?_)
        refine sb_icmp_lt 190 hx50 c65 d_M_instant_115 (by decide) (fun _ => ?_) (fun _ => ?_)
        · refine sb_aload_n 5 d_M_instant_190 rfl ?_
          refine g_M_239 d_M_instant_191 ?_
          refine sb_iload_n 4 d_M_instant_194 rfl ?_
          refine sb_aload_n 5 d_M_instant_195 rfl ?_
          refine g_M_187 d_M_instant_196 ?_
          refine sb_iload_n 3 d_M_instant_199 rfl ?_
          refine al_M_36 d_M_instant_200 (fun _ c68 => ?_)
          refine sb_if_ge 214 c68 d_M_instant_201 (by decide) (fun _ => ?_) (fun _ => ?_)
          · refine sb_aload_n 5 d_M_instant_214 rfl ?_
            refine sb_aload_n 5 d_M_instant_215 rfl ?_
            refine g_M_187 d_M_instant_216 ?_
            refine sb_iload_n 3 d_M_instant_219 rfl ?_
            refine al_M_36 d_M_instant_220 (fun _ c70 => ?_)
            refine sb_aload_n 5 d_M_instant_221 rfl ?_
            refine sb_aload_n 5 d_M_instant_222 rfl ?_
            refine g_M_190 d_M_instant_223 ?_
            refine sb_iload_n 3 d_M_instant_226 rfl ?_
            refine al_M_37 d_M_instant_227 (fun _ c72 => ?_)
            refine sb_iload 1 d_M_instant_228 rfl ?_
            refine sb_cVi vf_M_argument (c_M_argument γ57 (γ57 37 x44) x50 c72 hx50) rfl ml_M_489 (As := [vI (γ57 37 x44), vI x50]) rfl rfl (Nat.le_of_ble_eq_true rfl) ⟨by decide, by decide⟩ d_M_instant_230 (fun r73 γ74 hr73 => ?_)
            refine sb_cVi vf_M_partOf (c_M_partOf γ74 (γ57 36 x44) r73 c70 hr73) rfl ml_M_539 (As := [vI (γ57 36 x44), vI r73]) rfl rfl (Nat.le_of_ble_eq_true rfl) ⟨by decide, by decide⟩ d_M_instant_233 (fun r75 γ76 hr75 => ?_)
            exact sb_lv [5, 6, 4] rfl (s_M_instant_b236 ih hx250 γ76 x37 x41 r75 x41 hx37 hx41 hr75 hx41)
          · refine sb_aload_n 5 d_M_instant_204 rfl ?_
            refine g_M_236 d_M_instant_205 ?_
            refine sb_iload 1 d_M_instant_208 rfl ?_
            refine al_M_50 d_M_instant_210 (fun _ c78 => ?_)
            refine sb_goto 236 d_M_instant_211 (by decide) ?_
            exact sb_lv [5, 6, 4] rfl (s_M_instant_b236 ih hx250 γ57 x37 x41 (γ57 50 x50) x41 hx37 hx41 c78 hx41)
        · refine sb_aload_n 5 d_M_instant_118 rfl ?_
          refine g_M_239 d_M_instant_119 ?_
          refine sb_iload_n 4 d_M_instant_122 rfl ?_
          refine sb_aload_n 5 d_M_instant_123 rfl ?_
          refine g_M_112 d_M_instant_124 ?_
          refine sb_aload_n 5 d_M_instant_127 rfl ?_
          refine g_M_96 d_M_instant_128 ?_
          refine sb_iload 0 d_M_instant_131 rfl ?_
          refine al_M_17 d_M_instant_133 (fun _ c82 => ?_)
          refine al_M_20 d_M_instant_134 (fun _ c83 => ?_)
          refine sb_iconst d_M_instant_135 ?_
          refine sb_icmp_ne 174 c83 (by decide) d_M_instant_136 (by decide) (fun _ => ?_) (fun _ => ?_)
          · refine sb_aload_n 5 d_M_instant_174 rfl ?_
            refine sb_iload_n 3 d_M_instant_175 rfl ?_
            refine sb_aload_n 5 d_M_instant_176 rfl ?_
            refine g_M_96 d_M_instant_177 ?_
            refine sb_iload 0 d_M_instant_180 rfl ?_
            refine al_M_17 d_M_instant_182 (fun _ c85 => ?_)
            refine sb_cVi vf_M_partOf (c_M_partOf γ57 x44 (γ57 17 x63) hx44 c85) rfl ml_M_539 (As := [vI x44, vI (γ57 17 x63)]) rfl rfl (Nat.le_of_ble_eq_true rfl) ⟨by decide, by decide⟩ d_M_instant_183 (fun r86 γ87 hr86 => ?_)
            exact sb_lv [5, 6, 4] rfl (s_M_instant_b186 ih hx250 γ87 x37 x41 r86 x41 hx37 hx41 hr86 hx41)
          · refine sb_aload_n 5 d_M_instant_139 rfl ?_
            refine g_M_239 d_M_instant_140 ?_
            refine sb_aload_n 5 d_M_instant_143 rfl ?_
            refine sb_iload_n 3 d_M_instant_144 rfl ?_
            refine sb_aload_n 5 d_M_instant_145 rfl ?_
            refine g_M_96 d_M_instant_146 ?_
            refine sb_iload 0 d_M_instant_149 rfl ?_
            refine al_M_17 d_M_instant_151 (fun _ c90 => ?_)
            refine sb_aload_n 5 d_M_instant_152 rfl ?_
            refine g_M_157 d_M_instant_153 ?_
            refine sb_aload_n 5 d_M_instant_156 rfl ?_
            refine g_M_50 d_M_instant_157 ?_
            refine sb_iload 2 d_M_instant_160 rfl ?_
            refine al_M_4 d_M_instant_162 (fun _ c93 => ?_)
            refine sb_iload 1 d_M_instant_163 rfl ?_
            refine sb_iadd d_M_instant_165 ?_
            refine sb_chk (fun c94 => ?_)
            refine al_M_33 d_M_instant_166 (fun _ c95 => ?_)
            refine sb_cVi vf_M_output (c_M_output γ57 x44 (γ57 17 x63) (γ57 33 ((γ57 4 x47) + x50)) hx44 c90 c95) rfl ml_M_483 (As := [vI x44, vI (γ57 17 x63), vI (γ57 33 ((γ57 4 x47) + x50))]) rfl rfl (Nat.le_of_ble_eq_true rfl) ⟨by decide, by decide⟩ d_M_instant_167 (fun r96 γ97 hr96 => ?_)
            refine al_M_51 d_M_instant_170 (fun _ c98 => ?_)
            refine sb_goto 186 d_M_instant_171 (by decide) ?_
            exact sb_lv [5, 6, 4] rfl (s_M_instant_b186 ih hx250 γ97 x37 x41 (γ97 51 r96) x41 hx37 hx41 c98 hx41)
      · refine sb_goto 244 d_M_instant_86 (by decide) ?_
        exact sb_lv [4, 5] rfl (s_M_instant_b244 ih hx250 γ57 x37 hx37)
set_option maxHeartbeats 4000000 in
theorem s_M_instant_b23 {Γ : Ctx} : ∀ (γ : St), SB Γ BM mt_M_instant (RmN 109 7314) 0 0 (KN Γ BM mt_M_instant.2.2.2) 23 [(0, vR Γ 0)] [] γ (f_M_instant_b23 γ ) := by
  intro γ
  unfold f_M_instant_b23
  refine sb_iconst d_M_instant_23 ?_
  refine sb_istore_n [(1, vI 0), (0, vR Γ 0)] d_M_instant_24 (by decide) rfl ?_
  exact sb_lv [1, 0] rfl (s_M_instant_L25 (s_M_instant_b250) FU γ 0 (by decide))
set_option maxHeartbeats 4000000 in
theorem s_M_instant_L2 {Γ : Ctx} {x23 : St → Option (Int × St)} (hx23 : ∀ (γ : St), SB Γ BM mt_M_instant (RmN 109 7314) 0 0 (KN Γ BM mt_M_instant.2.2.2) 23 [(0, vR Γ 0)] [] γ (x23 γ )) : ∀ (n : Nat) (γ : St) (x99 : Int), i32 x99 → SB Γ BM mt_M_instant (RmN 109 7314) 0 0 (KN Γ BM mt_M_instant.2.2.2) 2 [(0, vR Γ 0), (1, vI x99)] [] γ (f_M_instant_L2 x23 n γ x99) := by
  intro n
  induction n with
  | zero => intros; exact sb_none
  | succ n ih =>
    intro γ x99 hx99
    unfold f_M_instant_L2
    refine sb_iload_n 1 d_M_instant_2 rfl ?_
    refine sb_aload_n 0 d_M_instant_3 rfl ?_
    refine g_M_169 d_M_instant_4 (fun c100 => ?_)
    refine sb_icmp_ge 23 hx99 c100 d_M_instant_7 (by decide) (fun _ => ?_) (fun _ => ?_)
    · exact sb_lv [0] rfl (hx23 γ  )
    · refine sb_aload_n 0 d_M_instant_10 rfl ?_
      refine g_M_251 d_M_instant_11 ?_
      refine sb_iload_n 1 d_M_instant_14 rfl ?_
      refine sb_iconst d_M_instant_15 ?_
      refine as_M_55 (by decide) d_M_instant_16 (fun _ => ?_)
      refine sb_aps (fun γ102 => ?_)
      refine sb_iinc 1 [(1, vI (x99 + 1)), (0, vR Γ 0)] d_M_instant_17 rfl (by decide) rfl ?_
      refine sb_chk (fun c103 => ?_)
      refine sb_goto 2 d_M_instant_20 (by decide) ?_
      exact sb_lv [1, 0] rfl (ih γ102 (x99 + 1) c103)
set_option maxHeartbeats 4000000 in
theorem c_M_instant {Γ : Ctx} (γ : St) : NC Γ BM y_M_instant mt_M_instant 109 7314 [vR Γ 0] γ (f_M_instant γ) := by
  refine nc_of (by decide) rfl (Nat.le_of_ble_eq_true rfl) ?_
  show SB Γ BM mt_M_instant (RmN 109 7314) 0 0 (KN Γ BM mt_M_instant.2.2.2) 0 [(0, vR Γ 0)] [] γ _
  unfold f_M_instant
  refine sb_iconst d_M_instant_0 ?_
  refine sb_istore_n [(1, vI 0), (0, vR Γ 0)] d_M_instant_1 (by decide) rfl ?_
  exact sb_lv [1, 0] rfl (s_M_instant_L2 (s_M_instant_b23) FU γ 0 (by decide))
theorem d_M_tick_0 : decode b_M_tick 0 = .ok (.aload_n 0, 1) := by decide +kernel
theorem d_M_tick_1 : decode b_M_tick 1 = .ok (.iconst 0, 1) := by decide +kernel
theorem d_M_tick_2 : decode b_M_tick 2 = .ok (.putfield 18, 3) := by decide +kernel
theorem d_M_tick_5 : decode b_M_tick 5 = .ok (.aload_n 0, 1) := by decide +kernel
theorem d_M_tick_6 : decode b_M_tick 6 = .ok (.iconst 1, 1) := by decide +kernel
theorem d_M_tick_7 : decode b_M_tick 7 = .ok (.iload_n 1, 1) := by decide +kernel
theorem d_M_tick_8 : decode b_M_tick 8 = .ok (.iconst 1, 1) := by decide +kernel
theorem d_M_tick_9 : decode b_M_tick 9 = .ok (.if_icmp .lt 10, 3) := by decide +kernel
theorem d_M_tick_12 : decode b_M_tick 12 = .ok (.iload_n 1, 1) := by decide +kernel
theorem d_M_tick_13 : decode b_M_tick 13 = .ok (.sipush 1000, 3) := by decide +kernel
theorem d_M_tick_16 : decode b_M_tick 16 = .ok (.if_icmp .le 7, 3) := by decide +kernel
theorem d_M_tick_19 : decode b_M_tick 19 = .ok (.iconst 1, 1) := by decide +kernel
theorem d_M_tick_20 : decode b_M_tick 20 = .ok (.goto 4, 3) := by decide +kernel
theorem d_M_tick_23 : decode b_M_tick 23 = .ok (.iconst 0, 1) := by decide +kernel
theorem d_M_tick_24 : decode b_M_tick 24 = .ok (.invokevirtual 270, 3) := by decide +kernel
theorem d_M_tick_27 : decode b_M_tick 27 = .ok (.ifCond .ne 23, 3) := by decide +kernel
theorem d_M_tick_30 : decode b_M_tick 30 = .ok (.aload_n 0, 1) := by decide +kernel
theorem d_M_tick_31 : decode b_M_tick 31 = .ok (.iconst 2, 1) := by decide +kernel
theorem d_M_tick_32 : decode b_M_tick 32 = .ok (.aload_n 0, 1) := by decide +kernel
theorem d_M_tick_33 : decode b_M_tick 33 = .ok (.getfield 163, 3) := by decide +kernel
theorem d_M_tick_36 : decode b_M_tick 36 = .ok (.ifCond .ge 7, 3) := by decide +kernel
theorem d_M_tick_39 : decode b_M_tick 39 = .ok (.iconst 1, 1) := by decide +kernel
theorem d_M_tick_40 : decode b_M_tick 40 = .ok (.goto 4, 3) := by decide +kernel
theorem d_M_tick_43 : decode b_M_tick 43 = .ok (.iconst 0, 1) := by decide +kernel
theorem d_M_tick_44 : decode b_M_tick 44 = .ok (.invokevirtual 270, 3) := by decide +kernel
theorem d_M_tick_47 : decode b_M_tick 47 = .ok (.ifCond .eq 5, 3) := by decide +kernel
theorem d_M_tick_50 : decode b_M_tick 50 = .ok (.iconst 0, 1) := by decide +kernel
theorem d_M_tick_51 : decode b_M_tick 51 = .ok (.ireturn, 1) := by decide +kernel
theorem d_M_tick_52 : decode b_M_tick 52 = .ok (.iconst 0, 1) := by decide +kernel
theorem d_M_tick_53 : decode b_M_tick 53 = .ok (.istore_n 2, 1) := by decide +kernel
theorem d_M_tick_54 : decode b_M_tick 54 = .ok (.iload_n 2, 1) := by decide +kernel
theorem d_M_tick_55 : decode b_M_tick 55 = .ok (.iload_n 1, 1) := by decide +kernel
theorem d_M_tick_56 : decode b_M_tick 56 = .ok (.if_icmp .ge 13, 3) := by decide +kernel
theorem d_M_tick_59 : decode b_M_tick 59 = .ok (.aload_n 0, 1) := by decide +kernel
theorem d_M_tick_60 : decode b_M_tick 60 = .ok (.invokevirtual 551, 3) := by decide +kernel
theorem d_M_tick_63 : decode b_M_tick 63 = .ok (.iinc 2 1, 3) := by decide +kernel
theorem d_M_tick_66 : decode b_M_tick 66 = .ok (.goto (-12), 3) := by decide +kernel
theorem d_M_tick_69 : decode b_M_tick 69 = .ok (.aload_n 0, 1) := by decide +kernel
theorem d_M_tick_70 : decode b_M_tick 70 = .ok (.getfield 233, 3) := by decide +kernel
theorem d_M_tick_73 : decode b_M_tick 73 = .ok (.ireturn, 1) := by decide +kernel
abbrev mt_M_tick : MT := (R_M, b_M_tick, 3, some .int)
theorem vf_M_tick : VF y_M_tick mt_M_tick 12 1 := ⟨im_M_tick, se_M_tick, in_M, co_M_tick, by decide +kernel, _, _, rfl⟩
def f_M_tick_L54 : Nat → St → Int → Int → Option (Int × St)
  | 0, _, _, _ => none
  | n + 1, γ, x1, x2 =>
  if x1 ≤ x2 then
  (some (γ 0 72, γ))
  else
  (bndN (f_M_instant γ) fun _ γ5 =>
  chk (i32 (x2 + 1)) ((f_M_tick_L54 n) γ5 x1 (x2 + 1)))
def f_M_tick_b44 (γ : St) (x7 : Int) (x8 : Int) (x9 : Int) : Option (Int × St) :=
  bndN (f_M_refuse γ x9 x8) fun r10 γ11 =>
  if r10 = 0 then
  (f_M_tick_L54  FU γ11 x7 0)
  else
  (some (0, γ11))
def f_M_tick_b24 (γ : St) (x12 : Int) (x13 : Int) (x14 : Int) : Option (Int × St) :=
  bndN (f_M_refuse γ x14 x13) fun r15 γ16 =>
  if r15 ≠ 0 then
  (some (0, γ16))
  else
  (if 0 ≤ (γ16 0 49) then
  (f_M_tick_b44 γ16 x12 0 2)
  else
  (f_M_tick_b44 γ16 x12 1 2))
def f_M_tick_b19 (γ : St) (x18 : Int) (x19 : Int) : Option (Int × St) :=
  f_M_tick_b24 γ x18 1 x19
def f_M_tick (γ : St) (a0 : Int) : Option (Int × St) :=
  ap (setA γ 0 2 0) fun γ20 =>
  if a0 < 1 then
  (f_M_tick_b19 γ20 a0 1)
  else
  (if a0 ≤ 1000 then
  (f_M_tick_b24 γ20 a0 0 1)
  else
  (f_M_tick_b19 γ20 a0 1))
set_option maxHeartbeats 4000000 in
theorem s_M_tick_L54 {Γ : Ctx} : ∀ (n : Nat) (γ : St) (x1 : Int) (x2 : Int), i32 x1 → i32 x2 → SB Γ BM mt_M_tick (RmN 110 7340) 0 0 (KN Γ BM mt_M_tick.2.2.2) 54 [(0, vR Γ 0), (1, vI x1), (2, vI x2)] [] γ (f_M_tick_L54 n γ x1 x2) := by
  intro n
  induction n with
  | zero => intros; exact sb_none
  | succ n ih =>
    intro γ x1 x2 hx1 hx2
    unfold f_M_tick_L54
    refine sb_iload_n 2 d_M_tick_54 rfl ?_
    refine sb_iload_n 1 d_M_tick_55 rfl ?_
    refine sb_icmp_ge 69 hx2 hx1 d_M_tick_56 (by decide) (fun _ => ?_) (fun _ => ?_)
    · refine sb_aload_n 0 d_M_tick_69 rfl ?_
      refine g_M_233 d_M_tick_70 (fun c3 => ?_)
      exact sn_i rfl c3 d_M_tick_73
    · refine sb_aload_n 0 d_M_tick_59 rfl ?_
      refine sb_cVv vf_M_instant (c_M_instant γ  ) rfl ml_M_551 (As := []) rfl rfl (Nat.le_of_ble_eq_true rfl) ⟨by decide, by decide⟩ d_M_tick_60 (fun _ γ5 => ?_)
      refine sb_iinc 2 [(2, vI (x2 + 1)), (0, vR Γ 0), (1, vI x1)] d_M_tick_63 rfl (by decide) rfl ?_
      refine sb_chk (fun c6 => ?_)
      refine sb_goto 54 d_M_tick_66 (by decide) ?_
      exact sb_lv [1, 2, 0] rfl (ih γ5 x1 (x2 + 1) hx1 c6)
set_option maxHeartbeats 4000000 in
theorem s_M_tick_b44 {Γ : Ctx} : ∀ (γ : St) (x7 : Int) (x8 : Int) (x9 : Int), i32 x7 → i32 x8 → i32 x9 → SB Γ BM mt_M_tick (RmN 110 7340) 0 0 (KN Γ BM mt_M_tick.2.2.2) 44 [(0, vR Γ 0), (1, vI x7)] [vI x8, vI x9, vR Γ 0] γ (f_M_tick_b44 γ x7 x8 x9) := by
  intro γ x7 x8 x9 hx7 hx8 hx9
  unfold f_M_tick_b44
  refine sb_cVz vf_M_refuse (c_M_refuse γ x9 x8 hx9 hx8) rfl ml_M_270 (As := [vI x9, vI x8]) rfl rfl (Nat.le_of_ble_eq_true rfl) ⟨by decide, by decide⟩ d_M_tick_44 (fun r10 γ11 hr10 => ?_)
  refine sb_if_eq 52 (z2i hr10) d_M_tick_47 (by decide) (fun _ => ?_) (fun _ => ?_)
  · refine sb_iconst d_M_tick_52 ?_
    refine sb_istore_n [(2, vI 0), (0, vR Γ 0), (1, vI x7)] d_M_tick_53 (by decide) rfl ?_
    exact sb_lv [1, 2, 0] rfl (s_M_tick_L54  FU γ11 x7 0 hx7 (by decide))
  · refine sb_iconst d_M_tick_50 ?_
    exact sn_i rfl (by decide) d_M_tick_51
set_option maxHeartbeats 4000000 in
theorem s_M_tick_b24 {Γ : Ctx} : ∀ (γ : St) (x12 : Int) (x13 : Int) (x14 : Int), i32 x12 → i32 x13 → i32 x14 → SB Γ BM mt_M_tick (RmN 110 7340) 0 0 (KN Γ BM mt_M_tick.2.2.2) 24 [(0, vR Γ 0), (1, vI x12)] [vI x13, vI x14, vR Γ 0] γ (f_M_tick_b24 γ x12 x13 x14) := by
  intro γ x12 x13 x14 hx12 hx13 hx14
  unfold f_M_tick_b24
  refine sb_cVz vf_M_refuse (c_M_refuse γ x14 x13 hx14 hx13) rfl ml_M_270 (As := [vI x14, vI x13]) rfl rfl (Nat.le_of_ble_eq_true rfl) ⟨by decide, by decide⟩ d_M_tick_24 (fun r15 γ16 hr15 => ?_)
  refine sb_if_ne 50 (z2i hr15) d_M_tick_27 (by decide) (fun _ => ?_) (fun _ => ?_)
  · refine sb_iconst d_M_tick_50 ?_
    exact sn_i rfl (by decide) d_M_tick_51
  · refine sb_aload_n 0 d_M_tick_30 rfl ?_
    refine sb_iconst d_M_tick_31 ?_
    refine sb_aload_n 0 d_M_tick_32 rfl ?_
    refine g_M_163 d_M_tick_33 (fun c17 => ?_)
    refine sb_if_ge 43 c17 d_M_tick_36 (by decide) (fun _ => ?_) (fun _ => ?_)
    · refine sb_iconst d_M_tick_43 ?_
      exact sb_lv [0, 1] rfl (s_M_tick_b44 γ16 x12 0 2 hx12 (by decide) (by decide))
    · refine sb_iconst d_M_tick_39 ?_
      refine sb_goto 44 d_M_tick_40 (by decide) ?_
      exact sb_lv [0, 1] rfl (s_M_tick_b44 γ16 x12 1 2 hx12 (by decide) (by decide))
set_option maxHeartbeats 4000000 in
theorem s_M_tick_b19 {Γ : Ctx} : ∀ (γ : St) (x18 : Int) (x19 : Int), i32 x18 → i32 x19 → SB Γ BM mt_M_tick (RmN 110 7340) 0 0 (KN Γ BM mt_M_tick.2.2.2) 19 [(0, vR Γ 0), (1, vI x18)] [vI x19, vR Γ 0] γ (f_M_tick_b19 γ x18 x19) := by
  intro γ x18 x19 hx18 hx19
  unfold f_M_tick_b19
  refine sb_iconst d_M_tick_19 ?_
  refine sb_goto 24 d_M_tick_20 (by decide) ?_
  exact sb_lv [0, 1] rfl (s_M_tick_b24 γ x18 1 x19 hx18 (by decide) hx19)
set_option maxHeartbeats 4000000 in
theorem c_M_tick {Γ : Ctx} (γ : St) (a0 : Int) (ha0 : i32 a0) : NC Γ BM y_M_tick mt_M_tick 110 7340 [vR Γ 0, vI a0] γ (f_M_tick γ a0) := by
  refine nc_of (by decide) rfl (Nat.le_of_ble_eq_true rfl) ?_
  show SB Γ BM mt_M_tick (RmN 110 7340) 0 0 (KN Γ BM mt_M_tick.2.2.2) 0 [(0, vR Γ 0), (1, vI a0)] [] γ _
  unfold f_M_tick
  refine sb_aload_n 0 d_M_tick_0 rfl ?_
  refine sb_iconst d_M_tick_1 ?_
  refine p_M_18 (by decide) d_M_tick_2 ?_
  refine sb_aps (fun γ20 => ?_)
  refine sb_aload_n 0 d_M_tick_5 rfl ?_
  refine sb_iconst d_M_tick_6 ?_
  refine sb_iload_n 1 d_M_tick_7 rfl ?_
  refine sb_iconst d_M_tick_8 ?_
  refine sb_icmp_lt 19 ha0 (by decide) d_M_tick_9 (by decide) (fun _ => ?_) (fun _ => ?_)
  · exact sb_lv [0, 1] rfl (s_M_tick_b19 γ20 a0 1 ha0 (by decide))
  · refine sb_iload_n 1 d_M_tick_12 rfl ?_
    refine sb_sipush d_M_tick_13 (by decide) ?_
    refine sb_icmp_le 23 ha0 (by decide) d_M_tick_16 (by decide) (fun _ => ?_) (fun _ => ?_)
    · refine sb_iconst d_M_tick_23 ?_
      exact sb_lv [0, 1] rfl (s_M_tick_b24 γ20 a0 0 1 ha0 (by decide) (by decide))
    · exact sb_lv [0, 1] rfl (s_M_tick_b19 γ20 a0 1 ha0 (by decide))
