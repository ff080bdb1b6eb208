/-! the reference as functions: feed and read -/
theorem d_M_feed_0 : decode b_M_feed 0 = .ok (.aload_n 0, 1) := by decide +kernel
theorem d_M_feed_1 : decode b_M_feed 1 = .ok (.iconst 0, 1) := by decide +kernel
theorem d_M_feed_2 : decode b_M_feed 2 = .ok (.putfield 18, 3) := by decide +kernel
theorem d_M_feed_5 : decode b_M_feed 5 = .ok (.aload_n 0, 1) := by decide +kernel
theorem d_M_feed_6 : decode b_M_feed 6 = .ok (.iconst 1, 1) := by decide +kernel
theorem d_M_feed_7 : decode b_M_feed 7 = .ok (.aload_n 0, 1) := by decide +kernel
theorem d_M_feed_8 : decode b_M_feed 8 = .ok (.getfield 14, 3) := by decide +kernel
theorem d_M_feed_11 : decode b_M_feed 11 = .ok (.ldc_w 269, 3) := by decide +kernel
theorem d_M_feed_14 : decode b_M_feed 14 = .ok (.if_icmp .le 7, 3) := by decide +kernel
theorem d_M_feed_17 : decode b_M_feed 17 = .ok (.iconst 1, 1) := by decide +kernel
theorem d_M_feed_18 : decode b_M_feed 18 = .ok (.goto 4, 3) := by decide +kernel
theorem d_M_feed_21 : decode b_M_feed 21 = .ok (.iconst 0, 1) := by decide +kernel
theorem d_M_feed_22 : decode b_M_feed 22 = .ok (.invokevirtual 270, 3) := by decide +kernel
theorem d_M_feed_25 : decode b_M_feed 25 = .ok (.ifCond .eq 5, 3) := by decide +kernel
theorem d_M_feed_28 : decode b_M_feed 28 = .ok (.iconst 0, 1) := by decide +kernel
theorem d_M_feed_29 : decode b_M_feed 29 = .ok (.ireturn, 1) := by decide +kernel
theorem d_M_feed_30 : decode b_M_feed 30 = .ok (.iconst 0, 1) := by decide +kernel
theorem d_M_feed_31 : decode b_M_feed 31 = .ok (.istore 6, 2) := by decide +kernel
theorem d_M_feed_33 : decode b_M_feed 33 = .ok (.iload 6, 2) := by decide +kernel
theorem d_M_feed_35 : decode b_M_feed 35 = .ok (.bipush 20, 2) := by decide +kernel
theorem d_M_feed_37 : decode b_M_feed 37 = .ok (.if_icmp .ge 87, 3) := by decide +kernel
theorem d_M_feed_40 : decode b_M_feed 40 = .ok (.iload 6, 2) := by decide +kernel
theorem d_M_feed_42 : decode b_M_feed 42 = .ok (.iconst 4, 1) := by decide +kernel
theorem d_M_feed_43 : decode b_M_feed 43 = .ok (.if_icmp .ge 7, 3) := by decide +kernel
theorem d_M_feed_46 : decode b_M_feed 46 = .ok (.iload_n 1, 1) := by decide +kernel
theorem d_M_feed_47 : decode b_M_feed 47 = .ok (.goto 39, 3) := by decide +kernel
theorem d_M_feed_50 : decode b_M_feed 50 = .ok (.iload 6, 2) := by decide +kernel
theorem d_M_feed_52 : decode b_M_feed 52 = .ok (.bipush 8, 2) := by decide +kernel
theorem d_M_feed_54 : decode b_M_feed 54 = .ok (.if_icmp .ge 7, 3) := by decide +kernel
theorem d_M_feed_57 : decode b_M_feed 57 = .ok (.iload_n 2, 1) := by decide +kernel
theorem d_M_feed_58 : decode b_M_feed 58 = .ok (.goto 28, 3) := by decide +kernel
theorem d_M_feed_61 : decode b_M_feed 61 = .ok (.iload 6, 2) := by decide +kernel
theorem d_M_feed_63 : decode b_M_feed 63 = .ok (.bipush 12, 2) := by decide +kernel
theorem d_M_feed_65 : decode b_M_feed 65 = .ok (.if_icmp .ge 7, 3) := by decide +kernel
theorem d_M_feed_68 : decode b_M_feed 68 = .ok (.iload_n 3, 1) := by decide +kernel
theorem d_M_feed_69 : decode b_M_feed 69 = .ok (.goto 17, 3) := by decide +kernel
theorem d_M_feed_72 : decode b_M_feed 72 = .ok (.iload 6, 2) := by decide +kernel
theorem d_M_feed_74 : decode b_M_feed 74 = .ok (.bipush 16, 2) := by decide +kernel
theorem d_M_feed_76 : decode b_M_feed 76 = .ok (.if_icmp .ge 8, 3) := by decide +kernel
theorem d_M_feed_79 : decode b_M_feed 79 = .ok (.iload 4, 2) := by decide +kernel
theorem d_M_feed_81 : decode b_M_feed 81 = .ok (.goto 5, 3) := by decide +kernel
theorem d_M_feed_84 : decode b_M_feed 84 = .ok (.iload 5, 2) := by decide +kernel
theorem d_M_feed_86 : decode b_M_feed 86 = .ok (.istore 7, 2) := by decide +kernel
theorem d_M_feed_88 : decode b_M_feed 88 = .ok (.aload_n 0, 1) := by decide +kernel
theorem d_M_feed_89 : decode b_M_feed 89 = .ok (.getfield 8, 3) := by decide +kernel
theorem d_M_feed_92 : decode b_M_feed 92 = .ok (.aload_n 0, 1) := by decide +kernel
theorem d_M_feed_93 : decode b_M_feed 93 = .ok (.dup, 1) := by decide +kernel
theorem d_M_feed_94 : decode b_M_feed 94 = .ok (.getfield 14, 3) := by decide +kernel
theorem d_M_feed_97 : decode b_M_feed 97 = .ok (.dup_x1, 1) := by decide +kernel
theorem d_M_feed_98 : decode b_M_feed 98 = .ok (.iconst 1, 1) := by decide +kernel
theorem d_M_feed_99 : decode b_M_feed 99 = .ok (.iadd, 1) := by decide +kernel
theorem d_M_feed_100 : decode b_M_feed 100 = .ok (.putfield 14, 3) := by decide +kernel
theorem d_M_feed_103 : decode b_M_feed 103 = .ok (.iload 7, 2) := by decide +kernel
theorem d_M_feed_105 : decode b_M_feed 105 = .ok (.bipush 24, 2) := by decide +kernel
theorem d_M_feed_107 : decode b_M_feed 107 = .ok (.bipush 8, 2) := by decide +kernel
theorem d_M_feed_109 : decode b_M_feed 109 = .ok (.iload 6, 2) := by decide +kernel
theorem d_M_feed_111 : decode b_M_feed 111 = .ok (.iconst 4, 1) := by decide +kernel
theorem d_M_feed_112 : decode b_M_feed 112 = .ok (.irem, 1) := by decide +kernel
theorem d_M_feed_113 : decode b_M_feed 113 = .ok (.imul, 1) := by decide +kernel
theorem d_M_feed_114 : decode b_M_feed 114 = .ok (.isub, 1) := by decide +kernel
theorem d_M_feed_115 : decode b_M_feed 115 = .ok (.iushr, 1) := by decide +kernel
theorem d_M_feed_116 : decode b_M_feed 116 = .ok (.i2b, 1) := by decide +kernel
theorem d_M_feed_117 : decode b_M_feed 117 = .ok (.bastore, 1) := by decide +kernel
theorem d_M_feed_118 : decode b_M_feed 118 = .ok (.iinc 6 1, 3) := by decide +kernel
theorem d_M_feed_121 : decode b_M_feed 121 = .ok (.goto (-88), 3) := by decide +kernel
theorem d_M_feed_124 : decode b_M_feed 124 = .ok (.aload_n 0, 1) := by decide +kernel
theorem d_M_feed_125 : decode b_M_feed 125 = .ok (.getfield 14, 3) := by decide +kernel
theorem d_M_feed_128 : decode b_M_feed 128 = .ok (.ireturn, 1) := by decide +kernel
abbrev mt_M_feed : MT := (R_M, b_M_feed, 8, some .int)
theorem vf_M_feed : VF y_M_feed mt_M_feed 12 5 := ⟨im_M_feed, se_M_feed, in_M, co_M_feed, by decide +kernel, _, _, rfl⟩
def f_M_feed_b86 (k33 : St → Int → Int → Int → Int → Int → Int → Option (Int × St)) (γ : St) (x1 : Int) (x2 : Int) (x3 : Int) (x4 : Int) (x5 : Int) (x6 : Int) (x7 : Int) : Option (Int × St) :=
  chk (i32 ((γ 0 1) + 1)) (ap (setA γ 0 1 ((γ 0 1) + 1)) fun γ11 =>
  chk ((4 : Int) ≠ 0) (chk (i32 (8 * (irem x6 4))) (chk (i32 (24 - (8 * (irem x6 4)))) (chk (inb (γ 0 1) 65536) (ap (setA γ11 1 (γ 0 1) (i2b (iushr x7 (24 - (8 * (irem x6 4)))))) fun γ14 =>
  chk (i32 (x6 + 1)) (k33 γ14 x1 x2 x3 x4 x5 (x6 + 1)))))))
def f_M_feed_L33 : Nat → St → Int → Int → Int → Int → Int → Int → Option (Int × St)
  | 0, _, _, _, _, _, _, _ => none
  | n + 1, γ, x22, x23, x24, x25, x26, x27 =>
  if 20 ≤ x27 then
  (some (γ 0 1, γ))
  else
  (if 4 ≤ x27 then
  (if 8 ≤ x27 then
  (if 12 ≤ x27 then
  (if 16 ≤ x27 then
  (f_M_feed_b86 (f_M_feed_L33 n) γ x22 x23 x24 x25 x26 x27 x26)
  else
  (f_M_feed_b86 (f_M_feed_L33 n) γ x22 x23 x24 x25 x26 x27 x25))
  else
  (f_M_feed_b86 (f_M_feed_L33 n) γ x22 x23 x24 x25 x26 x27 x24))
  else
  (f_M_feed_b86 (f_M_feed_L33 n) γ x22 x23 x24 x25 x26 x27 x23))
  else
  (f_M_feed_b86 (f_M_feed_L33 n) γ x22 x23 x24 x25 x26 x27 x22))
def f_M_feed_b22 (γ : St) (x29 : Int) (x30 : Int) (x31 : Int) (x32 : Int) (x33 : Int) (x34 : Int) (x35 : Int) : Option (Int × St) :=
  bndN (f_M_refuse γ x35 x34) fun r36 γ37 =>
  if r36 = 0 then
  (f_M_feed_L33  FU γ37 x29 x30 x31 x32 x33 0)
  else
  (some (0, γ37))
def f_M_feed (γ : St) (a0 : Int) (a1 : Int) (a2 : Int) (a3 : Int) (a4 : Int) : Option (Int × St) :=
  ap (setA γ 0 2 0) fun γ38 =>
  if (γ38 0 1) ≤ 65516 then
  (f_M_feed_b22 γ38 a0 a1 a2 a3 a4 0 1)
  else
  (f_M_feed_b22 γ38 a0 a1 a2 a3 a4 1 1)
set_option maxHeartbeats 4000000 in
theorem s_M_feed_b86 {Γ : Ctx} {k33 : St → Int → Int → Int → Int → Int → Int → Option (Int × St)} (hk33 : ∀ (γ : St) (x16 : Int) (x17 : Int) (x18 : Int) (x19 : Int) (x20 : Int) (x21 : Int), i32 x16 → i32 x17 → i32 x18 → i32 x19 → i32 x20 → i32 x21 → SB Γ BM mt_M_feed (RmN 7 262) 0 0 (KN Γ BM mt_M_feed.2.2.2) 33 [(0, vR Γ 0), (1, vI x16), (2, vI x17), (3, vI x18), (4, vI x19), (5, vI x20), (6, vI x21)] [] γ (k33 γ x16 x17 x18 x19 x20 x21)) : ∀ (γ : St) (x1 : Int) (x2 : Int) (x3 : Int) (x4 : Int) (x5 : Int) (x6 : Int) (x7 : Int), i32 x1 → i32 x2 → i32 x3 → i32 x4 → i32 x5 → i32 x6 → i32 x7 → SB Γ BM mt_M_feed (RmN 7 262) 0 0 (KN Γ BM mt_M_feed.2.2.2) 86 [(0, vR Γ 0), (1, vI x1), (2, vI x2), (3, vI x3), (4, vI x4), (5, vI x5), (6, vI x6)] [vI x7] γ (f_M_feed_b86 k33 γ x1 x2 x3 x4 x5 x6 x7) := by
  intro γ x1 x2 x3 x4 x5 x6 x7 hx1 hx2 hx3 hx4 hx5 hx6 hx7
  unfold f_M_feed_b86
  refine sb_istore [(7, vI x7), (0, vR Γ 0), (1, vI x1), (2, vI x2), (3, vI x3), (4, vI x4), (5, vI x5), (6, vI x6)] d_M_feed_86 (by decide) rfl ?_
  refine sb_aload_n 1 d_M_feed_88 rfl ?_
  refine g_M_8 d_M_feed_89 ?_
  refine sb_aload_n 1 d_M_feed_92 rfl ?_
  refine sb_dup d_M_feed_93 rfl ?_
  refine g_M_14 d_M_feed_94 (fun c9 => ?_)
  refine sb_dup_x1 d_M_feed_97 rfl rfl ?_
  refine sb_iconst d_M_feed_98 ?_
  refine sb_iadd d_M_feed_99 ?_
  refine sb_chk (fun c10 => ?_)
  refine p_M_14 c10 d_M_feed_100 ?_
  refine sb_aps (fun γ11 => ?_)
  refine sb_iload 0 d_M_feed_103 rfl ?_
  refine sb_bipush d_M_feed_105 (by decide) ?_
  refine sb_bipush d_M_feed_107 (by decide) ?_
  refine sb_iload 7 d_M_feed_109 rfl ?_
  refine sb_iconst d_M_feed_111 ?_
  refine sb_irem (by decide) d_M_feed_112 (fun _ => ?_)
  refine sb_imul d_M_feed_113 ?_
  refine sb_chk (fun c12 => ?_)
  refine sb_isub d_M_feed_114 ?_
  refine sb_chk (fun c13 => ?_)
  refine sb_iushr d_M_feed_115 ?_
  refine sb_i2b d_M_feed_116 ?_
  refine sb_bast (i2b_b _) (i2b_n _) rfl rfl (by decide) d_M_feed_117 (fun _ => ?_)
  refine sb_aps (fun γ14 => ?_)
  refine sb_iinc 7 [(6, vI (x6 + 1)), (7, vI x7), (0, vR Γ 0), (1, vI x1), (2, vI x2), (3, vI x3), (4, vI x4), (5, vI x5)] d_M_feed_118 rfl (by decide) rfl ?_
  refine sb_chk (fun c15 => ?_)
  refine sb_goto 33 d_M_feed_121 (by decide) ?_
  exact sb_lv [2, 3, 4, 5, 6, 7, 0] rfl (hk33 γ14 x1 x2 x3 x4 x5 (x6 + 1) hx1 hx2 hx3 hx4 hx5 c15)
set_option maxHeartbeats 4000000 in
theorem s_M_feed_L33 {Γ : Ctx} : ∀ (n : Nat) (γ : St) (x22 : Int) (x23 : Int) (x24 : Int) (x25 : Int) (x26 : Int) (x27 : Int), i32 x22 → i32 x23 → i32 x24 → i32 x25 → i32 x26 → i32 x27 → SB Γ BM mt_M_feed (RmN 7 262) 0 0 (KN Γ BM mt_M_feed.2.2.2) 33 [(0, vR Γ 0), (1, vI x22), (2, vI x23), (3, vI x24), (4, vI x25), (5, vI x26), (6, vI x27)] [] γ (f_M_feed_L33 n γ x22 x23 x24 x25 x26 x27) := by
  intro n
  induction n with
  | zero => intros; exact sb_none
  | succ n ih =>
    intro γ x22 x23 x24 x25 x26 x27 hx22 hx23 hx24 hx25 hx26 hx27
    unfold f_M_feed_L33
    refine sb_iload 6 d_M_feed_33 rfl ?_
    refine sb_bipush d_M_feed_35 (by decide) ?_
    refine sb_icmp_ge 124 hx27 (by decide) d_M_feed_37 (by decide) (fun _ => ?_) (fun _ => ?_)
    · refine sb_aload_n 0 d_M_feed_124 rfl ?_
      refine g_M_14 d_M_feed_125 (fun c28 => ?_)
      exact sn_i rfl c28 d_M_feed_128
    · refine sb_iload 6 d_M_feed_40 rfl ?_
      refine sb_iconst d_M_feed_42 ?_
      refine sb_icmp_ge 50 hx27 (by decide) d_M_feed_43 (by decide) (fun _ => ?_) (fun _ => ?_)
      · refine sb_iload 6 d_M_feed_50 rfl ?_
        refine sb_bipush d_M_feed_52 (by decide) ?_
        refine sb_icmp_ge 61 hx27 (by decide) d_M_feed_54 (by decide) (fun _ => ?_) (fun _ => ?_)
        · refine sb_iload 6 d_M_feed_61 rfl ?_
          refine sb_bipush d_M_feed_63 (by decide) ?_
          refine sb_icmp_ge 72 hx27 (by decide) d_M_feed_65 (by decide) (fun _ => ?_) (fun _ => ?_)
          · refine sb_iload 6 d_M_feed_72 rfl ?_
            refine sb_bipush d_M_feed_74 (by decide) ?_
            refine sb_icmp_ge 84 hx27 (by decide) d_M_feed_76 (by decide) (fun _ => ?_) (fun _ => ?_)
            · refine sb_iload 5 d_M_feed_84 rfl ?_
              exact sb_lv [0, 1, 2, 3, 4, 5, 6] rfl (s_M_feed_b86 ih γ x22 x23 x24 x25 x26 x27 x26 hx22 hx23 hx24 hx25 hx26 hx27 hx26)
            · refine sb_iload 4 d_M_feed_79 rfl ?_
              refine sb_goto 86 d_M_feed_81 (by decide) ?_
              exact sb_lv [0, 1, 2, 3, 4, 5, 6] rfl (s_M_feed_b86 ih γ x22 x23 x24 x25 x26 x27 x25 hx22 hx23 hx24 hx25 hx26 hx27 hx25)
          · refine sb_iload_n 3 d_M_feed_68 rfl ?_
            refine sb_goto 86 d_M_feed_69 (by decide) ?_
            exact sb_lv [0, 1, 2, 3, 4, 5, 6] rfl (s_M_feed_b86 ih γ x22 x23 x24 x25 x26 x27 x24 hx22 hx23 hx24 hx25 hx26 hx27 hx24)
        · refine sb_iload_n 2 d_M_feed_57 rfl ?_
          refine sb_goto 86 d_M_feed_58 (by decide) ?_
          exact sb_lv [0, 1, 2, 3, 4, 5, 6] rfl (s_M_feed_b86 ih γ x22 x23 x24 x25 x26 x27 x23 hx22 hx23 hx24 hx25 hx26 hx27 hx23)
      · refine sb_iload_n 1 d_M_feed_46 rfl ?_
        refine sb_goto 86 d_M_feed_47 (by decide) ?_
        exact sb_lv [0, 1, 2, 3, 4, 5, 6] rfl (s_M_feed_b86 ih γ x22 x23 x24 x25 x26 x27 x22 hx22 hx23 hx24 hx25 hx26 hx27 hx22)
set_option maxHeartbeats 4000000 in
theorem s_M_feed_b22 {Γ : Ctx} : ∀ (γ : St) (x29 : Int) (x30 : Int) (x31 : Int) (x32 : Int) (x33 : Int) (x34 : Int) (x35 : Int), i32 x29 → i32 x30 → i32 x31 → i32 x32 → i32 x33 → i32 x34 → i32 x35 → SB Γ BM mt_M_feed (RmN 7 262) 0 0 (KN Γ BM mt_M_feed.2.2.2) 22 [(0, vR Γ 0), (1, vI x29), (2, vI x30), (3, vI x31), (4, vI x32), (5, vI x33)] [vI x34, vI x35, vR Γ 0] γ (f_M_feed_b22 γ x29 x30 x31 x32 x33 x34 x35) := by
  intro γ x29 x30 x31 x32 x33 x34 x35 hx29 hx30 hx31 hx32 hx33 hx34 hx35
  unfold f_M_feed_b22
  refine sb_cVz vf_M_refuse (c_M_refuse γ x35 x34 hx35 hx34) rfl ml_M_270 (As := [vI x35, vI x34]) rfl rfl (Nat.le_of_ble_eq_true rfl) ⟨by decide, by decide⟩ d_M_feed_22 (fun r36 γ37 hr36 => ?_)
  refine sb_if_eq 30 (z2i hr36) d_M_feed_25 (by decide) (fun _ => ?_) (fun _ => ?_)
  · refine sb_iconst d_M_feed_30 ?_
    refine sb_istore [(6, vI 0), (0, vR Γ 0), (1, vI x29), (2, vI x30), (3, vI x31), (4, vI x32), (5, vI x33)] d_M_feed_31 (by decide) rfl ?_
    exact sb_lv [1, 2, 3, 4, 5, 6, 0] rfl (s_M_feed_L33  FU γ37 x29 x30 x31 x32 x33 0 hx29 hx30 hx31 hx32 hx33 (by decide))
  · refine sb_iconst d_M_feed_28 ?_
    exact sn_i rfl (by decide) d_M_feed_29
set_option maxHeartbeats 4000000 in
theorem c_M_feed {Γ : Ctx} (γ : St) (a0 : Int) (a1 : Int) (a2 : Int) (a3 : Int) (a4 : Int) (ha0 : i32 a0) (ha1 : i32 a1) (ha2 : i32 a2) (ha3 : i32 a3) (ha4 : i32 a4) : NC Γ BM y_M_feed mt_M_feed 7 262 [vR Γ 0, vI a0, vI a1, vI a2, vI a3, vI a4] γ (f_M_feed γ a0 a1 a2 a3 a4) := by
  refine nc_of (by decide) rfl (Nat.le_of_ble_eq_true rfl) ?_
  show SB Γ BM mt_M_feed (RmN 7 262) 0 0 (KN Γ BM mt_M_feed.2.2.2) 0 [(0, vR Γ 0), (1, vI a0), (2, vI a1), (3, vI a2), (4, vI a3), (5, vI a4)] [] γ _
  unfold f_M_feed
  refine sb_aload_n 0 d_M_feed_0 rfl ?_
  refine sb_iconst d_M_feed_1 ?_
  refine p_M_18 (by decide) d_M_feed_2 ?_
  refine sb_aps (fun γ38 => ?_)
  refine sb_aload_n 0 d_M_feed_5 rfl ?_
  refine sb_iconst d_M_feed_6 ?_
  refine sb_aload_n 0 d_M_feed_7 rfl ?_
  refine g_M_14 d_M_feed_8 (fun c39 => ?_)
  refine sb_ldcw 65516 (by decide) ct_M_269 d_M_feed_11 ?_
  refine sb_icmp_le 21 c39 (by decide) d_M_feed_14 (by decide) (fun _ => ?_) (fun _ => ?_)
  · refine sb_iconst d_M_feed_21 ?_
    exact sb_lv [0, 1, 2, 3, 4, 5] rfl (s_M_feed_b22 γ38 a0 a1 a2 a3 a4 0 1 ha0 ha1 ha2 ha3 ha4 (by decide) (by decide))
  · refine sb_iconst d_M_feed_17 ?_
    refine sb_goto 22 d_M_feed_18 (by decide) ?_
    exact sb_lv [0, 1, 2, 3, 4, 5] rfl (s_M_feed_b22 γ38 a0 a1 a2 a3 a4 1 1 ha0 ha1 ha2 ha3 ha4 (by decide) (by decide))
theorem d_M_read_0 : decode b_M_read 0 = .ok (.aload_n 0, 1) := by decide +kernel
theorem d_M_read_1 : decode b_M_read 1 = .ok (.iconst 0, 1) := by decide +kernel
theorem d_M_read_2 : decode b_M_read 2 = .ok (.putfield 18, 3) := by decide +kernel
theorem d_M_read_5 : decode b_M_read 5 = .ok (.aload_n 0, 1) := by decide +kernel
theorem d_M_read_6 : decode b_M_read 6 = .ok (.iconst 0, 1) := by decide +kernel
theorem d_M_read_7 : decode b_M_read 7 = .ok (.putfield 27, 3) := by decide +kernel
theorem d_M_read_10 : decode b_M_read 10 = .ok (.aload_n 0, 1) := by decide +kernel
theorem d_M_read_11 : decode b_M_read 11 = .ok (.iconst 0, 1) := by decide +kernel
theorem d_M_read_12 : decode b_M_read 12 = .ok (.putfield 39, 3) := by decide +kernel
theorem d_M_read_15 : decode b_M_read 15 = .ok (.aload_n 0, 1) := by decide +kernel
theorem d_M_read_16 : decode b_M_read 16 = .ok (.iconst 0, 1) := by decide +kernel
theorem d_M_read_17 : decode b_M_read 17 = .ok (.putfield 21, 3) := by decide +kernel
theorem d_M_read_20 : decode b_M_read 20 = .ok (.aload_n 0, 1) := by decide +kernel
theorem d_M_read_21 : decode b_M_read 21 = .ok (.iconst 0, 1) := by decide +kernel
theorem d_M_read_22 : decode b_M_read 22 = .ok (.putfield 24, 3) := by decide +kernel
theorem d_M_read_25 : decode b_M_read 25 = .ok (.aload_n 0, 1) := by decide +kernel
theorem d_M_read_26 : decode b_M_read 26 = .ok (.iconst 0, 1) := by decide +kernel
theorem d_M_read_27 : decode b_M_read 27 = .ok (.putfield 68, 3) := by decide +kernel
theorem d_M_read_30 : decode b_M_read 30 = .ok (.aload_n 0, 1) := by decide +kernel
theorem d_M_read_31 : decode b_M_read 31 = .ok (.iconst 0, 1) := by decide +kernel
theorem d_M_read_32 : decode b_M_read 32 = .ok (.putfield 71, 3) := by decide +kernel
theorem d_M_read_35 : decode b_M_read 35 = .ok (.aload_n 0, 1) := by decide +kernel
theorem d_M_read_36 : decode b_M_read 36 = .ok (.iconst 0, 1) := by decide +kernel
theorem d_M_read_37 : decode b_M_read 37 = .ok (.putfield 106, 3) := by decide +kernel
theorem d_M_read_40 : decode b_M_read 40 = .ok (.aload_n 0, 1) := by decide +kernel
theorem d_M_read_41 : decode b_M_read 41 = .ok (.iconst 0, 1) := by decide +kernel
theorem d_M_read_42 : decode b_M_read 42 = .ok (.putfield 109, 3) := by decide +kernel
theorem d_M_read_45 : decode b_M_read 45 = .ok (.aload_n 0, 1) := by decide +kernel
theorem d_M_read_46 : decode b_M_read 46 = .ok (.getfield 93, 3) := by decide +kernel
theorem d_M_read_49 : decode b_M_read 49 = .ok (.iconst 0, 1) := by decide +kernel
theorem d_M_read_50 : decode b_M_read 50 = .ok (.iconst 0, 1) := by decide +kernel
theorem d_M_read_51 : decode b_M_read 51 = .ok (.iastore, 1) := by decide +kernel
theorem d_M_read_52 : decode b_M_read 52 = .ok (.aload_n 0, 1) := by decide +kernel
theorem d_M_read_53 : decode b_M_read 53 = .ok (.iconst 0, 1) := by decide +kernel
theorem d_M_read_54 : decode b_M_read 54 = .ok (.putfield 136, 3) := by decide +kernel
theorem d_M_read_57 : decode b_M_read 57 = .ok (.aload_n 0, 1) := by decide +kernel
theorem d_M_read_58 : decode b_M_read 58 = .ok (.iconst (-1), 1) := by decide +kernel
theorem d_M_read_59 : decode b_M_read 59 = .ok (.putfield 163, 3) := by decide +kernel
theorem d_M_read_62 : decode b_M_read 62 = .ok (.aload_n 0, 1) := by decide +kernel
theorem d_M_read_63 : decode b_M_read 63 = .ok (.iconst 0, 1) := by decide +kernel
theorem d_M_read_64 : decode b_M_read 64 = .ok (.putfield 166, 3) := by decide +kernel
theorem d_M_read_67 : decode b_M_read 67 = .ok (.aload_n 0, 1) := by decide +kernel
theorem d_M_read_68 : decode b_M_read 68 = .ok (.iconst 0, 1) := by decide +kernel
theorem d_M_read_69 : decode b_M_read 69 = .ok (.putfield 169, 3) := by decide +kernel
theorem d_M_read_72 : decode b_M_read 72 = .ok (.aload_n 0, 1) := by decide +kernel
theorem d_M_read_73 : decode b_M_read 73 = .ok (.iconst 0, 1) := by decide +kernel
theorem d_M_read_74 : decode b_M_read 74 = .ok (.putfield 172, 3) := by decide +kernel
theorem d_M_read_77 : decode b_M_read 77 = .ok (.aload_n 0, 1) := by decide +kernel
theorem d_M_read_78 : decode b_M_read 78 = .ok (.iconst 0, 1) := by decide +kernel
theorem d_M_read_79 : decode b_M_read 79 = .ok (.putfield 175, 3) := by decide +kernel
theorem d_M_read_82 : decode b_M_read 82 = .ok (.aload_n 0, 1) := by decide +kernel
theorem d_M_read_83 : decode b_M_read 83 = .ok (.iconst 0, 1) := by decide +kernel
theorem d_M_read_84 : decode b_M_read 84 = .ok (.putfield 178, 3) := by decide +kernel
theorem d_M_read_87 : decode b_M_read 87 = .ok (.aload_n 0, 1) := by decide +kernel
theorem d_M_read_88 : decode b_M_read 88 = .ok (.iconst 0, 1) := by decide +kernel
theorem d_M_read_89 : decode b_M_read 89 = .ok (.putfield 218, 3) := by decide +kernel
theorem d_M_read_92 : decode b_M_read 92 = .ok (.aload_n 0, 1) := by decide +kernel
theorem d_M_read_93 : decode b_M_read 93 = .ok (.iconst 0, 1) := by decide +kernel
theorem d_M_read_94 : decode b_M_read 94 = .ok (.putfield 233, 3) := by decide +kernel
theorem d_M_read_97 : decode b_M_read 97 = .ok (.aload_n 0, 1) := by decide +kernel
theorem d_M_read_98 : decode b_M_read 98 = .ok (.iconst 0, 1) := by decide +kernel
theorem d_M_read_99 : decode b_M_read 99 = .ok (.putfield 266, 3) := by decide +kernel
theorem d_M_read_102 : decode b_M_read 102 = .ok (.aload_n 0, 1) := by decide +kernel
theorem d_M_read_103 : decode b_M_read 103 = .ok (.invokevirtual 501, 3) := by decide +kernel
theorem d_M_read_106 : decode b_M_read 106 = .ok (.aload_n 0, 1) := by decide +kernel
theorem d_M_read_107 : decode b_M_read 107 = .ok (.invokevirtual 292, 3) := by decide +kernel
theorem d_M_read_110 : decode b_M_read 110 = .ok (.ifCond .ne (-8), 3) := by decide +kernel
theorem d_M_read_113 : decode b_M_read 113 = .ok (.iconst 0, 1) := by decide +kernel
theorem d_M_read_114 : decode b_M_read 114 = .ok (.istore_n 1, 1) := by decide +kernel
theorem d_M_read_115 : decode b_M_read 115 = .ok (.iload_n 1, 1) := by decide +kernel
theorem d_M_read_116 : decode b_M_read 116 = .ok (.aload_n 0, 1) := by decide +kernel
theorem d_M_read_117 : decode b_M_read 117 = .ok (.getfield 68, 3) := by decide +kernel
theorem d_M_read_120 : decode b_M_read 120 = .ok (.if_icmp .ge 19, 3) := by decide +kernel
theorem d_M_read_123 : decode b_M_read 123 = .ok (.aload_n 0, 1) := by decide +kernel
theorem d_M_read_124 : decode b_M_read 124 = .ok (.iload_n 1, 1) := by decide +kernel
theorem d_M_read_125 : decode b_M_read 125 = .ok (.invokevirtual 503, 3) := by decide +kernel
theorem d_M_read_128 : decode b_M_read 128 = .ok (.aload_n 0, 1) := by decide +kernel
theorem d_M_read_129 : decode b_M_read 129 = .ok (.iload_n 1, 1) := by decide +kernel
theorem d_M_read_130 : decode b_M_read 130 = .ok (.invokevirtual 506, 3) := by decide +kernel
theorem d_M_read_133 : decode b_M_read 133 = .ok (.iinc 1 1, 3) := by decide +kernel
theorem d_M_read_136 : decode b_M_read 136 = .ok (.goto (-21), 3) := by decide +kernel
theorem d_M_read_139 : decode b_M_read 139 = .ok (.aload_n 0, 1) := by decide +kernel
theorem d_M_read_140 : decode b_M_read 140 = .ok (.getfield 160, 3) := by decide +kernel
theorem d_M_read_143 : decode b_M_read 143 = .ok (.aload_n 0, 1) := by decide +kernel
theorem d_M_read_144 : decode b_M_read 144 = .ok (.getfield 68, 3) := by decide +kernel
theorem d_M_read_147 : decode b_M_read 147 = .ok (.iconst 1, 1) := by decide +kernel
theorem d_M_read_148 : decode b_M_read 148 = .ok (.isub, 1) := by decide +kernel
theorem d_M_read_149 : decode b_M_read 149 = .ok (.iaload, 1) := by decide +kernel
theorem d_M_read_150 : decode b_M_read 150 = .ok (.sipush 3000, 3) := by decide +kernel
theorem d_M_read_153 : decode b_M_read 153 = .ok (.if_icmp .gt 25, 3) := by decide +kernel
theorem d_M_read_156 : decode b_M_read 156 = .ok (.aload_n 0, 1) := by decide +kernel
theorem d_M_read_157 : decode b_M_read 157 = .ok (.getfield 181, 3) := by decide +kernel
theorem d_M_read_160 : decode b_M_read 160 = .ok (.aload_n 0, 1) := by decide +kernel
theorem d_M_read_161 : decode b_M_read 161 = .ok (.getfield 160, 3) := by decide +kernel
theorem d_M_read_164 : decode b_M_read 164 = .ok (.aload_n 0, 1) := by decide +kernel
theorem d_M_read_165 : decode b_M_read 165 = .ok (.getfield 68, 3) := by decide +kernel
theorem d_M_read_168 : decode b_M_read 168 = .ok (.iconst 1, 1) := by decide +kernel
theorem d_M_read_169 : decode b_M_read 169 = .ok (.isub, 1) := by decide +kernel
theorem d_M_read_170 : decode b_M_read 170 = .ok (.iaload, 1) := by decide +kernel
theorem d_M_read_171 : decode b_M_read 171 = .ok (.iadd, 1) := by decide +kernel
theorem d_M_read_172 : decode b_M_read 172 = .ok (.sipush 30000, 3) := by decide +kernel
theorem d_M_read_175 : decode b_M_read 175 = .ok (.if_icmp .le 16, 3) := by decide +kernel
theorem d_M_read_178 : decode b_M_read 178 = .ok (.new 296, 3) := by decide +kernel
theorem d_M_read_181 : decode b_M_read 181 = .ok (.dup, 1) := by decide +kernel
theorem d_M_read_182 : decode b_M_read 182 = .ok (.iconst 3, 1) := by decide +kernel
theorem d_M_read_183 : decode b_M_read 183 = .ok (.aload_n 0, 1) := by decide +kernel
theorem d_M_read_184 : decode b_M_read 184 = .ok (.getfield 14, 3) := by decide +kernel
theorem d_M_read_187 : decode b_M_read 187 = .ok (.invokespecial 298, 3) := by decide +kernel
theorem d_M_read_190 : decode b_M_read 190 = .ok (.athrow, 1) := by decide +kernel
theorem d_M_read_191 : decode b_M_read 191 = .ok (.aload_n 0, 1) := by decide +kernel
theorem d_M_read_192 : decode b_M_read 192 = .ok (.aload_n 0, 1) := by decide +kernel
theorem d_M_read_193 : decode b_M_read 193 = .ok (.getfield 68, 3) := by decide +kernel
theorem d_M_read_196 : decode b_M_read 196 = .ok (.iconst 1, 1) := by decide +kernel
theorem d_M_read_197 : decode b_M_read 197 = .ok (.isub, 1) := by decide +kernel
theorem d_M_read_198 : decode b_M_read 198 = .ok (.iconst (-1), 1) := by decide +kernel
theorem d_M_read_199 : decode b_M_read 199 = .ok (.iconst (-1), 1) := by decide +kernel
theorem d_M_read_200 : decode b_M_read 200 = .ok (.invokevirtual 474, 3) := by decide +kernel
theorem d_M_read_203 : decode b_M_read 203 = .ok (.pop, 1) := by decide +kernel
theorem d_M_read_204 : decode b_M_read 204 = .ok (.aload_n 0, 1) := by decide +kernel
theorem d_M_read_205 : decode b_M_read 205 = .ok (.dup, 1) := by decide +kernel
theorem d_M_read_206 : decode b_M_read 206 = .ok (.getfield 181, 3) := by decide +kernel
theorem d_M_read_209 : decode b_M_read 209 = .ok (.aload_n 0, 1) := by decide +kernel
theorem d_M_read_210 : decode b_M_read 210 = .ok (.getfield 160, 3) := by decide +kernel
theorem d_M_read_213 : decode b_M_read 213 = .ok (.aload_n 0, 1) := by decide +kernel
theorem d_M_read_214 : decode b_M_read 214 = .ok (.getfield 68, 3) := by decide +kernel
theorem d_M_read_217 : decode b_M_read 217 = .ok (.iconst 1, 1) := by decide +kernel
theorem d_M_read_218 : decode b_M_read 218 = .ok (.isub, 1) := by decide +kernel
theorem d_M_read_219 : decode b_M_read 219 = .ok (.iaload, 1) := by decide +kernel
theorem d_M_read_220 : decode b_M_read 220 = .ok (.iadd, 1) := by decide +kernel
theorem d_M_read_221 : decode b_M_read 221 = .ok (.putfield 181, 3) := by decide +kernel
theorem d_M_read_224 : decode b_M_read 224 = .ok (.iconst 0, 1) := by decide +kernel
theorem d_M_read_225 : decode b_M_read 225 = .ok (.istore_n 1, 1) := by decide +kernel
theorem d_M_read_226 : decode b_M_read 226 = .ok (.iload_n 1, 1) := by decide +kernel
theorem d_M_read_227 : decode b_M_read 227 = .ok (.aload_n 0, 1) := by decide +kernel
theorem d_M_read_228 : decode b_M_read 228 = .ok (.getfield 169, 3) := by decide +kernel
theorem d_M_read_231 : decode b_M_read 231 = .ok (.if_icmp .ge 14, 3) := by decide +kernel
theorem d_M_read_234 : decode b_M_read 234 = .ok (.aload_n 0, 1) := by decide +kernel
theorem d_M_read_235 : decode b_M_read 235 = .ok (.iload_n 1, 1) := by decide +kernel
theorem d_M_read_236 : decode b_M_read 236 = .ok (.invokevirtual 509, 3) := by decide +kernel
theorem d_M_read_239 : decode b_M_read 239 = .ok (.iinc 1 1, 3) := by decide +kernel
theorem d_M_read_242 : decode b_M_read 242 = .ok (.goto (-16), 3) := by decide +kernel
theorem d_M_read_245 : decode b_M_read 245 = .ok (.aload_n 0, 1) := by decide +kernel
theorem d_M_read_246 : decode b_M_read 246 = .ok (.getfield 211, 3) := by decide +kernel
theorem d_M_read_249 : decode b_M_read 249 = .ok (.aload_n 0, 1) := by decide +kernel
theorem d_M_read_250 : decode b_M_read 250 = .ok (.getfield 169, 3) := by decide +kernel
theorem d_M_read_253 : decode b_M_read 253 = .ok (.aload_n 0, 1) := by decide +kernel
theorem d_M_read_254 : decode b_M_read 254 = .ok (.getfield 218, 3) := by decide +kernel
theorem d_M_read_257 : decode b_M_read 257 = .ok (.iastore, 1) := by decide +kernel
theorem d_M_read_258 : decode b_M_read 258 = .ok (.aload_n 0, 1) := by decide +kernel
theorem d_M_read_259 : decode b_M_read 259 = .ok (.invokevirtual 512, 3) := by decide +kernel
theorem d_M_read_262 : decode b_M_read 262 = .ok (.aload_n 0, 1) := by decide +kernel
theorem d_M_read_263 : decode b_M_read 263 = .ok (.aload_n 0, 1) := by decide +kernel
theorem d_M_read_264 : decode b_M_read 264 = .ok (.getfield 68, 3) := by decide +kernel
theorem d_M_read_267 : decode b_M_read 267 = .ok (.iconst 1, 1) := by decide +kernel
theorem d_M_read_268 : decode b_M_read 268 = .ok (.isub, 1) := by decide +kernel
theorem d_M_read_269 : decode b_M_read 269 = .ok (.putfield 163, 3) := by decide +kernel
theorem d_M_read_272 : decode b_M_read 272 = .ok (.goto 20, 3) := by decide +kernel
theorem d_M_read_275 : decode b_M_read 275 = .ok (.astore_n 1, 1) := by decide +kernel
theorem d_M_read_276 : decode b_M_read 276 = .ok (.aload_n 0, 1) := by decide +kernel
theorem d_M_read_277 : decode b_M_read 277 = .ok (.aload_n 1, 1) := by decide +kernel
theorem d_M_read_278 : decode b_M_read 278 = .ok (.getfield 515, 3) := by decide +kernel
theorem d_M_read_281 : decode b_M_read 281 = .ok (.putfield 21, 3) := by decide +kernel
theorem d_M_read_284 : decode b_M_read 284 = .ok (.aload_n 0, 1) := by decide +kernel
theorem d_M_read_285 : decode b_M_read 285 = .ok (.aload_n 1, 1) := by decide +kernel
theorem d_M_read_286 : decode b_M_read 286 = .ok (.getfield 518, 3) := by decide +kernel
theorem d_M_read_289 : decode b_M_read 289 = .ok (.putfield 24, 3) := by decide +kernel
theorem d_M_read_292 : decode b_M_read 292 = .ok (.aload_n 0, 1) := by decide +kernel
theorem d_M_read_293 : decode b_M_read 293 = .ok (.iconst 0, 1) := by decide +kernel
theorem d_M_read_294 : decode b_M_read 294 = .ok (.putfield 14, 3) := by decide +kernel
theorem d_M_read_297 : decode b_M_read 297 = .ok (.aload_n 0, 1) := by decide +kernel
theorem d_M_read_298 : decode b_M_read 298 = .ok (.getfield 236, 3) := by decide +kernel
theorem d_M_read_301 : decode b_M_read 301 = .ok (.iconst 0, 1) := by decide +kernel
theorem d_M_read_302 : decode b_M_read 302 = .ok (.invokestatic 521, 3) := by decide +kernel
theorem d_M_read_305 : decode b_M_read 305 = .ok (.aload_n 0, 1) := by decide +kernel
theorem d_M_read_306 : decode b_M_read 306 = .ok (.getfield 242, 3) := by decide +kernel
theorem d_M_read_309 : decode b_M_read 309 = .ok (.iconst 0, 1) := by decide +kernel
theorem d_M_read_310 : decode b_M_read 310 = .ok (.invokestatic 521, 3) := by decide +kernel
theorem d_M_read_313 : decode b_M_read 313 = .ok (.aload_n 0, 1) := by decide +kernel
theorem d_M_read_314 : decode b_M_read 314 = .ok (.getfield 163, 3) := by decide +kernel
theorem d_M_read_317 : decode b_M_read 317 = .ok (.ifCond .ge 7, 3) := by decide +kernel
theorem d_M_read_320 : decode b_M_read 320 = .ok (.iconst (-1), 1) := by decide +kernel
theorem d_M_read_321 : decode b_M_read 321 = .ok (.goto 7, 3) := by decide +kernel
theorem d_M_read_324 : decode b_M_read 324 = .ok (.aload_n 0, 1) := by decide +kernel
theorem d_M_read_325 : decode b_M_read 325 = .ok (.getfield 169, 3) := by decide +kernel
theorem d_M_read_328 : decode b_M_read 328 = .ok (.ireturn, 1) := by decide +kernel
abbrev mt_M_read : MT := (R_M, b_M_read, 2, some .int)
abbrev RmR (fr lo : Nat) : Room := { frames := fr, cells := 1, slots := 9, locals := lo }
def KR (Γ : Ctx) : Kd (Int × St) := fun below args s z => MQ below (QN Γ BM (some .int) z) args s 1 9 (mA Γ BM s.heap.size)
theorem s9_i {Γ : Ctx} {R : Room} {ce sl pc : Nat} {lv : List (Nat × Value)} {γ : St} {r : Int} (h1 : ce ≤ 1) (h2 : sl ≤ 9) (h : i32 r) (d : decode mt_M_read.2.1 pc = .ok (.ireturn, 1)) : SB Γ BM mt_M_read R ce sl (KR Γ) pc lv [vI r] γ (some (r, γ)) := fun z hz p e s m args below meth c H locs ls X hc hw hl hP hS => by
  cases hz
  have hlk := X.lk
  exact W.widen (k := 1) (n := 9) h1 h2 (W.iret X.x X.b X.rt (fun t ht _ => ⟨⟨rfl, h, hw, by rw [ht]; exact hP⟩, hS.F ht⟩) hS.2.2 d)
def bndH (o : Option Res) (h : St → Int → Int → Option (Int × St)) (k : Int → St → Option (Int × St)) : Option (Int × St) := match o with
  | none => none
  | some (.inl e, γ) => h γ e.1 e.2
  | some (.inr r, γ) => k r γ
theorem xt_athN {p : Program} {l : Launch} {e : Env} {R : Room} {s : State} {m : MethodId} {args : Array Value} {below : List Frame} {meth : Method} {c : Code} {H : Heap} {locs : List Loc} {cells slots : Nat} {Q : State → Prop} {cc : ByteArray} {pc : Nat} {ls : Array Slot} {rest : List Value} {a : Nat} (hexec : p.tables.exec = Jvm.exec) (hb : c.code = cc) (hdg : decode cc pc = .ok (.athrow, 1)) (k : xt_N p l e R s m args below meth c H locs cells slots Q (F0 m pc ls rest) a) : W p l e R s m args below meth c H locs cells slots Q (F0 m pc ls (.ref a :: rest)) := by
  intro T hT X
  obtain ⟨t, a1, b1⟩ := k T hT X
  refine ⟨t, ?_, b1⟩
  jvm_step X.here [X.here.top, hexec, hb, hdg, athrow.wp_sem]
  exact a1
def f_M_read_b292 (γ : St) : Option (Int × St) :=
  ap (setA γ 0 1 0) fun γ2 =>
  ap (flA γ2 50 0 100 0) fun γ4 =>
  ap (flA γ4 52 0 6600 0) fun γ6 =>
  if 0 ≤ (γ6 0 49) then
  (some (γ6 0 51, γ6))
  else
  (some ((-1), γ6))
set_option maxHeartbeats 4000000 in
theorem s_M_read_b292 {Γ : Ctx} : ∀ (γ : St), SB Γ BM mt_M_read (RmR 917 63529) 0 0 (KR Γ) 292 [(0, vR Γ 0)] [] γ (f_M_read_b292 γ ) := by
  intro γ
  unfold f_M_read_b292
  refine sb_aload_n 0 d_M_read_292 rfl ?_
  refine sb_iconst d_M_read_293 ?_
  refine p_M_14 (by decide) d_M_read_294 ?_
  refine sb_aps (fun γ2 => ?_)
  refine sb_aload_n 0 d_M_read_297 rfl ?_
  refine g_M_236 d_M_read_298 ?_
  refine sb_iconst d_M_read_301 ?_
  refine sb_fill0 rfl rfl (by decide) (by decide) ml_M_521 (Nat.le_of_ble_eq_true rfl) ⟨by decide, by decide⟩ d_M_read_302 (fun γ4 => ?_)
  refine sb_aload_n 0 d_M_read_305 rfl ?_
  refine g_M_242 d_M_read_306 ?_
  refine sb_iconst d_M_read_309 ?_
  refine sb_fill0 rfl rfl (by decide) (by decide) ml_M_521 (Nat.le_of_ble_eq_true rfl) ⟨by decide, by decide⟩ d_M_read_310 (fun γ6 => ?_)
  refine sb_aload_n 0 d_M_read_313 rfl ?_
  refine g_M_163 d_M_read_314 (fun c7 => ?_)
  refine sb_if_ge 324 c7 d_M_read_317 (by decide) (fun _ => ?_) (fun _ => ?_)
  · refine sb_aload_n 0 d_M_read_324 rfl ?_
    refine g_M_169 d_M_read_325 (fun c8 => ?_)
    exact s9_i (by decide) (by decide) c8 d_M_read_328
  · refine sb_iconst d_M_read_320 ?_
    refine sb_goto 328 d_M_read_321 (by decide) ?_
    exact s9_i (by decide) (by decide) (by decide) d_M_read_328
set_option maxHeartbeats 4000000 in
theorem s1_M_read_b292 {Γ : Ctx} : ∀ (γ : St), SB Γ BM mt_M_read (RmR 917 63529) 1 8 (KR Γ) 292 [(0, vR Γ 0)] [] γ (f_M_read_b292 γ ) := by
  intro γ
  unfold f_M_read_b292
  refine sb_aload_n 0 d_M_read_292 rfl ?_
  refine sb_iconst d_M_read_293 ?_
  refine p_M_14 (by decide) d_M_read_294 ?_
  refine sb_aps (fun γ2 => ?_)
  refine sb_aload_n 0 d_M_read_297 rfl ?_
  refine g_M_236 d_M_read_298 ?_
  refine sb_iconst d_M_read_301 ?_
  refine sb_fill0 rfl rfl (by decide) (by decide) ml_M_521 (Nat.le_of_ble_eq_true rfl) ⟨by decide, by decide⟩ d_M_read_302 (fun γ4 => ?_)
  refine sb_aload_n 0 d_M_read_305 rfl ?_
  refine g_M_242 d_M_read_306 ?_
  refine sb_iconst d_M_read_309 ?_
  refine sb_fill0 rfl rfl (by decide) (by decide) ml_M_521 (Nat.le_of_ble_eq_true rfl) ⟨by decide, by decide⟩ d_M_read_310 (fun γ6 => ?_)
  refine sb_aload_n 0 d_M_read_313 rfl ?_
  refine g_M_163 d_M_read_314 (fun c7 => ?_)
  refine sb_if_ge 324 c7 d_M_read_317 (by decide) (fun _ => ?_) (fun _ => ?_)
  · refine sb_aload_n 0 d_M_read_324 rfl ?_
    refine g_M_169 d_M_read_325 (fun c8 => ?_)
    exact s9_i (by decide) (by decide) c8 d_M_read_328
  · refine sb_iconst d_M_read_320 ?_
    refine sb_goto 328 d_M_read_321 (by decide) ?_
    exact s9_i (by decide) (by decide) (by decide) d_M_read_328
def f_M_read_h (γ : St) (kd pl : Int) : Option (Int × St) := f_M_read_b292 (setA (setA γ 0 3 kd) 0 4 pl)
theorem wq_D {Γ : Ctx} {γ : St} {sz q : Nat} {x : va_E} (hap : apB Γ BM) (hqz : sz ≤ q) (hqa : ¬ adB Γ BM q) : va_D (mA Γ BM sz) (wB Γ γ 0 BM ++ [(q, x)]) := by
  refine va_D.app (wB_D hap γ) ⟨fun i j a b hi hj _ => ?_, fun k a hk => ?_⟩ (fun i j a b hi hj e => ?_)
  · have h1 := (List.getElem?_eq_some_iff.mp hi).1
    have h2 := (List.getElem?_eq_some_iff.mp hj).1
    simp at h1 h2
    omega
  · match k, hk with
    | 0, hk => cases hk; exact Or.inr hqz
    | k + 1, hk => simp at hk
  · obtain ⟨y, hy, rfl⟩ := wB_inv hi
    match j, hj with
    | 0, hj =>
      cases hj
      exact hqa ⟨i, (List.getElem?_eq_some_iff.mp hy).1, by simpa using e.symm⟩
    | j + 1, hj => simp at hj
theorem wq_put {Γ : Ctx} {γ : St} {q k ci : Nat} {ks : List Nat} {x : va_E} {v : Int} (hj : BM[0]? = some (.inr (ci, ks))) (hk : ks[k]? = some 0) : (wB Γ γ 0 BM ++ [(q, x)]).set 0 (Γ.a 0, .inr (ci, (fvals Γ.a (γ 0) 0 ks).set k (.int (iI v)))) = wB Γ (setA γ 0 k v) 0 BM ++ [(q, x)] := by
  rw [List.set_append_left _ _ (by rw [wB_len]; exact (List.getElem?_eq_some_iff.mp hj).1), ek_put hj hk]
/-- the handler: what was thrown is noted -/
theorem M_read_hd {Γ : Ctx} {γ : St} {kd pl : Int} (hkd : i32 kd) (hpl : i32 pl) {z : Int × St} (hz : f_M_read_h γ kd pl = some z) {p : Program} {e : Env} {s : State} {m : MethodId} {args : Array Value} {below : List Frame} {meth : Method} {c : Code} {H : Heap} {locs : List Loc} {ls : Array Slot} {lv : List (Nat × Value)} {n0 q : Nat} (X : CX Γ BM mt_M_read (RmR 917 63529) p s m args meth c) (hw : WB BM γ) (hl : lv_has ls 2 lv) (h0 : lv[n0]? = some (0, vR Γ 0)) (hP : va_P Γ.D kl (wB Γ γ 0 BM) H) (hq : va_P Γ.D kl [(q, .inr (13, wrF kd pl))] H) (hqz : s.heap.size ≤ q) (hqa : ¬ adB Γ BM q) (hS : va_S (mA Γ BM s.heap.size) s.heap H locs) : W p Γ.l e (RmR 917 63529) s m args below meth c H locs 1 8 (KR Γ below args s z) (F0 m 275 ls [.ref q]) := by
  have hb0 : ∃ ks, BM[0]? = some (.inr (12, ks)) ∧ ks[3]? = some 0 ∧ ks[4]? = some 0 := ⟨_, rfl, rfl, rfl⟩
  obtain ⟨ks, hj, hk1, hk2⟩ := hb0
  have hl := lv_sub hl [n0] (l' := [(0, vR Γ 0)]) (by simp [lv_pick, h0])
  refine lv_astore_n (lv' := [(1, .ref q), (0, vR Γ 0)]) X.x X.b d_M_read_275 rfl hl (by decide) rfl (fun ls hl => ?_)
  refine lv_aload_n X.x X.b d_M_read_276 rfl (lv_at hl 1 rfl) ?_
  refine lv_aload_n X.x X.b d_M_read_277 rfl (lv_at hl 0 rfl) ?_
  refine va_get (D := Γ.D) (ci := 13) (v := vI kd) (C := R_Wr) (T := T_Wr) (N := 8) X.x X.b X.G gi_Wr X.own X.K hq 0 rfl rfl 5 (by decide) (X.G _ fl_M_515) (fun _ h9 => h9) rfl d_M_read_278 ?_
  have hPq := hP.app hq
  have hg0 : (wB Γ γ 0 BM ++ [(q, .inr (13, wrF kd pl))])[0]? = some (Γ.a 0, .inr (12, fvals Γ.a (γ 0) 0 ks)) := by
    rw [List.getElem?_append_left (by rw [wB_len]; exact (List.getElem?_eq_some_iff.mp hj).1)]
    exact wB_at hj
  refine va_put (ty := .int) X.x X.b X.G kf_M.2.1 ty_M kf_M.2.2.1 kf_M.2.2.2 X.own X.K hPq (wq_D X.ap hqz hqa) hS 0 hg0 kf_M.1 3 (by decide) (X.G _ fl_M_21) (fun _ h => h) rfl rfl rfl rfl (by rw [fvals_len]; exact (List.getElem?_eq_some_iff.mp hk1).1) d_M_read_281 (fun H locs hPq _ hS => ?_)
  rw [wq_put hj hk1] at hPq
  have hPq : va_P Γ.D kl (wB Γ (setA γ 0 3 kd) 0 BM ++ [(q, .inr (13, wrF kd pl))]) H := hPq
  refine lv_aload_n X.x X.b d_M_read_284 rfl (lv_at hl 1 rfl) ?_
  refine lv_aload_n X.x X.b d_M_read_285 rfl (lv_at hl 0 rfl) ?_
  have hq : va_P Γ.D kl [(q, .inr (13, wrF kd pl))] H := fun k' x' hk' => by
    match k', hk' with
    | 0, hk' =>
      cases hk'
      exact hPq (wB Γ (setA γ 0 3 kd) 0 BM).length _ (by simp)
    | k' + 1, hk' => simp at hk'
  refine va_get (D := Γ.D) (ci := 13) (v := vI pl) (C := R_Wr) (T := T_Wr) (N := 8) X.x X.b X.G gi_Wr X.own X.K hq 0 rfl rfl 6 (by decide) (X.G _ fl_M_518) (fun _ h9 => h9) rfl d_M_read_286 ?_
  have hg0 : (wB Γ (setA γ 0 3 kd) 0 BM ++ [(q, .inr (13, wrF kd pl))])[0]? = some (Γ.a 0, .inr (12, fvals Γ.a (setA γ 0 3 kd 0) 0 ks)) := by
    rw [List.getElem?_append_left (by rw [wB_len]; exact (List.getElem?_eq_some_iff.mp hj).1)]
    exact wB_at hj
  refine va_put (ty := .int) X.x X.b X.G kf_M.2.1 ty_M kf_M.2.2.1 kf_M.2.2.2 X.own X.K hPq (wq_D X.ap hqz hqa) hS 0 hg0 kf_M.1 4 (by decide) (X.G _ fl_M_24) (fun _ h => h) rfl rfl rfl rfl (by rw [fvals_len]; exact (List.getElem?_eq_some_iff.mp hk2).1) d_M_read_289 (fun H locs hPq _ hS => ?_)
  rw [wq_put hj hk2] at hPq
  have hPq : va_P Γ.D kl (wB Γ (setA (setA γ 0 3 kd) 0 4 pl) 0 BM ++ [(q, .inr (13, wrF kd pl))]) H := hPq
  have hP : va_P Γ.D kl (wB Γ (setA (setA γ 0 3 kd) 0 4 pl) 0 BM) H := fun k' x' hk' => hPq k' x' (by rw [List.getElem?_append_left (List.getElem?_eq_some_iff.mp hk').1]; exact hk')
  exact s1_M_read_b292 _ z hz p e s m args below meth c H locs ls X ⟨by decide, by decide⟩ ((hw.set hkd).set hpl) (lv_sub hl [1] rfl) hP hS
theorem cl_1 {E : String} (h : E = "StreamNodesModel$Wrong") : Cond.classLink R_M 296 E ∈ gG := by
  subst h
  exact cl_M_296
section CH
variable {Γ : Ctx} {pc : Nat} {lv : List (Nat × Value)} {st : List Value} {γ : St}
theorem sb_callH {y : MethodName} {mu : MT} {fr lo n n0 index : Nat} {As st0 : List Value} {o1 : Option Res} {k : Int → St → Option (Int × St)} (F : VF y mu 12 n) (hC : TC Γ BM y mu fr lo (.ref (Γ.a 0) :: As) γ o1) (h1 : 102 ≤ pc) (h2 : pc < 272) (h0 : lv[n0]? = some (0, vR Γ 0)) (hm : Cond.methodLink R_M index y ∈ gG) (hn : As.length = n) (hst : st0 = As.reverse ++ vR Γ 0 :: st) (hW : (st.map fun v => v.category).sum ≤ 8) (hR : fr + 1 ≤ 917 ∧ 8 + (mu.2.2.1 + 11) + lo ≤ 63529) (d : decode b_M_read pc = .ok (.invokevirtual index, 3))
    (kk : ∀ r γ', rOK mu.2.2.2 r → SB Γ BM mt_M_read (RmR 917 63529) 0 0 (KR Γ) (pc + 3) lv (pR mu.2.2.2 r st) γ' (k r γ')) : SB Γ BM mt_M_read (RmR 917 63529) 0 0 (KR Γ) pc lv st0 γ (bndH o1 f_M_read_h k) := fun z hz p e s m args below meth c H locs ls X hc hw hl hP hS => by
  obtain ⟨f1, f2, f3, f4, f5, T, N, f6⟩ := F
  have hb0 := wB_at (Γ := Γ) (γ := γ) (B := BM) (j := 0) rfl
  cases ho : o1 with
  | none => rw [ho] at hz; cases hz
  | some z1 =>
    rw [ho] at hz
    have hM := hC z1 ho hw H.size
    have hSz := hS.1
    refine bm_callV (As := As) (rest := st) (g := F0 m pc ls st0) (b := Γ.a 0) (C := mu.1) ⟨X.x, X.b, X.ml, X.own, X.G⟩ hM (gcV n gG_good X.G hm f1 f2 f3 f4 rfl rfl f5 hR)
      ⟨mPre_blind, va_recv (q0 := 0) X.K hP f6 hb0, fun U hU hW => ⟨rfl, mPre_U X hP hS U hU hW⟩⟩ rfl hn hl.1 hst (lv_room (m := m) (pc := pc) (ls := ls) (rest := st0) hW) d ⟨by decide, by decide⟩ (fun v st₀ t H1 L e0 e1 hvm hQ hL => ?_) (fun q ce st₀ t H1 L e0 e1 hvm hQ hL haz hce hcv hcl => ?_)
    · obtain ⟨⟨r, hr, hv, hok, hwb, hPz⟩, hz1, hk1⟩ := hQ
      cases hv
      rw [e0] at hz1 hk1
      rw [e1] at hPz hz1 hk1
      obtain ⟨w1, γ1⟩ := z1
      cases hr
      exact kk r γ1 hok z hz p e s m args below meth c H1 (locs ++ L) ls X hc hwb hl hPz (va_S_call hS hz1 hk1 hL)
    · obtain ⟨⟨kd, pl, hr, b1, b2, hwb, hPz, hPq⟩, hz1, hk1⟩ := hQ
      rw [e0] at hz1 hk1
      rw [e1] at hPz hPq hz1 hk1
      obtain ⟨w1, γ1⟩ := z1
      cases hr
      have hS1 := va_S_call hS hz1 hk1 hL
      have hqa : ¬ adB Γ BM q := fun h => absurd (wB_lt hP h) (Nat.not_lt.mpr haz)
      exact xt_N1 X.own hce hcv hcl (X.hd (Nat.le_refl _)) h1 h2 (by decide) (X.G _ cl_M_296) (M_read_hd b1 b2 hz X hwb hl h0 hPz hPq (Nat.le_trans hSz haz) hqa hS1)
theorem sb_cHv {y : MethodName} {O : String} {b : ByteArray} {nl fr lo n n0 index : Nat} {As st0 : List Value} {o1 : Option Res} {k : Int → St → Option (Int × St)} (F : VF y (O, b, nl, none) 12 n) (hC : TC Γ BM y (O, b, nl, none) fr lo (.ref (Γ.a 0) :: As) γ o1) (h1 : 102 ≤ pc) (h2 : pc < 272) (h0 : lv[n0]? = some (0, vR Γ 0)) (hm : Cond.methodLink R_M index y ∈ gG) (hn : As.length = n) (hst : st0 = As.reverse ++ vR Γ 0 :: st) (hW : (st.map fun v => v.category).sum ≤ 8) (hR : fr + 1 ≤ 917 ∧ 8 + (nl + 11) + lo ≤ 63529) (d : decode b_M_read pc = .ok (.invokevirtual index, 3))
    (kk : ∀ r γ', SB Γ BM mt_M_read (RmR 917 63529) 0 0 (KR Γ) (pc + 3) lv st γ' (k r γ')) : SB Γ BM mt_M_read (RmR 917 63529) 0 0 (KR Γ) pc lv st0 γ (bndH o1 f_M_read_h k) := sb_callH F hC h1 h2 h0 hm hn hst hW hR d (fun r γ' _ => kk r γ')
theorem sb_cHi {y : MethodName} {O : String} {b : ByteArray} {nl fr lo n n0 index : Nat} {As st0 : List Value} {o1 : Option Res} {k : Int → St → Option (Int × St)} (F : VF y (O, b, nl, some .int) 12 n) (hC : TC Γ BM y (O, b, nl, some .int) fr lo (.ref (Γ.a 0) :: As) γ o1) (h1 : 102 ≤ pc) (h2 : pc < 272) (h0 : lv[n0]? = some (0, vR Γ 0)) (hm : Cond.methodLink R_M index y ∈ gG) (hn : As.length = n) (hst : st0 = As.reverse ++ vR Γ 0 :: st) (hW : (st.map fun v => v.category).sum ≤ 8) (hR : fr + 1 ≤ 917 ∧ 8 + (nl + 11) + lo ≤ 63529) (d : decode b_M_read pc = .ok (.invokevirtual index, 3))
    (kk : ∀ r γ', i32 r → SB Γ BM mt_M_read (RmR 917 63529) 0 0 (KR Γ) (pc + 3) lv (vI r :: st) γ' (k r γ')) : SB Γ BM mt_M_read (RmR 917 63529) 0 0 (KR Γ) pc lv st0 γ (bndH o1 f_M_read_h k) := sb_callH F hC h1 h2 h0 hm hn hst hW hR d kk
theorem sb_thrH {pc1 pc2 n0 : Nat} {γ1 γ2 : St} {kd pl : Int} (hM : mt_M_read.1 = R_M) (b1 : 102 ≤ pc2 + 3) (b2 : pc2 + 3 < 272) (g0 : lv[n0]? = some (0, vR Γ 0)) (h0 : decode b_M_read pc = .ok (.new 296, 3)) (h1 : decode b_M_read (pc + 3) = .ok (.dup, 1)) (p1 : PU Γ BM mt_M_read (RmR 917 63529) lv γ γ1 (pc + 4) pc1 (vI kd)) (p2 : PU Γ BM mt_M_read (RmR 917 63529) lv γ1 γ2 pc1 pc2 (vI pl)) (h2 : decode b_M_read pc2 = .ok (.invokespecial 298, 3)) (h3 : decode b_M_read (pc2 + 3) = .ok (.athrow, 1)) (hkd : i32 kd) (hpl : i32 pl) (hR : 5 ≤ 917 ∧ 122 ≤ 63529) : SB Γ BM mt_M_read (RmR 917 63529) 0 0 (KR Γ) pc lv [] γ (f_M_read_h γ2 kd pl) := fun z hz p e s m args below meth c H locs ls X hc hw hl hP hS => by
  refine mt_new (cells := 0) (slots := 0) X hM hP hS ⟨by decide, by decide⟩ h0 (fun q H hP hq hqz hqa hS => ?_)
  refine lv_dup X.x X.b h1 rfl ?_
  refine p1 p e s m args below meth c H locs ls _ _ _ _ X hw hl hP hS (by decide) (by decide) (Nat.le_of_ble_eq_true rfl) (fun H1 locs1 hw hP hz1 hk1 hS => ?_)
  have hql : q < H.size := (hq 0 _ rfl).lt
  have hq : va_P Γ.D kl [(q, .inr (13, wrF 0 0))] H1 := hq.kept (fun k' q' hk' => by
    match k', hk' with
    | 0, hk' => cases hk'; exact hk1 q hql hqa
    | k' + 1, hk' => simp at hk')
  refine p2 p e s m args below meth c H1 locs1 ls _ _ _ _ X hw hl hP hS (by decide) (by decide) (Nat.le_of_ble_eq_true rfl) (fun H2 locs2 hw hP hz2 hk2 hS => ?_)
  have hq : va_P Γ.D kl [(q, .inr (13, wrF 0 0))] H2 := hq.kept (fun k' q' hk' => by
    match k', hk' with
    | 0, hk' => cases hk'; exact hk2 q (Nat.lt_of_lt_of_le hql hz1) hqa
    | k' + 1, hk' => simp at hk')
  refine mt_init X hM hl.1 hP hq hqa hqz hS hR ⟨by decide, by decide⟩ (Nat.le_of_ble_eq_true rfl) h2 (fun H3 locs3 hP hq hS => ?_)
  obtain ⟨ce, hce, hcv, hcl⟩ := va_recv X.K hq (ci := 13) (q0 := 0) rfl rfl
  exact xt_athN X.x X.b h3 (xt_N1 X.own hce hcv hcl (X.hd (Nat.le_refl _)) b1 b2 (by decide) (X.G _ cl_M_296) (M_read_hd hkd hpl hz X hw hl g0 hP hq hqz hqa hS))
end CH
def f_M_read_b178 (γ : St) : Option (Int × St) :=
  f_M_read_h γ 3 (γ 0 1)
def f_M_read_b245 (γ : St) : Option (Int × St) :=
  chk (inb (γ 0 51) 6101) (ap (setA γ 44 (γ 0 51) (γ 0 67)) fun γ12 =>
  bndH (f_M_ordered γ12) f_M_read_h fun _ γ14 =>
  chk (i32 ((γ14 0 18) - 1)) (ap (setA γ14 0 49 ((γ14 0 18) - 1)) fun γ17 =>
  f_M_read_b292 γ17 ))
def f_M_read_L226 (x245 : St → Option (Int × St)) : Nat → St → Int → Option (Int × St)
  | 0, _, _ => none
  | n + 1, γ, x18 =>
  if (γ 0 51) ≤ x18 then
  (x245 γ )
  else
  (bndN (f_M_causes_0 γ x18) fun _ γ21 =>
  chk (i32 (x18 + 1)) ((f_M_read_L226 x245 n) γ21 (x18 + 1)))
def f_M_read_b139 (γ : St) : Option (Int × St) :=
  chk (i32 ((γ 0 18) - 1)) (chk (inb ((γ 0 18) - 1) 60) (if 3000 < (γ 34 ((γ 0 18) - 1)) then
  (f_M_read_b178 γ )
  else
  (chk (i32 ((γ 0 18) - 1)) (chk (inb ((γ 0 18) - 1) 60) (chk (i32 ((γ 0 55) + (γ 34 ((γ 0 18) - 1)))) (if ((γ 0 55) + (γ 34 ((γ 0 18) - 1))) ≤ 30000 then
  (chk (i32 ((γ 0 18) - 1)) (bndH (F_M_putIn γ ((γ 0 18) - 1) (-1) (-1)) f_M_read_h fun r35 γ36 =>
  chk (i32 ((γ36 0 18) - 1)) (chk (inb ((γ36 0 18) - 1) 60) (chk (i32 ((γ36 0 55) + (γ36 34 ((γ36 0 18) - 1)))) (ap (setA γ36 0 55 ((γ36 0 55) + (γ36 34 ((γ36 0 18) - 1)))) fun γ43 =>
  f_M_read_L226 (f_M_read_b245) FU γ43 0)))))
  else
  (f_M_read_b178 γ )))))))
def f_M_read_L115 (x139 : St → Option (Int × St)) : Nat → St → Int → Option (Int × St)
  | 0, _, _ => none
  | n + 1, γ, x44 =>
  if (γ 0 18) ≤ x44 then
  (x139 γ )
  else
  (bndN (f_M_around γ x44) fun _ γ47 =>
  bndN (f_M_countParts γ47 x44) fun _ γ49 =>
  chk (i32 (x44 + 1)) ((f_M_read_L115 x139 n) γ49 (x44 + 1)))
def f_M_read_b113 (γ : St) : Option (Int × St) :=
  f_M_read_L115 (f_M_read_b139) FU γ 0
def f_M_read_L102 (x113 : St → Option (Int × St)) : Nat → St → Option (Int × St)
  | 0, _ => none
  | n + 1, γ =>
  bndH (f_M_node γ) f_M_read_h fun _ γ52 =>
  bndN (f_M_peek γ52) fun r53 γ54 =>
  if r53 ≠ 0 then
  ((f_M_read_L102 x113 n) γ54 )
  else
  (x113 γ54 )
def f_M_read (γ : St) : Option (Int × St) :=
  ap (setA γ 0 2 0) fun γ55 =>
  ap (setA γ55 0 5 0) fun γ56 =>
  ap (setA γ56 0 9 0) fun γ57 =>
  ap (setA γ57 0 3 0) fun γ58 =>
  ap (setA γ58 0 4 0) fun γ59 =>
  ap (setA γ59 0 18 0) fun γ60 =>
  ap (setA γ60 0 19 0) fun γ61 =>
  ap (setA γ61 0 30 0) fun γ62 =>
  ap (setA γ62 0 31 0) fun γ63 =>
  chk (inb 0 17001) (ap (setA γ63 16 0 0) fun γ65 =>
  ap (setA γ65 0 40 0) fun γ66 =>
  ap (setA γ66 0 49 (-1)) fun γ67 =>
  ap (setA γ67 0 50 0) fun γ68 =>
  ap (setA γ68 0 51 0) fun γ69 =>
  ap (setA γ69 0 52 0) fun γ70 =>
  ap (setA γ70 0 53 0) fun γ71 =>
  ap (setA γ71 0 54 0) fun γ72 =>
  ap (setA γ72 0 67 0) fun γ73 =>
  ap (setA γ73 0 72 0) fun γ74 =>
  ap (setA γ74 0 83 0) fun γ75 =>
  f_M_read_L102 (f_M_read_b113) FU γ75 )
set_option maxHeartbeats 4000000 in
theorem s_M_read_b178 {Γ : Ctx} : ∀ (γ : St), SB Γ BM mt_M_read (RmR 917 63529) 0 0 (KR Γ) 178 [(0, vR Γ 0)] [] γ (f_M_read_b178 γ ) := by
  intro γ
  unfold f_M_read_b178
  refine sb_bd (j := 0) (i := 1) rfl (fun c1 => ?_)
  exact sb_thrH rfl (by decide) (by decide) (n0 := 0) rfl d_M_read_178 d_M_read_181 (pu_iconst d_M_read_182) (pu_fld kf_M 0 1 rfl rfl rfl (by decide) fl_M_14 d_M_read_183 d_M_read_184) d_M_read_187 d_M_read_190 (by decide) c1 ⟨by decide, by decide⟩
set_option maxHeartbeats 4000000 in
theorem s_M_read_b245 {Γ : Ctx} : ∀ (γ : St), SB Γ BM mt_M_read (RmR 917 63529) 0 0 (KR Γ) 245 [(0, vR Γ 0)] [] γ (f_M_read_b245 γ ) := by
  intro γ
  unfold f_M_read_b245
  refine sb_aload_n 0 d_M_read_245 rfl ?_
  refine g_M_211 d_M_read_246 ?_
  refine sb_aload_n 0 d_M_read_249 rfl ?_
  refine g_M_169 d_M_read_250 (fun c10 => ?_)
  refine sb_aload_n 0 d_M_read_253 rfl ?_
  refine g_M_218 d_M_read_254 (fun c11 => ?_)
  refine as_M_44 c11 d_M_read_257 (fun _ => ?_)
  refine sb_aps (fun γ12 => ?_)
  refine sb_aload_n 0 d_M_read_258 rfl ?_
  refine sb_cHv vf_M_ordered (c_M_ordered γ12  ) (by decide) (by decide) (n0 := 0) rfl ml_M_512 (As := []) rfl rfl (Nat.le_of_ble_eq_true rfl) ⟨by decide, by decide⟩ d_M_read_259 (fun _ γ14 => ?_)
  refine sb_aload_n 0 d_M_read_262 rfl ?_
  refine sb_aload_n 0 d_M_read_263 rfl ?_
  refine g_M_68 d_M_read_264 (fun c15 => ?_)
  refine sb_iconst d_M_read_267 ?_
  refine sb_isub d_M_read_268 ?_
  refine sb_chk (fun c16 => ?_)
  refine p_M_163 c16 d_M_read_269 ?_
  refine sb_aps (fun γ17 => ?_)
  refine sb_goto 292 d_M_read_272 (by decide) ?_
  exact sb_lv [0] rfl (s_M_read_b292 γ17  )
set_option maxHeartbeats 4000000 in
theorem s_M_read_L226 {Γ : Ctx} {x245 : St → Option (Int × St)} (hx245 : ∀ (γ : St), SB Γ BM mt_M_read (RmR 917 63529) 0 0 (KR Γ) 245 [(0, vR Γ 0)] [] γ (x245 γ )) : ∀ (n : Nat) (γ : St) (x18 : Int), i32 x18 → SB Γ BM mt_M_read (RmR 917 63529) 0 0 (KR Γ) 226 [(0, vR Γ 0), (1, vI x18)] [] γ (f_M_read_L226 x245 n γ x18) := by
  intro n
  induction n with
  | zero => intros; exact sb_none
  | succ n ih =>
    intro γ x18 hx18
    unfold f_M_read_L226
    refine sb_iload_n 1 d_M_read_226 rfl ?_
    refine sb_aload_n 0 d_M_read_227 rfl ?_
    refine g_M_169 d_M_read_228 (fun c19 => ?_)
    refine sb_icmp_ge 245 hx18 c19 d_M_read_231 (by decide) (fun _ => ?_) (fun _ => ?_)
    · exact sb_lv [0] rfl (hx245 γ  )
    · refine sb_aload_n 0 d_M_read_234 rfl ?_
      refine sb_iload_n 1 d_M_read_235 rfl ?_
      refine sb_cVv vf_M_causes_0 (c_M_causes_0 γ x18 hx18) rfl ml_M_509 (As := [vI x18]) rfl rfl (Nat.le_of_ble_eq_true rfl) ⟨by decide, by decide⟩ d_M_read_236 (fun _ γ21 => ?_)
      refine sb_iinc 1 [(1, vI (x18 + 1)), (0, vR Γ 0)] d_M_read_239 rfl (by decide) rfl ?_
      refine sb_chk (fun c22 => ?_)
      refine sb_goto 226 d_M_read_242 (by decide) ?_
      exact sb_lv [1, 0] rfl (ih γ21 (x18 + 1) c22)
set_option maxHeartbeats 4000000 in
theorem s_M_read_b139 {Γ : Ctx} : ∀ (γ : St), SB Γ BM mt_M_read (RmR 917 63529) 0 0 (KR Γ) 139 [(0, vR Γ 0)] [] γ (f_M_read_b139 γ ) := by
  intro γ
  unfold f_M_read_b139
  refine sb_aload_n 0 d_M_read_139 rfl ?_
  refine g_M_160 d_M_read_140 ?_
  refine sb_aload_n 0 d_M_read_143 rfl ?_
  refine g_M_68 d_M_read_144 (fun c24 => ?_)
  refine sb_iconst d_M_read_147 ?_
  refine sb_isub d_M_read_148 ?_
  refine sb_chk (fun c25 => ?_)
  refine al_M_34 d_M_read_149 (fun _ c26 => ?_)
  refine sb_sipush d_M_read_150 (by decide) ?_
  refine sb_icmp_gt 178 c26 (by decide) d_M_read_153 (by decide) (fun _ => ?_) (fun _ => ?_)
  · exact sb_lv [0] rfl (s_M_read_b178 γ  )
  · refine sb_aload_n 0 d_M_read_156 rfl ?_
    refine g_M_181 d_M_read_157 (fun c27 => ?_)
    refine sb_aload_n 0 d_M_read_160 rfl ?_
    refine g_M_160 d_M_read_161 ?_
    refine sb_aload_n 0 d_M_read_164 rfl ?_
    refine g_M_68 d_M_read_165 (fun c29 => ?_)
    refine sb_iconst d_M_read_168 ?_
    refine sb_isub d_M_read_169 ?_
    refine sb_chk (fun c30 => ?_)
    refine al_M_34 d_M_read_170 (fun _ c31 => ?_)
    refine sb_iadd d_M_read_171 ?_
    refine sb_chk (fun c32 => ?_)
    refine sb_sipush d_M_read_172 (by decide) ?_
    refine sb_icmp_le 191 c32 (by decide) d_M_read_175 (by decide) (fun _ => ?_) (fun _ => ?_)
    · refine sb_aload_n 0 d_M_read_191 rfl ?_
      refine sb_aload_n 0 d_M_read_192 rfl ?_
      refine g_M_68 d_M_read_193 (fun c33 => ?_)
      refine sb_iconst d_M_read_196 ?_
      refine sb_isub d_M_read_197 ?_
      refine sb_chk (fun c34 => ?_)
      refine sb_iconst d_M_read_198 ?_
      refine sb_iconst d_M_read_199 ?_
      refine sb_cHi vf_M_putIn (C_M_putIn γ ((γ 0 18) - 1) (-1) (-1) c34 (by decide) (by decide)) (by decide) (by decide) (n0 := 0) rfl ml_M_474 (As := [vI ((γ 0 18) - 1), vI (-1), vI (-1)]) rfl rfl (Nat.le_of_ble_eq_true rfl) ⟨by decide, by decide⟩ d_M_read_200 (fun r35 γ36 hr35 => ?_)
      refine sb_pop d_M_read_203 rfl ?_
      refine sb_aload_n 0 d_M_read_204 rfl ?_
      refine sb_dup d_M_read_205 rfl ?_
      refine g_M_181 d_M_read_206 (fun c37 => ?_)
      refine sb_aload_n 0 d_M_read_209 rfl ?_
      refine g_M_160 d_M_read_210 ?_
      refine sb_aload_n 0 d_M_read_213 rfl ?_
      refine g_M_68 d_M_read_214 (fun c39 => ?_)
      refine sb_iconst d_M_read_217 ?_
      refine sb_isub d_M_read_218 ?_
      refine sb_chk (fun c40 => ?_)
      refine al_M_34 d_M_read_219 (fun _ c41 => ?_)
      refine sb_iadd d_M_read_220 ?_
      refine sb_chk (fun c42 => ?_)
      refine p_M_181 c42 d_M_read_221 ?_
      refine sb_aps (fun γ43 => ?_)
      refine sb_iconst d_M_read_224 ?_
      refine sb_istore_n [(1, vI 0), (0, vR Γ 0)] d_M_read_225 (by decide) rfl ?_
      exact sb_lv [1, 0] rfl (s_M_read_L226 (s_M_read_b245) FU γ43 0 (by decide))
    · exact sb_lv [0] rfl (s_M_read_b178 γ  )
set_option maxHeartbeats 4000000 in
theorem s_M_read_L115 {Γ : Ctx} {x139 : St → Option (Int × St)} (hx139 : ∀ (γ : St), SB Γ BM mt_M_read (RmR 917 63529) 0 0 (KR Γ) 139 [(0, vR Γ 0)] [] γ (x139 γ )) : ∀ (n : Nat) (γ : St) (x44 : Int), i32 x44 → SB Γ BM mt_M_read (RmR 917 63529) 0 0 (KR Γ) 115 [(0, vR Γ 0), (1, vI x44)] [] γ (f_M_read_L115 x139 n γ x44) := by
  intro n
  induction n with
  | zero => intros; exact sb_none
  | succ n ih =>
    intro γ x44 hx44
    unfold f_M_read_L115
    refine sb_iload_n 1 d_M_read_115 rfl ?_
    refine sb_aload_n 0 d_M_read_116 rfl ?_
    refine g_M_68 d_M_read_117 (fun c45 => ?_)
    refine sb_icmp_ge 139 hx44 c45 d_M_read_120 (by decide) (fun _ => ?_) (fun _ => ?_)
    · exact sb_lv [0] rfl (hx139 γ  )
    · refine sb_aload_n 0 d_M_read_123 rfl ?_
      refine sb_iload_n 1 d_M_read_124 rfl ?_
      refine sb_cVv vf_M_around (c_M_around γ x44 hx44) rfl ml_M_503 (As := [vI x44]) rfl rfl (Nat.le_of_ble_eq_true rfl) ⟨by decide, by decide⟩ d_M_read_125 (fun _ γ47 => ?_)
      refine sb_aload_n 0 d_M_read_128 rfl ?_
      refine sb_iload_n 1 d_M_read_129 rfl ?_
      refine sb_cVv vf_M_countParts (c_M_countParts γ47 x44 hx44) rfl ml_M_506 (As := [vI x44]) rfl rfl (Nat.le_of_ble_eq_true rfl) ⟨by decide, by decide⟩ d_M_read_130 (fun _ γ49 => ?_)
      refine sb_iinc 1 [(1, vI (x44 + 1)), (0, vR Γ 0)] d_M_read_133 rfl (by decide) rfl ?_
      refine sb_chk (fun c50 => ?_)
      refine sb_goto 115 d_M_read_136 (by decide) ?_
      exact sb_lv [1, 0] rfl (ih γ49 (x44 + 1) c50)
set_option maxHeartbeats 4000000 in
theorem s_M_read_b113 {Γ : Ctx} : ∀ (γ : St), SB Γ BM mt_M_read (RmR 917 63529) 0 0 (KR Γ) 113 [(0, vR Γ 0)] [] γ (f_M_read_b113 γ ) := by
  intro γ
  unfold f_M_read_b113
  refine sb_iconst d_M_read_113 ?_
  refine sb_istore_n [(1, vI 0), (0, vR Γ 0)] d_M_read_114 (by decide) rfl ?_
  exact sb_lv [1, 0] rfl (s_M_read_L115 (s_M_read_b139) FU γ 0 (by decide))
set_option maxHeartbeats 4000000 in
theorem s_M_read_L102 {Γ : Ctx} {x113 : St → Option (Int × St)} (hx113 : ∀ (γ : St), SB Γ BM mt_M_read (RmR 917 63529) 0 0 (KR Γ) 113 [(0, vR Γ 0)] [] γ (x113 γ )) : ∀ (n : Nat) (γ : St), SB Γ BM mt_M_read (RmR 917 63529) 0 0 (KR Γ) 102 [(0, vR Γ 0)] [] γ (f_M_read_L102 x113 n γ ) := by
  intro n
  induction n with
  | zero => intros; exact sb_none
  | succ n ih =>
    intro γ
    unfold f_M_read_L102
    refine sb_aload_n 0 d_M_read_102 rfl ?_
    refine sb_cHv vf_M_node (c_M_node γ  ) (by decide) (by decide) (n0 := 0) rfl ml_M_501 (As := []) rfl rfl (Nat.le_of_ble_eq_true rfl) ⟨by decide, by decide⟩ d_M_read_103 (fun _ γ52 => ?_)
    refine sb_aload_n 0 d_M_read_106 rfl ?_
    refine sb_cVi vf_M_peek (c_M_peek γ52  ) rfl ml_M_292 (As := []) rfl rfl (Nat.le_of_ble_eq_true rfl) ⟨by decide, by decide⟩ d_M_read_107 (fun r53 γ54 hr53 => ?_)
    refine sb_if_ne 102 hr53 d_M_read_110 (by decide) (fun _ => ?_) (fun _ => ?_)
    · exact sb_lv [0] rfl (ih γ54  )
    · exact sb_lv [0] rfl (hx113 γ54  )
set_option maxHeartbeats 4000000 in
theorem s_M_read {Γ : Ctx} (γ : St) : SB Γ BM mt_M_read (RmR 917 63529) 0 0 (KR Γ) 0 [(0, vR Γ 0)] [] γ (f_M_read γ) := by
  unfold f_M_read
  refine sb_aload_n 0 d_M_read_0 rfl ?_
  refine sb_iconst d_M_read_1 ?_
  refine p_M_18 (by decide) d_M_read_2 ?_
  refine sb_aps (fun γ55 => ?_)
  refine sb_aload_n 0 d_M_read_5 rfl ?_
  refine sb_iconst d_M_read_6 ?_
  refine p_M_27 (by decide) d_M_read_7 ?_
  refine sb_aps (fun γ56 => ?_)
  refine sb_aload_n 0 d_M_read_10 rfl ?_
  refine sb_iconst d_M_read_11 ?_
  refine p_M_39 (by decide) d_M_read_12 ?_
  refine sb_aps (fun γ57 => ?_)
  refine sb_aload_n 0 d_M_read_15 rfl ?_
  refine sb_iconst d_M_read_16 ?_
  refine p_M_21 (by decide) d_M_read_17 ?_
  refine sb_aps (fun γ58 => ?_)
  refine sb_aload_n 0 d_M_read_20 rfl ?_
  refine sb_iconst d_M_read_21 ?_
  refine p_M_24 (by decide) d_M_read_22 ?_
  refine sb_aps (fun γ59 => ?_)
  refine sb_aload_n 0 d_M_read_25 rfl ?_
  refine sb_iconst d_M_read_26 ?_
  refine p_M_68 (by decide) d_M_read_27 ?_
  refine sb_aps (fun γ60 => ?_)
  refine sb_aload_n 0 d_M_read_30 rfl ?_
  refine sb_iconst d_M_read_31 ?_
  refine p_M_71 (by decide) d_M_read_32 ?_
  refine sb_aps (fun γ61 => ?_)
  refine sb_aload_n 0 d_M_read_35 rfl ?_
  refine sb_iconst d_M_read_36 ?_
  refine p_M_106 (by decide) d_M_read_37 ?_
  refine sb_aps (fun γ62 => ?_)
  refine sb_aload_n 0 d_M_read_40 rfl ?_
  refine sb_iconst d_M_read_41 ?_
  refine p_M_109 (by decide) d_M_read_42 ?_
  refine sb_aps (fun γ63 => ?_)
  refine sb_aload_n 0 d_M_read_45 rfl ?_
  refine g_M_93 d_M_read_46 ?_
  refine sb_iconst d_M_read_49 ?_
  refine sb_iconst d_M_read_50 ?_
  refine as_M_16 (by decide) d_M_read_51 (fun _ => ?_)
  refine sb_aps (fun γ65 => ?_)
  refine sb_aload_n 0 d_M_read_52 rfl ?_
  refine sb_iconst d_M_read_53 ?_
  refine p_M_136 (by decide) d_M_read_54 ?_
  refine sb_aps (fun γ66 => ?_)
  refine sb_aload_n 0 d_M_read_57 rfl ?_
  refine sb_iconst d_M_read_58 ?_
  refine p_M_163 (by decide) d_M_read_59 ?_
  refine sb_aps (fun γ67 => ?_)
  refine sb_aload_n 0 d_M_read_62 rfl ?_
  refine sb_iconst d_M_read_63 ?_
  refine p_M_166 (by decide) d_M_read_64 ?_
  refine sb_aps (fun γ68 => ?_)
  refine sb_aload_n 0 d_M_read_67 rfl ?_
  refine sb_iconst d_M_read_68 ?_
  refine p_M_169 (by decide) d_M_read_69 ?_
  refine sb_aps (fun γ69 => ?_)
  refine sb_aload_n 0 d_M_read_72 rfl ?_
  refine sb_iconst d_M_read_73 ?_
  refine p_M_172 (by decide) d_M_read_74 ?_
  refine sb_aps (fun γ70 => ?_)
  refine sb_aload_n 0 d_M_read_77 rfl ?_
  refine sb_iconst d_M_read_78 ?_
  refine p_M_175 (by decide) d_M_read_79 ?_
  refine sb_aps (fun γ71 => ?_)
  refine sb_aload_n 0 d_M_read_82 rfl ?_
  refine sb_iconst d_M_read_83 ?_
  refine p_M_178 (by decide) d_M_read_84 ?_
  refine sb_aps (fun γ72 => ?_)
  refine sb_aload_n 0 d_M_read_87 rfl ?_
  refine sb_iconst d_M_read_88 ?_
  refine p_M_218 (by decide) d_M_read_89 ?_
  refine sb_aps (fun γ73 => ?_)
  refine sb_aload_n 0 d_M_read_92 rfl ?_
  refine sb_iconst d_M_read_93 ?_
  refine p_M_233 (by decide) d_M_read_94 ?_
  refine sb_aps (fun γ74 => ?_)
  refine sb_aload_n 0 d_M_read_97 rfl ?_
  refine sb_iconst d_M_read_98 ?_
  refine p_M_266 (by decide) d_M_read_99 ?_
  refine sb_aps (fun γ75 => ?_)
  exact sb_lv [0] rfl (s_M_read_L102 (s_M_read_b113) FU γ75  )
theorem c_M_read {Γ : Ctx} {γ : St} {z : Int × St} (hz : f_M_read γ = some z) (hw : WB BM γ) (sz : Nat) : Met Γ.l y_M_read (Cond.codeWith y_M_read b_M_read 2 (some .int) [(102, 272, 275, 296)] :: gG) (RmR 917 63529) (va_Pc [.ref (Γ.a 0)] (mPre Γ BM γ sz)) (QN Γ BM (some .int) z) 1 9 (mA Γ BM sz) := by
  refine mx_ofW (cc := b_M_read) (maxL := 2) (ret := (some .int)) (hh := [(102, 272, 275, 296)]) (by decide) rfl ?_
  intro p e s m args below meth c s₁ B1 hml htab hv
  obtain ⟨rfl, hsz, hP, hK, hnd, hE⟩ := hv
  have hts := atoms_spec (ws := Cond.codeWith y_M_read b_M_read 2 (some .int) [(102, 272, 275, 296)] :: gG) B1.pre
  have hG : ∀ w9 ∈ gG, w9.before [.ref (Γ.a 0)].toArray s = true := fun w9 h => hts w9 (List.mem_cons_of_mem _ h)
  have hown : s.vm.findClass R_M = some m.cls := findClass_of_methodNamed B1.named
  subst hsz
  have hl := lv_entry [.ref (Γ.a 0)] (n := 2) (Nat.le_of_ble_eq_true rfl)
  rw [lg_entry_eq]
  generalize (lg_sl [.ref (Γ.a 0)] ++ List.replicate (2 - (lg_sl [.ref (Γ.a 0)]).length) Slot.unset).toArray = ls at hl ⊢
  exact s_M_read γ z hz p e s m _ below meth c s.heap [] ls ⟨B1.exec, B1.bytes, hml, hown, hG, hK, hnd, hE, B1.returns, B1.notSynchronized, fun h => absurd (show (9 : Nat) < 9 from h) (by decide), fun _ => htab, wB_ns hP⟩ ⟨Nat.zero_le _, Nat.zero_le _⟩ hw hl hP va_S.rf
