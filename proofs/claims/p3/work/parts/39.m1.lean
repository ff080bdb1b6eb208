/-! the reference as functions: its lexer -/
theorem d_M_thrown_0 : decode b_M_thrown 0 = .ok (.aload_n 0, 1) := by decide +kernel
theorem d_M_thrown_1 : decode b_M_thrown 1 = .ok (.getfield 18, 3) := by decide +kernel
theorem d_M_thrown_4 : decode b_M_thrown 4 = .ok (.ireturn, 1) := by decide +kernel
abbrev mt_M_thrown : MT := (R_M, b_M_thrown, 1, some .int)
theorem vf_M_thrown : VF y_M_thrown mt_M_thrown 12 0 := ⟨im_M_thrown, se_M_thrown, in_M, co_M_thrown, by decide +kernel, _, _, rfl⟩
def f_M_thrown (γ : St) : Option (Int × St) :=
  some (γ 0 2, γ)
set_option maxHeartbeats 4000000 in
theorem c_M_thrown {Γ : Ctx} (γ : St) : NC Γ BM y_M_thrown mt_M_thrown 6 240 [vR Γ 0] γ (f_M_thrown γ) := by
  refine nc_of (by decide) rfl (Nat.le_of_ble_eq_true rfl) ?_
  show SB Γ BM mt_M_thrown (RmN 6 240) 0 0 (KN Γ BM mt_M_thrown.2.2.2) 0 [(0, vR Γ 0)] [] γ _
  unfold f_M_thrown
  refine sb_aload_n 0 d_M_thrown_0 rfl ?_
  refine g_M_18 d_M_thrown_1 (fun c1 => ?_)
  exact sn_i rfl c1 d_M_thrown_4
theorem d_M_refuse_0 : decode b_M_refuse 0 = .ok (.iload_n 2, 1) := by decide +kernel
theorem d_M_refuse_1 : decode b_M_refuse 1 = .ok (.ifCond .eq 8, 3) := by decide +kernel
theorem d_M_refuse_4 : decode b_M_refuse 4 = .ok (.aload_n 0, 1) := by decide +kernel
theorem d_M_refuse_5 : decode b_M_refuse 5 = .ok (.iload_n 1, 1) := by decide +kernel
theorem d_M_refuse_6 : decode b_M_refuse 6 = .ok (.putfield 18, 3) := by decide +kernel
theorem d_M_refuse_9 : decode b_M_refuse 9 = .ok (.iload_n 2, 1) := by decide +kernel
theorem d_M_refuse_10 : decode b_M_refuse 10 = .ok (.ireturn, 1) := by decide +kernel
abbrev mt_M_refuse : MT := (R_M, b_M_refuse, 3, some .boolean)
theorem vf_M_refuse : VF y_M_refuse mt_M_refuse 12 2 := ⟨im_M_refuse, se_M_refuse, in_M, co_M_refuse, by decide +kernel, _, _, rfl⟩
def f_M_refuse (γ : St) (a0 : Int) (a1 : Int) : Option (Int × St) :=
  if a1 = 0 then
  (chk (a1 = 0 ∨ a1 = 1) (some (a1, γ)))
  else
  (ap (setA γ 0 2 a0) fun γ2 =>
  chk (a1 = 0 ∨ a1 = 1) (some (a1, γ2)))
set_option maxHeartbeats 4000000 in
theorem c_M_refuse {Γ : Ctx} (γ : St) (a0 : Int) (a1 : Int) (ha0 : i32 a0) (ha1 : i32 a1) : NC Γ BM y_M_refuse mt_M_refuse 6 240 [vR Γ 0, vI a0, vI a1] γ (f_M_refuse γ a0 a1) := by
  refine nc_of (by decide) rfl (Nat.le_of_ble_eq_true rfl) ?_
  show SB Γ BM mt_M_refuse (RmN 6 240) 0 0 (KN Γ BM mt_M_refuse.2.2.2) 0 [(0, vR Γ 0), (1, vI a0), (2, vI a1)] [] γ _
  unfold f_M_refuse
  refine sb_iload_n 2 d_M_refuse_0 rfl ?_
  refine sb_if_eq 9 ha1 d_M_refuse_1 (by decide) (fun _ => ?_) (fun _ => ?_)
  · refine sb_iload_n 2 d_M_refuse_9 rfl ?_
    refine sb_chk (fun c1 => ?_)
    exact sn_z rfl c1 d_M_refuse_10
  · refine sb_aload_n 0 d_M_refuse_4 rfl ?_
    refine sb_iload_n 1 d_M_refuse_5 rfl ?_
    refine p_M_18 ha0 d_M_refuse_6 ?_
    refine sb_aps (fun γ2 => ?_)
    refine sb_iload_n 2 d_M_refuse_9 rfl ?_
    refine sb_chk (fun c3 => ?_)
    exact sn_z rfl c3 d_M_refuse_10
theorem d_M_end_0 : decode b_M_end 0 = .ok (.aload_n 0, 1) := by decide +kernel
theorem d_M_end_1 : decode b_M_end 1 = .ok (.iconst 0, 1) := by decide +kernel
theorem d_M_end_2 : decode b_M_end 2 = .ok (.putfield 18, 3) := by decide +kernel
theorem d_M_end_5 : decode b_M_end 5 = .ok (.aload_n 0, 1) := by decide +kernel
theorem d_M_end_6 : decode b_M_end 6 = .ok (.iconst 1, 1) := by decide +kernel
theorem d_M_end_7 : decode b_M_end 7 = .ok (.iload_n 1, 1) := by decide +kernel
theorem d_M_end_8 : decode b_M_end 8 = .ok (.ifCond .lt 11, 3) := by decide +kernel
theorem d_M_end_11 : decode b_M_end 11 = .ok (.iload_n 1, 1) := by decide +kernel
theorem d_M_end_12 : decode b_M_end 12 = .ok (.aload_n 0, 1) := by decide +kernel
theorem d_M_end_13 : decode b_M_end 13 = .ok (.getfield 14, 3) := by decide +kernel
theorem d_M_end_16 : decode b_M_end 16 = .ok (.if_icmp .le 7, 3) := by decide +kernel
theorem d_M_end_19 : decode b_M_end 19 = .ok (.iconst 1, 1) := by decide +kernel
theorem d_M_end_20 : decode b_M_end 20 = .ok (.goto 4, 3) := by decide +kernel
theorem d_M_end_23 : decode b_M_end 23 = .ok (.iconst 0, 1) := by decide +kernel
theorem d_M_end_24 : decode b_M_end 24 = .ok (.invokevirtual 270, 3) := by decide +kernel
theorem d_M_end_27 : decode b_M_end 27 = .ok (.ifCond .eq 5, 3) := by decide +kernel
theorem d_M_end_30 : decode b_M_end 30 = .ok (.iconst 0, 1) := by decide +kernel
theorem d_M_end_31 : decode b_M_end 31 = .ok (.ireturn, 1) := by decide +kernel
theorem d_M_end_32 : decode b_M_end 32 = .ok (.aload_n 0, 1) := by decide +kernel
theorem d_M_end_33 : decode b_M_end 33 = .ok (.iload_n 1, 1) := by decide +kernel
theorem d_M_end_34 : decode b_M_end 34 = .ok (.putfield 14, 3) := by decide +kernel
theorem d_M_end_37 : decode b_M_end 37 = .ok (.iload_n 1, 1) := by decide +kernel
theorem d_M_end_38 : decode b_M_end 38 = .ok (.ireturn, 1) := by decide +kernel
abbrev mt_M_end : MT := (R_M, b_M_end, 2, some .int)
theorem vf_M_end : VF y_M_end mt_M_end 12 1 := ⟨im_M_end, se_M_end, in_M, co_M_end, by decide +kernel, _, _, rfl⟩
def f_M_end_b24 (γ : St) (x1 : Int) (x2 : Int) (x3 : Int) : Option (Int × St) :=
  bndN (f_M_refuse γ x3 x2) fun r4 γ5 =>
  if r4 = 0 then
  (ap (setA γ5 0 1 x1) fun γ6 =>
  some (x1, γ6))
  else
  (some (0, γ5))
def f_M_end_b19 (γ : St) (x7 : Int) (x8 : Int) : Option (Int × St) :=
  f_M_end_b24 γ x7 1 x8
def f_M_end (γ : St) (a0 : Int) : Option (Int × St) :=
  ap (setA γ 0 2 0) fun γ9 =>
  if a0 < 0 then
  (f_M_end_b19 γ9 a0 1)
  else
  (if a0 ≤ (γ9 0 1) then
  (f_M_end_b24 γ9 a0 0 1)
  else
  (f_M_end_b19 γ9 a0 1))
set_option maxHeartbeats 4000000 in
theorem s_M_end_b24 {Γ : Ctx} : ∀ (γ : St) (x1 : Int) (x2 : Int) (x3 : Int), i32 x1 → i32 x2 → i32 x3 → SB Γ BM mt_M_end (RmN 7 262) 0 0 (KN Γ BM mt_M_end.2.2.2) 24 [(0, vR Γ 0), (1, vI x1)] [vI x2, vI x3, vR Γ 0] γ (f_M_end_b24 γ x1 x2 x3) := by
  intro γ x1 x2 x3 hx1 hx2 hx3
  unfold f_M_end_b24
  refine sb_cVz vf_M_refuse (c_M_refuse γ x3 x2 hx3 hx2) rfl ml_M_270 (As := [vI x3, vI x2]) rfl rfl (Nat.le_of_ble_eq_true rfl) ⟨by decide, by decide⟩ d_M_end_24 (fun r4 γ5 hr4 => ?_)
  refine sb_if_eq 32 (z2i hr4) d_M_end_27 (by decide) (fun _ => ?_) (fun _ => ?_)
  · refine sb_aload_n 0 d_M_end_32 rfl ?_
    refine sb_iload_n 1 d_M_end_33 rfl ?_
    refine p_M_14 hx1 d_M_end_34 ?_
    refine sb_aps (fun γ6 => ?_)
    refine sb_iload_n 1 d_M_end_37 rfl ?_
    exact sn_i rfl hx1 d_M_end_38
  · refine sb_iconst d_M_end_30 ?_
    exact sn_i rfl (by decide) d_M_end_31
set_option maxHeartbeats 4000000 in
theorem s_M_end_b19 {Γ : Ctx} : ∀ (γ : St) (x7 : Int) (x8 : Int), i32 x7 → i32 x8 → SB Γ BM mt_M_end (RmN 7 262) 0 0 (KN Γ BM mt_M_end.2.2.2) 19 [(0, vR Γ 0), (1, vI x7)] [vI x8, vR Γ 0] γ (f_M_end_b19 γ x7 x8) := by
  intro γ x7 x8 hx7 hx8
  unfold f_M_end_b19
  refine sb_iconst d_M_end_19 ?_
  refine sb_goto 24 d_M_end_20 (by decide) ?_
  exact sb_lv [0, 1] rfl (s_M_end_b24 γ x7 1 x8 hx7 (by decide) hx8)
set_option maxHeartbeats 4000000 in
theorem c_M_end {Γ : Ctx} (γ : St) (a0 : Int) (ha0 : i32 a0) : NC Γ BM y_M_end mt_M_end 7 262 [vR Γ 0, vI a0] γ (f_M_end γ a0) := by
  refine nc_of (by decide) rfl (Nat.le_of_ble_eq_true rfl) ?_
  show SB Γ BM mt_M_end (RmN 7 262) 0 0 (KN Γ BM mt_M_end.2.2.2) 0 [(0, vR Γ 0), (1, vI a0)] [] γ _
  unfold f_M_end
  refine sb_aload_n 0 d_M_end_0 rfl ?_
  refine sb_iconst d_M_end_1 ?_
  refine p_M_18 (by decide) d_M_end_2 ?_
  refine sb_aps (fun γ9 => ?_)
  refine sb_aload_n 0 d_M_end_5 rfl ?_
  refine sb_iconst d_M_end_6 ?_
  refine sb_iload_n 1 d_M_end_7 rfl ?_
  refine sb_if_lt 19 ha0 d_M_end_8 (by decide) (fun _ => ?_) (fun _ => ?_)
  · exact sb_lv [0, 1] rfl (s_M_end_b19 γ9 a0 1 ha0 (by decide))
  · refine sb_iload_n 1 d_M_end_11 rfl ?_
    refine sb_aload_n 0 d_M_end_12 rfl ?_
    refine g_M_14 d_M_end_13 (fun c10 => ?_)
    refine sb_icmp_le 23 ha0 c10 d_M_end_16 (by decide) (fun _ => ?_) (fun _ => ?_)
    · refine sb_iconst d_M_end_23 ?_
      exact sb_lv [0, 1] rfl (s_M_end_b24 γ9 a0 0 1 ha0 (by decide) (by decide))
    · exact sb_lv [0, 1] rfl (s_M_end_b19 γ9 a0 1 ha0 (by decide))
theorem d_M_digit_0 : decode b_M_digit 0 = .ok (.iload_n 0, 1) := by decide +kernel
theorem d_M_digit_1 : decode b_M_digit 1 = .ok (.bipush 48, 2) := by decide +kernel
theorem d_M_digit_3 : decode b_M_digit 3 = .ok (.if_icmp .lt 13, 3) := by decide +kernel
theorem d_M_digit_6 : decode b_M_digit 6 = .ok (.iload_n 0, 1) := by decide +kernel
theorem d_M_digit_7 : decode b_M_digit 7 = .ok (.bipush 57, 2) := by decide +kernel
theorem d_M_digit_9 : decode b_M_digit 9 = .ok (.if_icmp .gt 7, 3) := by decide +kernel
theorem d_M_digit_12 : decode b_M_digit 12 = .ok (.iconst 1, 1) := by decide +kernel
theorem d_M_digit_13 : decode b_M_digit 13 = .ok (.goto 4, 3) := by decide +kernel
theorem d_M_digit_16 : decode b_M_digit 16 = .ok (.iconst 0, 1) := by decide +kernel
theorem d_M_digit_17 : decode b_M_digit 17 = .ok (.ireturn, 1) := by decide +kernel
abbrev mt_M_digit : MT := (R_M, b_M_digit, 1, some .boolean)
theorem vf_M_digit : SF y_M_digit mt_M_digit 1 := ⟨sm_M_digit, in_M, co_M_digit, by decide +kernel⟩
def f_M_digit (γ : St) (a0 : Int) : Option (Int × St) :=
  if a0 < 48 then
  (some (0, γ))
  else
  (if 57 < a0 then
  (some (0, γ))
  else
  (some (1, γ)))
set_option maxHeartbeats 4000000 in
theorem c_M_digit {Γ : Ctx} (γ : St) (a0 : Int) (ha0 : i32 a0) : NC Γ BM y_M_digit mt_M_digit 6 240 [vI a0] γ (f_M_digit γ a0) := by
  refine nc_of (by decide) rfl (Nat.le_of_ble_eq_true rfl) ?_
  show SB Γ BM mt_M_digit (RmN 6 240) 0 0 (KN Γ BM mt_M_digit.2.2.2) 0 [(0, vI a0)] [] γ _
  unfold f_M_digit
  refine sb_iload_n 0 d_M_digit_0 rfl ?_
  refine sb_bipush d_M_digit_1 (by decide) ?_
  refine sb_icmp_lt 16 ha0 (by decide) d_M_digit_3 (by decide) (fun _ => ?_) (fun _ => ?_)
  · refine sb_iconst d_M_digit_16 ?_
    exact sn_z rfl (by decide) d_M_digit_17
  · refine sb_iload_n 0 d_M_digit_6 rfl ?_
    refine sb_bipush d_M_digit_7 (by decide) ?_
    refine sb_icmp_gt 16 ha0 (by decide) d_M_digit_9 (by decide) (fun _ => ?_) (fun _ => ?_)
    · refine sb_iconst d_M_digit_16 ?_
      exact sn_z rfl (by decide) d_M_digit_17
    · refine sb_iconst d_M_digit_12 ?_
      refine sb_goto 17 d_M_digit_13 (by decide) ?_
      exact sn_z rfl (by decide) d_M_digit_17
theorem d_M_letter_0 : decode b_M_letter 0 = .ok (.iload_n 0, 1) := by decide +kernel
theorem d_M_letter_1 : decode b_M_letter 1 = .ok (.bipush 97, 2) := by decide +kernel
theorem d_M_letter_3 : decode b_M_letter 3 = .ok (.if_icmp .lt 9, 3) := by decide +kernel
theorem d_M_letter_6 : decode b_M_letter 6 = .ok (.iload_n 0, 1) := by decide +kernel
theorem d_M_letter_7 : decode b_M_letter 7 = .ok (.bipush 122, 2) := by decide +kernel
theorem d_M_letter_9 : decode b_M_letter 9 = .ok (.if_icmp .le 15, 3) := by decide +kernel
theorem d_M_letter_12 : decode b_M_letter 12 = .ok (.iload_n 0, 1) := by decide +kernel
theorem d_M_letter_13 : decode b_M_letter 13 = .ok (.bipush 65, 2) := by decide +kernel
theorem d_M_letter_15 : decode b_M_letter 15 = .ok (.if_icmp .lt 13, 3) := by decide +kernel
theorem d_M_letter_18 : decode b_M_letter 18 = .ok (.iload_n 0, 1) := by decide +kernel
theorem d_M_letter_19 : decode b_M_letter 19 = .ok (.bipush 90, 2) := by decide +kernel
theorem d_M_letter_21 : decode b_M_letter 21 = .ok (.if_icmp .gt 7, 3) := by decide +kernel
theorem d_M_letter_24 : decode b_M_letter 24 = .ok (.iconst 1, 1) := by decide +kernel
theorem d_M_letter_25 : decode b_M_letter 25 = .ok (.goto 4, 3) := by decide +kernel
theorem d_M_letter_28 : decode b_M_letter 28 = .ok (.iconst 0, 1) := by decide +kernel
theorem d_M_letter_29 : decode b_M_letter 29 = .ok (.ireturn, 1) := by decide +kernel
abbrev mt_M_letter : MT := (R_M, b_M_letter, 1, some .boolean)
theorem vf_M_letter : SF y_M_letter mt_M_letter 1 := ⟨sm_M_letter, in_M, co_M_letter, by decide +kernel⟩
def f_M_letter_b12 (γ : St) (x1 : Int) : Option (Int × St) :=
  if x1 < 65 then
  (some (0, γ))
  else
  (if 90 < x1 then
  (some (0, γ))
  else
  (some (1, γ)))
def f_M_letter (γ : St) (a0 : Int) : Option (Int × St) :=
  if a0 < 97 then
  (f_M_letter_b12 γ a0)
  else
  (if a0 ≤ 122 then
  (some (1, γ))
  else
  (f_M_letter_b12 γ a0))
set_option maxHeartbeats 4000000 in
theorem s_M_letter_b12 {Γ : Ctx} : ∀ (γ : St) (x1 : Int), i32 x1 → SB Γ BM mt_M_letter (RmN 6 240) 0 0 (KN Γ BM mt_M_letter.2.2.2) 12 [(0, vI x1)] [] γ (f_M_letter_b12 γ x1) := by
  intro γ x1 hx1
  unfold f_M_letter_b12
  refine sb_iload_n 0 d_M_letter_12 rfl ?_
  refine sb_bipush d_M_letter_13 (by decide) ?_
  refine sb_icmp_lt 28 hx1 (by decide) d_M_letter_15 (by decide) (fun _ => ?_) (fun _ => ?_)
  · refine sb_iconst d_M_letter_28 ?_
    exact sn_z rfl (by decide) d_M_letter_29
  · refine sb_iload_n 0 d_M_letter_18 rfl ?_
    refine sb_bipush d_M_letter_19 (by decide) ?_
    refine sb_icmp_gt 28 hx1 (by decide) d_M_letter_21 (by decide) (fun _ => ?_) (fun _ => ?_)
    · refine sb_iconst d_M_letter_28 ?_
      exact sn_z rfl (by decide) d_M_letter_29
    · refine sb_iconst d_M_letter_24 ?_
      refine sb_goto 29 d_M_letter_25 (by decide) ?_
      exact sn_z rfl (by decide) d_M_letter_29
set_option maxHeartbeats 4000000 in
theorem c_M_letter {Γ : Ctx} (γ : St) (a0 : Int) (ha0 : i32 a0) : NC Γ BM y_M_letter mt_M_letter 6 240 [vI a0] γ (f_M_letter γ a0) := by
  refine nc_of (by decide) rfl (Nat.le_of_ble_eq_true rfl) ?_
  show SB Γ BM mt_M_letter (RmN 6 240) 0 0 (KN Γ BM mt_M_letter.2.2.2) 0 [(0, vI a0)] [] γ _
  unfold f_M_letter
  refine sb_iload_n 0 d_M_letter_0 rfl ?_
  refine sb_bipush d_M_letter_1 (by decide) ?_
  refine sb_icmp_lt 12 ha0 (by decide) d_M_letter_3 (by decide) (fun _ => ?_) (fun _ => ?_)
  · exact sb_lv [0] rfl (s_M_letter_b12 γ a0 ha0)
  · refine sb_iload_n 0 d_M_letter_6 rfl ?_
    refine sb_bipush d_M_letter_7 (by decide) ?_
    refine sb_icmp_le 24 ha0 (by decide) d_M_letter_9 (by decide) (fun _ => ?_) (fun _ => ?_)
    · refine sb_iconst d_M_letter_24 ?_
      refine sb_goto 29 d_M_letter_25 (by decide) ?_
      exact sn_z rfl (by decide) d_M_letter_29
    · exact sb_lv [0] rfl (s_M_letter_b12 γ a0 ha0)
theorem d_M_byteAt_0 : decode b_M_byteAt 0 = .ok (.iload_n 1, 1) := by decide +kernel
theorem d_M_byteAt_1 : decode b_M_byteAt 1 = .ok (.aload_n 0, 1) := by decide +kernel
theorem d_M_byteAt_2 : decode b_M_byteAt 2 = .ok (.getfield 14, 3) := by decide +kernel
theorem d_M_byteAt_5 : decode b_M_byteAt 5 = .ok (.if_icmp .ge 12, 3) := by decide +kernel
theorem d_M_byteAt_8 : decode b_M_byteAt 8 = .ok (.aload_n 0, 1) := by decide +kernel
theorem d_M_byteAt_9 : decode b_M_byteAt 9 = .ok (.getfield 8, 3) := by decide +kernel
theorem d_M_byteAt_12 : decode b_M_byteAt 12 = .ok (.iload_n 1, 1) := by decide +kernel
theorem d_M_byteAt_13 : decode b_M_byteAt 13 = .ok (.baload, 1) := by decide +kernel
theorem d_M_byteAt_14 : decode b_M_byteAt 14 = .ok (.goto 4, 3) := by decide +kernel
theorem d_M_byteAt_17 : decode b_M_byteAt 17 = .ok (.iconst 0, 1) := by decide +kernel
theorem d_M_byteAt_18 : decode b_M_byteAt 18 = .ok (.ireturn, 1) := by decide +kernel
abbrev mt_M_byteAt : MT := (R_M, b_M_byteAt, 2, some .int)
theorem vf_M_byteAt : VF y_M_byteAt mt_M_byteAt 12 1 := ⟨im_M_byteAt, se_M_byteAt, in_M, co_M_byteAt, by decide +kernel, _, _, rfl⟩
def f_M_byteAt (γ : St) (a0 : Int) : Option (Int × St) :=
  if (γ 0 1) ≤ a0 then
  (some (0, γ))
  else
  (chk (inb a0 65536) (some (γ 1 a0, γ)))
set_option maxHeartbeats 4000000 in
theorem c_M_byteAt {Γ : Ctx} (γ : St) (a0 : Int) (ha0 : i32 a0) : NC Γ BM y_M_byteAt mt_M_byteAt 6 240 [vR Γ 0, vI a0] γ (f_M_byteAt γ a0) := by
  refine nc_of (by decide) rfl (Nat.le_of_ble_eq_true rfl) ?_
  show SB Γ BM mt_M_byteAt (RmN 6 240) 0 0 (KN Γ BM mt_M_byteAt.2.2.2) 0 [(0, vR Γ 0), (1, vI a0)] [] γ _
  unfold f_M_byteAt
  refine sb_iload_n 1 d_M_byteAt_0 rfl ?_
  refine sb_aload_n 0 d_M_byteAt_1 rfl ?_
  refine g_M_14 d_M_byteAt_2 (fun c1 => ?_)
  refine sb_icmp_ge 17 ha0 c1 d_M_byteAt_5 (by decide) (fun _ => ?_) (fun _ => ?_)
  · refine sb_iconst d_M_byteAt_17 ?_
    exact sn_i rfl (by decide) d_M_byteAt_18
  · refine sb_aload_n 0 d_M_byteAt_8 rfl ?_
    refine g_M_8 d_M_byteAt_9 ?_
    refine sb_iload_n 1 d_M_byteAt_12 rfl ?_
    refine al_M_1 d_M_byteAt_13 (fun _ c3 => ?_)
    refine sb_goto 18 d_M_byteAt_14 (by decide) ?_
    exact sn_i rfl c3 d_M_byteAt_18
theorem d_M_parts_0 : decode b_M_parts 0 = .ok (.aload_n 0, 1) := by decide +kernel
theorem d_M_parts_1 : decode b_M_parts 1 = .ok (.getfield 27, 3) := by decide +kernel
theorem d_M_parts_4 : decode b_M_parts 4 = .ok (.aload_n 0, 1) := by decide +kernel
theorem d_M_parts_5 : decode b_M_parts 5 = .ok (.getfield 14, 3) := by decide +kernel
theorem d_M_parts_8 : decode b_M_parts 8 = .ok (.if_icmp .ge 113, 3) := by decide +kernel
theorem d_M_parts_11 : decode b_M_parts 11 = .ok (.aload_n 0, 1) := by decide +kernel
theorem d_M_parts_12 : decode b_M_parts 12 = .ok (.getfield 8, 3) := by decide +kernel
theorem d_M_parts_15 : decode b_M_parts 15 = .ok (.aload_n 0, 1) := by decide +kernel
theorem d_M_parts_16 : decode b_M_parts 16 = .ok (.getfield 27, 3) := by decide +kernel
theorem d_M_parts_19 : decode b_M_parts 19 = .ok (.baload, 1) := by decide +kernel
theorem d_M_parts_20 : decode b_M_parts 20 = .ok (.istore_n 1, 1) := by decide +kernel
theorem d_M_parts_21 : decode b_M_parts 21 = .ok (.iload_n 1, 1) := by decide +kernel
theorem d_M_parts_22 : decode b_M_parts 22 = .ok (.bipush 45, 2) := by decide +kernel
theorem d_M_parts_24 : decode b_M_parts 24 = .ok (.if_icmp .ne 56, 3) := by decide +kernel
theorem d_M_parts_27 : decode b_M_parts 27 = .ok (.aload_n 0, 1) := by decide +kernel
theorem d_M_parts_28 : decode b_M_parts 28 = .ok (.aload_n 0, 1) := by decide +kernel
theorem d_M_parts_29 : decode b_M_parts 29 = .ok (.getfield 27, 3) := by decide +kernel
theorem d_M_parts_32 : decode b_M_parts 32 = .ok (.iconst 1, 1) := by decide +kernel
theorem d_M_parts_33 : decode b_M_parts 33 = .ok (.iadd, 1) := by decide +kernel
theorem d_M_parts_34 : decode b_M_parts 34 = .ok (.invokevirtual 274, 3) := by decide +kernel
theorem d_M_parts_37 : decode b_M_parts 37 = .ok (.bipush 45, 2) := by decide +kernel
theorem d_M_parts_39 : decode b_M_parts 39 = .ok (.if_icmp .ne 41, 3) := by decide +kernel
theorem d_M_parts_42 : decode b_M_parts 42 = .ok (.aload_n 0, 1) := by decide +kernel
theorem d_M_parts_43 : decode b_M_parts 43 = .ok (.getfield 27, 3) := by decide +kernel
theorem d_M_parts_46 : decode b_M_parts 46 = .ok (.aload_n 0, 1) := by decide +kernel
theorem d_M_parts_47 : decode b_M_parts 47 = .ok (.getfield 14, 3) := by decide +kernel
theorem d_M_parts_50 : decode b_M_parts 50 = .ok (.if_icmp .ge 68, 3) := by decide +kernel
theorem d_M_parts_53 : decode b_M_parts 53 = .ok (.aload_n 0, 1) := by decide +kernel
theorem d_M_parts_54 : decode b_M_parts 54 = .ok (.getfield 8, 3) := by decide +kernel
theorem d_M_parts_57 : decode b_M_parts 57 = .ok (.aload_n 0, 1) := by decide +kernel
theorem d_M_parts_58 : decode b_M_parts 58 = .ok (.getfield 27, 3) := by decide +kernel
theorem d_M_parts_61 : decode b_M_parts 61 = .ok (.baload, 1) := by decide +kernel
theorem d_M_parts_62 : decode b_M_parts 62 = .ok (.bipush 10, 2) := by decide +kernel
theorem d_M_parts_64 : decode b_M_parts 64 = .ok (.if_icmp .eq 54, 3) := by decide +kernel
theorem d_M_parts_67 : decode b_M_parts 67 = .ok (.aload_n 0, 1) := by decide +kernel
theorem d_M_parts_68 : decode b_M_parts 68 = .ok (.dup, 1) := by decide +kernel
theorem d_M_parts_69 : decode b_M_parts 69 = .ok (.getfield 27, 3) := by decide +kernel
theorem d_M_parts_72 : decode b_M_parts 72 = .ok (.iconst 1, 1) := by decide +kernel
theorem d_M_parts_73 : decode b_M_parts 73 = .ok (.iadd, 1) := by decide +kernel
theorem d_M_parts_74 : decode b_M_parts 74 = .ok (.putfield 27, 3) := by decide +kernel
theorem d_M_parts_77 : decode b_M_parts 77 = .ok (.goto (-35), 3) := by decide +kernel
theorem d_M_parts_80 : decode b_M_parts 80 = .ok (.iload_n 1, 1) := by decide +kernel
theorem d_M_parts_81 : decode b_M_parts 81 = .ok (.bipush 32, 2) := by decide +kernel
theorem d_M_parts_83 : decode b_M_parts 83 = .ok (.if_icmp .eq 21, 3) := by decide +kernel
theorem d_M_parts_86 : decode b_M_parts 86 = .ok (.iload_n 1, 1) := by decide +kernel
theorem d_M_parts_87 : decode b_M_parts 87 = .ok (.bipush 9, 2) := by decide +kernel
theorem d_M_parts_89 : decode b_M_parts 89 = .ok (.if_icmp .eq 15, 3) := by decide +kernel
theorem d_M_parts_92 : decode b_M_parts 92 = .ok (.iload_n 1, 1) := by decide +kernel
theorem d_M_parts_93 : decode b_M_parts 93 = .ok (.bipush 10, 2) := by decide +kernel
theorem d_M_parts_95 : decode b_M_parts 95 = .ok (.if_icmp .eq 9, 3) := by decide +kernel
theorem d_M_parts_98 : decode b_M_parts 98 = .ok (.iload_n 1, 1) := by decide +kernel
theorem d_M_parts_99 : decode b_M_parts 99 = .ok (.bipush 13, 2) := by decide +kernel
theorem d_M_parts_101 : decode b_M_parts 101 = .ok (.if_icmp .ne 16, 3) := by decide +kernel
theorem d_M_parts_104 : decode b_M_parts 104 = .ok (.aload_n 0, 1) := by decide +kernel
theorem d_M_parts_105 : decode b_M_parts 105 = .ok (.dup, 1) := by decide +kernel
theorem d_M_parts_106 : decode b_M_parts 106 = .ok (.getfield 27, 3) := by decide +kernel
theorem d_M_parts_109 : decode b_M_parts 109 = .ok (.iconst 1, 1) := by decide +kernel
theorem d_M_parts_110 : decode b_M_parts 110 = .ok (.iadd, 1) := by decide +kernel
theorem d_M_parts_111 : decode b_M_parts 111 = .ok (.putfield 27, 3) := by decide +kernel
theorem d_M_parts_114 : decode b_M_parts 114 = .ok (.goto 4, 3) := by decide +kernel
theorem d_M_parts_117 : decode b_M_parts 117 = .ok (.return_, 1) := by decide +kernel
theorem d_M_parts_118 : decode b_M_parts 118 = .ok (.goto (-118), 3) := by decide +kernel
theorem d_M_parts_121 : decode b_M_parts 121 = .ok (.return_, 1) := by decide +kernel
abbrev mt_M_parts : MT := (R_M, b_M_parts, 2, none)
theorem vf_M_parts : VF y_M_parts mt_M_parts 12 0 := ⟨im_M_parts, se_M_parts, in_M, co_M_parts, by decide +kernel, _, _, rfl⟩
def f_M_parts_b118 (k0 : St → Option (Int × St)) (γ : St) : Option (Int × St) :=
  k0 γ 
def f_M_parts_L42 (x118 : St → Option (Int × St)) : Nat → St → Option (Int × St)
  | 0, _ => none
  | n + 1, γ =>
  if (γ 0 1) ≤ (γ 0 5) then
  (x118 γ )
  else
  (chk (inb (γ 0 5) 65536) (if (γ 1 (γ 0 5)) = 10 then
  (x118 γ )
  else
  (chk (i32 ((γ 0 5) + 1)) (ap (setA γ 0 5 ((γ 0 5) + 1)) fun γ8 =>
  (f_M_parts_L42 x118 n) γ8 ))))
def f_M_parts_b104 (k0 : St → Option (Int × St)) (γ : St) : Option (Int × St) :=
  chk (i32 ((γ 0 5) + 1)) (ap (setA γ 0 5 ((γ 0 5) + 1)) fun γ11 =>
  f_M_parts_b118 k0 γ11 )
def f_M_parts_b80 (k0 : St → Option (Int × St)) (γ : St) (x12 : Int) : Option (Int × St) :=
  if x12 = 32 then
  (f_M_parts_b104 k0 γ )
  else
  (if x12 = 9 then
  (f_M_parts_b104 k0 γ )
  else
  (if x12 = 10 then
  (f_M_parts_b104 k0 γ )
  else
  (if x12 ≠ 13 then
  (some (0, γ))
  else
  (f_M_parts_b104 k0 γ ))))
def f_M_parts_L0 : Nat → St → Option (Int × St)
  | 0, _ => none
  | n + 1, γ =>
  if (γ 0 1) ≤ (γ 0 5) then
  (some (0, γ))
  else
  (chk (inb (γ 0 5) 65536) (ap (γ 1 (γ 0 5)) fun x18 =>
  if x18 ≠ 45 then
  (f_M_parts_b80 (f_M_parts_L0 n) γ x18)
  else
  (chk (i32 ((γ 0 5) + 1)) (bndN (f_M_byteAt γ ((γ 0 5) + 1)) fun r21 γ22 =>
  if r21 ≠ 45 then
  (f_M_parts_b80 (f_M_parts_L0 n) γ22 x18)
  else
  (f_M_parts_L42 (f_M_parts_b118 (f_M_parts_L0 n)) FU γ22 )))))
def f_M_parts (γ : St) : Option (Int × St) :=
  f_M_parts_L0  FU γ 
set_option maxHeartbeats 4000000 in
theorem s_M_parts_b118 {Γ : Ctx} {k0 : St → Option (Int × St)} (hk0 : ∀ (γ : St), SB Γ BM mt_M_parts (RmN 7 261) 0 0 (KN Γ BM mt_M_parts.2.2.2) 0 [(0, vR Γ 0)] [] γ (k0 γ )) : ∀ (γ : St), SB Γ BM mt_M_parts (RmN 7 261) 0 0 (KN Γ BM mt_M_parts.2.2.2) 118 [(0, vR Γ 0)] [] γ (f_M_parts_b118 k0 γ ) := by
  intro γ
  unfold f_M_parts_b118
  refine sb_goto 0 d_M_parts_118 (by decide) ?_
  exact sb_lv [0] rfl (hk0 γ  )
set_option maxHeartbeats 4000000 in
theorem s_M_parts_L42 {Γ : Ctx} {x118 : St → Option (Int × St)} (hx118 : ∀ (γ : St), SB Γ BM mt_M_parts (RmN 7 261) 0 0 (KN Γ BM mt_M_parts.2.2.2) 118 [(0, vR Γ 0)] [] γ (x118 γ )) : ∀ (n : Nat) (γ : St), SB Γ BM mt_M_parts (RmN 7 261) 0 0 (KN Γ BM mt_M_parts.2.2.2) 42 [(0, vR Γ 0)] [] γ (f_M_parts_L42 x118 n γ ) := by
  intro n
  induction n with
  | zero => intros; exact sb_none
  | succ n ih =>
    intro γ
    unfold f_M_parts_L42
    refine sb_aload_n 0 d_M_parts_42 rfl ?_
    refine g_M_27 d_M_parts_43 (fun c1 => ?_)
    refine sb_aload_n 0 d_M_parts_46 rfl ?_
    refine g_M_14 d_M_parts_47 (fun c2 => ?_)
    refine sb_icmp_ge 118 c1 c2 d_M_parts_50 (by decide) (fun _ => ?_) (fun _ => ?_)
    · exact sb_lv [0] rfl (hx118 γ  )
    · refine sb_aload_n 0 d_M_parts_53 rfl ?_
      refine g_M_8 d_M_parts_54 ?_
      refine sb_aload_n 0 d_M_parts_57 rfl ?_
      refine g_M_27 d_M_parts_58 (fun c4 => ?_)
      refine al_M_1 d_M_parts_61 (fun _ c5 => ?_)
      refine sb_bipush d_M_parts_62 (by decide) ?_
      refine sb_icmp_eq 118 c5 (by decide) d_M_parts_64 (by decide) (fun _ => ?_) (fun _ => ?_)
      · exact sb_lv [0] rfl (hx118 γ  )
      · refine sb_aload_n 0 d_M_parts_67 rfl ?_
        refine sb_dup d_M_parts_68 rfl ?_
        refine g_M_27 d_M_parts_69 (fun c6 => ?_)
        refine sb_iconst d_M_parts_72 ?_
        refine sb_iadd d_M_parts_73 ?_
        refine sb_chk (fun c7 => ?_)
        refine p_M_27 c7 d_M_parts_74 ?_
        refine sb_aps (fun γ8 => ?_)
        refine sb_goto 42 d_M_parts_77 (by decide) ?_
        exact sb_lv [0] rfl (ih γ8  )
set_option maxHeartbeats 4000000 in
theorem s_M_parts_b104 {Γ : Ctx} {k0 : St → Option (Int × St)} (hk0 : ∀ (γ : St), SB Γ BM mt_M_parts (RmN 7 261) 0 0 (KN Γ BM mt_M_parts.2.2.2) 0 [(0, vR Γ 0)] [] γ (k0 γ )) : ∀ (γ : St), SB Γ BM mt_M_parts (RmN 7 261) 0 0 (KN Γ BM mt_M_parts.2.2.2) 104 [(0, vR Γ 0)] [] γ (f_M_parts_b104 k0 γ ) := by
  intro γ
  unfold f_M_parts_b104
  refine sb_aload_n 0 d_M_parts_104 rfl ?_
  refine sb_dup d_M_parts_105 rfl ?_
  refine g_M_27 d_M_parts_106 (fun c9 => ?_)
  refine sb_iconst d_M_parts_109 ?_
  refine sb_iadd d_M_parts_110 ?_
  refine sb_chk (fun c10 => ?_)
  refine p_M_27 c10 d_M_parts_111 ?_
  refine sb_aps (fun γ11 => ?_)
  refine sb_goto 118 d_M_parts_114 (by decide) ?_
  exact sb_lv [0] rfl (s_M_parts_b118 hk0 γ11  )
set_option maxHeartbeats 4000000 in
theorem s_M_parts_b80 {Γ : Ctx} {k0 : St → Option (Int × St)} (hk0 : ∀ (γ : St), SB Γ BM mt_M_parts (RmN 7 261) 0 0 (KN Γ BM mt_M_parts.2.2.2) 0 [(0, vR Γ 0)] [] γ (k0 γ )) : ∀ (γ : St) (x12 : Int), i32 x12 → SB Γ BM mt_M_parts (RmN 7 261) 0 0 (KN Γ BM mt_M_parts.2.2.2) 80 [(0, vR Γ 0), (1, vI x12)] [] γ (f_M_parts_b80 k0 γ x12) := by
  intro γ x12 hx12
  unfold f_M_parts_b80
  refine sb_iload_n 1 d_M_parts_80 rfl ?_
  refine sb_bipush d_M_parts_81 (by decide) ?_
  refine sb_icmp_eq 104 hx12 (by decide) d_M_parts_83 (by decide) (fun _ => ?_) (fun _ => ?_)
  · exact sb_lv [0] rfl (s_M_parts_b104 hk0 γ  )
  · refine sb_iload_n 1 d_M_parts_86 rfl ?_
    refine sb_bipush d_M_parts_87 (by decide) ?_
    refine sb_icmp_eq 104 hx12 (by decide) d_M_parts_89 (by decide) (fun _ => ?_) (fun _ => ?_)
    · exact sb_lv [0] rfl (s_M_parts_b104 hk0 γ  )
    · refine sb_iload_n 1 d_M_parts_92 rfl ?_
      refine sb_bipush d_M_parts_93 (by decide) ?_
      refine sb_icmp_eq 104 hx12 (by decide) d_M_parts_95 (by decide) (fun _ => ?_) (fun _ => ?_)
      · exact sb_lv [0] rfl (s_M_parts_b104 hk0 γ  )
      · refine sb_iload_n 1 d_M_parts_98 rfl ?_
        refine sb_bipush d_M_parts_99 (by decide) ?_
        refine sb_icmp_ne 117 hx12 (by decide) d_M_parts_101 (by decide) (fun _ => ?_) (fun _ => ?_)
        · exact sn_v rfl d_M_parts_117
        · exact sb_lv [0] rfl (s_M_parts_b104 hk0 γ  )
set_option maxHeartbeats 4000000 in
theorem s_M_parts_L0 {Γ : Ctx} : ∀ (n : Nat) (γ : St), SB Γ BM mt_M_parts (RmN 7 261) 0 0 (KN Γ BM mt_M_parts.2.2.2) 0 [(0, vR Γ 0)] [] γ (f_M_parts_L0 n γ ) := by
  intro n
  induction n with
  | zero => intros; exact sb_none
  | succ n ih =>
    intro γ
    unfold f_M_parts_L0
    refine sb_aload_n 0 d_M_parts_0 rfl ?_
    refine g_M_27 d_M_parts_1 (fun c13 => ?_)
    refine sb_aload_n 0 d_M_parts_4 rfl ?_
    refine g_M_14 d_M_parts_5 (fun c14 => ?_)
    refine sb_icmp_ge 121 c13 c14 d_M_parts_8 (by decide) (fun _ => ?_) (fun _ => ?_)
    · exact sn_v rfl d_M_parts_121
    · refine sb_aload_n 0 d_M_parts_11 rfl ?_
      refine g_M_8 d_M_parts_12 ?_
      refine sb_aload_n 0 d_M_parts_15 rfl ?_
      refine g_M_27 d_M_parts_16 (fun c16 => ?_)
      refine al_M_1 d_M_parts_19 (fun _ c17 => ?_)
      refine sb_istore_n [(1, vI (γ 1 (γ 0 5))), (0, vR Γ 0)] d_M_parts_20 (by decide) rfl ?_
      refine sb_nme (e := γ 1 (γ 0 5)) (fun x18 => [(1, vI x18), (0, vR Γ 0)]) c17 (fun x18 hx18 => ?_)
      refine sb_iload_n 0 d_M_parts_21 rfl ?_
      refine sb_bipush d_M_parts_22 (by decide) ?_
      refine sb_icmp_ne 80 hx18 (by decide) d_M_parts_24 (by decide) (fun _ => ?_) (fun _ => ?_)
      · exact sb_lv [1, 0] rfl (s_M_parts_b80 ih γ x18 hx18)
      · refine sb_aload_n 1 d_M_parts_27 rfl ?_
        refine sb_aload_n 1 d_M_parts_28 rfl ?_
        refine g_M_27 d_M_parts_29 (fun c19 => ?_)
        refine sb_iconst d_M_parts_32 ?_
        refine sb_iadd d_M_parts_33 ?_
        refine sb_chk (fun c20 => ?_)
        refine sb_cVi vf_M_byteAt (c_M_byteAt γ ((γ 0 5) + 1) c20) rfl ml_M_274 (As := [vI ((γ 0 5) + 1)]) rfl rfl (Nat.le_of_ble_eq_true rfl) ⟨by decide, by decide⟩ d_M_parts_34 (fun r21 γ22 hr21 => ?_)
        refine sb_bipush d_M_parts_37 (by decide) ?_
        refine sb_icmp_ne 80 hr21 (by decide) d_M_parts_39 (by decide) (fun _ => ?_) (fun _ => ?_)
        · exact sb_lv [1, 0] rfl (s_M_parts_b80 ih γ22 x18 hx18)
        · exact sb_lv [1] rfl (s_M_parts_L42 (s_M_parts_b118 ih) FU γ22  )
set_option maxHeartbeats 4000000 in
theorem c_M_parts {Γ : Ctx} (γ : St) : NC Γ BM y_M_parts mt_M_parts 7 261 [vR Γ 0] γ (f_M_parts γ) := by
  refine nc_of (by decide) rfl (Nat.le_of_ble_eq_true rfl) ?_
  show SB Γ BM mt_M_parts (RmN 7 261) 0 0 (KN Γ BM mt_M_parts.2.2.2) 0 [(0, vR Γ 0)] [] γ _
  unfold f_M_parts
  exact sb_lv [0] rfl (s_M_parts_L0  FU γ  )
theorem d_M_sign_0 : decode b_M_sign 0 = .ok (.iload_n 0, 1) := by decide +kernel
theorem d_M_sign_1 : decode b_M_sign 1 = .ok (.tableswitch 177 40 62 #[107, 107, 107, 107, 107, 163, 177, 177, 177, 177, 177, 177, 177, 177, 177, 177, 177, 177, 107, 107, 123, 109, 149], 107) := by decide +kernel
theorem d_M_sign_108 : decode b_M_sign 108 = .ok (.iload_n 0, 1) := by decide +kernel
theorem d_M_sign_109 : decode b_M_sign 109 = .ok (.ireturn, 1) := by decide +kernel
theorem d_M_sign_110 : decode b_M_sign 110 = .ok (.iload_n 1, 1) := by decide +kernel
theorem d_M_sign_111 : decode b_M_sign 111 = .ok (.bipush 62, 2) := by decide +kernel
theorem d_M_sign_113 : decode b_M_sign 113 = .ok (.if_icmp .ne 9, 3) := by decide +kernel
theorem d_M_sign_116 : decode b_M_sign 116 = .ok (.sipush 304, 3) := by decide +kernel
theorem d_M_sign_119 : decode b_M_sign 119 = .ok (.goto 4, 3) := by decide +kernel
theorem d_M_sign_122 : decode b_M_sign 122 = .ok (.iload_n 0, 1) := by decide +kernel
theorem d_M_sign_123 : decode b_M_sign 123 = .ok (.ireturn, 1) := by decide +kernel
theorem d_M_sign_124 : decode b_M_sign 124 = .ok (.iload_n 1, 1) := by decide +kernel
theorem d_M_sign_125 : decode b_M_sign 125 = .ok (.bipush 62, 2) := by decide +kernel
theorem d_M_sign_127 : decode b_M_sign 127 = .ok (.if_icmp .ne 9, 3) := by decide +kernel
theorem d_M_sign_130 : decode b_M_sign 130 = .ok (.sipush 300, 3) := by decide +kernel
theorem d_M_sign_133 : decode b_M_sign 133 = .ok (.goto 16, 3) := by decide +kernel
theorem d_M_sign_136 : decode b_M_sign 136 = .ok (.iload_n 1, 1) := by decide +kernel
theorem d_M_sign_137 : decode b_M_sign 137 = .ok (.bipush 61, 2) := by decide +kernel
theorem d_M_sign_139 : decode b_M_sign 139 = .ok (.if_icmp .ne 9, 3) := by decide +kernel
theorem d_M_sign_142 : decode b_M_sign 142 = .ok (.sipush 301, 3) := by decide +kernel
theorem d_M_sign_145 : decode b_M_sign 145 = .ok (.goto 4, 3) := by decide +kernel
theorem d_M_sign_148 : decode b_M_sign 148 = .ok (.iload_n 0, 1) := by decide +kernel
theorem d_M_sign_149 : decode b_M_sign 149 = .ok (.ireturn, 1) := by decide +kernel
theorem d_M_sign_150 : decode b_M_sign 150 = .ok (.iload_n 1, 1) := by decide +kernel
theorem d_M_sign_151 : decode b_M_sign 151 = .ok (.bipush 61, 2) := by decide +kernel
theorem d_M_sign_153 : decode b_M_sign 153 = .ok (.if_icmp .ne 9, 3) := by decide +kernel
theorem d_M_sign_156 : decode b_M_sign 156 = .ok (.sipush 302, 3) := by decide +kernel
theorem d_M_sign_159 : decode b_M_sign 159 = .ok (.goto 4, 3) := by decide +kernel
theorem d_M_sign_162 : decode b_M_sign 162 = .ok (.iload_n 0, 1) := by decide +kernel
theorem d_M_sign_163 : decode b_M_sign 163 = .ok (.ireturn, 1) := by decide +kernel
theorem d_M_sign_164 : decode b_M_sign 164 = .ok (.iload_n 1, 1) := by decide +kernel
theorem d_M_sign_165 : decode b_M_sign 165 = .ok (.bipush 62, 2) := by decide +kernel
theorem d_M_sign_167 : decode b_M_sign 167 = .ok (.if_icmp .ne 9, 3) := by decide +kernel
theorem d_M_sign_170 : decode b_M_sign 170 = .ok (.sipush 303, 3) := by decide +kernel
theorem d_M_sign_173 : decode b_M_sign 173 = .ok (.goto 4, 3) := by decide +kernel
theorem d_M_sign_176 : decode b_M_sign 176 = .ok (.iload_n 0, 1) := by decide +kernel
theorem d_M_sign_177 : decode b_M_sign 177 = .ok (.ireturn, 1) := by decide +kernel
theorem d_M_sign_178 : decode b_M_sign 178 = .ok (.iconst 3, 1) := by decide +kernel
theorem d_M_sign_179 : decode b_M_sign 179 = .ok (.ireturn, 1) := by decide +kernel
abbrev mt_M_sign : MT := (R_M, b_M_sign, 2, some .int)
theorem vf_M_sign : SF y_M_sign mt_M_sign 2 := ⟨sm_M_sign, in_M, co_M_sign, by decide +kernel⟩
def f_M_sign (γ : St) (a0 : Int) (a1 : Int) : Option (Int × St) :=
  if a0 = 40 then
  (some (a0, γ))
  else if a0 = 41 then
  (some (a0, γ))
  else if a0 = 42 then
  (some (a0, γ))
  else if a0 = 43 then
  (some (a0, γ))
  else if a0 = 44 then
  (some (a0, γ))
  else if a0 = 45 then
  (if a1 ≠ 62 then
  (some (a0, γ))
  else
  (some (303, γ)))
  else if a0 = 58 then
  (some (a0, γ))
  else if a0 = 59 then
  (some (a0, γ))
  else if a0 = 60 then
  (if a1 ≠ 62 then
  (if a1 ≠ 61 then
  (some (a0, γ))
  else
  (some (301, γ)))
  else
  (some (300, γ)))
  else if a0 = 61 then
  (if a1 ≠ 62 then
  (some (a0, γ))
  else
  (some (304, γ)))
  else if a0 = 62 then
  (if a1 ≠ 61 then
  (some (a0, γ))
  else
  (some (302, γ)))
  else (some (3, γ))
set_option maxHeartbeats 4000000 in
theorem c_M_sign {Γ : Ctx} (γ : St) (a0 : Int) (a1 : Int) (ha0 : i32 a0) (ha1 : i32 a1) : NC Γ BM y_M_sign mt_M_sign 6 240 [vI a0, vI a1] γ (f_M_sign γ a0 a1) := by
  refine nc_of (by decide) rfl (Nat.le_of_ble_eq_true rfl) ?_
  show SB Γ BM mt_M_sign (RmN 6 240) 0 0 (KN Γ BM mt_M_sign.2.2.2) 0 [(0, vI a0), (1, vI a1)] [] γ _
  unfold f_M_sign
  refine sb_iload_n 0 d_M_sign_0 rfl ?_
  refine sb_tc (off := 107) 40 108 ha0 d_M_sign_1 (by decide) (by decide) (fun _ => ?_) (fun n1 => ?_)
  · refine sb_iload_n 0 d_M_sign_108 rfl ?_
    exact sn_i rfl ha0 d_M_sign_109
  refine sb_tc (off := 107) 41 108 ha0 d_M_sign_1 (by decide) (by decide) (fun _ => ?_) (fun n2 => ?_)
  · refine sb_iload_n 0 d_M_sign_108 rfl ?_
    exact sn_i rfl ha0 d_M_sign_109
  refine sb_tc (off := 107) 42 108 ha0 d_M_sign_1 (by decide) (by decide) (fun _ => ?_) (fun n3 => ?_)
  · refine sb_iload_n 0 d_M_sign_108 rfl ?_
    exact sn_i rfl ha0 d_M_sign_109
  refine sb_tc (off := 107) 43 108 ha0 d_M_sign_1 (by decide) (by decide) (fun _ => ?_) (fun n4 => ?_)
  · refine sb_iload_n 0 d_M_sign_108 rfl ?_
    exact sn_i rfl ha0 d_M_sign_109
  refine sb_tc (off := 107) 44 108 ha0 d_M_sign_1 (by decide) (by decide) (fun _ => ?_) (fun n5 => ?_)
  · refine sb_iload_n 0 d_M_sign_108 rfl ?_
    exact sn_i rfl ha0 d_M_sign_109
  refine sb_tc (off := 163) 45 164 ha0 d_M_sign_1 (by decide) (by decide) (fun _ => ?_) (fun n6 => ?_)
  · refine sb_iload_n 1 d_M_sign_164 rfl ?_
    refine sb_bipush d_M_sign_165 (by decide) ?_
    refine sb_icmp_ne 176 ha1 (by decide) d_M_sign_167 (by decide) (fun _ => ?_) (fun _ => ?_)
    · refine sb_iload_n 0 d_M_sign_176 rfl ?_
      exact sn_i rfl ha0 d_M_sign_177
    · refine sb_sipush d_M_sign_170 (by decide) ?_
      refine sb_goto 177 d_M_sign_173 (by decide) ?_
      exact sn_i rfl (by decide) d_M_sign_177
  refine sb_tc (off := 107) 58 108 ha0 d_M_sign_1 (by decide) (by decide) (fun _ => ?_) (fun n7 => ?_)
  · refine sb_iload_n 0 d_M_sign_108 rfl ?_
    exact sn_i rfl ha0 d_M_sign_109
  refine sb_tc (off := 107) 59 108 ha0 d_M_sign_1 (by decide) (by decide) (fun _ => ?_) (fun n8 => ?_)
  · refine sb_iload_n 0 d_M_sign_108 rfl ?_
    exact sn_i rfl ha0 d_M_sign_109
  refine sb_tc (off := 123) 60 124 ha0 d_M_sign_1 (by decide) (by decide) (fun _ => ?_) (fun n9 => ?_)
  · refine sb_iload_n 1 d_M_sign_124 rfl ?_
    refine sb_bipush d_M_sign_125 (by decide) ?_
    refine sb_icmp_ne 136 ha1 (by decide) d_M_sign_127 (by decide) (fun _ => ?_) (fun _ => ?_)
    · refine sb_iload_n 1 d_M_sign_136 rfl ?_
      refine sb_bipush d_M_sign_137 (by decide) ?_
      refine sb_icmp_ne 148 ha1 (by decide) d_M_sign_139 (by decide) (fun _ => ?_) (fun _ => ?_)
      · refine sb_iload_n 0 d_M_sign_148 rfl ?_
        exact sn_i rfl ha0 d_M_sign_149
      · refine sb_sipush d_M_sign_142 (by decide) ?_
        refine sb_goto 149 d_M_sign_145 (by decide) ?_
        exact sn_i rfl (by decide) d_M_sign_149
    · refine sb_sipush d_M_sign_130 (by decide) ?_
      refine sb_goto 149 d_M_sign_133 (by decide) ?_
      exact sn_i rfl (by decide) d_M_sign_149
  refine sb_tc (off := 109) 61 110 ha0 d_M_sign_1 (by decide) (by decide) (fun _ => ?_) (fun n10 => ?_)
  · refine sb_iload_n 1 d_M_sign_110 rfl ?_
    refine sb_bipush d_M_sign_111 (by decide) ?_
    refine sb_icmp_ne 122 ha1 (by decide) d_M_sign_113 (by decide) (fun _ => ?_) (fun _ => ?_)
    · refine sb_iload_n 0 d_M_sign_122 rfl ?_
      exact sn_i rfl ha0 d_M_sign_123
    · refine sb_sipush d_M_sign_116 (by decide) ?_
      refine sb_goto 123 d_M_sign_119 (by decide) ?_
      exact sn_i rfl (by decide) d_M_sign_123
  refine sb_tc (off := 149) 62 150 ha0 d_M_sign_1 (by decide) (by decide) (fun _ => ?_) (fun n11 => ?_)
  · refine sb_iload_n 1 d_M_sign_150 rfl ?_
    refine sb_bipush d_M_sign_151 (by decide) ?_
    refine sb_icmp_ne 162 ha1 (by decide) d_M_sign_153 (by decide) (fun _ => ?_) (fun _ => ?_)
    · refine sb_iload_n 0 d_M_sign_162 rfl ?_
      exact sn_i rfl ha0 d_M_sign_163
    · refine sb_sipush d_M_sign_156 (by decide) ?_
      refine sb_goto 163 d_M_sign_159 (by decide) ?_
      exact sn_i rfl (by decide) d_M_sign_163
  refine sb_tg (off := 177) 46 178 ha0 d_M_sign_1 (by decide) (by decide) (fun _ => ?_) (fun n12 => ?_)
  · refine sb_iconst d_M_sign_178 ?_
    exact sn_i rfl (by decide) d_M_sign_179
  refine sb_tg (off := 177) 47 178 ha0 d_M_sign_1 (by decide) (by decide) (fun _ => ?_) (fun n13 => ?_)
  · refine sb_iconst d_M_sign_178 ?_
    exact sn_i rfl (by decide) d_M_sign_179
  refine sb_tg (off := 177) 48 178 ha0 d_M_sign_1 (by decide) (by decide) (fun _ => ?_) (fun n14 => ?_)
  · refine sb_iconst d_M_sign_178 ?_
    exact sn_i rfl (by decide) d_M_sign_179
  refine sb_tg (off := 177) 49 178 ha0 d_M_sign_1 (by decide) (by decide) (fun _ => ?_) (fun n15 => ?_)
  · refine sb_iconst d_M_sign_178 ?_
    exact sn_i rfl (by decide) d_M_sign_179
  refine sb_tg (off := 177) 50 178 ha0 d_M_sign_1 (by decide) (by decide) (fun _ => ?_) (fun n16 => ?_)
  · refine sb_iconst d_M_sign_178 ?_
    exact sn_i rfl (by decide) d_M_sign_179
  refine sb_tg (off := 177) 51 178 ha0 d_M_sign_1 (by decide) (by decide) (fun _ => ?_) (fun n17 => ?_)
  · refine sb_iconst d_M_sign_178 ?_
    exact sn_i rfl (by decide) d_M_sign_179
  refine sb_tg (off := 177) 52 178 ha0 d_M_sign_1 (by decide) (by decide) (fun _ => ?_) (fun n18 => ?_)
  · refine sb_iconst d_M_sign_178 ?_
    exact sn_i rfl (by decide) d_M_sign_179
  refine sb_tg (off := 177) 53 178 ha0 d_M_sign_1 (by decide) (by decide) (fun _ => ?_) (fun n19 => ?_)
  · refine sb_iconst d_M_sign_178 ?_
    exact sn_i rfl (by decide) d_M_sign_179
  refine sb_tg (off := 177) 54 178 ha0 d_M_sign_1 (by decide) (by decide) (fun _ => ?_) (fun n20 => ?_)
  · refine sb_iconst d_M_sign_178 ?_
    exact sn_i rfl (by decide) d_M_sign_179
  refine sb_tg (off := 177) 55 178 ha0 d_M_sign_1 (by decide) (by decide) (fun _ => ?_) (fun n21 => ?_)
  · refine sb_iconst d_M_sign_178 ?_
    exact sn_i rfl (by decide) d_M_sign_179
  refine sb_tg (off := 177) 56 178 ha0 d_M_sign_1 (by decide) (by decide) (fun _ => ?_) (fun n22 => ?_)
  · refine sb_iconst d_M_sign_178 ?_
    exact sn_i rfl (by decide) d_M_sign_179
  refine sb_tg (off := 177) 57 178 ha0 d_M_sign_1 (by decide) (by decide) (fun _ => ?_) (fun n23 => ?_)
  · refine sb_iconst d_M_sign_178 ?_
    exact sn_i rfl (by decide) d_M_sign_179
  refine sb_td 178 ha0 d_M_sign_1 (by omega) (by decide) ?_
  refine sb_iconst d_M_sign_178 ?_
  exact sn_i rfl (by decide) d_M_sign_179
theorem d_M_peek_0 : decode b_M_peek 0 = .ok (.aload_n 0, 1) := by decide +kernel
theorem d_M_peek_1 : decode b_M_peek 1 = .ok (.getfield 39, 3) := by decide +kernel
theorem d_M_peek_4 : decode b_M_peek 4 = .ok (.ifCond .eq 8, 3) := by decide +kernel
theorem d_M_peek_7 : decode b_M_peek 7 = .ok (.aload_n 0, 1) := by decide +kernel
theorem d_M_peek_8 : decode b_M_peek 8 = .ok (.getfield 30, 3) := by decide +kernel
theorem d_M_peek_11 : decode b_M_peek 11 = .ok (.ireturn, 1) := by decide +kernel
theorem d_M_peek_12 : decode b_M_peek 12 = .ok (.aload_n 0, 1) := by decide +kernel
theorem d_M_peek_13 : decode b_M_peek 13 = .ok (.invokevirtual 278, 3) := by decide +kernel
theorem d_M_peek_16 : decode b_M_peek 16 = .ok (.aload_n 0, 1) := by decide +kernel
theorem d_M_peek_17 : decode b_M_peek 17 = .ok (.iconst 1, 1) := by decide +kernel
theorem d_M_peek_18 : decode b_M_peek 18 = .ok (.putfield 39, 3) := by decide +kernel
theorem d_M_peek_21 : decode b_M_peek 21 = .ok (.aload_n 0, 1) := by decide +kernel
theorem d_M_peek_22 : decode b_M_peek 22 = .ok (.aload_n 0, 1) := by decide +kernel
theorem d_M_peek_23 : decode b_M_peek 23 = .ok (.getfield 27, 3) := by decide +kernel
theorem d_M_peek_26 : decode b_M_peek 26 = .ok (.putfield 33, 3) := by decide +kernel
theorem d_M_peek_29 : decode b_M_peek 29 = .ok (.aload_n 0, 1) := by decide +kernel
theorem d_M_peek_30 : decode b_M_peek 30 = .ok (.aload_n 0, 1) := by decide +kernel
theorem d_M_peek_31 : decode b_M_peek 31 = .ok (.getfield 27, 3) := by decide +kernel
theorem d_M_peek_34 : decode b_M_peek 34 = .ok (.putfield 36, 3) := by decide +kernel
theorem d_M_peek_37 : decode b_M_peek 37 = .ok (.aload_n 0, 1) := by decide +kernel
theorem d_M_peek_38 : decode b_M_peek 38 = .ok (.iconst 0, 1) := by decide +kernel
theorem d_M_peek_39 : decode b_M_peek 39 = .ok (.putfield 30, 3) := by decide +kernel
theorem d_M_peek_42 : decode b_M_peek 42 = .ok (.aload_n 0, 1) := by decide +kernel
theorem d_M_peek_43 : decode b_M_peek 43 = .ok (.getfield 27, 3) := by decide +kernel
theorem d_M_peek_46 : decode b_M_peek 46 = .ok (.aload_n 0, 1) := by decide +kernel
theorem d_M_peek_47 : decode b_M_peek 47 = .ok (.getfield 14, 3) := by decide +kernel
theorem d_M_peek_50 : decode b_M_peek 50 = .ok (.if_icmp .ne 5, 3) := by decide +kernel
theorem d_M_peek_53 : decode b_M_peek 53 = .ok (.iconst 0, 1) := by decide +kernel
theorem d_M_peek_54 : decode b_M_peek 54 = .ok (.ireturn, 1) := by decide +kernel
theorem d_M_peek_55 : decode b_M_peek 55 = .ok (.aload_n 0, 1) := by decide +kernel
theorem d_M_peek_56 : decode b_M_peek 56 = .ok (.getfield 8, 3) := by decide +kernel
theorem d_M_peek_59 : decode b_M_peek 59 = .ok (.aload_n 0, 1) := by decide +kernel
theorem d_M_peek_60 : decode b_M_peek 60 = .ok (.getfield 27, 3) := by decide +kernel
theorem d_M_peek_63 : decode b_M_peek 63 = .ok (.baload, 1) := by decide +kernel
theorem d_M_peek_64 : decode b_M_peek 64 = .ok (.istore_n 1, 1) := by decide +kernel
theorem d_M_peek_65 : decode b_M_peek 65 = .ok (.iload_n 1, 1) := by decide +kernel
theorem d_M_peek_66 : decode b_M_peek 66 = .ok (.invokestatic 281, 3) := by decide +kernel
theorem d_M_peek_69 : decode b_M_peek 69 = .ok (.ifCond .eq 97, 3) := by decide +kernel
theorem d_M_peek_72 : decode b_M_peek 72 = .ok (.aload_n 0, 1) := by decide +kernel
theorem d_M_peek_73 : decode b_M_peek 73 = .ok (.getfield 36, 3) := by decide +kernel
theorem d_M_peek_76 : decode b_M_peek 76 = .ok (.aload_n 0, 1) := by decide +kernel
theorem d_M_peek_77 : decode b_M_peek 77 = .ok (.getfield 14, 3) := by decide +kernel
theorem d_M_peek_80 : decode b_M_peek 80 = .ok (.if_icmp .ge 60, 3) := by decide +kernel
theorem d_M_peek_83 : decode b_M_peek 83 = .ok (.aload_n 0, 1) := by decide +kernel
theorem d_M_peek_84 : decode b_M_peek 84 = .ok (.getfield 8, 3) := by decide +kernel
theorem d_M_peek_87 : decode b_M_peek 87 = .ok (.aload_n 0, 1) := by decide +kernel
theorem d_M_peek_88 : decode b_M_peek 88 = .ok (.getfield 36, 3) := by decide +kernel
theorem d_M_peek_91 : decode b_M_peek 91 = .ok (.baload, 1) := by decide +kernel
theorem d_M_peek_92 : decode b_M_peek 92 = .ok (.invokestatic 281, 3) := by decide +kernel
theorem d_M_peek_95 : decode b_M_peek 95 = .ok (.ifCond .ne 32, 3) := by decide +kernel
theorem d_M_peek_98 : decode b_M_peek 98 = .ok (.aload_n 0, 1) := by decide +kernel
theorem d_M_peek_99 : decode b_M_peek 99 = .ok (.getfield 8, 3) := by decide +kernel
theorem d_M_peek_102 : decode b_M_peek 102 = .ok (.aload_n 0, 1) := by decide +kernel
theorem d_M_peek_103 : decode b_M_peek 103 = .ok (.getfield 36, 3) := by decide +kernel
theorem d_M_peek_106 : decode b_M_peek 106 = .ok (.baload, 1) := by decide +kernel
theorem d_M_peek_107 : decode b_M_peek 107 = .ok (.invokestatic 285, 3) := by decide +kernel
theorem d_M_peek_110 : decode b_M_peek 110 = .ok (.ifCond .ne 17, 3) := by decide +kernel
theorem d_M_peek_113 : decode b_M_peek 113 = .ok (.aload_n 0, 1) := by decide +kernel
theorem d_M_peek_114 : decode b_M_peek 114 = .ok (.getfield 8, 3) := by decide +kernel
theorem d_M_peek_117 : decode b_M_peek 117 = .ok (.aload_n 0, 1) := by decide +kernel
theorem d_M_peek_118 : decode b_M_peek 118 = .ok (.getfield 36, 3) := by decide +kernel
theorem d_M_peek_121 : decode b_M_peek 121 = .ok (.baload, 1) := by decide +kernel
theorem d_M_peek_122 : decode b_M_peek 122 = .ok (.bipush 95, 2) := by decide +kernel
theorem d_M_peek_124 : decode b_M_peek 124 = .ok (.if_icmp .ne 16, 3) := by decide +kernel
theorem d_M_peek_127 : decode b_M_peek 127 = .ok (.aload_n 0, 1) := by decide +kernel
theorem d_M_peek_128 : decode b_M_peek 128 = .ok (.dup, 1) := by decide +kernel
theorem d_M_peek_129 : decode b_M_peek 129 = .ok (.getfield 36, 3) := by decide +kernel
theorem d_M_peek_132 : decode b_M_peek 132 = .ok (.iconst 1, 1) := by decide +kernel
theorem d_M_peek_133 : decode b_M_peek 133 = .ok (.iadd, 1) := by decide +kernel
theorem d_M_peek_134 : decode b_M_peek 134 = .ok (.putfield 36, 3) := by decide +kernel
theorem d_M_peek_137 : decode b_M_peek 137 = .ok (.goto (-65), 3) := by decide +kernel
theorem d_M_peek_140 : decode b_M_peek 140 = .ok (.aload_n 0, 1) := by decide +kernel
theorem d_M_peek_141 : decode b_M_peek 141 = .ok (.aload_n 0, 1) := by decide +kernel
theorem d_M_peek_142 : decode b_M_peek 142 = .ok (.getfield 36, 3) := by decide +kernel
theorem d_M_peek_145 : decode b_M_peek 145 = .ok (.aload_n 0, 1) := by decide +kernel
theorem d_M_peek_146 : decode b_M_peek 146 = .ok (.getfield 27, 3) := by decide +kernel
theorem d_M_peek_149 : decode b_M_peek 149 = .ok (.isub, 1) := by decide +kernel
theorem d_M_peek_150 : decode b_M_peek 150 = .ok (.bipush 31, 2) := by decide +kernel
theorem d_M_peek_152 : decode b_M_peek 152 = .ok (.if_icmp .le 7, 3) := by decide +kernel
theorem d_M_peek_155 : decode b_M_peek 155 = .ok (.iconst 3, 1) := by decide +kernel
theorem d_M_peek_156 : decode b_M_peek 156 = .ok (.goto 4, 3) := by decide +kernel
theorem d_M_peek_159 : decode b_M_peek 159 = .ok (.iconst 1, 1) := by decide +kernel
theorem d_M_peek_160 : decode b_M_peek 160 = .ok (.putfield 30, 3) := by decide +kernel
theorem d_M_peek_163 : decode b_M_peek 163 = .ok (.goto 123, 3) := by decide +kernel
theorem d_M_peek_166 : decode b_M_peek 166 = .ok (.iload_n 1, 1) := by decide +kernel
theorem d_M_peek_167 : decode b_M_peek 167 = .ok (.invokestatic 285, 3) := by decide +kernel
theorem d_M_peek_170 : decode b_M_peek 170 = .ok (.ifCond .eq 68, 3) := by decide +kernel
theorem d_M_peek_173 : decode b_M_peek 173 = .ok (.aload_n 0, 1) := by decide +kernel
theorem d_M_peek_174 : decode b_M_peek 174 = .ok (.getfield 36, 3) := by decide +kernel
theorem d_M_peek_177 : decode b_M_peek 177 = .ok (.aload_n 0, 1) := by decide +kernel
theorem d_M_peek_178 : decode b_M_peek 178 = .ok (.getfield 14, 3) := by decide +kernel
theorem d_M_peek_181 : decode b_M_peek 181 = .ok (.if_icmp .ge 31, 3) := by decide +kernel
theorem d_M_peek_184 : decode b_M_peek 184 = .ok (.aload_n 0, 1) := by decide +kernel
theorem d_M_peek_185 : decode b_M_peek 185 = .ok (.getfield 8, 3) := by decide +kernel
theorem d_M_peek_188 : decode b_M_peek 188 = .ok (.aload_n 0, 1) := by decide +kernel
theorem d_M_peek_189 : decode b_M_peek 189 = .ok (.getfield 36, 3) := by decide +kernel
theorem d_M_peek_192 : decode b_M_peek 192 = .ok (.baload, 1) := by decide +kernel
theorem d_M_peek_193 : decode b_M_peek 193 = .ok (.invokestatic 285, 3) := by decide +kernel
theorem d_M_peek_196 : decode b_M_peek 196 = .ok (.ifCond .eq 16, 3) := by decide +kernel
theorem d_M_peek_199 : decode b_M_peek 199 = .ok (.aload_n 0, 1) := by decide +kernel
theorem d_M_peek_200 : decode b_M_peek 200 = .ok (.dup, 1) := by decide +kernel
theorem d_M_peek_201 : decode b_M_peek 201 = .ok (.getfield 36, 3) := by decide +kernel
theorem d_M_peek_204 : decode b_M_peek 204 = .ok (.iconst 1, 1) := by decide +kernel
theorem d_M_peek_205 : decode b_M_peek 205 = .ok (.iadd, 1) := by decide +kernel
theorem d_M_peek_206 : decode b_M_peek 206 = .ok (.putfield 36, 3) := by decide +kernel
theorem d_M_peek_209 : decode b_M_peek 209 = .ok (.goto (-36), 3) := by decide +kernel
theorem d_M_peek_212 : decode b_M_peek 212 = .ok (.aload_n 0, 1) := by decide +kernel
theorem d_M_peek_213 : decode b_M_peek 213 = .ok (.aload_n 0, 1) := by decide +kernel
theorem d_M_peek_214 : decode b_M_peek 214 = .ok (.getfield 36, 3) := by decide +kernel
theorem d_M_peek_217 : decode b_M_peek 217 = .ok (.aload_n 0, 1) := by decide +kernel
theorem d_M_peek_218 : decode b_M_peek 218 = .ok (.getfield 27, 3) := by decide +kernel
theorem d_M_peek_221 : decode b_M_peek 221 = .ok (.isub, 1) := by decide +kernel
theorem d_M_peek_222 : decode b_M_peek 222 = .ok (.bipush 9, 2) := by decide +kernel
theorem d_M_peek_224 : decode b_M_peek 224 = .ok (.if_icmp .le 7, 3) := by decide +kernel
theorem d_M_peek_227 : decode b_M_peek 227 = .ok (.iconst 3, 1) := by decide +kernel
theorem d_M_peek_228 : decode b_M_peek 228 = .ok (.goto 4, 3) := by decide +kernel
theorem d_M_peek_231 : decode b_M_peek 231 = .ok (.iconst 2, 1) := by decide +kernel
theorem d_M_peek_232 : decode b_M_peek 232 = .ok (.putfield 30, 3) := by decide +kernel
theorem d_M_peek_235 : decode b_M_peek 235 = .ok (.goto 51, 3) := by decide +kernel
theorem d_M_peek_238 : decode b_M_peek 238 = .ok (.aload_n 0, 1) := by decide +kernel
theorem d_M_peek_239 : decode b_M_peek 239 = .ok (.aload_n 0, 1) := by decide +kernel
theorem d_M_peek_240 : decode b_M_peek 240 = .ok (.getfield 27, 3) := by decide +kernel
theorem d_M_peek_243 : decode b_M_peek 243 = .ok (.iconst 1, 1) := by decide +kernel
theorem d_M_peek_244 : decode b_M_peek 244 = .ok (.iadd, 1) := by decide +kernel
theorem d_M_peek_245 : decode b_M_peek 245 = .ok (.putfield 36, 3) := by decide +kernel
theorem d_M_peek_248 : decode b_M_peek 248 = .ok (.aload_n 0, 1) := by decide +kernel
theorem d_M_peek_249 : decode b_M_peek 249 = .ok (.iload_n 1, 1) := by decide +kernel
theorem d_M_peek_250 : decode b_M_peek 250 = .ok (.aload_n 0, 1) := by decide +kernel
theorem d_M_peek_251 : decode b_M_peek 251 = .ok (.aload_n 0, 1) := by decide +kernel
theorem d_M_peek_252 : decode b_M_peek 252 = .ok (.getfield 27, 3) := by decide +kernel
theorem d_M_peek_255 : decode b_M_peek 255 = .ok (.iconst 1, 1) := by decide +kernel
theorem d_M_peek_256 : decode b_M_peek 256 = .ok (.iadd, 1) := by decide +kernel
theorem d_M_peek_257 : decode b_M_peek 257 = .ok (.invokevirtual 274, 3) := by decide +kernel
theorem d_M_peek_260 : decode b_M_peek 260 = .ok (.invokestatic 288, 3) := by decide +kernel
theorem d_M_peek_263 : decode b_M_peek 263 = .ok (.putfield 30, 3) := by decide +kernel
theorem d_M_peek_266 : decode b_M_peek 266 = .ok (.aload_n 0, 1) := by decide +kernel
theorem d_M_peek_267 : decode b_M_peek 267 = .ok (.getfield 30, 3) := by decide +kernel
theorem d_M_peek_270 : decode b_M_peek 270 = .ok (.sipush 299, 3) := by decide +kernel
theorem d_M_peek_273 : decode b_M_peek 273 = .ok (.if_icmp .le 13, 3) := by decide +kernel
theorem d_M_peek_276 : decode b_M_peek 276 = .ok (.aload_n 0, 1) := by decide +kernel
theorem d_M_peek_277 : decode b_M_peek 277 = .ok (.dup, 1) := by decide +kernel
theorem d_M_peek_278 : decode b_M_peek 278 = .ok (.getfield 36, 3) := by decide +kernel
theorem d_M_peek_281 : decode b_M_peek 281 = .ok (.iconst 1, 1) := by decide +kernel
theorem d_M_peek_282 : decode b_M_peek 282 = .ok (.iadd, 1) := by decide +kernel
theorem d_M_peek_283 : decode b_M_peek 283 = .ok (.putfield 36, 3) := by decide +kernel
theorem d_M_peek_286 : decode b_M_peek 286 = .ok (.aload_n 0, 1) := by decide +kernel
theorem d_M_peek_287 : decode b_M_peek 287 = .ok (.getfield 30, 3) := by decide +kernel
theorem d_M_peek_290 : decode b_M_peek 290 = .ok (.ireturn, 1) := by decide +kernel
abbrev mt_M_peek : MT := (R_M, b_M_peek, 2, some .int)
theorem vf_M_peek : VF y_M_peek mt_M_peek 12 0 := ⟨im_M_peek, se_M_peek, in_M, co_M_peek, by decide +kernel, _, _, rfl⟩
def f_M_peek_b140 (γ : St) : Option (Int × St) :=
  chk (i32 ((γ 0 8) - (γ 0 5))) (if ((γ 0 8) - (γ 0 5)) ≤ 31 then
  (ap (setA γ 0 6 1) fun γ4 =>
  some (γ4 0 6, γ4))
  else
  (ap (setA γ 0 6 3) fun γ6 =>
  some (γ6 0 6, γ6)))
def f_M_peek_b127 (k72 : St → Option (Int × St)) (x140 : St → Option (Int × St)) (γ : St) : Option (Int × St) :=
  chk (i32 ((γ 0 8) + 1)) (ap (setA γ 0 8 ((γ 0 8) + 1)) fun γ10 =>
  k72 γ10 )
def f_M_peek_L72 (x140 : St → Option (Int × St)) : Nat → St → Option (Int × St)
  | 0, _ => none
  | n + 1, γ =>
  if (γ 0 1) ≤ (γ 0 8) then
  (x140 γ )
  else
  (chk (inb (γ 0 8) 65536) (bndN (f_M_letter γ (γ 1 (γ 0 8))) fun r16 γ17 =>
  if r16 ≠ 0 then
  (f_M_peek_b127 (f_M_peek_L72 x140 n) x140 γ17 )
  else
  (chk (inb (γ17 0 8) 65536) (bndN (f_M_digit γ17 (γ17 1 (γ17 0 8))) fun r21 γ22 =>
  if r21 ≠ 0 then
  (f_M_peek_b127 (f_M_peek_L72 x140 n) x140 γ22 )
  else
  (chk (inb (γ22 0 8) 65536) (if (γ22 1 (γ22 0 8)) ≠ 95 then
  (x140 γ22 )
  else
  (f_M_peek_b127 (f_M_peek_L72 x140 n) x140 γ22 )))))))
def f_M_peek_b212 (γ : St) : Option (Int × St) :=
  chk (i32 ((γ 0 8) - (γ 0 5))) (if ((γ 0 8) - (γ 0 5)) ≤ 9 then
  (ap (setA γ 0 6 2) fun γ29 =>
  some (γ29 0 6, γ29))
  else
  (ap (setA γ 0 6 3) fun γ31 =>
  some (γ31 0 6, γ31)))
def f_M_peek_L173 (x212 : St → Option (Int × St)) : Nat → St → Option (Int × St)
  | 0, _ => none
  | n + 1, γ =>
  if (γ 0 1) ≤ (γ 0 8) then
  (x212 γ )
  else
  (chk (inb (γ 0 8) 65536) (bndN (f_M_digit γ (γ 1 (γ 0 8))) fun r38 γ39 =>
  if r38 = 0 then
  (x212 γ39 )
  else
  (chk (i32 ((γ39 0 8) + 1)) (ap (setA γ39 0 8 ((γ39 0 8) + 1)) fun γ42 =>
  (f_M_peek_L173 x212 n) γ42 ))))
def f_M_peek (γ : St) : Option (Int × St) :=
  if (γ 0 9) = 0 then
  (bndN (f_M_parts γ) fun _ γ45 =>
  ap (setA γ45 0 9 1) fun γ46 =>
  ap (setA γ46 0 7 (γ46 0 5)) fun γ48 =>
  ap (setA γ48 0 8 (γ48 0 5)) fun γ50 =>
  ap (setA γ50 0 6 0) fun γ51 =>
  if (γ51 0 5) ≠ (γ51 0 1) then
  (chk (inb (γ51 0 5) 65536) (ap (γ51 1 (γ51 0 5)) fun x57 =>
  bndN (f_M_letter γ51 x57) fun r58 γ59 =>
  if r58 = 0 then
  (bndN (f_M_digit γ59 x57) fun r60 γ61 =>
  if r60 = 0 then
  (chk (i32 ((γ61 0 5) + 1)) (ap (setA γ61 0 8 ((γ61 0 5) + 1)) fun γ64 =>
  chk (i32 ((γ64 0 5) + 1)) (bndN (f_M_byteAt γ64 ((γ64 0 5) + 1)) fun r67 γ68 =>
  bndN (f_M_sign γ68 x57 r67) fun r69 γ70 =>
  ap (setA γ70 0 6 r69) fun γ71 =>
  if (γ71 0 6) ≤ 299 then
  (some (γ71 0 6, γ71))
  else
  (chk (i32 ((γ71 0 8) + 1)) (ap (setA γ71 0 8 ((γ71 0 8) + 1)) fun γ76 =>
  some (γ76 0 6, γ76))))))
  else
  (f_M_peek_L173 (f_M_peek_b212) FU γ61 ))
  else
  (f_M_peek_L72 (f_M_peek_b140) FU γ59 )))
  else
  (some (0, γ51)))
  else
  (some (γ 0 6, γ))
set_option maxHeartbeats 4000000 in
theorem s_M_peek_b140 {Γ : Ctx} : ∀ (γ : St), SB Γ BM mt_M_peek (RmN 8 282) 0 0 (KN Γ BM mt_M_peek.2.2.2) 140 [(0, vR Γ 0)] [] γ (f_M_peek_b140 γ ) := by
  intro γ
  unfold f_M_peek_b140
  refine sb_aload_n 0 d_M_peek_140 rfl ?_
  refine sb_aload_n 0 d_M_peek_141 rfl ?_
  refine g_M_36 d_M_peek_142 (fun c1 => ?_)
  refine sb_aload_n 0 d_M_peek_145 rfl ?_
  refine g_M_27 d_M_peek_146 (fun c2 => ?_)
  refine sb_isub d_M_peek_149 ?_
  refine sb_chk (fun c3 => ?_)
  refine sb_bipush d_M_peek_150 (by decide) ?_
  refine sb_icmp_le 159 c3 (by decide) d_M_peek_152 (by decide) (fun _ => ?_) (fun _ => ?_)
  · refine sb_iconst d_M_peek_159 ?_
    refine p_M_30 (by decide) d_M_peek_160 ?_
    refine sb_aps (fun γ4 => ?_)
    refine sb_goto 286 d_M_peek_163 (by decide) ?_
    refine sb_aload_n 0 d_M_peek_286 rfl ?_
    refine g_M_30 d_M_peek_287 (fun c5 => ?_)
    exact sn_i rfl c5 d_M_peek_290
  · refine sb_iconst d_M_peek_155 ?_
    refine sb_goto 160 d_M_peek_156 (by decide) ?_
    refine p_M_30 (by decide) d_M_peek_160 ?_
    refine sb_aps (fun γ6 => ?_)
    refine sb_goto 286 d_M_peek_163 (by decide) ?_
    refine sb_aload_n 0 d_M_peek_286 rfl ?_
    refine g_M_30 d_M_peek_287 (fun c7 => ?_)
    exact sn_i rfl c7 d_M_peek_290
set_option maxHeartbeats 4000000 in
theorem s_M_peek_b127 {Γ : Ctx} {k72 : St → Option (Int × St)} {x140 : St → Option (Int × St)} (hk72 : ∀ (γ : St), SB Γ BM mt_M_peek (RmN 8 282) 0 0 (KN Γ BM mt_M_peek.2.2.2) 72 [(0, vR Γ 0)] [] γ (k72 γ )) (hx140 : ∀ (γ : St), SB Γ BM mt_M_peek (RmN 8 282) 0 0 (KN Γ BM mt_M_peek.2.2.2) 140 [(0, vR Γ 0)] [] γ (x140 γ )) : ∀ (γ : St), SB Γ BM mt_M_peek (RmN 8 282) 0 0 (KN Γ BM mt_M_peek.2.2.2) 127 [(0, vR Γ 0)] [] γ (f_M_peek_b127 k72 x140 γ ) := by
  intro γ
  unfold f_M_peek_b127
  refine sb_aload_n 0 d_M_peek_127 rfl ?_
  refine sb_dup d_M_peek_128 rfl ?_
  refine g_M_36 d_M_peek_129 (fun c8 => ?_)
  refine sb_iconst d_M_peek_132 ?_
  refine sb_iadd d_M_peek_133 ?_
  refine sb_chk (fun c9 => ?_)
  refine p_M_36 c9 d_M_peek_134 ?_
  refine sb_aps (fun γ10 => ?_)
  refine sb_goto 72 d_M_peek_137 (by decide) ?_
  exact sb_lv [0] rfl (hk72 γ10  )
set_option maxHeartbeats 4000000 in
theorem s_M_peek_L72 {Γ : Ctx} {x140 : St → Option (Int × St)} (hx140 : ∀ (γ : St), SB Γ BM mt_M_peek (RmN 8 282) 0 0 (KN Γ BM mt_M_peek.2.2.2) 140 [(0, vR Γ 0)] [] γ (x140 γ )) : ∀ (n : Nat) (γ : St), SB Γ BM mt_M_peek (RmN 8 282) 0 0 (KN Γ BM mt_M_peek.2.2.2) 72 [(0, vR Γ 0)] [] γ (f_M_peek_L72 x140 n γ ) := by
  intro n
  induction n with
  | zero => intros; exact sb_none
  | succ n ih =>
    intro γ
    unfold f_M_peek_L72
    refine sb_aload_n 0 d_M_peek_72 rfl ?_
    refine g_M_36 d_M_peek_73 (fun c11 => ?_)
    refine sb_aload_n 0 d_M_peek_76 rfl ?_
    refine g_M_14 d_M_peek_77 (fun c12 => ?_)
    refine sb_icmp_ge 140 c11 c12 d_M_peek_80 (by decide) (fun _ => ?_) (fun _ => ?_)
    · exact sb_lv [0] rfl (hx140 γ  )
    · refine sb_aload_n 0 d_M_peek_83 rfl ?_
      refine g_M_8 d_M_peek_84 ?_
      refine sb_aload_n 0 d_M_peek_87 rfl ?_
      refine g_M_36 d_M_peek_88 (fun c14 => ?_)
      refine al_M_1 d_M_peek_91 (fun _ c15 => ?_)
      refine sb_cSz vf_M_letter rfl (c_M_letter γ (γ 1 (γ 0 8)) c15) ml_M_281 (As := [vI (γ 1 (γ 0 8))]) rfl rfl (Nat.le_of_ble_eq_true rfl) ⟨by decide, by decide⟩ d_M_peek_92 (fun r16 γ17 hr16 => ?_)
      refine sb_if_ne 127 (z2i hr16) d_M_peek_95 (by decide) (fun _ => ?_) (fun _ => ?_)
      · exact sb_lv [0] rfl (s_M_peek_b127 ih hx140 γ17  )
      · refine sb_aload_n 0 d_M_peek_98 rfl ?_
        refine g_M_8 d_M_peek_99 ?_
        refine sb_aload_n 0 d_M_peek_102 rfl ?_
        refine g_M_36 d_M_peek_103 (fun c19 => ?_)
        refine al_M_1 d_M_peek_106 (fun _ c20 => ?_)
        refine sb_cSz vf_M_digit rfl (c_M_digit γ17 (γ17 1 (γ17 0 8)) c20) ml_M_285 (As := [vI (γ17 1 (γ17 0 8))]) rfl rfl (Nat.le_of_ble_eq_true rfl) ⟨by decide, by decide⟩ d_M_peek_107 (fun r21 γ22 hr21 => ?_)
        refine sb_if_ne 127 (z2i hr21) d_M_peek_110 (by decide) (fun _ => ?_) (fun _ => ?_)
        · exact sb_lv [0] rfl (s_M_peek_b127 ih hx140 γ22  )
        · refine sb_aload_n 0 d_M_peek_113 rfl ?_
          refine g_M_8 d_M_peek_114 ?_
          refine sb_aload_n 0 d_M_peek_117 rfl ?_
          refine g_M_36 d_M_peek_118 (fun c24 => ?_)
          refine al_M_1 d_M_peek_121 (fun _ c25 => ?_)
          refine sb_bipush d_M_peek_122 (by decide) ?_
          refine sb_icmp_ne 140 c25 (by decide) d_M_peek_124 (by decide) (fun _ => ?_) (fun _ => ?_)
          · exact sb_lv [0] rfl (hx140 γ22  )
          · exact sb_lv [0] rfl (s_M_peek_b127 ih hx140 γ22  )
set_option maxHeartbeats 4000000 in
theorem s_M_peek_b212 {Γ : Ctx} : ∀ (γ : St), SB Γ BM mt_M_peek (RmN 8 282) 0 0 (KN Γ BM mt_M_peek.2.2.2) 212 [(0, vR Γ 0)] [] γ (f_M_peek_b212 γ ) := by
  intro γ
  unfold f_M_peek_b212
  refine sb_aload_n 0 d_M_peek_212 rfl ?_
  refine sb_aload_n 0 d_M_peek_213 rfl ?_
  refine g_M_36 d_M_peek_214 (fun c26 => ?_)
  refine sb_aload_n 0 d_M_peek_217 rfl ?_
  refine g_M_27 d_M_peek_218 (fun c27 => ?_)
  refine sb_isub d_M_peek_221 ?_
  refine sb_chk (fun c28 => ?_)
  refine sb_bipush d_M_peek_222 (by decide) ?_
  refine sb_icmp_le 231 c28 (by decide) d_M_peek_224 (by decide) (fun _ => ?_) (fun _ => ?_)
  · refine sb_iconst d_M_peek_231 ?_
    refine p_M_30 (by decide) d_M_peek_232 ?_
    refine sb_aps (fun γ29 => ?_)
    refine sb_goto 286 d_M_peek_235 (by decide) ?_
    refine sb_aload_n 0 d_M_peek_286 rfl ?_
    refine g_M_30 d_M_peek_287 (fun c30 => ?_)
    exact sn_i rfl c30 d_M_peek_290
  · refine sb_iconst d_M_peek_227 ?_
    refine sb_goto 232 d_M_peek_228 (by decide) ?_
    refine p_M_30 (by decide) d_M_peek_232 ?_
    refine sb_aps (fun γ31 => ?_)
    refine sb_goto 286 d_M_peek_235 (by decide) ?_
    refine sb_aload_n 0 d_M_peek_286 rfl ?_
    refine g_M_30 d_M_peek_287 (fun c32 => ?_)
    exact sn_i rfl c32 d_M_peek_290
set_option maxHeartbeats 4000000 in
theorem s_M_peek_L173 {Γ : Ctx} {x212 : St → Option (Int × St)} (hx212 : ∀ (γ : St), SB Γ BM mt_M_peek (RmN 8 282) 0 0 (KN Γ BM mt_M_peek.2.2.2) 212 [(0, vR Γ 0)] [] γ (x212 γ )) : ∀ (n : Nat) (γ : St), SB Γ BM mt_M_peek (RmN 8 282) 0 0 (KN Γ BM mt_M_peek.2.2.2) 173 [(0, vR Γ 0)] [] γ (f_M_peek_L173 x212 n γ ) := by
  intro n
  induction n with
  | zero => intros; exact sb_none
  | succ n ih =>
    intro γ
    unfold f_M_peek_L173
    refine sb_aload_n 0 d_M_peek_173 rfl ?_
    refine g_M_36 d_M_peek_174 (fun c33 => ?_)
    refine sb_aload_n 0 d_M_peek_177 rfl ?_
    refine g_M_14 d_M_peek_178 (fun c34 => ?_)
    refine sb_icmp_ge 212 c33 c34 d_M_peek_181 (by decide) (fun _ => ?_) (fun _ => ?_)
    · exact sb_lv [0] rfl (hx212 γ  )
    · refine sb_aload_n 0 d_M_peek_184 rfl ?_
      refine g_M_8 d_M_peek_185 ?_
      refine sb_aload_n 0 d_M_peek_188 rfl ?_
      refine g_M_36 d_M_peek_189 (fun c36 => ?_)
      refine al_M_1 d_M_peek_192 (fun _ c37 => ?_)
      refine sb_cSz vf_M_digit rfl (c_M_digit γ (γ 1 (γ 0 8)) c37) ml_M_285 (As := [vI (γ 1 (γ 0 8))]) rfl rfl (Nat.le_of_ble_eq_true rfl) ⟨by decide, by decide⟩ d_M_peek_193 (fun r38 γ39 hr38 => ?_)
      refine sb_if_eq 212 (z2i hr38) d_M_peek_196 (by decide) (fun _ => ?_) (fun _ => ?_)
      · exact sb_lv [0] rfl (hx212 γ39  )
      · refine sb_aload_n 0 d_M_peek_199 rfl ?_
        refine sb_dup d_M_peek_200 rfl ?_
        refine g_M_36 d_M_peek_201 (fun c40 => ?_)
        refine sb_iconst d_M_peek_204 ?_
        refine sb_iadd d_M_peek_205 ?_
        refine sb_chk (fun c41 => ?_)
        refine p_M_36 c41 d_M_peek_206 ?_
        refine sb_aps (fun γ42 => ?_)
        refine sb_goto 173 d_M_peek_209 (by decide) ?_
        exact sb_lv [0] rfl (ih γ42  )
set_option maxHeartbeats 4000000 in
theorem c_M_peek {Γ : Ctx} (γ : St) : NC Γ BM y_M_peek mt_M_peek 8 282 [vR Γ 0] γ (f_M_peek γ) := by
  refine nc_of (by decide) rfl (Nat.le_of_ble_eq_true rfl) ?_
  show SB Γ BM mt_M_peek (RmN 8 282) 0 0 (KN Γ BM mt_M_peek.2.2.2) 0 [(0, vR Γ 0)] [] γ _
  unfold f_M_peek
  refine sb_aload_n 0 d_M_peek_0 rfl ?_
  refine g_M_39 d_M_peek_1 (fun c43 => ?_)
  refine sb_if_eq 12 c43 d_M_peek_4 (by decide) (fun _ => ?_) (fun _ => ?_)
  · refine sb_aload_n 0 d_M_peek_12 rfl ?_
    refine sb_cVv vf_M_parts (c_M_parts γ  ) rfl ml_M_278 (As := []) rfl rfl (Nat.le_of_ble_eq_true rfl) ⟨by decide, by decide⟩ d_M_peek_13 (fun _ γ45 => ?_)
    refine sb_aload_n 0 d_M_peek_16 rfl ?_
    refine sb_iconst d_M_peek_17 ?_
    refine p_M_39 (by decide) d_M_peek_18 ?_
    refine sb_aps (fun γ46 => ?_)
    refine sb_aload_n 0 d_M_peek_21 rfl ?_
    refine sb_aload_n 0 d_M_peek_22 rfl ?_
    refine g_M_27 d_M_peek_23 (fun c47 => ?_)
    refine p_M_33 c47 d_M_peek_26 ?_
    refine sb_aps (fun γ48 => ?_)
    refine sb_aload_n 0 d_M_peek_29 rfl ?_
    refine sb_aload_n 0 d_M_peek_30 rfl ?_
    refine g_M_27 d_M_peek_31 (fun c49 => ?_)
    refine p_M_36 c49 d_M_peek_34 ?_
    refine sb_aps (fun γ50 => ?_)
    refine sb_aload_n 0 d_M_peek_37 rfl ?_
    refine sb_iconst d_M_peek_38 ?_
    refine p_M_30 (by decide) d_M_peek_39 ?_
    refine sb_aps (fun γ51 => ?_)
    refine sb_aload_n 0 d_M_peek_42 rfl ?_
    refine g_M_27 d_M_peek_43 (fun c52 => ?_)
    refine sb_aload_n 0 d_M_peek_46 rfl ?_
    refine g_M_14 d_M_peek_47 (fun c53 => ?_)
    refine sb_icmp_ne 55 c52 c53 d_M_peek_50 (by decide) (fun _ => ?_) (fun _ => ?_)
    · refine sb_aload_n 0 d_M_peek_55 rfl ?_
      refine g_M_8 d_M_peek_56 ?_
      refine sb_aload_n 0 d_M_peek_59 rfl ?_
      refine g_M_27 d_M_peek_60 (fun c55 => ?_)
      refine al_M_1 d_M_peek_63 (fun _ c56 => ?_)
      refine sb_istore_n [(1, vI (γ51 1 (γ51 0 5))), (0, vR Γ 0)] d_M_peek_64 (by decide) rfl ?_
      refine sb_nme (e := γ51 1 (γ51 0 5)) (fun x57 => [(1, vI x57), (0, vR Γ 0)]) c56 (fun x57 hx57 => ?_)
      refine sb_iload_n 0 d_M_peek_65 rfl ?_
      refine sb_cSz vf_M_letter rfl (c_M_letter γ51 x57 hx57) ml_M_281 (As := [vI x57]) rfl rfl (Nat.le_of_ble_eq_true rfl) ⟨by decide, by decide⟩ d_M_peek_66 (fun r58 γ59 hr58 => ?_)
      refine sb_if_eq 166 (z2i hr58) d_M_peek_69 (by decide) (fun _ => ?_) (fun _ => ?_)
      · refine sb_iload_n 0 d_M_peek_166 rfl ?_
        refine sb_cSz vf_M_digit rfl (c_M_digit γ59 x57 hx57) ml_M_285 (As := [vI x57]) rfl rfl (Nat.le_of_ble_eq_true rfl) ⟨by decide, by decide⟩ d_M_peek_167 (fun r60 γ61 hr60 => ?_)
        refine sb_if_eq 238 (z2i hr60) d_M_peek_170 (by decide) (fun _ => ?_) (fun _ => ?_)
        · refine sb_aload_n 1 d_M_peek_238 rfl ?_
          refine sb_aload_n 1 d_M_peek_239 rfl ?_
          refine g_M_27 d_M_peek_240 (fun c62 => ?_)
          refine sb_iconst d_M_peek_243 ?_
          refine sb_iadd d_M_peek_244 ?_
          refine sb_chk (fun c63 => ?_)
          refine p_M_36 c63 d_M_peek_245 ?_
          refine sb_aps (fun γ64 => ?_)
          refine sb_aload_n 1 d_M_peek_248 rfl ?_
          refine sb_iload_n 0 d_M_peek_249 rfl ?_
          refine sb_aload_n 1 d_M_peek_250 rfl ?_
          refine sb_aload_n 1 d_M_peek_251 rfl ?_
          refine g_M_27 d_M_peek_252 (fun c65 => ?_)
          refine sb_iconst d_M_peek_255 ?_
          refine sb_iadd d_M_peek_256 ?_
          refine sb_chk (fun c66 => ?_)
          refine sb_cVi vf_M_byteAt (c_M_byteAt γ64 ((γ64 0 5) + 1) c66) rfl ml_M_274 (As := [vI ((γ64 0 5) + 1)]) rfl rfl (Nat.le_of_ble_eq_true rfl) ⟨by decide, by decide⟩ d_M_peek_257 (fun r67 γ68 hr67 => ?_)
          refine sb_cSi vf_M_sign rfl (c_M_sign γ68 x57 r67 hx57 hr67) ml_M_288 (As := [vI x57, vI r67]) rfl rfl (Nat.le_of_ble_eq_true rfl) ⟨by decide, by decide⟩ d_M_peek_260 (fun r69 γ70 hr69 => ?_)
          refine p_M_30 hr69 d_M_peek_263 ?_
          refine sb_aps (fun γ71 => ?_)
          refine sb_aload_n 1 d_M_peek_266 rfl ?_
          refine g_M_30 d_M_peek_267 (fun c72 => ?_)
          refine sb_sipush d_M_peek_270 (by decide) ?_
          refine sb_icmp_le 286 c72 (by decide) d_M_peek_273 (by decide) (fun _ => ?_) (fun _ => ?_)
          · refine sb_aload_n 1 d_M_peek_286 rfl ?_
            refine g_M_30 d_M_peek_287 (fun c73 => ?_)
            exact sn_i rfl c73 d_M_peek_290
          · refine sb_aload_n 1 d_M_peek_276 rfl ?_
            refine sb_dup d_M_peek_277 rfl ?_
            refine g_M_36 d_M_peek_278 (fun c74 => ?_)
            refine sb_iconst d_M_peek_281 ?_
            refine sb_iadd d_M_peek_282 ?_
            refine sb_chk (fun c75 => ?_)
            refine p_M_36 c75 d_M_peek_283 ?_
            refine sb_aps (fun γ76 => ?_)
            refine sb_aload_n 1 d_M_peek_286 rfl ?_
            refine g_M_30 d_M_peek_287 (fun c77 => ?_)
            exact sn_i rfl c77 d_M_peek_290
        · exact sb_lv [1] rfl (s_M_peek_L173 (s_M_peek_b212) FU γ61  )
      · exact sb_lv [1] rfl (s_M_peek_L72 (s_M_peek_b140) FU γ59  )
    · refine sb_iconst d_M_peek_53 ?_
      exact sn_i rfl (by decide) d_M_peek_54
  · refine sb_aload_n 0 d_M_peek_7 rfl ?_
    refine g_M_30 d_M_peek_8 (fun c78 => ?_)
    exact sn_i rfl c78 d_M_peek_11
theorem d_M_take_0 : decode b_M_take 0 = .ok (.aload_n 0, 1) := by decide +kernel
theorem d_M_take_1 : decode b_M_take 1 = .ok (.invokevirtual 292, 3) := by decide +kernel
theorem d_M_take_4 : decode b_M_take 4 = .ok (.pop, 1) := by decide +kernel
theorem d_M_take_5 : decode b_M_take 5 = .ok (.aload_n 0, 1) := by decide +kernel
theorem d_M_take_6 : decode b_M_take 6 = .ok (.aload_n 0, 1) := by decide +kernel
theorem d_M_take_7 : decode b_M_take 7 = .ok (.getfield 36, 3) := by decide +kernel
theorem d_M_take_10 : decode b_M_take 10 = .ok (.putfield 27, 3) := by decide +kernel
theorem d_M_take_13 : decode b_M_take 13 = .ok (.aload_n 0, 1) := by decide +kernel
theorem d_M_take_14 : decode b_M_take 14 = .ok (.iconst 0, 1) := by decide +kernel
theorem d_M_take_15 : decode b_M_take 15 = .ok (.putfield 39, 3) := by decide +kernel
theorem d_M_take_18 : decode b_M_take 18 = .ok (.return_, 1) := by decide +kernel
abbrev mt_M_take : MT := (R_M, b_M_take, 1, none)
theorem vf_M_take : VF y_M_take mt_M_take 12 0 := ⟨im_M_take, se_M_take, in_M, co_M_take, by decide +kernel, _, _, rfl⟩
def f_M_take (γ : St) : Option (Int × St) :=
  bndN (f_M_peek γ) fun r1 γ2 =>
  ap (setA γ2 0 5 (γ2 0 8)) fun γ4 =>
  ap (setA γ4 0 9 0) fun γ5 =>
  some (0, γ5)
set_option maxHeartbeats 4000000 in
theorem c_M_take {Γ : Ctx} (γ : St) : NC Γ BM y_M_take mt_M_take 9 303 [vR Γ 0] γ (f_M_take γ) := by
  refine nc_of (by decide) rfl (Nat.le_of_ble_eq_true rfl) ?_
  show SB Γ BM mt_M_take (RmN 9 303) 0 0 (KN Γ BM mt_M_take.2.2.2) 0 [(0, vR Γ 0)] [] γ _
  unfold f_M_take
  refine sb_aload_n 0 d_M_take_0 rfl ?_
  refine sb_cVi vf_M_peek (c_M_peek γ  ) rfl ml_M_292 (As := []) rfl rfl (Nat.le_of_ble_eq_true rfl) ⟨by decide, by decide⟩ d_M_take_1 (fun r1 γ2 hr1 => ?_)
  refine sb_pop d_M_take_4 rfl ?_
  refine sb_aload_n 0 d_M_take_5 rfl ?_
  refine sb_aload_n 0 d_M_take_6 rfl ?_
  refine g_M_36 d_M_take_7 (fun c3 => ?_)
  refine p_M_27 c3 d_M_take_10 ?_
  refine sb_aps (fun γ4 => ?_)
  refine sb_aload_n 0 d_M_take_13 rfl ?_
  refine sb_iconst d_M_take_14 ?_
  refine p_M_39 (by decide) d_M_take_15 ?_
  refine sb_aps (fun γ5 => ?_)
  exact sn_v rfl d_M_take_18
theorem d_M_is_0 : decode b_M_is 0 = .ok (.aload_n 0, 1) := by decide +kernel
theorem d_M_is_1 : decode b_M_is 1 = .ok (.invokevirtual 292, 3) := by decide +kernel
theorem d_M_is_4 : decode b_M_is 4 = .ok (.iconst 1, 1) := by decide +kernel
theorem d_M_is_5 : decode b_M_is 5 = .ok (.if_icmp .ne 19, 3) := by decide +kernel
theorem d_M_is_8 : decode b_M_is 8 = .ok (.aload_n 0, 1) := by decide +kernel
theorem d_M_is_9 : decode b_M_is 9 = .ok (.getfield 36, 3) := by decide +kernel
theorem d_M_is_12 : decode b_M_is 12 = .ok (.aload_n 0, 1) := by decide +kernel
theorem d_M_is_13 : decode b_M_is 13 = .ok (.getfield 33, 3) := by decide +kernel
theorem d_M_is_16 : decode b_M_is 16 = .ok (.isub, 1) := by decide +kernel
theorem d_M_is_17 : decode b_M_is 17 = .ok (.aload_n 1, 1) := by decide +kernel
theorem d_M_is_18 : decode b_M_is 18 = .ok (.invokevirtual 308, 3) := by decide +kernel
theorem d_M_is_21 : decode b_M_is 21 = .ok (.if_icmp .eq 5, 3) := by decide +kernel
theorem d_M_is_24 : decode b_M_is 24 = .ok (.iconst 0, 1) := by decide +kernel
theorem d_M_is_25 : decode b_M_is 25 = .ok (.ireturn, 1) := by decide +kernel
theorem d_M_is_26 : decode b_M_is 26 = .ok (.iconst 0, 1) := by decide +kernel
theorem d_M_is_27 : decode b_M_is 27 = .ok (.istore_n 2, 1) := by decide +kernel
theorem d_M_is_28 : decode b_M_is 28 = .ok (.iload_n 2, 1) := by decide +kernel
theorem d_M_is_29 : decode b_M_is 29 = .ok (.aload_n 1, 1) := by decide +kernel
theorem d_M_is_30 : decode b_M_is 30 = .ok (.invokevirtual 308, 3) := by decide +kernel
theorem d_M_is_33 : decode b_M_is 33 = .ok (.if_icmp .ge 30, 3) := by decide +kernel
theorem d_M_is_36 : decode b_M_is 36 = .ok (.aload_n 0, 1) := by decide +kernel
theorem d_M_is_37 : decode b_M_is 37 = .ok (.getfield 8, 3) := by decide +kernel
theorem d_M_is_40 : decode b_M_is 40 = .ok (.aload_n 0, 1) := by decide +kernel
theorem d_M_is_41 : decode b_M_is 41 = .ok (.getfield 33, 3) := by decide +kernel
theorem d_M_is_44 : decode b_M_is 44 = .ok (.iload_n 2, 1) := by decide +kernel
theorem d_M_is_45 : decode b_M_is 45 = .ok (.iadd, 1) := by decide +kernel
theorem d_M_is_46 : decode b_M_is 46 = .ok (.baload, 1) := by decide +kernel
theorem d_M_is_47 : decode b_M_is 47 = .ok (.aload_n 1, 1) := by decide +kernel
theorem d_M_is_48 : decode b_M_is 48 = .ok (.iload_n 2, 1) := by decide +kernel
theorem d_M_is_49 : decode b_M_is 49 = .ok (.invokevirtual 313, 3) := by decide +kernel
theorem d_M_is_52 : decode b_M_is 52 = .ok (.if_icmp .eq 5, 3) := by decide +kernel
theorem d_M_is_55 : decode b_M_is 55 = .ok (.iconst 0, 1) := by decide +kernel
theorem d_M_is_56 : decode b_M_is 56 = .ok (.ireturn, 1) := by decide +kernel
theorem d_M_is_57 : decode b_M_is 57 = .ok (.iinc 2 1, 3) := by decide +kernel
theorem d_M_is_60 : decode b_M_is 60 = .ok (.goto (-32), 3) := by decide +kernel
theorem d_M_is_63 : decode b_M_is 63 = .ok (.iconst 1, 1) := by decide +kernel
theorem d_M_is_64 : decode b_M_is 64 = .ok (.ireturn, 1) := by decide +kernel
abbrev mt_M_is : MT := (R_M, b_M_is, 3, some .boolean)
theorem vf_M_is : VF y_M_is mt_M_is 12 1 := ⟨im_M_is, se_M_is, in_M, co_M_is, by decide +kernel, _, _, rfl⟩
def f_M_is_L28 (w0 : Nat) : Nat → St → Int → Option (Int × St)
  | 0, _, _ => none
  | n + 1, γ, x1 =>
  if (kwL w0) ≤ x1 then
  (some (1, γ))
  else
  (chk (i32 ((γ 0 7) + x1)) (chk (inb ((γ 0 7) + x1) 65536) (chk (inb x1 (kwL w0)) (if (γ 1 ((γ 0 7) + x1)) = (kwC w0 x1) then
  (chk (i32 (x1 + 1)) ((f_M_is_L28 w0 n) γ (x1 + 1)))
  else
  (some (0, γ))))))
def f_M_is (γ : St) (w0 : Nat) : Option (Int × St) :=
  bndN (f_M_peek γ) fun r7 γ8 =>
  if r7 ≠ 1 then
  (some (0, γ8))
  else
  (chk (i32 ((γ8 0 8) - (γ8 0 7))) (if ((γ8 0 8) - (γ8 0 7)) = (kwL w0) then
  (f_M_is_L28 w0  FU γ8 0)
  else
  (some (0, γ8))))
set_option maxHeartbeats 4000000 in
theorem s_M_is_L28 {Γ : Ctx} {w0 : Nat} (hw0 : w0 < 22) : ∀ (n : Nat) (γ : St) (x1 : Int), i32 x1 → SB Γ BM mt_M_is (RmN 9 303) 0 0 (KN Γ BM mt_M_is.2.2.2) 28 [(0, vR Γ 0), (1, .ref (Γ.σ w0).1), (2, vI x1)] [] γ (f_M_is_L28 w0 n γ x1) := by
  intro n
  induction n with
  | zero => intros; exact sb_none
  | succ n ih =>
    intro γ x1 hx1
    unfold f_M_is_L28
    refine sb_iload_n 2 d_M_is_28 rfl ?_
    refine sb_aload_n 1 d_M_is_29 rfl ?_
    refine sb_slen hw0 rfl ⟨by decide, by decide⟩ (Nat.le_of_ble_eq_true rfl) d_M_is_30 ?_
    refine sb_icmp_ge 63 hx1 (kwL_b _) d_M_is_33 (by decide) (fun _ => ?_) (fun _ => ?_)
    · refine sb_iconst d_M_is_63 ?_
      exact sn_z rfl (by decide) d_M_is_64
    · refine sb_aload_n 0 d_M_is_36 rfl ?_
      refine g_M_8 d_M_is_37 ?_
      refine sb_aload_n 0 d_M_is_40 rfl ?_
      refine g_M_33 d_M_is_41 (fun c3 => ?_)
      refine sb_iload_n 2 d_M_is_44 rfl ?_
      refine sb_iadd d_M_is_45 ?_
      refine sb_chk (fun c4 => ?_)
      refine al_M_1 d_M_is_46 (fun _ c5 => ?_)
      refine sb_aload_n 1 d_M_is_47 rfl ?_
      refine sb_iload_n 2 d_M_is_48 rfl ?_
      refine sb_schr hw0 rfl ⟨by decide, by decide⟩ (Nat.le_of_ble_eq_true rfl) d_M_is_49 (fun _ => ?_)
      refine sb_icmp_eq 57 c5 (kwC_b _ _) d_M_is_52 (by decide) (fun _ => ?_) (fun _ => ?_)
      · refine sb_iinc 2 [(2, vI (x1 + 1)), (0, vR Γ 0), (1, .ref (Γ.σ w0).1)] d_M_is_57 rfl (by decide) rfl ?_
        refine sb_chk (fun c6 => ?_)
        refine sb_goto 28 d_M_is_60 (by decide) ?_
        exact sb_lv [1, 2, 0] rfl (ih γ (x1 + 1) c6)
      · refine sb_iconst d_M_is_55 ?_
        exact sn_z rfl (by decide) d_M_is_56
set_option maxHeartbeats 4000000 in
theorem c_M_is {Γ : Ctx} (γ : St) (w0 : Nat) (hw0 : w0 < 22) : NC Γ BM y_M_is mt_M_is 9 303 [vR Γ 0, .ref (Γ.σ w0).1] γ (f_M_is γ w0) := by
  refine nc_of (by decide) rfl (Nat.le_of_ble_eq_true rfl) ?_
  show SB Γ BM mt_M_is (RmN 9 303) 0 0 (KN Γ BM mt_M_is.2.2.2) 0 [(0, vR Γ 0), (1, .ref (Γ.σ w0).1)] [] γ _
  unfold f_M_is
  refine sb_aload_n 0 d_M_is_0 rfl ?_
  refine sb_cVi vf_M_peek (c_M_peek γ  ) rfl ml_M_292 (As := []) rfl rfl (Nat.le_of_ble_eq_true rfl) ⟨by decide, by decide⟩ d_M_is_1 (fun r7 γ8 hr7 => ?_)
  refine sb_iconst d_M_is_4 ?_
  refine sb_icmp_ne 24 hr7 (by decide) d_M_is_5 (by decide) (fun _ => ?_) (fun _ => ?_)
  · refine sb_iconst d_M_is_24 ?_
    exact sn_z rfl (by decide) d_M_is_25
  · refine sb_aload_n 0 d_M_is_8 rfl ?_
    refine g_M_36 d_M_is_9 (fun c9 => ?_)
    refine sb_aload_n 0 d_M_is_12 rfl ?_
    refine g_M_33 d_M_is_13 (fun c10 => ?_)
    refine sb_isub d_M_is_16 ?_
    refine sb_chk (fun c11 => ?_)
    refine sb_aload_n 1 d_M_is_17 rfl ?_
    refine sb_slen hw0 rfl ⟨by decide, by decide⟩ (Nat.le_of_ble_eq_true rfl) d_M_is_18 ?_
    refine sb_icmp_eq 26 c11 (kwL_b _) d_M_is_21 (by decide) (fun _ => ?_) (fun _ => ?_)
    · refine sb_iconst d_M_is_26 ?_
      refine sb_istore_n [(2, vI 0), (0, vR Γ 0), (1, .ref (Γ.σ w0).1)] d_M_is_27 (by decide) rfl ?_
      exact sb_lv [1, 2, 0] rfl (s_M_is_L28 hw0  FU γ8 0 (by decide))
    · refine sb_iconst d_M_is_24 ?_
      exact sn_z rfl (by decide) d_M_is_25
