/-! the reference as functions: causes, their order -/
theorem d_M_child_0 : decode b_M_child 0 = .ok (.aload_n 0, 1) := by decide +kernel
theorem d_M_child_1 : decode b_M_child 1 = .ok (.getfield 202, 3) := by decide +kernel
theorem d_M_child_4 : decode b_M_child 4 = .ok (.aload_n 0, 1) := by decide +kernel
theorem d_M_child_5 : decode b_M_child 5 = .ok (.getfield 199, 3) := by decide +kernel
theorem d_M_child_8 : decode b_M_child 8 = .ok (.iload_n 1, 1) := by decide +kernel
theorem d_M_child_9 : decode b_M_child 9 = .ok (.iaload, 1) := by decide +kernel
theorem d_M_child_10 : decode b_M_child 10 = .ok (.aload_n 0, 1) := by decide +kernel
theorem d_M_child_11 : decode b_M_child 11 = .ok (.getfield 127, 3) := by decide +kernel
theorem d_M_child_14 : decode b_M_child 14 = .ok (.iload_n 2, 1) := by decide +kernel
theorem d_M_child_15 : decode b_M_child 15 = .ok (.iaload, 1) := by decide +kernel
theorem d_M_child_16 : decode b_M_child 16 = .ok (.iadd, 1) := by decide +kernel
theorem d_M_child_17 : decode b_M_child 17 = .ok (.iaload, 1) := by decide +kernel
theorem d_M_child_18 : decode b_M_child 18 = .ok (.ireturn, 1) := by decide +kernel
abbrev mt_M_child : MT := (R_M, b_M_child, 3, some .int)
theorem vf_M_child : VF y_M_child mt_M_child 12 2 := ⟨im_M_child, se_M_child, in_M, co_M_child, by decide +kernel, _, _, rfl⟩
def f_M_child (γ : St) (a0 : Int) (a1 : Int) : Option (Int × St) :=
  chk (inb a0 3200) (chk (inb a1 66000) (chk (i32 ((γ 40 a0) + (γ 25 a1))) (chk (inb ((γ 40 a0) + (γ 25 a1)) 3200) (some (γ 41 ((γ 40 a0) + (γ 25 a1)), γ)))))
set_option maxHeartbeats 4000000 in
theorem c_M_child {Γ : Ctx} (γ : St) (a0 : Int) (a1 : Int) (ha0 : i32 a0) (ha1 : i32 a1) : NC Γ BM y_M_child mt_M_child 6 240 [vR Γ 0, vI a0, vI a1] γ (f_M_child γ a0 a1) := by
  refine nc_of (by decide) rfl (Nat.le_of_ble_eq_true rfl) ?_
  show SB Γ BM mt_M_child (RmN 6 240) 0 0 (KN Γ BM mt_M_child.2.2.2) 0 [(0, vR Γ 0), (1, vI a0), (2, vI a1)] [] γ _
  unfold f_M_child
  refine sb_aload_n 0 d_M_child_0 rfl ?_
  refine g_M_202 d_M_child_1 ?_
  refine sb_aload_n 0 d_M_child_4 rfl ?_
  refine g_M_199 d_M_child_5 ?_
  refine sb_iload_n 1 d_M_child_8 rfl ?_
  refine al_M_40 d_M_child_9 (fun _ c3 => ?_)
  refine sb_aload_n 0 d_M_child_10 rfl ?_
  refine g_M_127 d_M_child_11 ?_
  refine sb_iload_n 2 d_M_child_14 rfl ?_
  refine al_M_25 d_M_child_15 (fun _ c5 => ?_)
  refine sb_iadd d_M_child_16 ?_
  refine sb_chk (fun c6 => ?_)
  refine al_M_41 d_M_child_17 (fun _ c7 => ?_)
  exact sn_i rfl c7 d_M_child_18
theorem d_M_output_0 : decode b_M_output 0 = .ok (.aload_n 0, 1) := by decide +kernel
theorem d_M_output_1 : decode b_M_output 1 = .ok (.getfield 193, 3) := by decide +kernel
theorem d_M_output_4 : decode b_M_output 4 = .ok (.aload_n 0, 1) := by decide +kernel
theorem d_M_output_5 : decode b_M_output 5 = .ok (.iload_n 1, 1) := by decide +kernel
theorem d_M_output_6 : decode b_M_output 6 = .ok (.iload_n 2, 1) := by decide +kernel
theorem d_M_output_7 : decode b_M_output 7 = .ok (.invokevirtual 477, 3) := by decide +kernel
theorem d_M_output_10 : decode b_M_output 10 = .ok (.iaload, 1) := by decide +kernel
theorem d_M_output_11 : decode b_M_output 11 = .ok (.aload_n 0, 1) := by decide +kernel
theorem d_M_output_12 : decode b_M_output 12 = .ok (.getfield 53, 3) := by decide +kernel
theorem d_M_output_15 : decode b_M_output 15 = .ok (.aload_n 0, 1) := by decide +kernel
theorem d_M_output_16 : decode b_M_output 16 = .ok (.getfield 115, 3) := by decide +kernel
theorem d_M_output_19 : decode b_M_output 19 = .ok (.iload_n 2, 1) := by decide +kernel
theorem d_M_output_20 : decode b_M_output 20 = .ok (.iaload, 1) := by decide +kernel
theorem d_M_output_21 : decode b_M_output 21 = .ok (.iaload, 1) := by decide +kernel
theorem d_M_output_22 : decode b_M_output 22 = .ok (.iadd, 1) := by decide +kernel
theorem d_M_output_23 : decode b_M_output 23 = .ok (.iload_n 3, 1) := by decide +kernel
theorem d_M_output_24 : decode b_M_output 24 = .ok (.iadd, 1) := by decide +kernel
theorem d_M_output_25 : decode b_M_output 25 = .ok (.ireturn, 1) := by decide +kernel
abbrev mt_M_output : MT := (R_M, b_M_output, 4, some .int)
theorem vf_M_output : VF y_M_output mt_M_output 12 3 := ⟨im_M_output, se_M_output, in_M, co_M_output, by decide +kernel, _, _, rfl⟩
def f_M_output (γ : St) (a0 : Int) (a1 : Int) (a2 : Int) : Option (Int × St) :=
  bndN (f_M_child γ a0 a1) fun r2 γ3 =>
  chk (inb r2 3200) (chk (inb a1 66000) (chk (inb (γ3 21 a1) 60) (chk (i32 ((γ3 38 r2) + (γ3 5 (γ3 21 a1)))) (chk (i32 (((γ3 38 r2) + (γ3 5 (γ3 21 a1))) + a2)) (some (((γ3 38 r2) + (γ3 5 (γ3 21 a1))) + a2, γ3))))))
set_option maxHeartbeats 4000000 in
theorem c_M_output {Γ : Ctx} (γ : St) (a0 : Int) (a1 : Int) (a2 : Int) (ha0 : i32 a0) (ha1 : i32 a1) (ha2 : i32 a2) : NC Γ BM y_M_output mt_M_output 7 262 [vR Γ 0, vI a0, vI a1, vI a2] γ (f_M_output γ a0 a1 a2) := by
  refine nc_of (by decide) rfl (Nat.le_of_ble_eq_true rfl) ?_
  show SB Γ BM mt_M_output (RmN 7 262) 0 0 (KN Γ BM mt_M_output.2.2.2) 0 [(0, vR Γ 0), (1, vI a0), (2, vI a1), (3, vI a2)] [] γ _
  unfold f_M_output
  refine sb_aload_n 0 d_M_output_0 rfl ?_
  refine g_M_193 d_M_output_1 ?_
  refine sb_aload_n 0 d_M_output_4 rfl ?_
  refine sb_iload_n 1 d_M_output_5 rfl ?_
  refine sb_iload_n 2 d_M_output_6 rfl ?_
  refine sb_cVi vf_M_child (c_M_child γ a0 a1 ha0 ha1) rfl ml_M_477 (As := [vI a0, vI a1]) rfl rfl (Nat.le_of_ble_eq_true rfl) ⟨by decide, by decide⟩ d_M_output_7 (fun r2 γ3 hr2 => ?_)
  refine al_M_38 d_M_output_10 (fun _ c4 => ?_)
  refine sb_aload_n 0 d_M_output_11 rfl ?_
  refine g_M_53 d_M_output_12 ?_
  refine sb_aload_n 0 d_M_output_15 rfl ?_
  refine g_M_115 d_M_output_16 ?_
  refine sb_iload_n 2 d_M_output_19 rfl ?_
  refine al_M_21 d_M_output_20 (fun _ c7 => ?_)
  refine al_M_5 d_M_output_21 (fun _ c8 => ?_)
  refine sb_iadd d_M_output_22 ?_
  refine sb_chk (fun c9 => ?_)
  refine sb_iload_n 3 d_M_output_23 rfl ?_
  refine sb_iadd d_M_output_24 ?_
  refine sb_chk (fun c10 => ?_)
  exact sn_i rfl c10 d_M_output_25
theorem d_M_cause_0 : decode b_M_cause 0 = .ok (.aload_n 0, 1) := by decide +kernel
theorem d_M_cause_1 : decode b_M_cause 1 = .ok (.getfield 218, 3) := by decide +kernel
theorem d_M_cause_4 : decode b_M_cause 4 = .ok (.aload_n 0, 1) := by decide +kernel
theorem d_M_cause_5 : decode b_M_cause 5 = .ok (.getfield 215, 3) := by decide +kernel
theorem d_M_cause_8 : decode b_M_cause 8 = .ok (.arraylength, 1) := by decide +kernel
theorem d_M_cause_9 : decode b_M_cause 9 = .ok (.if_icmp .ge 20, 3) := by decide +kernel
theorem d_M_cause_12 : decode b_M_cause 12 = .ok (.aload_n 0, 1) := by decide +kernel
theorem d_M_cause_13 : decode b_M_cause 13 = .ok (.getfield 215, 3) := by decide +kernel
theorem d_M_cause_16 : decode b_M_cause 16 = .ok (.aload_n 0, 1) := by decide +kernel
theorem d_M_cause_17 : decode b_M_cause 17 = .ok (.dup, 1) := by decide +kernel
theorem d_M_cause_18 : decode b_M_cause 18 = .ok (.getfield 218, 3) := by decide +kernel
theorem d_M_cause_21 : decode b_M_cause 21 = .ok (.dup_x1, 1) := by decide +kernel
theorem d_M_cause_22 : decode b_M_cause 22 = .ok (.iconst 1, 1) := by decide +kernel
theorem d_M_cause_23 : decode b_M_cause 23 = .ok (.iadd, 1) := by decide +kernel
theorem d_M_cause_24 : decode b_M_cause 24 = .ok (.putfield 218, 3) := by decide +kernel
theorem d_M_cause_27 : decode b_M_cause 27 = .ok (.iload_n 1, 1) := by decide +kernel
theorem d_M_cause_28 : decode b_M_cause 28 = .ok (.iastore, 1) := by decide +kernel
theorem d_M_cause_29 : decode b_M_cause 29 = .ok (.return_, 1) := by decide +kernel
abbrev mt_M_cause : MT := (R_M, b_M_cause, 2, none)
theorem vf_M_cause : VF y_M_cause mt_M_cause 12 1 := ⟨im_M_cause, se_M_cause, in_M, co_M_cause, by decide +kernel, _, _, rfl⟩
def f_M_cause (γ : St) (a0 : Int) : Option (Int × St) :=
  if 60000 ≤ (γ 0 67) then
  (some (0, γ))
  else
  (chk (i32 ((γ 0 67) + 1)) (ap (setA γ 0 67 ((γ 0 67) + 1)) fun γ6 =>
  chk (inb (γ 0 67) 60000) (ap (setA γ6 45 (γ 0 67) a0) fun γ7 =>
  some (0, γ7))))
set_option maxHeartbeats 4000000 in
theorem c_M_cause {Γ : Ctx} (γ : St) (a0 : Int) (ha0 : i32 a0) : NC Γ BM y_M_cause mt_M_cause 6 240 [vR Γ 0, vI a0] γ (f_M_cause γ a0) := by
  refine nc_of (by decide) rfl (Nat.le_of_ble_eq_true rfl) ?_
  show SB Γ BM mt_M_cause (RmN 6 240) 0 0 (KN Γ BM mt_M_cause.2.2.2) 0 [(0, vR Γ 0), (1, vI a0)] [] γ _
  unfold f_M_cause
  refine sb_aload_n 0 d_M_cause_0 rfl ?_
  refine g_M_218 d_M_cause_1 (fun c1 => ?_)
  refine sb_aload_n 0 d_M_cause_4 rfl ?_
  refine g_M_215 d_M_cause_5 ?_
  refine sb_alen 60000 rfl (by decide) rfl d_M_cause_8 ?_
  refine sb_icmp_ge 29 c1 (by decide) d_M_cause_9 (by decide) (fun _ => ?_) (fun _ => ?_)
  · exact sn_v rfl d_M_cause_29
  · refine sb_aload_n 0 d_M_cause_12 rfl ?_
    refine g_M_215 d_M_cause_13 ?_
    refine sb_aload_n 0 d_M_cause_16 rfl ?_
    refine sb_dup d_M_cause_17 rfl ?_
    refine g_M_218 d_M_cause_18 (fun c4 => ?_)
    refine sb_dup_x1 d_M_cause_21 rfl rfl ?_
    refine sb_iconst d_M_cause_22 ?_
    refine sb_iadd d_M_cause_23 ?_
    refine sb_chk (fun c5 => ?_)
    refine p_M_218 c5 d_M_cause_24 ?_
    refine sb_aps (fun γ6 => ?_)
    refine sb_iload_n 1 d_M_cause_27 rfl ?_
    refine as_M_45 ha0 d_M_cause_28 (fun _ => ?_)
    refine sb_aps (fun γ7 => ?_)
    exact sn_v rfl d_M_cause_29
theorem d_M_clockVariable_0 : decode b_M_clockVariable 0 = .ok (.iload_n 1, 1) := by decide +kernel
theorem d_M_clockVariable_1 : decode b_M_clockVariable 1 = .ok (.istore_n 3, 1) := by decide +kernel
theorem d_M_clockVariable_2 : decode b_M_clockVariable 2 = .ok (.iload_n 2, 1) := by decide +kernel
theorem d_M_clockVariable_3 : decode b_M_clockVariable 3 = .ok (.istore 4, 2) := by decide +kernel
theorem d_M_clockVariable_5 : decode b_M_clockVariable 5 = .ok (.iload 4, 2) := by decide +kernel
theorem d_M_clockVariable_7 : decode b_M_clockVariable 7 = .ok (.iconst (-1), 1) := by decide +kernel
theorem d_M_clockVariable_8 : decode b_M_clockVariable 8 = .ok (.if_icmp .ne 35, 3) := by decide +kernel
theorem d_M_clockVariable_11 : decode b_M_clockVariable 11 = .ok (.aload_n 0, 1) := by decide +kernel
theorem d_M_clockVariable_12 : decode b_M_clockVariable 12 = .ok (.getfield 187, 3) := by decide +kernel
theorem d_M_clockVariable_15 : decode b_M_clockVariable 15 = .ok (.iload_n 3, 1) := by decide +kernel
theorem d_M_clockVariable_16 : decode b_M_clockVariable 16 = .ok (.iaload, 1) := by decide +kernel
theorem d_M_clockVariable_17 : decode b_M_clockVariable 17 = .ok (.ifCond .lt 26, 3) := by decide +kernel
theorem d_M_clockVariable_20 : decode b_M_clockVariable 20 = .ok (.aload_n 0, 1) := by decide +kernel
theorem d_M_clockVariable_21 : decode b_M_clockVariable 21 = .ok (.getfield 145, 3) := by decide +kernel
theorem d_M_clockVariable_24 : decode b_M_clockVariable 24 = .ok (.aload_n 0, 1) := by decide +kernel
theorem d_M_clockVariable_25 : decode b_M_clockVariable 25 = .ok (.getfield 190, 3) := by decide +kernel
theorem d_M_clockVariable_28 : decode b_M_clockVariable 28 = .ok (.iload_n 3, 1) := by decide +kernel
theorem d_M_clockVariable_29 : decode b_M_clockVariable 29 = .ok (.iaload, 1) := by decide +kernel
theorem d_M_clockVariable_30 : decode b_M_clockVariable 30 = .ok (.iaload, 1) := by decide +kernel
theorem d_M_clockVariable_31 : decode b_M_clockVariable 31 = .ok (.istore 4, 2) := by decide +kernel
theorem d_M_clockVariable_33 : decode b_M_clockVariable 33 = .ok (.aload_n 0, 1) := by decide +kernel
theorem d_M_clockVariable_34 : decode b_M_clockVariable 34 = .ok (.getfield 187, 3) := by decide +kernel
theorem d_M_clockVariable_37 : decode b_M_clockVariable 37 = .ok (.iload_n 3, 1) := by decide +kernel
theorem d_M_clockVariable_38 : decode b_M_clockVariable 38 = .ok (.iaload, 1) := by decide +kernel
theorem d_M_clockVariable_39 : decode b_M_clockVariable 39 = .ok (.istore_n 3, 1) := by decide +kernel
theorem d_M_clockVariable_40 : decode b_M_clockVariable 40 = .ok (.goto (-35), 3) := by decide +kernel
theorem d_M_clockVariable_43 : decode b_M_clockVariable 43 = .ok (.iload 4, 2) := by decide +kernel
theorem d_M_clockVariable_45 : decode b_M_clockVariable 45 = .ok (.iconst (-1), 1) := by decide +kernel
theorem d_M_clockVariable_46 : decode b_M_clockVariable 46 = .ok (.if_icmp .ne 7, 3) := by decide +kernel
theorem d_M_clockVariable_49 : decode b_M_clockVariable 49 = .ok (.iconst (-1), 1) := by decide +kernel
theorem d_M_clockVariable_50 : decode b_M_clockVariable 50 = .ok (.goto 14, 3) := by decide +kernel
theorem d_M_clockVariable_53 : decode b_M_clockVariable 53 = .ok (.aload_n 0, 1) := by decide +kernel
theorem d_M_clockVariable_54 : decode b_M_clockVariable 54 = .ok (.getfield 193, 3) := by decide +kernel
theorem d_M_clockVariable_57 : decode b_M_clockVariable 57 = .ok (.iload_n 3, 1) := by decide +kernel
theorem d_M_clockVariable_58 : decode b_M_clockVariable 58 = .ok (.iaload, 1) := by decide +kernel
theorem d_M_clockVariable_59 : decode b_M_clockVariable 59 = .ok (.iload 4, 2) := by decide +kernel
theorem d_M_clockVariable_61 : decode b_M_clockVariable 61 = .ok (.iconst 2, 1) := by decide +kernel
theorem d_M_clockVariable_62 : decode b_M_clockVariable 62 = .ok (.idiv, 1) := by decide +kernel
theorem d_M_clockVariable_63 : decode b_M_clockVariable 63 = .ok (.iadd, 1) := by decide +kernel
theorem d_M_clockVariable_64 : decode b_M_clockVariable 64 = .ok (.ireturn, 1) := by decide +kernel
abbrev mt_M_clockVariable : MT := (R_M, b_M_clockVariable, 5, some .int)
theorem vf_M_clockVariable : VF y_M_clockVariable mt_M_clockVariable 12 2 := ⟨im_M_clockVariable, se_M_clockVariable, in_M, co_M_clockVariable, by decide +kernel, _, _, rfl⟩
def f_M_clockVariable_b43 (γ : St) (x1 : Int) (x2 : Int) : Option (Int × St) :=
  if x2 ≠ (-1) then
  (chk (inb x1 3200) (chk ((2 : Int) ≠ 0) (chk (i32 ((γ 38 x1) + (idiv x2 2))) (some ((γ 38 x1) + (idiv x2 2), γ)))))
  else
  (some ((-1), γ))
def f_M_clockVariable_L5 (x43 : St → Int → Int → Option (Int × St)) : Nat → St → Int → Int → Option (Int × St)
  | 0, _, _, _ => none
  | n + 1, γ, x6, x7 =>
  if x7 ≠ (-1) then
  (x43 γ x6 x7)
  else
  (chk (inb x6 3200) (if (γ 36 x6) < 0 then
  (x43 γ x6 x7)
  else
  (chk (inb x6 3200) (chk (inb (γ 37 x6) 66000) (ap (γ 29 (γ 37 x6)) fun x14 =>
  chk (inb x6 3200) (ap (γ 36 x6) fun x17 =>
  (f_M_clockVariable_L5 x43 n) γ x17 x14))))))
def f_M_clockVariable (γ : St) (a0 : Int) (a1 : Int) : Option (Int × St) :=
  f_M_clockVariable_L5 (f_M_clockVariable_b43) FU γ a0 a1
set_option maxHeartbeats 4000000 in
theorem s_M_clockVariable_b43 {Γ : Ctx} : ∀ (γ : St) (x1 : Int) (x2 : Int), i32 x1 → i32 x2 → SB Γ BM mt_M_clockVariable (RmN 6 240) 0 0 (KN Γ BM mt_M_clockVariable.2.2.2) 43 [(0, vR Γ 0), (3, vI x1), (4, vI x2)] [] γ (f_M_clockVariable_b43 γ x1 x2) := by
  intro γ x1 x2 hx1 hx2
  unfold f_M_clockVariable_b43
  refine sb_iload 2 d_M_clockVariable_43 rfl ?_
  refine sb_iconst d_M_clockVariable_45 ?_
  refine sb_icmp_ne 53 hx2 (by decide) d_M_clockVariable_46 (by decide) (fun _ => ?_) (fun _ => ?_)
  · refine sb_aload_n 0 d_M_clockVariable_53 rfl ?_
    refine g_M_193 d_M_clockVariable_54 ?_
    refine sb_iload_n 1 d_M_clockVariable_57 rfl ?_
    refine al_M_38 d_M_clockVariable_58 (fun _ c4 => ?_)
    refine sb_iload 2 d_M_clockVariable_59 rfl ?_
    refine sb_iconst d_M_clockVariable_61 ?_
    refine sb_idiv (by decide) d_M_clockVariable_62 (fun _ => ?_)
    refine sb_iadd d_M_clockVariable_63 ?_
    refine sb_chk (fun c5 => ?_)
    exact sn_i rfl c5 d_M_clockVariable_64
  · refine sb_iconst d_M_clockVariable_49 ?_
    refine sb_goto 64 d_M_clockVariable_50 (by decide) ?_
    exact sn_i rfl (by decide) d_M_clockVariable_64
set_option maxHeartbeats 4000000 in
theorem s_M_clockVariable_L5 {Γ : Ctx} {x43 : St → Int → Int → Option (Int × St)} (hx43 : ∀ (γ : St) (x18 : Int) (x19 : Int), i32 x18 → i32 x19 → SB Γ BM mt_M_clockVariable (RmN 6 240) 0 0 (KN Γ BM mt_M_clockVariable.2.2.2) 43 [(0, vR Γ 0), (3, vI x18), (4, vI x19)] [] γ (x43 γ x18 x19)) : ∀ (n : Nat) (γ : St) (x6 : Int) (x7 : Int), i32 x6 → i32 x7 → SB Γ BM mt_M_clockVariable (RmN 6 240) 0 0 (KN Γ BM mt_M_clockVariable.2.2.2) 5 [(0, vR Γ 0), (3, vI x6), (4, vI x7)] [] γ (f_M_clockVariable_L5 x43 n γ x6 x7) := by
  intro n
  induction n with
  | zero => intros; exact sb_none
  | succ n ih =>
    intro γ x6 x7 hx6 hx7
    unfold f_M_clockVariable_L5
    refine sb_iload 2 d_M_clockVariable_5 rfl ?_
    refine sb_iconst d_M_clockVariable_7 ?_
    refine sb_icmp_ne 43 hx7 (by decide) d_M_clockVariable_8 (by decide) (fun _ => ?_) (fun _ => ?_)
    · exact sb_lv [0, 1, 2] rfl (hx43 γ x6 x7 hx6 hx7)
    · refine sb_aload_n 0 d_M_clockVariable_11 rfl ?_
      refine g_M_187 d_M_clockVariable_12 ?_
      refine sb_iload_n 1 d_M_clockVariable_15 rfl ?_
      refine al_M_36 d_M_clockVariable_16 (fun _ c9 => ?_)
      refine sb_if_lt 43 c9 d_M_clockVariable_17 (by decide) (fun _ => ?_) (fun _ => ?_)
      · exact sb_lv [0, 1, 2] rfl (hx43 γ x6 x7 hx6 hx7)
      · refine sb_aload_n 0 d_M_clockVariable_20 rfl ?_
        refine g_M_145 d_M_clockVariable_21 ?_
        refine sb_aload_n 0 d_M_clockVariable_24 rfl ?_
        refine g_M_190 d_M_clockVariable_25 ?_
        refine sb_iload_n 1 d_M_clockVariable_28 rfl ?_
        refine al_M_37 d_M_clockVariable_29 (fun _ c12 => ?_)
        refine al_M_29 d_M_clockVariable_30 (fun _ c13 => ?_)
        refine sb_istore [(4, vI (γ 29 (γ 37 x6))), (0, vR Γ 0), (3, vI x6)] d_M_clockVariable_31 (by decide) rfl ?_
        refine sb_nme (e := γ 29 (γ 37 x6)) (fun x14 => [(4, vI x14), (0, vR Γ 0), (3, vI x6)]) c13 (fun x14 hx14 => ?_)
        refine sb_aload_n 1 d_M_clockVariable_33 rfl ?_
        refine g_M_187 d_M_clockVariable_34 ?_
        refine sb_iload_n 2 d_M_clockVariable_37 rfl ?_
        refine al_M_36 d_M_clockVariable_38 (fun _ c16 => ?_)
        refine sb_istore_n [(3, vI (γ 36 x6)), (4, vI x14), (0, vR Γ 0)] d_M_clockVariable_39 (by decide) rfl ?_
        refine sb_nme (e := γ 36 x6) (fun x17 => [(3, vI x17), (4, vI x14), (0, vR Γ 0)]) c16 (fun x17 hx17 => ?_)
        refine sb_goto 5 d_M_clockVariable_40 (by decide) ?_
        exact sb_lv [2, 0, 1] rfl (ih γ x17 x14 hx17 hx14)
set_option maxHeartbeats 4000000 in
theorem c_M_clockVariable {Γ : Ctx} (γ : St) (a0 : Int) (a1 : Int) (ha0 : i32 a0) (ha1 : i32 a1) : NC Γ BM y_M_clockVariable mt_M_clockVariable 6 240 [vR Γ 0, vI a0, vI a1] γ (f_M_clockVariable γ a0 a1) := by
  refine nc_of (by decide) rfl (Nat.le_of_ble_eq_true rfl) ?_
  show SB Γ BM mt_M_clockVariable (RmN 6 240) 0 0 (KN Γ BM mt_M_clockVariable.2.2.2) 0 [(0, vR Γ 0), (1, vI a0), (2, vI a1)] [] γ _
  unfold f_M_clockVariable
  refine sb_iload_n 1 d_M_clockVariable_0 rfl ?_
  refine sb_istore_n [(3, vI a0), (0, vR Γ 0), (1, vI a0), (2, vI a1)] d_M_clockVariable_1 (by decide) rfl ?_
  refine sb_iload_n 3 d_M_clockVariable_2 rfl ?_
  refine sb_istore [(4, vI a1), (3, vI a0), (0, vR Γ 0), (1, vI a0), (2, vI a1)] d_M_clockVariable_3 (by decide) rfl ?_
  exact sb_lv [2, 1, 0] rfl (s_M_clockVariable_L5 (s_M_clockVariable_b43) FU γ a0 a1 ha0 ha1)
theorem d_M_partCauses_0 : decode b_M_partCauses 0 = .ok (.aload_n 0, 1) := by decide +kernel
theorem d_M_partCauses_1 : decode b_M_partCauses 1 = .ok (.getfield 151, 3) := by decide +kernel
theorem d_M_partCauses_4 : decode b_M_partCauses 4 = .ok (.iload_n 2, 1) := by decide +kernel
theorem d_M_partCauses_5 : decode b_M_partCauses 5 = .ok (.iaload, 1) := by decide +kernel
theorem d_M_partCauses_6 : decode b_M_partCauses 6 = .ok (.istore_n 3, 1) := by decide +kernel
theorem d_M_partCauses_7 : decode b_M_partCauses 7 = .ok (.iload_n 3, 1) := by decide +kernel
theorem d_M_partCauses_8 : decode b_M_partCauses 8 = .ok (.iload_n 2, 1) := by decide +kernel
theorem d_M_partCauses_9 : decode b_M_partCauses 9 = .ok (.if_icmp .gt 140, 3) := by decide +kernel
theorem d_M_partCauses_12 : decode b_M_partCauses 12 = .ok (.aload_n 0, 1) := by decide +kernel
theorem d_M_partCauses_13 : decode b_M_partCauses 13 = .ok (.getfield 148, 3) := by decide +kernel
theorem d_M_partCauses_16 : decode b_M_partCauses 16 = .ok (.iload_n 3, 1) := by decide +kernel
theorem d_M_partCauses_17 : decode b_M_partCauses 17 = .ok (.iaload, 1) := by decide +kernel
theorem d_M_partCauses_18 : decode b_M_partCauses 18 = .ok (.iload_n 2, 1) := by decide +kernel
theorem d_M_partCauses_19 : decode b_M_partCauses 19 = .ok (.if_icmp .eq 6, 3) := by decide +kernel
theorem d_M_partCauses_22 : decode b_M_partCauses 22 = .ok (.goto 121, 3) := by decide +kernel
theorem d_M_partCauses_25 : decode b_M_partCauses 25 = .ok (.aload_n 0, 1) := by decide +kernel
theorem d_M_partCauses_26 : decode b_M_partCauses 26 = .ok (.getfield 112, 3) := by decide +kernel
theorem d_M_partCauses_29 : decode b_M_partCauses 29 = .ok (.iload_n 3, 1) := by decide +kernel
theorem d_M_partCauses_30 : decode b_M_partCauses 30 = .ok (.iaload, 1) := by decide +kernel
theorem d_M_partCauses_31 : decode b_M_partCauses 31 = .ok (.iconst 2, 1) := by decide +kernel
theorem d_M_partCauses_32 : decode b_M_partCauses 32 = .ok (.if_icmp .ne 20, 3) := by decide +kernel
theorem d_M_partCauses_35 : decode b_M_partCauses 35 = .ok (.aload_n 0, 1) := by decide +kernel
theorem d_M_partCauses_36 : decode b_M_partCauses 36 = .ok (.aload_n 0, 1) := by decide +kernel
theorem d_M_partCauses_37 : decode b_M_partCauses 37 = .ok (.getfield 193, 3) := by decide +kernel
theorem d_M_partCauses_40 : decode b_M_partCauses 40 = .ok (.iload_n 1, 1) := by decide +kernel
theorem d_M_partCauses_41 : decode b_M_partCauses 41 = .ok (.iaload, 1) := by decide +kernel
theorem d_M_partCauses_42 : decode b_M_partCauses 42 = .ok (.aload_n 0, 1) := by decide +kernel
theorem d_M_partCauses_43 : decode b_M_partCauses 43 = .ok (.getfield 115, 3) := by decide +kernel
theorem d_M_partCauses_46 : decode b_M_partCauses 46 = .ok (.iload_n 3, 1) := by decide +kernel
theorem d_M_partCauses_47 : decode b_M_partCauses 47 = .ok (.iaload, 1) := by decide +kernel
theorem d_M_partCauses_48 : decode b_M_partCauses 48 = .ok (.iadd, 1) := by decide +kernel
theorem d_M_partCauses_49 : decode b_M_partCauses 49 = .ok (.invokevirtual 480, 3) := by decide +kernel
theorem d_M_partCauses_52 : decode b_M_partCauses 52 = .ok (.aload_n 0, 1) := by decide +kernel
theorem d_M_partCauses_53 : decode b_M_partCauses 53 = .ok (.getfield 112, 3) := by decide +kernel
theorem d_M_partCauses_56 : decode b_M_partCauses 56 = .ok (.iload_n 3, 1) := by decide +kernel
theorem d_M_partCauses_57 : decode b_M_partCauses 57 = .ok (.iaload, 1) := by decide +kernel
theorem d_M_partCauses_58 : decode b_M_partCauses 58 = .ok (.iconst 3, 1) := by decide +kernel
theorem d_M_partCauses_59 : decode b_M_partCauses 59 = .ok (.if_icmp .ne 19, 3) := by decide +kernel
theorem d_M_partCauses_62 : decode b_M_partCauses 62 = .ok (.iload_n 3, 1) := by decide +kernel
theorem d_M_partCauses_63 : decode b_M_partCauses 63 = .ok (.iload_n 2, 1) := by decide +kernel
theorem d_M_partCauses_64 : decode b_M_partCauses 64 = .ok (.if_icmp .eq 14, 3) := by decide +kernel
theorem d_M_partCauses_67 : decode b_M_partCauses 67 = .ok (.aload_n 0, 1) := by decide +kernel
theorem d_M_partCauses_68 : decode b_M_partCauses 68 = .ok (.aload_n 0, 1) := by decide +kernel
theorem d_M_partCauses_69 : decode b_M_partCauses 69 = .ok (.iload_n 1, 1) := by decide +kernel
theorem d_M_partCauses_70 : decode b_M_partCauses 70 = .ok (.iload_n 3, 1) := by decide +kernel
theorem d_M_partCauses_71 : decode b_M_partCauses 71 = .ok (.iconst 0, 1) := by decide +kernel
theorem d_M_partCauses_72 : decode b_M_partCauses 72 = .ok (.invokevirtual 483, 3) := by decide +kernel
theorem d_M_partCauses_75 : decode b_M_partCauses 75 = .ok (.invokevirtual 480, 3) := by decide +kernel
theorem d_M_partCauses_78 : decode b_M_partCauses 78 = .ok (.aload_n 0, 1) := by decide +kernel
theorem d_M_partCauses_79 : decode b_M_partCauses 79 = .ok (.getfield 112, 3) := by decide +kernel
theorem d_M_partCauses_82 : decode b_M_partCauses 82 = .ok (.iload_n 3, 1) := by decide +kernel
theorem d_M_partCauses_83 : decode b_M_partCauses 83 = .ok (.iaload, 1) := by decide +kernel
theorem d_M_partCauses_84 : decode b_M_partCauses 84 = .ok (.bipush 26, 2) := by decide +kernel
theorem d_M_partCauses_86 : decode b_M_partCauses 86 = .ok (.if_icmp .ne 22, 3) := by decide +kernel
theorem d_M_partCauses_89 : decode b_M_partCauses 89 = .ok (.aload_n 0, 1) := by decide +kernel
theorem d_M_partCauses_90 : decode b_M_partCauses 90 = .ok (.aload_n 0, 1) := by decide +kernel
theorem d_M_partCauses_91 : decode b_M_partCauses 91 = .ok (.getfield 193, 3) := by decide +kernel
theorem d_M_partCauses_94 : decode b_M_partCauses 94 = .ok (.iload_n 1, 1) := by decide +kernel
theorem d_M_partCauses_95 : decode b_M_partCauses 95 = .ok (.iaload, 1) := by decide +kernel
theorem d_M_partCauses_96 : decode b_M_partCauses 96 = .ok (.aload_n 0, 1) := by decide +kernel
theorem d_M_partCauses_97 : decode b_M_partCauses 97 = .ok (.getfield 115, 3) := by decide +kernel
theorem d_M_partCauses_100 : decode b_M_partCauses 100 = .ok (.iload_n 3, 1) := by decide +kernel
theorem d_M_partCauses_101 : decode b_M_partCauses 101 = .ok (.iaload, 1) := by decide +kernel
theorem d_M_partCauses_102 : decode b_M_partCauses 102 = .ok (.iconst 2, 1) := by decide +kernel
theorem d_M_partCauses_103 : decode b_M_partCauses 103 = .ok (.idiv, 1) := by decide +kernel
theorem d_M_partCauses_104 : decode b_M_partCauses 104 = .ok (.iadd, 1) := by decide +kernel
theorem d_M_partCauses_105 : decode b_M_partCauses 105 = .ok (.invokevirtual 480, 3) := by decide +kernel
theorem d_M_partCauses_108 : decode b_M_partCauses 108 = .ok (.aload_n 0, 1) := by decide +kernel
theorem d_M_partCauses_109 : decode b_M_partCauses 109 = .ok (.getfield 112, 3) := by decide +kernel
theorem d_M_partCauses_112 : decode b_M_partCauses 112 = .ok (.iload_n 3, 1) := by decide +kernel
theorem d_M_partCauses_113 : decode b_M_partCauses 113 = .ok (.iaload, 1) := by decide +kernel
theorem d_M_partCauses_114 : decode b_M_partCauses 114 = .ok (.bipush 25, 2) := by decide +kernel
theorem d_M_partCauses_116 : decode b_M_partCauses 116 = .ok (.if_icmp .ne 27, 3) := by decide +kernel
theorem d_M_partCauses_119 : decode b_M_partCauses 119 = .ok (.aload_n 0, 1) := by decide +kernel
theorem d_M_partCauses_120 : decode b_M_partCauses 120 = .ok (.aload_n 0, 1) := by decide +kernel
theorem d_M_partCauses_121 : decode b_M_partCauses 121 = .ok (.getfield 193, 3) := by decide +kernel
theorem d_M_partCauses_124 : decode b_M_partCauses 124 = .ok (.iload_n 1, 1) := by decide +kernel
theorem d_M_partCauses_125 : decode b_M_partCauses 125 = .ok (.iaload, 1) := by decide +kernel
theorem d_M_partCauses_126 : decode b_M_partCauses 126 = .ok (.aload_n 0, 1) := by decide +kernel
theorem d_M_partCauses_127 : decode b_M_partCauses 127 = .ok (.getfield 145, 3) := by decide +kernel
theorem d_M_partCauses_130 : decode b_M_partCauses 130 = .ok (.aload_n 0, 1) := by decide +kernel
theorem d_M_partCauses_131 : decode b_M_partCauses 131 = .ok (.getfield 118, 3) := by decide +kernel
theorem d_M_partCauses_134 : decode b_M_partCauses 134 = .ok (.iload_n 3, 1) := by decide +kernel
theorem d_M_partCauses_135 : decode b_M_partCauses 135 = .ok (.iaload, 1) := by decide +kernel
theorem d_M_partCauses_136 : decode b_M_partCauses 136 = .ok (.iaload, 1) := by decide +kernel
theorem d_M_partCauses_137 : decode b_M_partCauses 137 = .ok (.iconst 2, 1) := by decide +kernel
theorem d_M_partCauses_138 : decode b_M_partCauses 138 = .ok (.idiv, 1) := by decide +kernel
theorem d_M_partCauses_139 : decode b_M_partCauses 139 = .ok (.iadd, 1) := by decide +kernel
theorem d_M_partCauses_140 : decode b_M_partCauses 140 = .ok (.invokevirtual 480, 3) := by decide +kernel
theorem d_M_partCauses_143 : decode b_M_partCauses 143 = .ok (.iinc 3 1, 3) := by decide +kernel
theorem d_M_partCauses_146 : decode b_M_partCauses 146 = .ok (.goto (-139), 3) := by decide +kernel
theorem d_M_partCauses_149 : decode b_M_partCauses 149 = .ok (.return_, 1) := by decide +kernel
abbrev mt_M_partCauses : MT := (R_M, b_M_partCauses, 4, none)
theorem vf_M_partCauses : VF y_M_partCauses mt_M_partCauses 12 2 := ⟨im_M_partCauses, se_M_partCauses, in_M, co_M_partCauses, by decide +kernel, _, _, rfl⟩
def f_M_partCauses_b143 (k7 : St → Int → Int → Int → Option (Int × St)) (γ : St) (x1 : Int) (x2 : Int) (x3 : Int) : Option (Int × St) :=
  chk (i32 (x3 + 1)) (k7 γ x1 x2 (x3 + 1))
def f_M_partCauses_b108 (k7 : St → Int → Int → Int → Option (Int × St)) (γ : St) (x8 : Int) (x9 : Int) (x10 : Int) : Option (Int × St) :=
  chk (inb x10 66000) (if (γ 20 x10) ≠ 25 then
  (f_M_partCauses_b143 k7 γ x8 x9 x10)
  else
  (chk (inb x8 3200) (chk (inb x10 66000) (chk (inb (γ 22 x10) 66000) (chk ((2 : Int) ≠ 0) (chk (i32 ((γ 38 x8) + (idiv (γ 29 (γ 22 x10)) 2))) (bndN (f_M_cause γ ((γ 38 x8) + (idiv (γ 29 (γ 22 x10)) 2))) fun _ γ21 =>
  f_M_partCauses_b143 k7 γ21 x8 x9 x10)))))))
def f_M_partCauses_b78 (k7 : St → Int → Int → Int → Option (Int × St)) (γ : St) (x25 : Int) (x26 : Int) (x27 : Int) : Option (Int × St) :=
  chk (inb x27 66000) (if (γ 20 x27) ≠ 26 then
  (f_M_partCauses_b108 k7 γ x25 x26 x27)
  else
  (chk (inb x25 3200) (chk (inb x27 66000) (chk ((2 : Int) ≠ 0) (chk (i32 ((γ 38 x25) + (idiv (γ 21 x27) 2))) (bndN (f_M_cause γ ((γ 38 x25) + (idiv (γ 21 x27) 2))) fun _ γ36 =>
  f_M_partCauses_b108 k7 γ36 x25 x26 x27))))))
def f_M_partCauses_b52 (k7 : St → Int → Int → Int → Option (Int × St)) (γ : St) (x40 : Int) (x41 : Int) (x42 : Int) : Option (Int × St) :=
  chk (inb x42 66000) (if (γ 20 x42) ≠ 3 then
  (f_M_partCauses_b78 k7 γ x40 x41 x42)
  else
  (if x42 = x41 then
  (f_M_partCauses_b78 k7 γ x40 x41 x42)
  else
  (bndN (f_M_output γ x40 x42 0) fun r45 γ46 =>
  bndN (f_M_cause γ46 r45) fun _ γ48 =>
  f_M_partCauses_b78 k7 γ48 x40 x41 x42)))
def f_M_partCauses_L7 : Nat → St → Int → Int → Int → Option (Int × St)
  | 0, _, _, _, _ => none
  | n + 1, γ, x52, x53, x54 =>
  if x53 < x54 then
  (some (0, γ))
  else
  (chk (inb x54 66000) (if (γ 30 x54) = x53 then
  (chk (inb x54 66000) (if (γ 20 x54) ≠ 2 then
  (f_M_partCauses_b52 (f_M_partCauses_L7 n) γ x52 x53 x54)
  else
  (chk (inb x52 3200) (chk (inb x54 66000) (chk (i32 ((γ 38 x52) + (γ 21 x54))) (bndN (f_M_cause γ ((γ 38 x52) + (γ 21 x54))) fun _ γ65 =>
  f_M_partCauses_b52 (f_M_partCauses_L7 n) γ65 x52 x53 x54))))))
  else
  (f_M_partCauses_b143 (f_M_partCauses_L7 n) γ x52 x53 x54)))
def f_M_partCauses (γ : St) (a0 : Int) (a1 : Int) : Option (Int × St) :=
  chk (inb a1 66000) (ap (γ 31 a1) fun x68 =>
  f_M_partCauses_L7  FU γ a0 a1 x68)
set_option maxHeartbeats 4000000 in
theorem s_M_partCauses_b143 {Γ : Ctx} {k7 : St → Int → Int → Int → Option (Int × St)} (hk7 : ∀ (γ : St) (x5 : Int) (x6 : Int) (x7 : Int), i32 x5 → i32 x6 → i32 x7 → SB Γ BM mt_M_partCauses (RmN 8 285) 0 0 (KN Γ BM mt_M_partCauses.2.2.2) 7 [(0, vR Γ 0), (1, vI x5), (2, vI x6), (3, vI x7)] [] γ (k7 γ x5 x6 x7)) : ∀ (γ : St) (x1 : Int) (x2 : Int) (x3 : Int), i32 x1 → i32 x2 → i32 x3 → SB Γ BM mt_M_partCauses (RmN 8 285) 0 0 (KN Γ BM mt_M_partCauses.2.2.2) 143 [(0, vR Γ 0), (1, vI x1), (2, vI x2), (3, vI x3)] [] γ (f_M_partCauses_b143 k7 γ x1 x2 x3) := by
  intro γ x1 x2 x3 hx1 hx2 hx3
  unfold f_M_partCauses_b143
  refine sb_iinc 3 [(3, vI (x3 + 1)), (0, vR Γ 0), (1, vI x1), (2, vI x2)] d_M_partCauses_143 rfl (by decide) rfl ?_
  refine sb_chk (fun c4 => ?_)
  refine sb_goto 7 d_M_partCauses_146 (by decide) ?_
  exact sb_lv [1, 2, 3, 0] rfl (hk7 γ x1 x2 (x3 + 1) hx1 hx2 c4)
set_option maxHeartbeats 4000000 in
theorem s_M_partCauses_b108 {Γ : Ctx} {k7 : St → Int → Int → Int → Option (Int × St)} (hk7 : ∀ (γ : St) (x22 : Int) (x23 : Int) (x24 : Int), i32 x22 → i32 x23 → i32 x24 → SB Γ BM mt_M_partCauses (RmN 8 285) 0 0 (KN Γ BM mt_M_partCauses.2.2.2) 7 [(0, vR Γ 0), (1, vI x22), (2, vI x23), (3, vI x24)] [] γ (k7 γ x22 x23 x24)) : ∀ (γ : St) (x8 : Int) (x9 : Int) (x10 : Int), i32 x8 → i32 x9 → i32 x10 → SB Γ BM mt_M_partCauses (RmN 8 285) 0 0 (KN Γ BM mt_M_partCauses.2.2.2) 108 [(0, vR Γ 0), (1, vI x8), (2, vI x9), (3, vI x10)] [] γ (f_M_partCauses_b108 k7 γ x8 x9 x10) := by
  intro γ x8 x9 x10 hx8 hx9 hx10
  unfold f_M_partCauses_b108
  refine sb_aload_n 0 d_M_partCauses_108 rfl ?_
  refine g_M_112 d_M_partCauses_109 ?_
  refine sb_iload_n 3 d_M_partCauses_112 rfl ?_
  refine al_M_20 d_M_partCauses_113 (fun _ c12 => ?_)
  refine sb_bipush d_M_partCauses_114 (by decide) ?_
  refine sb_icmp_ne 143 c12 (by decide) d_M_partCauses_116 (by decide) (fun _ => ?_) (fun _ => ?_)
  · exact sb_lv [0, 1, 2, 3] rfl (s_M_partCauses_b143 hk7 γ x8 x9 x10 hx8 hx9 hx10)
  · refine sb_aload_n 0 d_M_partCauses_119 rfl ?_
    refine sb_aload_n 0 d_M_partCauses_120 rfl ?_
    refine g_M_193 d_M_partCauses_121 ?_
    refine sb_iload_n 1 d_M_partCauses_124 rfl ?_
    refine al_M_38 d_M_partCauses_125 (fun _ c14 => ?_)
    refine sb_aload_n 0 d_M_partCauses_126 rfl ?_
    refine g_M_145 d_M_partCauses_127 ?_
    refine sb_aload_n 0 d_M_partCauses_130 rfl ?_
    refine g_M_118 d_M_partCauses_131 ?_
    refine sb_iload_n 3 d_M_partCauses_134 rfl ?_
    refine al_M_22 d_M_partCauses_135 (fun _ c17 => ?_)
    refine al_M_29 d_M_partCauses_136 (fun _ c18 => ?_)
    refine sb_iconst d_M_partCauses_137 ?_
    refine sb_idiv (by decide) d_M_partCauses_138 (fun _ => ?_)
    refine sb_iadd d_M_partCauses_139 ?_
    refine sb_chk (fun c19 => ?_)
    refine sb_cVv vf_M_cause (c_M_cause γ ((γ 38 x8) + (idiv (γ 29 (γ 22 x10)) 2)) c19) rfl ml_M_480 (As := [vI ((γ 38 x8) + (idiv (γ 29 (γ 22 x10)) 2))]) rfl rfl (Nat.le_of_ble_eq_true rfl) ⟨by decide, by decide⟩ d_M_partCauses_140 (fun _ γ21 => ?_)
    exact sb_lv [0, 1, 2, 3] rfl (s_M_partCauses_b143 hk7 γ21 x8 x9 x10 hx8 hx9 hx10)
set_option maxHeartbeats 4000000 in
theorem s_M_partCauses_b78 {Γ : Ctx} {k7 : St → Int → Int → Int → Option (Int × St)} (hk7 : ∀ (γ : St) (x37 : Int) (x38 : Int) (x39 : Int), i32 x37 → i32 x38 → i32 x39 → SB Γ BM mt_M_partCauses (RmN 8 285) 0 0 (KN Γ BM mt_M_partCauses.2.2.2) 7 [(0, vR Γ 0), (1, vI x37), (2, vI x38), (3, vI x39)] [] γ (k7 γ x37 x38 x39)) : ∀ (γ : St) (x25 : Int) (x26 : Int) (x27 : Int), i32 x25 → i32 x26 → i32 x27 → SB Γ BM mt_M_partCauses (RmN 8 285) 0 0 (KN Γ BM mt_M_partCauses.2.2.2) 78 [(0, vR Γ 0), (1, vI x25), (2, vI x26), (3, vI x27)] [] γ (f_M_partCauses_b78 k7 γ x25 x26 x27) := by
  intro γ x25 x26 x27 hx25 hx26 hx27
  unfold f_M_partCauses_b78
  refine sb_aload_n 0 d_M_partCauses_78 rfl ?_
  refine g_M_112 d_M_partCauses_79 ?_
  refine sb_iload_n 3 d_M_partCauses_82 rfl ?_
  refine al_M_20 d_M_partCauses_83 (fun _ c29 => ?_)
  refine sb_bipush d_M_partCauses_84 (by decide) ?_
  refine sb_icmp_ne 108 c29 (by decide) d_M_partCauses_86 (by decide) (fun _ => ?_) (fun _ => ?_)
  · exact sb_lv [0, 1, 2, 3] rfl (s_M_partCauses_b108 hk7 γ x25 x26 x27 hx25 hx26 hx27)
  · refine sb_aload_n 0 d_M_partCauses_89 rfl ?_
    refine sb_aload_n 0 d_M_partCauses_90 rfl ?_
    refine g_M_193 d_M_partCauses_91 ?_
    refine sb_iload_n 1 d_M_partCauses_94 rfl ?_
    refine al_M_38 d_M_partCauses_95 (fun _ c31 => ?_)
    refine sb_aload_n 0 d_M_partCauses_96 rfl ?_
    refine g_M_115 d_M_partCauses_97 ?_
    refine sb_iload_n 3 d_M_partCauses_100 rfl ?_
    refine al_M_21 d_M_partCauses_101 (fun _ c33 => ?_)
    refine sb_iconst d_M_partCauses_102 ?_
    refine sb_idiv (by decide) d_M_partCauses_103 (fun _ => ?_)
    refine sb_iadd d_M_partCauses_104 ?_
    refine sb_chk (fun c34 => ?_)
    refine sb_cVv vf_M_cause (c_M_cause γ ((γ 38 x25) + (idiv (γ 21 x27) 2)) c34) rfl ml_M_480 (As := [vI ((γ 38 x25) + (idiv (γ 21 x27) 2))]) rfl rfl (Nat.le_of_ble_eq_true rfl) ⟨by decide, by decide⟩ d_M_partCauses_105 (fun _ γ36 => ?_)
    exact sb_lv [0, 1, 2, 3] rfl (s_M_partCauses_b108 hk7 γ36 x25 x26 x27 hx25 hx26 hx27)
set_option maxHeartbeats 4000000 in
theorem s_M_partCauses_b52 {Γ : Ctx} {k7 : St → Int → Int → Int → Option (Int × St)} (hk7 : ∀ (γ : St) (x49 : Int) (x50 : Int) (x51 : Int), i32 x49 → i32 x50 → i32 x51 → SB Γ BM mt_M_partCauses (RmN 8 285) 0 0 (KN Γ BM mt_M_partCauses.2.2.2) 7 [(0, vR Γ 0), (1, vI x49), (2, vI x50), (3, vI x51)] [] γ (k7 γ x49 x50 x51)) : ∀ (γ : St) (x40 : Int) (x41 : Int) (x42 : Int), i32 x40 → i32 x41 → i32 x42 → SB Γ BM mt_M_partCauses (RmN 8 285) 0 0 (KN Γ BM mt_M_partCauses.2.2.2) 52 [(0, vR Γ 0), (1, vI x40), (2, vI x41), (3, vI x42)] [] γ (f_M_partCauses_b52 k7 γ x40 x41 x42) := by
  intro γ x40 x41 x42 hx40 hx41 hx42
  unfold f_M_partCauses_b52
  refine sb_aload_n 0 d_M_partCauses_52 rfl ?_
  refine g_M_112 d_M_partCauses_53 ?_
  refine sb_iload_n 3 d_M_partCauses_56 rfl ?_
  refine al_M_20 d_M_partCauses_57 (fun _ c44 => ?_)
  refine sb_iconst d_M_partCauses_58 ?_
  refine sb_icmp_ne 78 c44 (by decide) d_M_partCauses_59 (by decide) (fun _ => ?_) (fun _ => ?_)
  · exact sb_lv [0, 1, 2, 3] rfl (s_M_partCauses_b78 hk7 γ x40 x41 x42 hx40 hx41 hx42)
  · refine sb_iload_n 3 d_M_partCauses_62 rfl ?_
    refine sb_iload_n 2 d_M_partCauses_63 rfl ?_
    refine sb_icmp_eq 78 hx42 hx41 d_M_partCauses_64 (by decide) (fun _ => ?_) (fun _ => ?_)
    · exact sb_lv [0, 1, 2, 3] rfl (s_M_partCauses_b78 hk7 γ x40 x41 x42 hx40 hx41 hx42)
    · refine sb_aload_n 0 d_M_partCauses_67 rfl ?_
      refine sb_aload_n 0 d_M_partCauses_68 rfl ?_
      refine sb_iload_n 1 d_M_partCauses_69 rfl ?_
      refine sb_iload_n 3 d_M_partCauses_70 rfl ?_
      refine sb_iconst d_M_partCauses_71 ?_
      refine sb_cVi vf_M_output (c_M_output γ x40 x42 0 hx40 hx42 (by decide)) rfl ml_M_483 (As := [vI x40, vI x42, vI 0]) rfl rfl (Nat.le_of_ble_eq_true rfl) ⟨by decide, by decide⟩ d_M_partCauses_72 (fun r45 γ46 hr45 => ?_)
      refine sb_cVv vf_M_cause (c_M_cause γ46 r45 hr45) rfl ml_M_480 (As := [vI r45]) rfl rfl (Nat.le_of_ble_eq_true rfl) ⟨by decide, by decide⟩ d_M_partCauses_75 (fun _ γ48 => ?_)
      exact sb_lv [0, 1, 2, 3] rfl (s_M_partCauses_b78 hk7 γ48 x40 x41 x42 hx40 hx41 hx42)
set_option maxHeartbeats 4000000 in
theorem s_M_partCauses_L7 {Γ : Ctx} : ∀ (n : Nat) (γ : St) (x52 : Int) (x53 : Int) (x54 : Int), i32 x52 → i32 x53 → i32 x54 → SB Γ BM mt_M_partCauses (RmN 8 285) 0 0 (KN Γ BM mt_M_partCauses.2.2.2) 7 [(0, vR Γ 0), (1, vI x52), (2, vI x53), (3, vI x54)] [] γ (f_M_partCauses_L7 n γ x52 x53 x54) := by
  intro n
  induction n with
  | zero => intros; exact sb_none
  | succ n ih =>
    intro γ x52 x53 x54 hx52 hx53 hx54
    unfold f_M_partCauses_L7
    refine sb_iload_n 3 d_M_partCauses_7 rfl ?_
    refine sb_iload_n 2 d_M_partCauses_8 rfl ?_
    refine sb_icmp_gt 149 hx54 hx53 d_M_partCauses_9 (by decide) (fun _ => ?_) (fun _ => ?_)
    · exact sn_v rfl d_M_partCauses_149
    · refine sb_aload_n 0 d_M_partCauses_12 rfl ?_
      refine g_M_148 d_M_partCauses_13 ?_
      refine sb_iload_n 3 d_M_partCauses_16 rfl ?_
      refine al_M_30 d_M_partCauses_17 (fun _ c56 => ?_)
      refine sb_iload_n 2 d_M_partCauses_18 rfl ?_
      refine sb_icmp_eq 25 c56 hx53 d_M_partCauses_19 (by decide) (fun _ => ?_) (fun _ => ?_)
      · refine sb_aload_n 0 d_M_partCauses_25 rfl ?_
        refine g_M_112 d_M_partCauses_26 ?_
        refine sb_iload_n 3 d_M_partCauses_29 rfl ?_
        refine al_M_20 d_M_partCauses_30 (fun _ c58 => ?_)
        refine sb_iconst d_M_partCauses_31 ?_
        refine sb_icmp_ne 52 c58 (by decide) d_M_partCauses_32 (by decide) (fun _ => ?_) (fun _ => ?_)
        · exact sb_lv [0, 1, 2, 3] rfl (s_M_partCauses_b52 ih γ x52 x53 x54 hx52 hx53 hx54)
        · refine sb_aload_n 0 d_M_partCauses_35 rfl ?_
          refine sb_aload_n 0 d_M_partCauses_36 rfl ?_
          refine g_M_193 d_M_partCauses_37 ?_
          refine sb_iload_n 1 d_M_partCauses_40 rfl ?_
          refine al_M_38 d_M_partCauses_41 (fun _ c60 => ?_)
          refine sb_aload_n 0 d_M_partCauses_42 rfl ?_
          refine g_M_115 d_M_partCauses_43 ?_
          refine sb_iload_n 3 d_M_partCauses_46 rfl ?_
          refine al_M_21 d_M_partCauses_47 (fun _ c62 => ?_)
          refine sb_iadd d_M_partCauses_48 ?_
          refine sb_chk (fun c63 => ?_)
          refine sb_cVv vf_M_cause (c_M_cause γ ((γ 38 x52) + (γ 21 x54)) c63) rfl ml_M_480 (As := [vI ((γ 38 x52) + (γ 21 x54))]) rfl rfl (Nat.le_of_ble_eq_true rfl) ⟨by decide, by decide⟩ d_M_partCauses_49 (fun _ γ65 => ?_)
          exact sb_lv [0, 1, 2, 3] rfl (s_M_partCauses_b52 ih γ65 x52 x53 x54 hx52 hx53 hx54)
      · refine sb_goto 143 d_M_partCauses_22 (by decide) ?_
        exact sb_lv [0, 1, 2, 3] rfl (s_M_partCauses_b143 ih γ x52 x53 x54 hx52 hx53 hx54)
set_option maxHeartbeats 4000000 in
theorem c_M_partCauses {Γ : Ctx} (γ : St) (a0 : Int) (a1 : Int) (ha0 : i32 a0) (ha1 : i32 a1) : NC Γ BM y_M_partCauses mt_M_partCauses 8 285 [vR Γ 0, vI a0, vI a1] γ (f_M_partCauses γ a0 a1) := by
  refine nc_of (by decide) rfl (Nat.le_of_ble_eq_true rfl) ?_
  show SB Γ BM mt_M_partCauses (RmN 8 285) 0 0 (KN Γ BM mt_M_partCauses.2.2.2) 0 [(0, vR Γ 0), (1, vI a0), (2, vI a1)] [] γ _
  unfold f_M_partCauses
  refine sb_aload_n 0 d_M_partCauses_0 rfl ?_
  refine g_M_151 d_M_partCauses_1 ?_
  refine sb_iload_n 2 d_M_partCauses_4 rfl ?_
  refine al_M_31 d_M_partCauses_5 (fun _ c67 => ?_)
  refine sb_istore_n [(3, vI (γ 31 a1)), (0, vR Γ 0), (1, vI a0), (2, vI a1)] d_M_partCauses_6 (by decide) rfl ?_
  refine sb_nme (e := γ 31 a1) (fun x68 => [(3, vI x68), (0, vR Γ 0), (1, vI a0), (2, vI a1)]) c67 (fun x68 hx68 => ?_)
  exact sb_lv [1, 2, 3, 0] rfl (s_M_partCauses_L7  FU γ a0 a1 x68 ha0 ha1 hx68)
theorem d_M_argument_0 : decode b_M_argument 0 = .ok (.aload_n 0, 1) := by decide +kernel
theorem d_M_argument_1 : decode b_M_argument 1 = .ok (.getfield 118, 3) := by decide +kernel
theorem d_M_argument_4 : decode b_M_argument 4 = .ok (.iload_n 1, 1) := by decide +kernel
theorem d_M_argument_5 : decode b_M_argument 5 = .ok (.iaload, 1) := by decide +kernel
theorem d_M_argument_6 : decode b_M_argument 6 = .ok (.istore_n 3, 1) := by decide +kernel
theorem d_M_argument_7 : decode b_M_argument 7 = .ok (.iconst 0, 1) := by decide +kernel
theorem d_M_argument_8 : decode b_M_argument 8 = .ok (.istore 4, 2) := by decide +kernel
theorem d_M_argument_10 : decode b_M_argument 10 = .ok (.iload 4, 2) := by decide +kernel
theorem d_M_argument_12 : decode b_M_argument 12 = .ok (.iload_n 2, 1) := by decide +kernel
theorem d_M_argument_13 : decode b_M_argument 13 = .ok (.if_icmp .ge 16, 3) := by decide +kernel
theorem d_M_argument_16 : decode b_M_argument 16 = .ok (.aload_n 0, 1) := by decide +kernel
theorem d_M_argument_17 : decode b_M_argument 17 = .ok (.getfield 121, 3) := by decide +kernel
theorem d_M_argument_20 : decode b_M_argument 20 = .ok (.iload_n 3, 1) := by decide +kernel
theorem d_M_argument_21 : decode b_M_argument 21 = .ok (.iaload, 1) := by decide +kernel
theorem d_M_argument_22 : decode b_M_argument 22 = .ok (.istore_n 3, 1) := by decide +kernel
theorem d_M_argument_23 : decode b_M_argument 23 = .ok (.iinc 4 1, 3) := by decide +kernel
theorem d_M_argument_26 : decode b_M_argument 26 = .ok (.goto (-16), 3) := by decide +kernel
theorem d_M_argument_29 : decode b_M_argument 29 = .ok (.iload_n 3, 1) := by decide +kernel
theorem d_M_argument_30 : decode b_M_argument 30 = .ok (.ireturn, 1) := by decide +kernel
abbrev mt_M_argument : MT := (R_M, b_M_argument, 5, some .int)
theorem vf_M_argument : VF y_M_argument mt_M_argument 12 2 := ⟨im_M_argument, se_M_argument, in_M, co_M_argument, by decide +kernel, _, _, rfl⟩
def f_M_argument_L10 : Nat → St → Int → Int → Int → Option (Int × St)
  | 0, _, _, _, _ => none
  | n + 1, γ, x1, x2, x3 =>
  if x1 ≤ x3 then
  (some (x2, γ))
  else
  (chk (inb x2 66000) (ap (γ 23 x2) fun x6 =>
  chk (i32 (x3 + 1)) ((f_M_argument_L10 n) γ x1 x6 (x3 + 1))))
def f_M_argument (γ : St) (a0 : Int) (a1 : Int) : Option (Int × St) :=
  chk (inb a0 66000) (ap (γ 22 a0) fun x10 =>
  f_M_argument_L10  FU γ a1 x10 0)
set_option maxHeartbeats 4000000 in
theorem s_M_argument_L10 {Γ : Ctx} : ∀ (n : Nat) (γ : St) (x1 : Int) (x2 : Int) (x3 : Int), i32 x1 → i32 x2 → i32 x3 → SB Γ BM mt_M_argument (RmN 6 240) 0 0 (KN Γ BM mt_M_argument.2.2.2) 10 [(0, vR Γ 0), (2, vI x1), (3, vI x2), (4, vI x3)] [] γ (f_M_argument_L10 n γ x1 x2 x3) := by
  intro n
  induction n with
  | zero => intros; exact sb_none
  | succ n ih =>
    intro γ x1 x2 x3 hx1 hx2 hx3
    unfold f_M_argument_L10
    refine sb_iload 3 d_M_argument_10 rfl ?_
    refine sb_iload_n 1 d_M_argument_12 rfl ?_
    refine sb_icmp_ge 29 hx3 hx1 d_M_argument_13 (by decide) (fun _ => ?_) (fun _ => ?_)
    · refine sb_iload_n 2 d_M_argument_29 rfl ?_
      exact sn_i rfl hx2 d_M_argument_30
    · refine sb_aload_n 0 d_M_argument_16 rfl ?_
      refine g_M_121 d_M_argument_17 ?_
      refine sb_iload_n 2 d_M_argument_20 rfl ?_
      refine al_M_23 d_M_argument_21 (fun _ c5 => ?_)
      refine sb_istore_n [(3, vI (γ 23 x2)), (0, vR Γ 0), (2, vI x1), (4, vI x3)] d_M_argument_22 (by decide) rfl ?_
      refine sb_nme (e := γ 23 x2) (fun x6 => [(3, vI x6), (0, vR Γ 0), (2, vI x1), (4, vI x3)]) c5 (fun x6 hx6 => ?_)
      refine sb_iinc 3 [(4, vI (x3 + 1)), (3, vI x6), (0, vR Γ 0), (2, vI x1)] d_M_argument_23 rfl (by decide) rfl ?_
      refine sb_chk (fun c7 => ?_)
      refine sb_goto 10 d_M_argument_26 (by decide) ?_
      exact sb_lv [2, 3, 1, 0] rfl (ih γ x1 x6 (x3 + 1) hx1 hx6 c7)
set_option maxHeartbeats 4000000 in
theorem c_M_argument {Γ : Ctx} (γ : St) (a0 : Int) (a1 : Int) (ha0 : i32 a0) (ha1 : i32 a1) : NC Γ BM y_M_argument mt_M_argument 6 240 [vR Γ 0, vI a0, vI a1] γ (f_M_argument γ a0 a1) := by
  refine nc_of (by decide) rfl (Nat.le_of_ble_eq_true rfl) ?_
  show SB Γ BM mt_M_argument (RmN 6 240) 0 0 (KN Γ BM mt_M_argument.2.2.2) 0 [(0, vR Γ 0), (1, vI a0), (2, vI a1)] [] γ _
  unfold f_M_argument
  refine sb_aload_n 0 d_M_argument_0 rfl ?_
  refine g_M_118 d_M_argument_1 ?_
  refine sb_iload_n 1 d_M_argument_4 rfl ?_
  refine al_M_22 d_M_argument_5 (fun _ c9 => ?_)
  refine sb_istore_n [(3, vI (γ 22 a0)), (0, vR Γ 0), (1, vI a0), (2, vI a1)] d_M_argument_6 (by decide) rfl ?_
  refine sb_nme (e := γ 22 a0) (fun x10 => [(3, vI x10), (0, vR Γ 0), (1, vI a0), (2, vI a1)]) c9 (fun x10 hx10 => ?_)
  refine sb_iconst d_M_argument_7 ?_
  refine sb_istore [(4, vI 0), (3, vI x10), (0, vR Γ 0), (1, vI a0), (2, vI a1)] d_M_argument_8 (by decide) rfl ?_
  exact sb_lv [2, 4, 1, 0] rfl (s_M_argument_L10  FU γ a1 x10 0 ha1 hx10 (by decide))
theorem d_M_causes_0_0 : decode b_M_causes_0 0 = .ok (.aload_n 0, 1) := by decide +kernel
theorem d_M_causes_0_1 : decode b_M_causes_0 1 = .ok (.getfield 211, 3) := by decide +kernel
theorem d_M_causes_0_4 : decode b_M_causes_0 4 = .ok (.iload_n 1, 1) := by decide +kernel
theorem d_M_causes_0_5 : decode b_M_causes_0 5 = .ok (.aload_n 0, 1) := by decide +kernel
theorem d_M_causes_0_6 : decode b_M_causes_0 6 = .ok (.getfield 218, 3) := by decide +kernel
theorem d_M_causes_0_9 : decode b_M_causes_0 9 = .ok (.iastore, 1) := by decide +kernel
theorem d_M_causes_0_10 : decode b_M_causes_0 10 = .ok (.aload_n 0, 1) := by decide +kernel
theorem d_M_causes_0_11 : decode b_M_causes_0 11 = .ok (.getfield 205, 3) := by decide +kernel
theorem d_M_causes_0_14 : decode b_M_causes_0 14 = .ok (.iload_n 1, 1) := by decide +kernel
theorem d_M_causes_0_15 : decode b_M_causes_0 15 = .ok (.iaload, 1) := by decide +kernel
theorem d_M_causes_0_16 : decode b_M_causes_0 16 = .ok (.istore_n 2, 1) := by decide +kernel
theorem d_M_causes_0_17 : decode b_M_causes_0 17 = .ok (.aload_n 0, 1) := by decide +kernel
theorem d_M_causes_0_18 : decode b_M_causes_0 18 = .ok (.getfield 184, 3) := by decide +kernel
theorem d_M_causes_0_21 : decode b_M_causes_0 21 = .ok (.iload_n 2, 1) := by decide +kernel
theorem d_M_causes_0_22 : decode b_M_causes_0 22 = .ok (.iaload, 1) := by decide +kernel
theorem d_M_causes_0_23 : decode b_M_causes_0 23 = .ok (.istore_n 3, 1) := by decide +kernel
theorem d_M_causes_0_24 : decode b_M_causes_0 24 = .ok (.aload_n 0, 1) := by decide +kernel
theorem d_M_causes_0_25 : decode b_M_causes_0 25 = .ok (.getfield 208, 3) := by decide +kernel
theorem d_M_causes_0_28 : decode b_M_causes_0 28 = .ok (.iload_n 1, 1) := by decide +kernel
theorem d_M_causes_0_29 : decode b_M_causes_0 29 = .ok (.iaload, 1) := by decide +kernel
theorem d_M_causes_0_30 : decode b_M_causes_0 30 = .ok (.istore 4, 2) := by decide +kernel
theorem d_M_causes_0_32 : decode b_M_causes_0 32 = .ok (.aload_n 0, 1) := by decide +kernel
theorem d_M_causes_0_33 : decode b_M_causes_0 33 = .ok (.iload_n 2, 1) := by decide +kernel
theorem d_M_causes_0_34 : decode b_M_causes_0 34 = .ok (.aload_n 0, 1) := by decide +kernel
theorem d_M_causes_0_35 : decode b_M_causes_0 35 = .ok (.getfield 80, 3) := by decide +kernel
theorem d_M_causes_0_38 : decode b_M_causes_0 38 = .ok (.aload_n 0, 1) := by decide +kernel
theorem d_M_causes_0_39 : decode b_M_causes_0 39 = .ok (.getfield 50, 3) := by decide +kernel
theorem d_M_causes_0_42 : decode b_M_causes_0 42 = .ok (.iload_n 3, 1) := by decide +kernel
theorem d_M_causes_0_43 : decode b_M_causes_0 43 = .ok (.iaload, 1) := by decide +kernel
theorem d_M_causes_0_44 : decode b_M_causes_0 44 = .ok (.iload 4, 2) := by decide +kernel
theorem d_M_causes_0_46 : decode b_M_causes_0 46 = .ok (.iadd, 1) := by decide +kernel
theorem d_M_causes_0_47 : decode b_M_causes_0 47 = .ok (.iaload, 1) := by decide +kernel
theorem d_M_causes_0_48 : decode b_M_causes_0 48 = .ok (.invokevirtual 486, 3) := by decide +kernel
theorem d_M_causes_0_51 : decode b_M_causes_0 51 = .ok (.istore 5, 2) := by decide +kernel
theorem d_M_causes_0_53 : decode b_M_causes_0 53 = .ok (.iload 5, 2) := by decide +kernel
theorem d_M_causes_0_55 : decode b_M_causes_0 55 = .ok (.ifCond .lt 9, 3) := by decide +kernel
theorem d_M_causes_0_58 : decode b_M_causes_0 58 = .ok (.aload_n 0, 1) := by decide +kernel
theorem d_M_causes_0_59 : decode b_M_causes_0 59 = .ok (.iload 5, 2) := by decide +kernel
theorem d_M_causes_0_61 : decode b_M_causes_0 61 = .ok (.invokevirtual 480, 3) := by decide +kernel
theorem d_M_causes_0_64 : decode b_M_causes_0 64 = .ok (.iload 4, 2) := by decide +kernel
theorem d_M_causes_0_66 : decode b_M_causes_0 66 = .ok (.aload_n 0, 1) := by decide +kernel
theorem d_M_causes_0_67 : decode b_M_causes_0 67 = .ok (.getfield 53, 3) := by decide +kernel
theorem d_M_causes_0_70 : decode b_M_causes_0 70 = .ok (.iload_n 3, 1) := by decide +kernel
theorem d_M_causes_0_71 : decode b_M_causes_0 71 = .ok (.iaload, 1) := by decide +kernel
theorem d_M_causes_0_72 : decode b_M_causes_0 72 = .ok (.if_icmp .ge 68, 3) := by decide +kernel
theorem d_M_causes_0_75 : decode b_M_causes_0 75 = .ok (.aload_n 0, 1) := by decide +kernel
theorem d_M_causes_0_76 : decode b_M_causes_0 76 = .ok (.getfield 187, 3) := by decide +kernel
theorem d_M_causes_0_79 : decode b_M_causes_0 79 = .ok (.iload_n 2, 1) := by decide +kernel
theorem d_M_causes_0_80 : decode b_M_causes_0 80 = .ok (.iaload, 1) := by decide +kernel
theorem d_M_causes_0_81 : decode b_M_causes_0 81 = .ok (.ifCond .ge 4, 3) := by decide +kernel
theorem d_M_causes_0_84 : decode b_M_causes_0 84 = .ok (.return_, 1) := by decide +kernel
theorem d_M_causes_0_85 : decode b_M_causes_0 85 = .ok (.aload_n 0, 1) := by decide +kernel
theorem d_M_causes_0_86 : decode b_M_causes_0 86 = .ok (.aload_n 0, 1) := by decide +kernel
theorem d_M_causes_0_87 : decode b_M_causes_0 87 = .ok (.getfield 190, 3) := by decide +kernel
theorem d_M_causes_0_90 : decode b_M_causes_0 90 = .ok (.iload_n 2, 1) := by decide +kernel
theorem d_M_causes_0_91 : decode b_M_causes_0 91 = .ok (.iaload, 1) := by decide +kernel
theorem d_M_causes_0_92 : decode b_M_causes_0 92 = .ok (.iload 4, 2) := by decide +kernel
theorem d_M_causes_0_94 : decode b_M_causes_0 94 = .ok (.invokevirtual 489, 3) := by decide +kernel
theorem d_M_causes_0_97 : decode b_M_causes_0 97 = .ok (.istore 6, 2) := by decide +kernel
theorem d_M_causes_0_99 : decode b_M_causes_0 99 = .ok (.aload_n 0, 1) := by decide +kernel
theorem d_M_causes_0_100 : decode b_M_causes_0 100 = .ok (.aload_n 0, 1) := by decide +kernel
theorem d_M_causes_0_101 : decode b_M_causes_0 101 = .ok (.getfield 187, 3) := by decide +kernel
theorem d_M_causes_0_104 : decode b_M_causes_0 104 = .ok (.iload_n 2, 1) := by decide +kernel
theorem d_M_causes_0_105 : decode b_M_causes_0 105 = .ok (.iaload, 1) := by decide +kernel
theorem d_M_causes_0_106 : decode b_M_causes_0 106 = .ok (.iload 6, 2) := by decide +kernel
theorem d_M_causes_0_108 : decode b_M_causes_0 108 = .ok (.invokevirtual 492, 3) := by decide +kernel
theorem d_M_causes_0_111 : decode b_M_causes_0 111 = .ok (.aload_n 0, 1) := by decide +kernel
theorem d_M_causes_0_112 : decode b_M_causes_0 112 = .ok (.getfield 112, 3) := by decide +kernel
theorem d_M_causes_0_115 : decode b_M_causes_0 115 = .ok (.iload 6, 2) := by decide +kernel
theorem d_M_causes_0_117 : decode b_M_causes_0 117 = .ok (.iaload, 1) := by decide +kernel
theorem d_M_causes_0_118 : decode b_M_causes_0 118 = .ok (.iconst 3, 1) := by decide +kernel
theorem d_M_causes_0_119 : decode b_M_causes_0 119 = .ok (.if_icmp .ne 20, 3) := by decide +kernel
theorem d_M_causes_0_122 : decode b_M_causes_0 122 = .ok (.aload_n 0, 1) := by decide +kernel
theorem d_M_causes_0_123 : decode b_M_causes_0 123 = .ok (.aload_n 0, 1) := by decide +kernel
theorem d_M_causes_0_124 : decode b_M_causes_0 124 = .ok (.aload_n 0, 1) := by decide +kernel
theorem d_M_causes_0_125 : decode b_M_causes_0 125 = .ok (.getfield 187, 3) := by decide +kernel
theorem d_M_causes_0_128 : decode b_M_causes_0 128 = .ok (.iload_n 2, 1) := by decide +kernel
theorem d_M_causes_0_129 : decode b_M_causes_0 129 = .ok (.iaload, 1) := by decide +kernel
theorem d_M_causes_0_130 : decode b_M_causes_0 130 = .ok (.iload 6, 2) := by decide +kernel
theorem d_M_causes_0_132 : decode b_M_causes_0 132 = .ok (.iconst 0, 1) := by decide +kernel
theorem d_M_causes_0_133 : decode b_M_causes_0 133 = .ok (.invokevirtual 483, 3) := by decide +kernel
theorem d_M_causes_0_136 : decode b_M_causes_0 136 = .ok (.invokevirtual 480, 3) := by decide +kernel
theorem d_M_causes_0_139 : decode b_M_causes_0 139 = .ok (.return_, 1) := by decide +kernel
theorem d_M_causes_0_140 : decode b_M_causes_0 140 = .ok (.aload_n 0, 1) := by decide +kernel
theorem d_M_causes_0_141 : decode b_M_causes_0 141 = .ok (.getfield 154, 3) := by decide +kernel
theorem d_M_causes_0_144 : decode b_M_causes_0 144 = .ok (.aload_n 0, 1) := by decide +kernel
theorem d_M_causes_0_145 : decode b_M_causes_0 145 = .ok (.getfield 50, 3) := by decide +kernel
theorem d_M_causes_0_148 : decode b_M_causes_0 148 = .ok (.iload_n 3, 1) := by decide +kernel
theorem d_M_causes_0_149 : decode b_M_causes_0 149 = .ok (.iaload, 1) := by decide +kernel
theorem d_M_causes_0_150 : decode b_M_causes_0 150 = .ok (.iload 4, 2) := by decide +kernel
theorem d_M_causes_0_152 : decode b_M_causes_0 152 = .ok (.iadd, 1) := by decide +kernel
theorem d_M_causes_0_153 : decode b_M_causes_0 153 = .ok (.iaload, 1) := by decide +kernel
theorem d_M_causes_0_154 : decode b_M_causes_0 154 = .ok (.istore 6, 2) := by decide +kernel
theorem d_M_causes_0_156 : decode b_M_causes_0 156 = .ok (.aload_n 0, 1) := by decide +kernel
theorem d_M_causes_0_157 : decode b_M_causes_0 157 = .ok (.iload_n 2, 1) := by decide +kernel
theorem d_M_causes_0_158 : decode b_M_causes_0 158 = .ok (.aload_n 0, 1) := by decide +kernel
theorem d_M_causes_0_159 : decode b_M_causes_0 159 = .ok (.getfield 96, 3) := by decide +kernel
theorem d_M_causes_0_162 : decode b_M_causes_0 162 = .ok (.iload 6, 2) := by decide +kernel
theorem d_M_causes_0_164 : decode b_M_causes_0 164 = .ok (.iaload, 1) := by decide +kernel
theorem d_M_causes_0_165 : decode b_M_causes_0 165 = .ok (.invokevirtual 492, 3) := by decide +kernel
theorem d_M_causes_0_168 : decode b_M_causes_0 168 = .ok (.aload_n 0, 1) := by decide +kernel
theorem d_M_causes_0_169 : decode b_M_causes_0 169 = .ok (.getfield 112, 3) := by decide +kernel
theorem d_M_causes_0_172 : decode b_M_causes_0 172 = .ok (.aload_n 0, 1) := by decide +kernel
theorem d_M_causes_0_173 : decode b_M_causes_0 173 = .ok (.getfield 96, 3) := by decide +kernel
theorem d_M_causes_0_176 : decode b_M_causes_0 176 = .ok (.iload 6, 2) := by decide +kernel
theorem d_M_causes_0_178 : decode b_M_causes_0 178 = .ok (.iaload, 1) := by decide +kernel
theorem d_M_causes_0_179 : decode b_M_causes_0 179 = .ok (.iaload, 1) := by decide +kernel
theorem d_M_causes_0_180 : decode b_M_causes_0 180 = .ok (.iconst 3, 1) := by decide +kernel
theorem d_M_causes_0_181 : decode b_M_causes_0 181 = .ok (.if_icmp .ne 33, 3) := by decide +kernel
theorem d_M_causes_0_184 : decode b_M_causes_0 184 = .ok (.aload_n 0, 1) := by decide +kernel
theorem d_M_causes_0_185 : decode b_M_causes_0 185 = .ok (.aload_n 0, 1) := by decide +kernel
theorem d_M_causes_0_186 : decode b_M_causes_0 186 = .ok (.iload_n 2, 1) := by decide +kernel
theorem d_M_causes_0_187 : decode b_M_causes_0 187 = .ok (.aload_n 0, 1) := by decide +kernel
theorem d_M_causes_0_188 : decode b_M_causes_0 188 = .ok (.getfield 96, 3) := by decide +kernel
theorem d_M_causes_0_191 : decode b_M_causes_0 191 = .ok (.iload 6, 2) := by decide +kernel
theorem d_M_causes_0_193 : decode b_M_causes_0 193 = .ok (.iaload, 1) := by decide +kernel
theorem d_M_causes_0_194 : decode b_M_causes_0 194 = .ok (.aload_n 0, 1) := by decide +kernel
theorem d_M_causes_0_195 : decode b_M_causes_0 195 = .ok (.getfield 157, 3) := by decide +kernel
theorem d_M_causes_0_198 : decode b_M_causes_0 198 = .ok (.aload_n 0, 1) := by decide +kernel
theorem d_M_causes_0_199 : decode b_M_causes_0 199 = .ok (.getfield 50, 3) := by decide +kernel
theorem d_M_causes_0_202 : decode b_M_causes_0 202 = .ok (.iload_n 3, 1) := by decide +kernel
theorem d_M_causes_0_203 : decode b_M_causes_0 203 = .ok (.iaload, 1) := by decide +kernel
theorem d_M_causes_0_204 : decode b_M_causes_0 204 = .ok (.iload 4, 2) := by decide +kernel
theorem d_M_causes_0_206 : decode b_M_causes_0 206 = .ok (.iadd, 1) := by decide +kernel
theorem d_M_causes_0_207 : decode b_M_causes_0 207 = .ok (.iaload, 1) := by decide +kernel
theorem d_M_causes_0_208 : decode b_M_causes_0 208 = .ok (.invokevirtual 483, 3) := by decide +kernel
theorem d_M_causes_0_211 : decode b_M_causes_0 211 = .ok (.invokevirtual 480, 3) := by decide +kernel
theorem d_M_causes_0_214 : decode b_M_causes_0 214 = .ok (.return_, 1) := by decide +kernel
abbrev mt_M_causes_0 : MT := (R_M, b_M_causes_0, 7, none)
theorem vf_M_causes_0 : VF y_M_causes_0 mt_M_causes_0 12 1 := ⟨im_M_causes_0, se_M_causes_0, in_M, co_M_causes_0, by decide +kernel, _, _, rfl⟩
def f_M_causes_0_b64 (γ : St) (x1 : Int) (x2 : Int) (x3 : Int) : Option (Int × St) :=
  chk (inb x2 60) (if (γ 5 x2) ≤ x3 then
  (chk (inb x2 61) (chk (i32 ((γ 4 x2) + x3)) (chk (inb ((γ 4 x2) + x3) 6000) (ap (γ 32 ((γ 4 x2) + x3)) fun x11 =>
  chk (inb x11 17000) (bndN (f_M_partCauses γ x1 (γ 17 x11)) fun _ γ15 =>
  chk (inb x11 17000) (chk (inb (γ15 17 x11) 66000) (if (γ15 20 (γ15 17 x11)) ≠ 3 then
  (some (0, γ15))
  else
  (chk (inb x11 17000) (chk (inb x2 61) (chk (i32 ((γ15 4 x2) + x3)) (chk (inb ((γ15 4 x2) + x3) 6000) (bndN (f_M_output γ15 x1 (γ15 17 x11) (γ15 33 ((γ15 4 x2) + x3))) fun r27 γ28 =>
  bndN (f_M_cause γ28 r27) fun _ γ30 =>
  some (0, γ30)))))))))))))
  else
  (chk (inb x1 3200) (if 0 ≤ (γ 36 x1) then
  (chk (inb x1 3200) (bndN (f_M_argument γ (γ 37 x1) x3) fun r35 γ36 =>
  chk (inb x1 3200) (bndN (f_M_partCauses γ36 (γ36 36 x1) r35) fun _ γ40 =>
  chk (inb r35 66000) (if (γ40 20 r35) ≠ 3 then
  (some (0, γ40))
  else
  (chk (inb x1 3200) (bndN (f_M_output γ40 (γ40 36 x1) r35 0) fun r45 γ46 =>
  bndN (f_M_cause γ46 r45) fun _ γ48 =>
  some (0, γ48)))))))
  else
  (some (0, γ)))))
def f_M_causes_0 (γ : St) (a0 : Int) : Option (Int × St) :=
  chk (inb a0 6101) (ap (setA γ 44 a0 (γ 0 67)) fun γ51 =>
  chk (inb a0 6100) (ap (γ51 42 a0) fun x54 =>
  chk (inb x54 3200) (ap (γ51 35 x54) fun x57 =>
  chk (inb a0 6100) (ap (γ51 43 a0) fun x60 =>
  chk (inb x57 61) (chk (i32 ((γ51 4 x57) + x60)) (chk (inb ((γ51 4 x57) + x60) 6000) (bndN (f_M_clockVariable γ51 x54 (γ51 12 ((γ51 4 x57) + x60))) fun r66 γ67 =>
  if r66 < 0 then
  (f_M_causes_0_b64 γ67 x54 x57 x60)
  else
  (bndN (f_M_cause γ67 r66) fun _ γ69 =>
  f_M_causes_0_b64 γ69 x54 x57 x60))))))))
set_option maxHeartbeats 4000000 in
theorem s_M_causes_0_b64 {Γ : Ctx} : ∀ (γ : St) (x1 : Int) (x2 : Int) (x3 : Int), i32 x1 → i32 x2 → i32 x3 → SB Γ BM mt_M_causes_0 (RmN 9 308) 0 0 (KN Γ BM mt_M_causes_0.2.2.2) 64 [(0, vR Γ 0), (2, vI x1), (3, vI x2), (4, vI x3)] [] γ (f_M_causes_0_b64 γ x1 x2 x3) := by
  intro γ x1 x2 x3 hx1 hx2 hx3
  unfold f_M_causes_0_b64
  refine sb_iload 3 d_M_causes_0_64 rfl ?_
  refine sb_aload_n 0 d_M_causes_0_66 rfl ?_
  refine g_M_53 d_M_causes_0_67 ?_
  refine sb_iload_n 2 d_M_causes_0_70 rfl ?_
  refine al_M_5 d_M_causes_0_71 (fun _ c5 => ?_)
  refine sb_icmp_ge 140 hx3 c5 d_M_causes_0_72 (by decide) (fun _ => ?_) (fun _ => ?_)
  · refine sb_aload_n 0 d_M_causes_0_140 rfl ?_
    refine g_M_154 d_M_causes_0_141 ?_
    refine sb_aload_n 0 d_M_causes_0_144 rfl ?_
    refine g_M_50 d_M_causes_0_145 ?_
    refine sb_iload_n 2 d_M_causes_0_148 rfl ?_
    refine al_M_4 d_M_causes_0_149 (fun _ c8 => ?_)
    refine sb_iload 3 d_M_causes_0_150 rfl ?_
    refine sb_iadd d_M_causes_0_152 ?_
    refine sb_chk (fun c9 => ?_)
    refine al_M_32 d_M_causes_0_153 (fun _ c10 => ?_)
    refine sb_istore [(6, vI (γ 32 ((γ 4 x2) + x3))), (0, vR Γ 0), (2, vI x1), (3, vI x2), (4, vI x3)] d_M_causes_0_154 (by decide) rfl ?_
    refine sb_nme (e := γ 32 ((γ 4 x2) + x3)) (fun x11 => [(6, vI x11), (0, vR Γ 0), (2, vI x1), (3, vI x2), (4, vI x3)]) c10 (fun x11 hx11 => ?_)
    refine sb_aload_n 1 d_M_causes_0_156 rfl ?_
    refine sb_iload_n 2 d_M_causes_0_157 rfl ?_
    refine sb_aload_n 1 d_M_causes_0_158 rfl ?_
    refine g_M_96 d_M_causes_0_159 ?_
    refine sb_iload 0 d_M_causes_0_162 rfl ?_
    refine al_M_17 d_M_causes_0_164 (fun _ c13 => ?_)
    refine sb_cVv vf_M_partCauses (c_M_partCauses γ x1 (γ 17 x11) hx1 c13) rfl ml_M_492 (As := [vI x1, vI (γ 17 x11)]) rfl rfl (Nat.le_of_ble_eq_true rfl) ⟨by decide, by decide⟩ d_M_causes_0_165 (fun _ γ15 => ?_)
    refine sb_aload_n 1 d_M_causes_0_168 rfl ?_
    refine g_M_112 d_M_causes_0_169 ?_
    refine sb_aload_n 1 d_M_causes_0_172 rfl ?_
    refine g_M_96 d_M_causes_0_173 ?_
    refine sb_iload 0 d_M_causes_0_176 rfl ?_
    refine al_M_17 d_M_causes_0_178 (fun _ c18 => ?_)
    refine al_M_20 d_M_causes_0_179 (fun _ c19 => ?_)
    refine sb_iconst d_M_causes_0_180 ?_
    refine sb_icmp_ne 214 c19 (by decide) d_M_causes_0_181 (by decide) (fun _ => ?_) (fun _ => ?_)
    · exact sn_v rfl d_M_causes_0_214
    · refine sb_aload_n 1 d_M_causes_0_184 rfl ?_
      refine sb_aload_n 1 d_M_causes_0_185 rfl ?_
      refine sb_iload_n 2 d_M_causes_0_186 rfl ?_
      refine sb_aload_n 1 d_M_causes_0_187 rfl ?_
      refine g_M_96 d_M_causes_0_188 ?_
      refine sb_iload 0 d_M_causes_0_191 rfl ?_
      refine al_M_17 d_M_causes_0_193 (fun _ c21 => ?_)
      refine sb_aload_n 1 d_M_causes_0_194 rfl ?_
      refine g_M_157 d_M_causes_0_195 ?_
      refine sb_aload_n 1 d_M_causes_0_198 rfl ?_
      refine g_M_50 d_M_causes_0_199 ?_
      refine sb_iload_n 3 d_M_causes_0_202 rfl ?_
      refine al_M_4 d_M_causes_0_203 (fun _ c24 => ?_)
      refine sb_iload 4 d_M_causes_0_204 rfl ?_
      refine sb_iadd d_M_causes_0_206 ?_
      refine sb_chk (fun c25 => ?_)
      refine al_M_33 d_M_causes_0_207 (fun _ c26 => ?_)
      refine sb_cVi vf_M_output (c_M_output γ15 x1 (γ15 17 x11) (γ15 33 ((γ15 4 x2) + x3)) hx1 c21 c26) rfl ml_M_483 (As := [vI x1, vI (γ15 17 x11), vI (γ15 33 ((γ15 4 x2) + x3))]) rfl rfl (Nat.le_of_ble_eq_true rfl) ⟨by decide, by decide⟩ d_M_causes_0_208 (fun r27 γ28 hr27 => ?_)
      refine sb_cVv vf_M_cause (c_M_cause γ28 r27 hr27) rfl ml_M_480 (As := [vI r27]) rfl rfl (Nat.le_of_ble_eq_true rfl) ⟨by decide, by decide⟩ d_M_causes_0_211 (fun _ γ30 => ?_)
      exact sn_v rfl d_M_causes_0_214
  · refine sb_aload_n 0 d_M_causes_0_75 rfl ?_
    refine g_M_187 d_M_causes_0_76 ?_
    refine sb_iload_n 1 d_M_causes_0_79 rfl ?_
    refine al_M_36 d_M_causes_0_80 (fun _ c32 => ?_)
    refine sb_if_ge 85 c32 d_M_causes_0_81 (by decide) (fun _ => ?_) (fun _ => ?_)
    · refine sb_aload_n 0 d_M_causes_0_85 rfl ?_
      refine sb_aload_n 0 d_M_causes_0_86 rfl ?_
      refine g_M_190 d_M_causes_0_87 ?_
      refine sb_iload_n 1 d_M_causes_0_90 rfl ?_
      refine al_M_37 d_M_causes_0_91 (fun _ c34 => ?_)
      refine sb_iload 3 d_M_causes_0_92 rfl ?_
      refine sb_cVi vf_M_argument (c_M_argument γ (γ 37 x1) x3 c34 hx3) rfl ml_M_489 (As := [vI (γ 37 x1), vI x3]) rfl rfl (Nat.le_of_ble_eq_true rfl) ⟨by decide, by decide⟩ d_M_causes_0_94 (fun r35 γ36 hr35 => ?_)
      refine sb_istore [(6, vI r35), (0, vR Γ 0), (2, vI x1), (3, vI x2), (4, vI x3)] d_M_causes_0_97 (by decide) rfl ?_
      refine sb_aload_n 1 d_M_causes_0_99 rfl ?_
      refine sb_aload_n 1 d_M_causes_0_100 rfl ?_
      refine g_M_187 d_M_causes_0_101 ?_
      refine sb_iload_n 2 d_M_causes_0_104 rfl ?_
      refine al_M_36 d_M_causes_0_105 (fun _ c38 => ?_)
      refine sb_iload 0 d_M_causes_0_106 rfl ?_
      refine sb_cVv vf_M_partCauses (c_M_partCauses γ36 (γ36 36 x1) r35 c38 hr35) rfl ml_M_492 (As := [vI (γ36 36 x1), vI r35]) rfl rfl (Nat.le_of_ble_eq_true rfl) ⟨by decide, by decide⟩ d_M_causes_0_108 (fun _ γ40 => ?_)
      refine sb_aload_n 1 d_M_causes_0_111 rfl ?_
      refine g_M_112 d_M_causes_0_112 ?_
      refine sb_iload 0 d_M_causes_0_115 rfl ?_
      refine al_M_20 d_M_causes_0_117 (fun _ c42 => ?_)
      refine sb_iconst d_M_causes_0_118 ?_
      refine sb_icmp_ne 139 c42 (by decide) d_M_causes_0_119 (by decide) (fun _ => ?_) (fun _ => ?_)
      · exact sn_v rfl d_M_causes_0_139
      · refine sb_aload_n 1 d_M_causes_0_122 rfl ?_
        refine sb_aload_n 1 d_M_causes_0_123 rfl ?_
        refine sb_aload_n 1 d_M_causes_0_124 rfl ?_
        refine g_M_187 d_M_causes_0_125 ?_
        refine sb_iload_n 2 d_M_causes_0_128 rfl ?_
        refine al_M_36 d_M_causes_0_129 (fun _ c44 => ?_)
        refine sb_iload 0 d_M_causes_0_130 rfl ?_
        refine sb_iconst d_M_causes_0_132 ?_
        refine sb_cVi vf_M_output (c_M_output γ40 (γ40 36 x1) r35 0 c44 hr35 (by decide)) rfl ml_M_483 (As := [vI (γ40 36 x1), vI r35, vI 0]) rfl rfl (Nat.le_of_ble_eq_true rfl) ⟨by decide, by decide⟩ d_M_causes_0_133 (fun r45 γ46 hr45 => ?_)
        refine sb_cVv vf_M_cause (c_M_cause γ46 r45 hr45) rfl ml_M_480 (As := [vI r45]) rfl rfl (Nat.le_of_ble_eq_true rfl) ⟨by decide, by decide⟩ d_M_causes_0_136 (fun _ γ48 => ?_)
        exact sn_v rfl d_M_causes_0_139
    · exact sn_v rfl d_M_causes_0_84
set_option maxHeartbeats 4000000 in
theorem c_M_causes_0 {Γ : Ctx} (γ : St) (a0 : Int) (ha0 : i32 a0) : NC Γ BM y_M_causes_0 mt_M_causes_0 9 308 [vR Γ 0, vI a0] γ (f_M_causes_0 γ a0) := by
  refine nc_of (by decide) rfl (Nat.le_of_ble_eq_true rfl) ?_
  show SB Γ BM mt_M_causes_0 (RmN 9 308) 0 0 (KN Γ BM mt_M_causes_0.2.2.2) 0 [(0, vR Γ 0), (1, vI a0)] [] γ _
  unfold f_M_causes_0
  refine sb_aload_n 0 d_M_causes_0_0 rfl ?_
  refine g_M_211 d_M_causes_0_1 ?_
  refine sb_iload_n 1 d_M_causes_0_4 rfl ?_
  refine sb_aload_n 0 d_M_causes_0_5 rfl ?_
  refine g_M_218 d_M_causes_0_6 (fun c50 => ?_)
  refine as_M_44 c50 d_M_causes_0_9 (fun _ => ?_)
  refine sb_aps (fun γ51 => ?_)
  refine sb_aload_n 0 d_M_causes_0_10 rfl ?_
  refine g_M_205 d_M_causes_0_11 ?_
  refine sb_iload_n 1 d_M_causes_0_14 rfl ?_
  refine al_M_42 d_M_causes_0_15 (fun _ c53 => ?_)
  refine sb_istore_n [(2, vI (γ51 42 a0)), (0, vR Γ 0), (1, vI a0)] d_M_causes_0_16 (by decide) rfl ?_
  refine sb_nme (e := γ51 42 a0) (fun x54 => [(2, vI x54), (0, vR Γ 0), (1, vI a0)]) c53 (fun x54 hx54 => ?_)
  refine sb_aload_n 1 d_M_causes_0_17 rfl ?_
  refine g_M_184 d_M_causes_0_18 ?_
  refine sb_iload_n 0 d_M_causes_0_21 rfl ?_
  refine al_M_35 d_M_causes_0_22 (fun _ c56 => ?_)
  refine sb_istore_n [(3, vI (γ51 35 x54)), (2, vI x54), (0, vR Γ 0), (1, vI a0)] d_M_causes_0_23 (by decide) rfl ?_
  refine sb_nme (e := γ51 35 x54) (fun x57 => [(3, vI x57), (2, vI x54), (0, vR Γ 0), (1, vI a0)]) c56 (fun x57 hx57 => ?_)
  refine sb_aload_n 2 d_M_causes_0_24 rfl ?_
  refine g_M_208 d_M_causes_0_25 ?_
  refine sb_iload_n 3 d_M_causes_0_28 rfl ?_
  refine al_M_43 d_M_causes_0_29 (fun _ c59 => ?_)
  refine sb_istore [(4, vI (γ51 43 a0)), (3, vI x57), (2, vI x54), (0, vR Γ 0), (1, vI a0)] d_M_causes_0_30 (by decide) rfl ?_
  refine sb_nme (e := γ51 43 a0) (fun x60 => [(4, vI x60), (3, vI x57), (2, vI x54), (0, vR Γ 0), (1, vI a0)]) c59 (fun x60 hx60 => ?_)
  refine sb_aload_n 3 d_M_causes_0_32 rfl ?_
  refine sb_iload_n 2 d_M_causes_0_33 rfl ?_
  refine sb_aload_n 3 d_M_causes_0_34 rfl ?_
  refine g_M_80 d_M_causes_0_35 ?_
  refine sb_aload_n 3 d_M_causes_0_38 rfl ?_
  refine g_M_50 d_M_causes_0_39 ?_
  refine sb_iload_n 1 d_M_causes_0_42 rfl ?_
  refine al_M_4 d_M_causes_0_43 (fun _ c63 => ?_)
  refine sb_iload 0 d_M_causes_0_44 rfl ?_
  refine sb_iadd d_M_causes_0_46 ?_
  refine sb_chk (fun c64 => ?_)
  refine al_M_12 d_M_causes_0_47 (fun _ c65 => ?_)
  refine sb_cVi vf_M_clockVariable (c_M_clockVariable γ51 x54 (γ51 12 ((γ51 4 x57) + x60)) hx54 c65) rfl ml_M_486 (As := [vI x54, vI (γ51 12 ((γ51 4 x57) + x60))]) rfl rfl (Nat.le_of_ble_eq_true rfl) ⟨by decide, by decide⟩ d_M_causes_0_48 (fun r66 γ67 hr66 => ?_)
  refine sb_istore [(5, vI r66), (4, vI x60), (3, vI x57), (2, vI x54), (0, vR Γ 0), (1, vI a0)] d_M_causes_0_51 (by decide) rfl ?_
  refine sb_iload 0 d_M_causes_0_53 rfl ?_
  refine sb_if_lt 64 hr66 d_M_causes_0_55 (by decide) (fun _ => ?_) (fun _ => ?_)
  · exact sb_lv [4, 3, 2, 1] rfl (s_M_causes_0_b64 γ67 x54 x57 x60 hx54 hx57 hx60)
  · refine sb_aload_n 4 d_M_causes_0_58 rfl ?_
    refine sb_iload 0 d_M_causes_0_59 rfl ?_
    refine sb_cVv vf_M_cause (c_M_cause γ67 r66 hr66) rfl ml_M_480 (As := [vI r66]) rfl rfl (Nat.le_of_ble_eq_true rfl) ⟨by decide, by decide⟩ d_M_causes_0_61 (fun _ γ69 => ?_)
    exact sb_lv [4, 3, 2, 1] rfl (s_M_causes_0_b64 γ69 x54 x57 x60 hx54 hx57 hx60)
theorem d_M_caused_0 : decode b_M_caused 0 = .ok (.iconst 0, 1) := by decide +kernel
theorem d_M_caused_1 : decode b_M_caused 1 = .ok (.istore_n 3, 1) := by decide +kernel
theorem d_M_caused_2 : decode b_M_caused 2 = .ok (.iload_n 3, 1) := by decide +kernel
theorem d_M_caused_3 : decode b_M_caused 3 = .ok (.aload_n 0, 1) := by decide +kernel
theorem d_M_caused_4 : decode b_M_caused 4 = .ok (.getfield 169, 3) := by decide +kernel
theorem d_M_caused_7 : decode b_M_caused 7 = .ok (.if_icmp .ge 16, 3) := by decide +kernel
theorem d_M_caused_10 : decode b_M_caused 10 = .ok (.aload_n 0, 1) := by decide +kernel
theorem d_M_caused_11 : decode b_M_caused 11 = .ok (.getfield 221, 3) := by decide +kernel
theorem d_M_caused_14 : decode b_M_caused 14 = .ok (.iload_n 3, 1) := by decide +kernel
theorem d_M_caused_15 : decode b_M_caused 15 = .ok (.iconst 0, 1) := by decide +kernel
theorem d_M_caused_16 : decode b_M_caused 16 = .ok (.bastore, 1) := by decide +kernel
theorem d_M_caused_17 : decode b_M_caused 17 = .ok (.iinc 3 1, 3) := by decide +kernel
theorem d_M_caused_20 : decode b_M_caused 20 = .ok (.goto (-18), 3) := by decide +kernel
theorem d_M_caused_23 : decode b_M_caused 23 = .ok (.iconst 0, 1) := by decide +kernel
theorem d_M_caused_24 : decode b_M_caused 24 = .ok (.istore_n 3, 1) := by decide +kernel
theorem d_M_caused_25 : decode b_M_caused 25 = .ok (.aload_n 0, 1) := by decide +kernel
theorem d_M_caused_26 : decode b_M_caused 26 = .ok (.getfield 224, 3) := by decide +kernel
theorem d_M_caused_29 : decode b_M_caused 29 = .ok (.iload_n 3, 1) := by decide +kernel
theorem d_M_caused_30 : decode b_M_caused 30 = .ok (.iinc 3 1, 3) := by decide +kernel
theorem d_M_caused_33 : decode b_M_caused 33 = .ok (.iload_n 1, 1) := by decide +kernel
theorem d_M_caused_34 : decode b_M_caused 34 = .ok (.iastore, 1) := by decide +kernel
theorem d_M_caused_35 : decode b_M_caused 35 = .ok (.iload_n 3, 1) := by decide +kernel
theorem d_M_caused_36 : decode b_M_caused 36 = .ok (.ifCond .le 95, 3) := by decide +kernel
theorem d_M_caused_39 : decode b_M_caused 39 = .ok (.aload_n 0, 1) := by decide +kernel
theorem d_M_caused_40 : decode b_M_caused 40 = .ok (.getfield 224, 3) := by decide +kernel
theorem d_M_caused_43 : decode b_M_caused 43 = .ok (.iinc 3 (-1), 3) := by decide +kernel
theorem d_M_caused_46 : decode b_M_caused 46 = .ok (.iload_n 3, 1) := by decide +kernel
theorem d_M_caused_47 : decode b_M_caused 47 = .ok (.iaload, 1) := by decide +kernel
theorem d_M_caused_48 : decode b_M_caused 48 = .ok (.istore 4, 2) := by decide +kernel
theorem d_M_caused_50 : decode b_M_caused 50 = .ok (.aload_n 0, 1) := by decide +kernel
theorem d_M_caused_51 : decode b_M_caused 51 = .ok (.getfield 211, 3) := by decide +kernel
theorem d_M_caused_54 : decode b_M_caused 54 = .ok (.iload 4, 2) := by decide +kernel
theorem d_M_caused_56 : decode b_M_caused 56 = .ok (.iaload, 1) := by decide +kernel
theorem d_M_caused_57 : decode b_M_caused 57 = .ok (.istore 5, 2) := by decide +kernel
theorem d_M_caused_59 : decode b_M_caused 59 = .ok (.iload 5, 2) := by decide +kernel
theorem d_M_caused_61 : decode b_M_caused 61 = .ok (.aload_n 0, 1) := by decide +kernel
theorem d_M_caused_62 : decode b_M_caused 62 = .ok (.getfield 211, 3) := by decide +kernel
theorem d_M_caused_65 : decode b_M_caused 65 = .ok (.iload 4, 2) := by decide +kernel
theorem d_M_caused_67 : decode b_M_caused 67 = .ok (.iconst 1, 1) := by decide +kernel
theorem d_M_caused_68 : decode b_M_caused 68 = .ok (.iadd, 1) := by decide +kernel
theorem d_M_caused_69 : decode b_M_caused 69 = .ok (.iaload, 1) := by decide +kernel
theorem d_M_caused_70 : decode b_M_caused 70 = .ok (.if_icmp .ge 58, 3) := by decide +kernel
theorem d_M_caused_73 : decode b_M_caused 73 = .ok (.aload_n 0, 1) := by decide +kernel
theorem d_M_caused_74 : decode b_M_caused 74 = .ok (.getfield 215, 3) := by decide +kernel
theorem d_M_caused_77 : decode b_M_caused 77 = .ok (.iload 5, 2) := by decide +kernel
theorem d_M_caused_79 : decode b_M_caused 79 = .ok (.iaload, 1) := by decide +kernel
theorem d_M_caused_80 : decode b_M_caused 80 = .ok (.istore 6, 2) := by decide +kernel
theorem d_M_caused_82 : decode b_M_caused 82 = .ok (.iload 6, 2) := by decide +kernel
theorem d_M_caused_84 : decode b_M_caused 84 = .ok (.iload_n 2, 1) := by decide +kernel
theorem d_M_caused_85 : decode b_M_caused 85 = .ok (.if_icmp .ne 5, 3) := by decide +kernel
theorem d_M_caused_88 : decode b_M_caused 88 = .ok (.iconst 1, 1) := by decide +kernel
theorem d_M_caused_89 : decode b_M_caused 89 = .ok (.ireturn, 1) := by decide +kernel
theorem d_M_caused_90 : decode b_M_caused 90 = .ok (.aload_n 0, 1) := by decide +kernel
theorem d_M_caused_91 : decode b_M_caused 91 = .ok (.getfield 221, 3) := by decide +kernel
theorem d_M_caused_94 : decode b_M_caused 94 = .ok (.iload 6, 2) := by decide +kernel
theorem d_M_caused_96 : decode b_M_caused 96 = .ok (.baload, 1) := by decide +kernel
theorem d_M_caused_97 : decode b_M_caused 97 = .ok (.ifCond .eq 6, 3) := by decide +kernel
theorem d_M_caused_100 : decode b_M_caused 100 = .ok (.goto 22, 3) := by decide +kernel
theorem d_M_caused_103 : decode b_M_caused 103 = .ok (.aload_n 0, 1) := by decide +kernel
theorem d_M_caused_104 : decode b_M_caused 104 = .ok (.getfield 221, 3) := by decide +kernel
theorem d_M_caused_107 : decode b_M_caused 107 = .ok (.iload 6, 2) := by decide +kernel
theorem d_M_caused_109 : decode b_M_caused 109 = .ok (.iconst 1, 1) := by decide +kernel
theorem d_M_caused_110 : decode b_M_caused 110 = .ok (.bastore, 1) := by decide +kernel
theorem d_M_caused_111 : decode b_M_caused 111 = .ok (.aload_n 0, 1) := by decide +kernel
theorem d_M_caused_112 : decode b_M_caused 112 = .ok (.getfield 224, 3) := by decide +kernel
theorem d_M_caused_115 : decode b_M_caused 115 = .ok (.iload_n 3, 1) := by decide +kernel
theorem d_M_caused_116 : decode b_M_caused 116 = .ok (.iinc 3 1, 3) := by decide +kernel
theorem d_M_caused_119 : decode b_M_caused 119 = .ok (.iload 6, 2) := by decide +kernel
theorem d_M_caused_121 : decode b_M_caused 121 = .ok (.iastore, 1) := by decide +kernel
theorem d_M_caused_122 : decode b_M_caused 122 = .ok (.iinc 5 1, 3) := by decide +kernel
theorem d_M_caused_125 : decode b_M_caused 125 = .ok (.goto (-66), 3) := by decide +kernel
theorem d_M_caused_128 : decode b_M_caused 128 = .ok (.goto (-93), 3) := by decide +kernel
theorem d_M_caused_131 : decode b_M_caused 131 = .ok (.iconst 0, 1) := by decide +kernel
theorem d_M_caused_132 : decode b_M_caused 132 = .ok (.ireturn, 1) := by decide +kernel
abbrev mt_M_caused : MT := (R_M, b_M_caused, 7, some .boolean)
theorem vf_M_caused : VF y_M_caused mt_M_caused 12 2 := ⟨im_M_caused, se_M_caused, in_M, co_M_caused, by decide +kernel, _, _, rfl⟩
def f_M_caused_b128 (k35 : St → Int → Int → Option (Int × St)) (γ : St) (x1 : Int) (x2 : Int) : Option (Int × St) :=
  k35 γ x1 x2
def f_M_caused_b122 (k59 : St → Int → Int → Int → Int → Option (Int × St)) (x128 : St → Int → Int → Option (Int × St)) (γ : St) (x5 : Int) (x6 : Int) (x7 : Int) (x8 : Int) : Option (Int × St) :=
  chk (i32 (x8 + 1)) (k59 γ x5 x6 x7 (x8 + 1))
def f_M_caused_L59 (x128 : St → Int → Int → Option (Int × St)) : Nat → St → Int → Int → Int → Int → Option (Int × St)
  | 0, _, _, _, _, _ => none
  | n + 1, γ, x16, x17, x18, x19 =>
  chk (i32 (x18 + 1)) (chk (inb (x18 + 1) 6101) (if (γ 44 (x18 + 1)) ≤ x19 then
  (x128 γ x16 x17)
  else
  (chk (inb x19 60000) (ap (γ 45 x19) fun x25 =>
  if x25 ≠ x16 then
  (chk (inb x25 6100) (if (γ 46 x25) = 0 then
  (chk (inb x25 6100) (ap (setA γ 46 x25 1) fun γ29 =>
  chk (i32 (x17 + 1)) (chk (inb x17 6100) (ap (setA γ29 47 x17 x25) fun γ32 =>
  f_M_caused_b122 (f_M_caused_L59 x128 n) x128 γ32 x16 (x17 + 1) x18 x19))))
  else
  (f_M_caused_b122 (f_M_caused_L59 x128 n) x128 γ x16 x17 x18 x19)))
  else
  (some (1, γ))))))
def f_M_caused_L35 : Nat → St → Int → Int → Option (Int × St)
  | 0, _, _, _ => none
  | n + 1, γ, x35, x36 =>
  if x36 ≤ 0 then
  (some (0, γ))
  else
  (chk (i32 (x36 + (-1))) (chk (inb (x36 + (-1)) 6100) (ap (γ 47 (x36 + (-1))) fun x40 =>
  chk (inb x40 6101) (ap (γ 44 x40) fun x43 =>
  f_M_caused_L59 (f_M_caused_b128 (f_M_caused_L35 n)) FU γ x35 (x36 + (-1)) x40 x43))))
def f_M_caused_b23 (γ : St) (x44 : Int) (x45 : Int) : Option (Int × St) :=
  chk (i32 (0 + 1)) (chk (inb 0 6100) (ap (setA γ 47 0 x44) fun γ48 =>
  f_M_caused_L35  FU γ48 x45 (0 + 1)))
def f_M_caused_L2 (x23 : St → Int → Int → Option (Int × St)) : Nat → St → Int → Int → Int → Option (Int × St)
  | 0, _, _, _, _ => none
  | n + 1, γ, x49, x50, x51 =>
  if (γ 0 51) ≤ x51 then
  (x23 γ x49 x50)
  else
  (chk (inb x51 6100) (ap (setA γ 46 x51 0) fun γ54 =>
  chk (i32 (x51 + 1)) ((f_M_caused_L2 x23 n) γ54 x49 x50 (x51 + 1))))
def f_M_caused (γ : St) (a0 : Int) (a1 : Int) : Option (Int × St) :=
  f_M_caused_L2 (f_M_caused_b23) FU γ a0 a1 0
set_option maxHeartbeats 4000000 in
theorem s_M_caused_b128 {Γ : Ctx} {k35 : St → Int → Int → Option (Int × St)} (hk35 : ∀ (γ : St) (x3 : Int) (x4 : Int), i32 x3 → i32 x4 → SB Γ BM mt_M_caused (RmN 6 240) 0 0 (KN Γ BM mt_M_caused.2.2.2) 35 [(0, vR Γ 0), (2, vI x3), (3, vI x4)] [] γ (k35 γ x3 x4)) : ∀ (γ : St) (x1 : Int) (x2 : Int), i32 x1 → i32 x2 → SB Γ BM mt_M_caused (RmN 6 240) 0 0 (KN Γ BM mt_M_caused.2.2.2) 128 [(0, vR Γ 0), (2, vI x1), (3, vI x2)] [] γ (f_M_caused_b128 k35 γ x1 x2) := by
  intro γ x1 x2 hx1 hx2
  unfold f_M_caused_b128
  refine sb_goto 35 d_M_caused_128 (by decide) ?_
  exact sb_lv [0, 1, 2] rfl (hk35 γ x1 x2 hx1 hx2)
set_option maxHeartbeats 4000000 in
theorem s_M_caused_b122 {Γ : Ctx} {k59 : St → Int → Int → Int → Int → Option (Int × St)} {x128 : St → Int → Int → Option (Int × St)} (hk59 : ∀ (γ : St) (x10 : Int) (x11 : Int) (x12 : Int) (x13 : Int), i32 x10 → i32 x11 → i32 x12 → i32 x13 → SB Γ BM mt_M_caused (RmN 6 240) 0 0 (KN Γ BM mt_M_caused.2.2.2) 59 [(0, vR Γ 0), (2, vI x10), (3, vI x11), (4, vI x12), (5, vI x13)] [] γ (k59 γ x10 x11 x12 x13)) (hx128 : ∀ (γ : St) (x14 : Int) (x15 : Int), i32 x14 → i32 x15 → SB Γ BM mt_M_caused (RmN 6 240) 0 0 (KN Γ BM mt_M_caused.2.2.2) 128 [(0, vR Γ 0), (2, vI x14), (3, vI x15)] [] γ (x128 γ x14 x15)) : ∀ (γ : St) (x5 : Int) (x6 : Int) (x7 : Int) (x8 : Int), i32 x5 → i32 x6 → i32 x7 → i32 x8 → SB Γ BM mt_M_caused (RmN 6 240) 0 0 (KN Γ BM mt_M_caused.2.2.2) 122 [(0, vR Γ 0), (2, vI x5), (3, vI x6), (4, vI x7), (5, vI x8)] [] γ (f_M_caused_b122 k59 x128 γ x5 x6 x7 x8) := by
  intro γ x5 x6 x7 x8 hx5 hx6 hx7 hx8
  unfold f_M_caused_b122
  refine sb_iinc 4 [(5, vI (x8 + 1)), (0, vR Γ 0), (2, vI x5), (3, vI x6), (4, vI x7)] d_M_caused_122 rfl (by decide) rfl ?_
  refine sb_chk (fun c9 => ?_)
  refine sb_goto 59 d_M_caused_125 (by decide) ?_
  exact sb_lv [1, 2, 3, 4, 0] rfl (hk59 γ x5 x6 x7 (x8 + 1) hx5 hx6 hx7 c9)
set_option maxHeartbeats 4000000 in
theorem s_M_caused_L59 {Γ : Ctx} {x128 : St → Int → Int → Option (Int × St)} (hx128 : ∀ (γ : St) (x33 : Int) (x34 : Int), i32 x33 → i32 x34 → SB Γ BM mt_M_caused (RmN 6 240) 0 0 (KN Γ BM mt_M_caused.2.2.2) 128 [(0, vR Γ 0), (2, vI x33), (3, vI x34)] [] γ (x128 γ x33 x34)) : ∀ (n : Nat) (γ : St) (x16 : Int) (x17 : Int) (x18 : Int) (x19 : Int), i32 x16 → i32 x17 → i32 x18 → i32 x19 → SB Γ BM mt_M_caused (RmN 6 240) 0 0 (KN Γ BM mt_M_caused.2.2.2) 59 [(0, vR Γ 0), (2, vI x16), (3, vI x17), (4, vI x18), (5, vI x19)] [] γ (f_M_caused_L59 x128 n γ x16 x17 x18 x19) := by
  intro n
  induction n with
  | zero => intros; exact sb_none
  | succ n ih =>
    intro γ x16 x17 x18 x19 hx16 hx17 hx18 hx19
    unfold f_M_caused_L59
    refine sb_iload 4 d_M_caused_59 rfl ?_
    refine sb_aload_n 0 d_M_caused_61 rfl ?_
    refine g_M_211 d_M_caused_62 ?_
    refine sb_iload 3 d_M_caused_65 rfl ?_
    refine sb_iconst d_M_caused_67 ?_
    refine sb_iadd d_M_caused_68 ?_
    refine sb_chk (fun c21 => ?_)
    refine al_M_44 d_M_caused_69 (fun _ c22 => ?_)
    refine sb_icmp_ge 128 hx19 c22 d_M_caused_70 (by decide) (fun _ => ?_) (fun _ => ?_)
    · exact sb_lv [0, 1, 2] rfl (hx128 γ x16 x17 hx16 hx17)
    · refine sb_aload_n 0 d_M_caused_73 rfl ?_
      refine g_M_215 d_M_caused_74 ?_
      refine sb_iload 4 d_M_caused_77 rfl ?_
      refine al_M_45 d_M_caused_79 (fun _ c24 => ?_)
      refine sb_istore [(6, vI (γ 45 x19)), (0, vR Γ 0), (2, vI x16), (3, vI x17), (4, vI x18), (5, vI x19)] d_M_caused_80 (by decide) rfl ?_
      refine sb_nme (e := γ 45 x19) (fun x25 => [(6, vI x25), (0, vR Γ 0), (2, vI x16), (3, vI x17), (4, vI x18), (5, vI x19)]) c24 (fun x25 hx25 => ?_)
      refine sb_iload 0 d_M_caused_82 rfl ?_
      refine sb_iload_n 2 d_M_caused_84 rfl ?_
      refine sb_icmp_ne 90 hx25 hx16 d_M_caused_85 (by decide) (fun _ => ?_) (fun _ => ?_)
      · refine sb_aload_n 1 d_M_caused_90 rfl ?_
        refine g_M_221 d_M_caused_91 ?_
        refine sb_iload 0 d_M_caused_94 rfl ?_
        refine al_M_46 d_M_caused_96 (fun _ c27 => ?_)
        refine sb_if_eq 103 c27 d_M_caused_97 (by decide) (fun _ => ?_) (fun _ => ?_)
        · refine sb_aload_n 1 d_M_caused_103 rfl ?_
          refine g_M_221 d_M_caused_104 ?_
          refine sb_iload 0 d_M_caused_107 rfl ?_
          refine sb_iconst d_M_caused_109 ?_
          refine as_M_46 (by decide) d_M_caused_110 (fun _ => ?_)
          refine sb_aps (fun γ29 => ?_)
          refine sb_aload_n 1 d_M_caused_111 rfl ?_
          refine g_M_224 d_M_caused_112 ?_
          refine sb_iload_n 3 d_M_caused_115 rfl ?_
          refine sb_iinc 3 [(3, vI (x17 + 1)), (6, vI x25), (0, vR Γ 0), (2, vI x16), (4, vI x18), (5, vI x19)] d_M_caused_116 rfl (by decide) rfl ?_
          refine sb_chk (fun c31 => ?_)
          refine sb_iload 1 d_M_caused_119 rfl ?_
          refine as_M_47 hx25 d_M_caused_121 (fun _ => ?_)
          refine sb_aps (fun γ32 => ?_)
          exact sb_lv [2, 3, 0, 4, 5] rfl (s_M_caused_b122 ih hx128 γ32 x16 (x17 + 1) x18 x19 hx16 c31 hx18 hx19)
        · refine sb_goto 122 d_M_caused_100 (by decide) ?_
          exact sb_lv [1, 2, 3, 4, 5] rfl (s_M_caused_b122 ih hx128 γ x16 x17 x18 x19 hx16 hx17 hx18 hx19)
      · refine sb_iconst d_M_caused_88 ?_
        exact sn_z rfl (by decide) d_M_caused_89
set_option maxHeartbeats 4000000 in
theorem s_M_caused_L35 {Γ : Ctx} : ∀ (n : Nat) (γ : St) (x35 : Int) (x36 : Int), i32 x35 → i32 x36 → SB Γ BM mt_M_caused (RmN 6 240) 0 0 (KN Γ BM mt_M_caused.2.2.2) 35 [(0, vR Γ 0), (2, vI x35), (3, vI x36)] [] γ (f_M_caused_L35 n γ x35 x36) := by
  intro n
  induction n with
  | zero => intros; exact sb_none
  | succ n ih =>
    intro γ x35 x36 hx35 hx36
    unfold f_M_caused_L35
    refine sb_iload_n 2 d_M_caused_35 rfl ?_
    refine sb_if_le 131 hx36 d_M_caused_36 (by decide) (fun _ => ?_) (fun _ => ?_)
    · refine sb_iconst d_M_caused_131 ?_
      exact sn_z rfl (by decide) d_M_caused_132
    · refine sb_aload_n 0 d_M_caused_39 rfl ?_
      refine g_M_224 d_M_caused_40 ?_
      refine sb_iinc 2 [(3, vI (x36 + (-1))), (0, vR Γ 0), (2, vI x35)] d_M_caused_43 rfl (by decide) rfl ?_
      refine sb_chk (fun c38 => ?_)
      refine sb_iload_n 0 d_M_caused_46 rfl ?_
      refine al_M_47 d_M_caused_47 (fun _ c39 => ?_)
      refine sb_istore [(4, vI (γ 47 (x36 + (-1)))), (3, vI (x36 + (-1))), (0, vR Γ 0), (2, vI x35)] d_M_caused_48 (by decide) rfl ?_
      refine sb_nme (e := γ 47 (x36 + (-1))) (fun x40 => [(4, vI x40), (3, vI (x36 + (-1))), (0, vR Γ 0), (2, vI x35)]) c39 (fun x40 hx40 => ?_)
      refine sb_aload_n 2 d_M_caused_50 rfl ?_
      refine g_M_211 d_M_caused_51 ?_
      refine sb_iload 0 d_M_caused_54 rfl ?_
      refine al_M_44 d_M_caused_56 (fun _ c42 => ?_)
      refine sb_istore [(5, vI (γ 44 x40)), (4, vI x40), (3, vI (x36 + (-1))), (0, vR Γ 0), (2, vI x35)] d_M_caused_57 (by decide) rfl ?_
      refine sb_nme (e := γ 44 x40) (fun x43 => [(5, vI x43), (4, vI x40), (3, vI (x36 + (-1))), (0, vR Γ 0), (2, vI x35)]) c42 (fun x43 hx43 => ?_)
      exact sb_lv [3, 4, 2, 1, 0] rfl (s_M_caused_L59 (s_M_caused_b128 ih) FU γ x35 (x36 + (-1)) x40 x43 hx35 c38 hx40 hx43)
set_option maxHeartbeats 4000000 in
theorem s_M_caused_b23 {Γ : Ctx} : ∀ (γ : St) (x44 : Int) (x45 : Int), i32 x44 → i32 x45 → SB Γ BM mt_M_caused (RmN 6 240) 0 0 (KN Γ BM mt_M_caused.2.2.2) 23 [(0, vR Γ 0), (1, vI x44), (2, vI x45)] [] γ (f_M_caused_b23 γ x44 x45) := by
  intro γ x44 x45 hx44 hx45
  unfold f_M_caused_b23
  refine sb_iconst d_M_caused_23 ?_
  refine sb_istore_n [(3, vI 0), (0, vR Γ 0), (1, vI x44), (2, vI x45)] d_M_caused_24 (by decide) rfl ?_
  refine sb_aload_n 1 d_M_caused_25 rfl ?_
  refine g_M_224 d_M_caused_26 ?_
  refine sb_iload_n 0 d_M_caused_29 rfl ?_
  refine sb_iinc 0 [(3, vI (0 + 1)), (0, vR Γ 0), (1, vI x44), (2, vI x45)] d_M_caused_30 rfl (by decide) rfl ?_
  refine sb_chk (fun c47 => ?_)
  refine sb_iload_n 2 d_M_caused_33 rfl ?_
  refine as_M_47 hx44 d_M_caused_34 (fun _ => ?_)
  refine sb_aps (fun γ48 => ?_)
  exact sb_lv [1, 3, 0] rfl (s_M_caused_L35  FU γ48 x45 (0 + 1) hx45 c47)
set_option maxHeartbeats 4000000 in
theorem s_M_caused_L2 {Γ : Ctx} {x23 : St → Int → Int → Option (Int × St)} (hx23 : ∀ (γ : St) (x56 : Int) (x57 : Int), i32 x56 → i32 x57 → SB Γ BM mt_M_caused (RmN 6 240) 0 0 (KN Γ BM mt_M_caused.2.2.2) 23 [(0, vR Γ 0), (1, vI x56), (2, vI x57)] [] γ (x23 γ x56 x57)) : ∀ (n : Nat) (γ : St) (x49 : Int) (x50 : Int) (x51 : Int), i32 x49 → i32 x50 → i32 x51 → SB Γ BM mt_M_caused (RmN 6 240) 0 0 (KN Γ BM mt_M_caused.2.2.2) 2 [(0, vR Γ 0), (1, vI x49), (2, vI x50), (3, vI x51)] [] γ (f_M_caused_L2 x23 n γ x49 x50 x51) := by
  intro n
  induction n with
  | zero => intros; exact sb_none
  | succ n ih =>
    intro γ x49 x50 x51 hx49 hx50 hx51
    unfold f_M_caused_L2
    refine sb_iload_n 3 d_M_caused_2 rfl ?_
    refine sb_aload_n 0 d_M_caused_3 rfl ?_
    refine g_M_169 d_M_caused_4 (fun c52 => ?_)
    refine sb_icmp_ge 23 hx51 c52 d_M_caused_7 (by decide) (fun _ => ?_) (fun _ => ?_)
    · exact sb_lv [0, 1, 2] rfl (hx23 γ x49 x50 hx49 hx50)
    · refine sb_aload_n 0 d_M_caused_10 rfl ?_
      refine g_M_221 d_M_caused_11 ?_
      refine sb_iload_n 3 d_M_caused_14 rfl ?_
      refine sb_iconst d_M_caused_15 ?_
      refine as_M_46 (by decide) d_M_caused_16 (fun _ => ?_)
      refine sb_aps (fun γ54 => ?_)
      refine sb_iinc 3 [(3, vI (x51 + 1)), (0, vR Γ 0), (1, vI x49), (2, vI x50)] d_M_caused_17 rfl (by decide) rfl ?_
      refine sb_chk (fun c55 => ?_)
      refine sb_goto 2 d_M_caused_20 (by decide) ?_
      exact sb_lv [1, 2, 3, 0] rfl (ih γ54 x49 x50 (x51 + 1) hx49 hx50 c55)
set_option maxHeartbeats 4000000 in
theorem c_M_caused {Γ : Ctx} (γ : St) (a0 : Int) (a1 : Int) (ha0 : i32 a0) (ha1 : i32 a1) : NC Γ BM y_M_caused mt_M_caused 6 240 [vR Γ 0, vI a0, vI a1] γ (f_M_caused γ a0 a1) := by
  refine nc_of (by decide) rfl (Nat.le_of_ble_eq_true rfl) ?_
  show SB Γ BM mt_M_caused (RmN 6 240) 0 0 (KN Γ BM mt_M_caused.2.2.2) 0 [(0, vR Γ 0), (1, vI a0), (2, vI a1)] [] γ _
  unfold f_M_caused
  refine sb_iconst d_M_caused_0 ?_
  refine sb_istore_n [(3, vI 0), (0, vR Γ 0), (1, vI a0), (2, vI a1)] d_M_caused_1 (by decide) rfl ?_
  exact sb_lv [1, 2, 3, 0] rfl (s_M_caused_L2 (s_M_caused_b23) FU γ a0 a1 0 ha0 ha1 (by decide))
theorem d_M_placeOfVariable_0 : decode b_M_placeOfVariable 0 = .ok (.aload_n 0, 1) := by decide +kernel
theorem d_M_placeOfVariable_1 : decode b_M_placeOfVariable 1 = .ok (.getfield 205, 3) := by decide +kernel
theorem d_M_placeOfVariable_4 : decode b_M_placeOfVariable 4 = .ok (.iload_n 1, 1) := by decide +kernel
theorem d_M_placeOfVariable_5 : decode b_M_placeOfVariable 5 = .ok (.iaload, 1) := by decide +kernel
theorem d_M_placeOfVariable_6 : decode b_M_placeOfVariable 6 = .ok (.istore_n 2, 1) := by decide +kernel
theorem d_M_placeOfVariable_7 : decode b_M_placeOfVariable 7 = .ok (.aload_n 0, 1) := by decide +kernel
theorem d_M_placeOfVariable_8 : decode b_M_placeOfVariable 8 = .ok (.getfield 184, 3) := by decide +kernel
theorem d_M_placeOfVariable_11 : decode b_M_placeOfVariable 11 = .ok (.iload_n 2, 1) := by decide +kernel
theorem d_M_placeOfVariable_12 : decode b_M_placeOfVariable 12 = .ok (.iaload, 1) := by decide +kernel
theorem d_M_placeOfVariable_13 : decode b_M_placeOfVariable 13 = .ok (.istore_n 3, 1) := by decide +kernel
theorem d_M_placeOfVariable_14 : decode b_M_placeOfVariable 14 = .ok (.aload_n 0, 1) := by decide +kernel
theorem d_M_placeOfVariable_15 : decode b_M_placeOfVariable 15 = .ok (.getfield 208, 3) := by decide +kernel
theorem d_M_placeOfVariable_18 : decode b_M_placeOfVariable 18 = .ok (.iload_n 1, 1) := by decide +kernel
theorem d_M_placeOfVariable_19 : decode b_M_placeOfVariable 19 = .ok (.iaload, 1) := by decide +kernel
theorem d_M_placeOfVariable_20 : decode b_M_placeOfVariable 20 = .ok (.istore 4, 2) := by decide +kernel
theorem d_M_placeOfVariable_22 : decode b_M_placeOfVariable 22 = .ok (.iload 4, 2) := by decide +kernel
theorem d_M_placeOfVariable_24 : decode b_M_placeOfVariable 24 = .ok (.aload_n 0, 1) := by decide +kernel
theorem d_M_placeOfVariable_25 : decode b_M_placeOfVariable 25 = .ok (.getfield 53, 3) := by decide +kernel
theorem d_M_placeOfVariable_28 : decode b_M_placeOfVariable 28 = .ok (.iload_n 3, 1) := by decide +kernel
theorem d_M_placeOfVariable_29 : decode b_M_placeOfVariable 29 = .ok (.iaload, 1) := by decide +kernel
theorem d_M_placeOfVariable_30 : decode b_M_placeOfVariable 30 = .ok (.if_icmp .lt 23, 3) := by decide +kernel
theorem d_M_placeOfVariable_33 : decode b_M_placeOfVariable 33 = .ok (.aload_n 0, 1) := by decide +kernel
theorem d_M_placeOfVariable_34 : decode b_M_placeOfVariable 34 = .ok (.getfield 90, 3) := by decide +kernel
theorem d_M_placeOfVariable_37 : decode b_M_placeOfVariable 37 = .ok (.aload_n 0, 1) := by decide +kernel
theorem d_M_placeOfVariable_38 : decode b_M_placeOfVariable 38 = .ok (.getfield 154, 3) := by decide +kernel
theorem d_M_placeOfVariable_41 : decode b_M_placeOfVariable 41 = .ok (.aload_n 0, 1) := by decide +kernel
theorem d_M_placeOfVariable_42 : decode b_M_placeOfVariable 42 = .ok (.getfield 50, 3) := by decide +kernel
theorem d_M_placeOfVariable_45 : decode b_M_placeOfVariable 45 = .ok (.iload_n 3, 1) := by decide +kernel
theorem d_M_placeOfVariable_46 : decode b_M_placeOfVariable 46 = .ok (.iaload, 1) := by decide +kernel
theorem d_M_placeOfVariable_47 : decode b_M_placeOfVariable 47 = .ok (.iload 4, 2) := by decide +kernel
theorem d_M_placeOfVariable_49 : decode b_M_placeOfVariable 49 = .ok (.iadd, 1) := by decide +kernel
theorem d_M_placeOfVariable_50 : decode b_M_placeOfVariable 50 = .ok (.iaload, 1) := by decide +kernel
theorem d_M_placeOfVariable_51 : decode b_M_placeOfVariable 51 = .ok (.iaload, 1) := by decide +kernel
theorem d_M_placeOfVariable_52 : decode b_M_placeOfVariable 52 = .ok (.ireturn, 1) := by decide +kernel
theorem d_M_placeOfVariable_53 : decode b_M_placeOfVariable 53 = .ok (.aload_n 0, 1) := by decide +kernel
theorem d_M_placeOfVariable_54 : decode b_M_placeOfVariable 54 = .ok (.getfield 59, 3) := by decide +kernel
theorem d_M_placeOfVariable_57 : decode b_M_placeOfVariable 57 = .ok (.aload_n 0, 1) := by decide +kernel
theorem d_M_placeOfVariable_58 : decode b_M_placeOfVariable 58 = .ok (.getfield 184, 3) := by decide +kernel
theorem d_M_placeOfVariable_61 : decode b_M_placeOfVariable 61 = .ok (.aload_n 0, 1) := by decide +kernel
theorem d_M_placeOfVariable_62 : decode b_M_placeOfVariable 62 = .ok (.getfield 187, 3) := by decide +kernel
theorem d_M_placeOfVariable_65 : decode b_M_placeOfVariable 65 = .ok (.iload_n 2, 1) := by decide +kernel
theorem d_M_placeOfVariable_66 : decode b_M_placeOfVariable 66 = .ok (.iaload, 1) := by decide +kernel
theorem d_M_placeOfVariable_67 : decode b_M_placeOfVariable 67 = .ok (.iaload, 1) := by decide +kernel
theorem d_M_placeOfVariable_68 : decode b_M_placeOfVariable 68 = .ok (.iaload, 1) := by decide +kernel
theorem d_M_placeOfVariable_69 : decode b_M_placeOfVariable 69 = .ok (.istore 5, 2) := by decide +kernel
theorem d_M_placeOfVariable_71 : decode b_M_placeOfVariable 71 = .ok (.aload_n 0, 1) := by decide +kernel
theorem d_M_placeOfVariable_72 : decode b_M_placeOfVariable 72 = .ok (.getfield 96, 3) := by decide +kernel
theorem d_M_placeOfVariable_75 : decode b_M_placeOfVariable 75 = .ok (.iload 5, 2) := by decide +kernel
theorem d_M_placeOfVariable_77 : decode b_M_placeOfVariable 77 = .ok (.iaload, 1) := by decide +kernel
theorem d_M_placeOfVariable_78 : decode b_M_placeOfVariable 78 = .ok (.aload_n 0, 1) := by decide +kernel
theorem d_M_placeOfVariable_79 : decode b_M_placeOfVariable 79 = .ok (.getfield 190, 3) := by decide +kernel
theorem d_M_placeOfVariable_82 : decode b_M_placeOfVariable 82 = .ok (.iload_n 2, 1) := by decide +kernel
theorem d_M_placeOfVariable_83 : decode b_M_placeOfVariable 83 = .ok (.iaload, 1) := by decide +kernel
theorem d_M_placeOfVariable_84 : decode b_M_placeOfVariable 84 = .ok (.if_icmp .ge 9, 3) := by decide +kernel
theorem d_M_placeOfVariable_87 : decode b_M_placeOfVariable 87 = .ok (.iinc 5 1, 3) := by decide +kernel
theorem d_M_placeOfVariable_90 : decode b_M_placeOfVariable 90 = .ok (.goto (-19), 3) := by decide +kernel
theorem d_M_placeOfVariable_93 : decode b_M_placeOfVariable 93 = .ok (.aload_n 0, 1) := by decide +kernel
theorem d_M_placeOfVariable_94 : decode b_M_placeOfVariable 94 = .ok (.getfield 90, 3) := by decide +kernel
theorem d_M_placeOfVariable_97 : decode b_M_placeOfVariable 97 = .ok (.iload 5, 2) := by decide +kernel
theorem d_M_placeOfVariable_99 : decode b_M_placeOfVariable 99 = .ok (.iaload, 1) := by decide +kernel
theorem d_M_placeOfVariable_100 : decode b_M_placeOfVariable 100 = .ok (.ireturn, 1) := by decide +kernel
abbrev mt_M_placeOfVariable : MT := (R_M, b_M_placeOfVariable, 6, some .int)
theorem vf_M_placeOfVariable : VF y_M_placeOfVariable mt_M_placeOfVariable 12 1 := ⟨im_M_placeOfVariable, se_M_placeOfVariable, in_M, co_M_placeOfVariable, by decide +kernel, _, _, rfl⟩
def f_M_placeOfVariable_L71 : Nat → St → Int → Int → Option (Int × St)
  | 0, _, _, _ => none
  | n + 1, γ, x1, x2 =>
  chk (inb x2 17000) (chk (inb x1 3200) (if (γ 37 x1) ≤ (γ 17 x2) then
  (chk (inb x2 17000) (some (γ 15 x2, γ)))
  else
  (chk (i32 (x2 + 1)) ((f_M_placeOfVariable_L71 n) γ x1 (x2 + 1)))))
def f_M_placeOfVariable (γ : St) (a0 : Int) : Option (Int × St) :=
  chk (inb a0 6100) (ap (γ 42 a0) fun x12 =>
  chk (inb x12 3200) (ap (γ 35 x12) fun x15 =>
  chk (inb a0 6100) (ap (γ 43 a0) fun x18 =>
  chk (inb x15 60) (if x18 < (γ 5 x15) then
  (chk (inb x12 3200) (chk (inb (γ 36 x12) 3200) (chk (inb (γ 35 (γ 36 x12)) 61) (ap (γ 7 (γ 35 (γ 36 x12))) fun x27 =>
  f_M_placeOfVariable_L71  FU γ x12 x27))))
  else
  (chk (inb x15 61) (chk (i32 ((γ 4 x15) + x18)) (chk (inb ((γ 4 x15) + x18) 6000) (chk (inb (γ 32 ((γ 4 x15) + x18)) 17000) (some (γ 15 (γ 32 ((γ 4 x15) + x18)), γ))))))))))
set_option maxHeartbeats 4000000 in
theorem s_M_placeOfVariable_L71 {Γ : Ctx} : ∀ (n : Nat) (γ : St) (x1 : Int) (x2 : Int), i32 x1 → i32 x2 → SB Γ BM mt_M_placeOfVariable (RmN 6 240) 0 0 (KN Γ BM mt_M_placeOfVariable.2.2.2) 71 [(0, vR Γ 0), (2, vI x1), (5, vI x2)] [] γ (f_M_placeOfVariable_L71 n γ x1 x2) := by
  intro n
  induction n with
  | zero => intros; exact sb_none
  | succ n ih =>
    intro γ x1 x2 hx1 hx2
    unfold f_M_placeOfVariable_L71
    refine sb_aload_n 0 d_M_placeOfVariable_71 rfl ?_
    refine g_M_96 d_M_placeOfVariable_72 ?_
    refine sb_iload 2 d_M_placeOfVariable_75 rfl ?_
    refine al_M_17 d_M_placeOfVariable_77 (fun _ c4 => ?_)
    refine sb_aload_n 0 d_M_placeOfVariable_78 rfl ?_
    refine g_M_190 d_M_placeOfVariable_79 ?_
    refine sb_iload_n 1 d_M_placeOfVariable_82 rfl ?_
    refine al_M_37 d_M_placeOfVariable_83 (fun _ c6 => ?_)
    refine sb_icmp_ge 93 c4 c6 d_M_placeOfVariable_84 (by decide) (fun _ => ?_) (fun _ => ?_)
    · refine sb_aload_n 0 d_M_placeOfVariable_93 rfl ?_
      refine g_M_90 d_M_placeOfVariable_94 ?_
      refine sb_iload 2 d_M_placeOfVariable_97 rfl ?_
      refine al_M_15 d_M_placeOfVariable_99 (fun _ c8 => ?_)
      exact sn_i rfl c8 d_M_placeOfVariable_100
    · refine sb_iinc 2 [(5, vI (x2 + 1)), (0, vR Γ 0), (2, vI x1)] d_M_placeOfVariable_87 rfl (by decide) rfl ?_
      refine sb_chk (fun c9 => ?_)
      refine sb_goto 71 d_M_placeOfVariable_90 (by decide) ?_
      exact sb_lv [1, 2, 0] rfl (ih γ x1 (x2 + 1) hx1 c9)
set_option maxHeartbeats 4000000 in
theorem c_M_placeOfVariable {Γ : Ctx} (γ : St) (a0 : Int) (ha0 : i32 a0) : NC Γ BM y_M_placeOfVariable mt_M_placeOfVariable 6 240 [vR Γ 0, vI a0] γ (f_M_placeOfVariable γ a0) := by
  refine nc_of (by decide) rfl (Nat.le_of_ble_eq_true rfl) ?_
  show SB Γ BM mt_M_placeOfVariable (RmN 6 240) 0 0 (KN Γ BM mt_M_placeOfVariable.2.2.2) 0 [(0, vR Γ 0), (1, vI a0)] [] γ _
  unfold f_M_placeOfVariable
  refine sb_aload_n 0 d_M_placeOfVariable_0 rfl ?_
  refine g_M_205 d_M_placeOfVariable_1 ?_
  refine sb_iload_n 1 d_M_placeOfVariable_4 rfl ?_
  refine al_M_42 d_M_placeOfVariable_5 (fun _ c11 => ?_)
  refine sb_istore_n [(2, vI (γ 42 a0)), (0, vR Γ 0), (1, vI a0)] d_M_placeOfVariable_6 (by decide) rfl ?_
  refine sb_nme (e := γ 42 a0) (fun x12 => [(2, vI x12), (0, vR Γ 0), (1, vI a0)]) c11 (fun x12 hx12 => ?_)
  refine sb_aload_n 1 d_M_placeOfVariable_7 rfl ?_
  refine g_M_184 d_M_placeOfVariable_8 ?_
  refine sb_iload_n 0 d_M_placeOfVariable_11 rfl ?_
  refine al_M_35 d_M_placeOfVariable_12 (fun _ c14 => ?_)
  refine sb_istore_n [(3, vI (γ 35 x12)), (2, vI x12), (0, vR Γ 0), (1, vI a0)] d_M_placeOfVariable_13 (by decide) rfl ?_
  refine sb_nme (e := γ 35 x12) (fun x15 => [(3, vI x15), (2, vI x12), (0, vR Γ 0), (1, vI a0)]) c14 (fun x15 hx15 => ?_)
  refine sb_aload_n 2 d_M_placeOfVariable_14 rfl ?_
  refine g_M_208 d_M_placeOfVariable_15 ?_
  refine sb_iload_n 3 d_M_placeOfVariable_18 rfl ?_
  refine al_M_43 d_M_placeOfVariable_19 (fun _ c17 => ?_)
  refine sb_istore [(4, vI (γ 43 a0)), (3, vI x15), (2, vI x12), (0, vR Γ 0), (1, vI a0)] d_M_placeOfVariable_20 (by decide) rfl ?_
  refine sb_nme (e := γ 43 a0) (fun x18 => [(4, vI x18), (3, vI x15), (2, vI x12), (0, vR Γ 0), (1, vI a0)]) c17 (fun x18 hx18 => ?_)
  refine sb_iload 0 d_M_placeOfVariable_22 rfl ?_
  refine sb_aload_n 3 d_M_placeOfVariable_24 rfl ?_
  refine g_M_53 d_M_placeOfVariable_25 ?_
  refine sb_iload_n 1 d_M_placeOfVariable_28 rfl ?_
  refine al_M_5 d_M_placeOfVariable_29 (fun _ c20 => ?_)
  refine sb_icmp_lt 53 hx18 c20 d_M_placeOfVariable_30 (by decide) (fun _ => ?_) (fun _ => ?_)
  · refine sb_aload_n 3 d_M_placeOfVariable_53 rfl ?_
    refine g_M_59 d_M_placeOfVariable_54 ?_
    refine sb_aload_n 3 d_M_placeOfVariable_57 rfl ?_
    refine g_M_184 d_M_placeOfVariable_58 ?_
    refine sb_aload_n 3 d_M_placeOfVariable_61 rfl ?_
    refine g_M_187 d_M_placeOfVariable_62 ?_
    refine sb_iload_n 2 d_M_placeOfVariable_65 rfl ?_
    refine al_M_36 d_M_placeOfVariable_66 (fun _ c24 => ?_)
    refine al_M_35 d_M_placeOfVariable_67 (fun _ c25 => ?_)
    refine al_M_7 d_M_placeOfVariable_68 (fun _ c26 => ?_)
    refine sb_istore [(5, vI (γ 7 (γ 35 (γ 36 x12)))), (4, vI x18), (3, vI x15), (2, vI x12), (0, vR Γ 0), (1, vI a0)] d_M_placeOfVariable_69 (by decide) rfl ?_
    refine sb_nme (e := γ 7 (γ 35 (γ 36 x12))) (fun x27 => [(5, vI x27), (4, vI x18), (3, vI x15), (2, vI x12), (0, vR Γ 0), (1, vI a0)]) c26 (fun x27 hx27 => ?_)
    exact sb_lv [4, 3, 0] rfl (s_M_placeOfVariable_L71  FU γ x12 x27 hx12 hx27)
  · refine sb_aload_n 3 d_M_placeOfVariable_33 rfl ?_
    refine g_M_90 d_M_placeOfVariable_34 ?_
    refine sb_aload_n 3 d_M_placeOfVariable_37 rfl ?_
    refine g_M_154 d_M_placeOfVariable_38 ?_
    refine sb_aload_n 3 d_M_placeOfVariable_41 rfl ?_
    refine g_M_50 d_M_placeOfVariable_42 ?_
    refine sb_iload_n 1 d_M_placeOfVariable_45 rfl ?_
    refine al_M_4 d_M_placeOfVariable_46 (fun _ c31 => ?_)
    refine sb_iload 0 d_M_placeOfVariable_47 rfl ?_
    refine sb_iadd d_M_placeOfVariable_49 ?_
    refine sb_chk (fun c32 => ?_)
    refine al_M_32 d_M_placeOfVariable_50 (fun _ c33 => ?_)
    refine al_M_15 d_M_placeOfVariable_51 (fun _ c34 => ?_)
    exact sn_i rfl c34 d_M_placeOfVariable_52
theorem d_M_ordered_0 : decode b_M_ordered 0 = .ok (.iconst 0, 1) := by decide +kernel
theorem d_M_ordered_1 : decode b_M_ordered 1 = .ok (.istore_n 1, 1) := by decide +kernel
theorem d_M_ordered_2 : decode b_M_ordered 2 = .ok (.iload_n 1, 1) := by decide +kernel
theorem d_M_ordered_3 : decode b_M_ordered 3 = .ok (.aload_n 0, 1) := by decide +kernel
theorem d_M_ordered_4 : decode b_M_ordered 4 = .ok (.getfield 169, 3) := by decide +kernel
theorem d_M_ordered_7 : decode b_M_ordered 7 = .ok (.if_icmp .ge 16, 3) := by decide +kernel
theorem d_M_ordered_10 : decode b_M_ordered 10 = .ok (.aload_n 0, 1) := by decide +kernel
theorem d_M_ordered_11 : decode b_M_ordered 11 = .ok (.getfield 221, 3) := by decide +kernel
theorem d_M_ordered_14 : decode b_M_ordered 14 = .ok (.iload_n 1, 1) := by decide +kernel
theorem d_M_ordered_15 : decode b_M_ordered 15 = .ok (.iconst 0, 1) := by decide +kernel
theorem d_M_ordered_16 : decode b_M_ordered 16 = .ok (.bastore, 1) := by decide +kernel
theorem d_M_ordered_17 : decode b_M_ordered 17 = .ok (.iinc 1 1, 3) := by decide +kernel
theorem d_M_ordered_20 : decode b_M_ordered 20 = .ok (.goto (-18), 3) := by decide +kernel
theorem d_M_ordered_23 : decode b_M_ordered 23 = .ok (.iconst 0, 1) := by decide +kernel
theorem d_M_ordered_24 : decode b_M_ordered 24 = .ok (.istore_n 1, 1) := by decide +kernel
theorem d_M_ordered_25 : decode b_M_ordered 25 = .ok (.iconst 1, 1) := by decide +kernel
theorem d_M_ordered_26 : decode b_M_ordered 26 = .ok (.istore_n 2, 1) := by decide +kernel
theorem d_M_ordered_27 : decode b_M_ordered 27 = .ok (.iload_n 2, 1) := by decide +kernel
theorem d_M_ordered_28 : decode b_M_ordered 28 = .ok (.ifCond .eq 112, 3) := by decide +kernel
theorem d_M_ordered_31 : decode b_M_ordered 31 = .ok (.iconst 0, 1) := by decide +kernel
theorem d_M_ordered_32 : decode b_M_ordered 32 = .ok (.istore_n 2, 1) := by decide +kernel
theorem d_M_ordered_33 : decode b_M_ordered 33 = .ok (.iconst 0, 1) := by decide +kernel
theorem d_M_ordered_34 : decode b_M_ordered 34 = .ok (.istore_n 3, 1) := by decide +kernel
theorem d_M_ordered_35 : decode b_M_ordered 35 = .ok (.iload_n 3, 1) := by decide +kernel
theorem d_M_ordered_36 : decode b_M_ordered 36 = .ok (.aload_n 0, 1) := by decide +kernel
theorem d_M_ordered_37 : decode b_M_ordered 37 = .ok (.getfield 169, 3) := by decide +kernel
theorem d_M_ordered_40 : decode b_M_ordered 40 = .ok (.if_icmp .ge 97, 3) := by decide +kernel
theorem d_M_ordered_43 : decode b_M_ordered 43 = .ok (.aload_n 0, 1) := by decide +kernel
theorem d_M_ordered_44 : decode b_M_ordered 44 = .ok (.getfield 221, 3) := by decide +kernel
theorem d_M_ordered_47 : decode b_M_ordered 47 = .ok (.iload_n 3, 1) := by decide +kernel
theorem d_M_ordered_48 : decode b_M_ordered 48 = .ok (.baload, 1) := by decide +kernel
theorem d_M_ordered_49 : decode b_M_ordered 49 = .ok (.ifCond .eq 6, 3) := by decide +kernel
theorem d_M_ordered_52 : decode b_M_ordered 52 = .ok (.goto 79, 3) := by decide +kernel
theorem d_M_ordered_55 : decode b_M_ordered 55 = .ok (.iconst 1, 1) := by decide +kernel
theorem d_M_ordered_56 : decode b_M_ordered 56 = .ok (.istore 4, 2) := by decide +kernel
theorem d_M_ordered_58 : decode b_M_ordered 58 = .ok (.aload_n 0, 1) := by decide +kernel
theorem d_M_ordered_59 : decode b_M_ordered 59 = .ok (.getfield 211, 3) := by decide +kernel
theorem d_M_ordered_62 : decode b_M_ordered 62 = .ok (.iload_n 3, 1) := by decide +kernel
theorem d_M_ordered_63 : decode b_M_ordered 63 = .ok (.iaload, 1) := by decide +kernel
theorem d_M_ordered_64 : decode b_M_ordered 64 = .ok (.istore 5, 2) := by decide +kernel
theorem d_M_ordered_66 : decode b_M_ordered 66 = .ok (.iload 5, 2) := by decide +kernel
theorem d_M_ordered_68 : decode b_M_ordered 68 = .ok (.aload_n 0, 1) := by decide +kernel
theorem d_M_ordered_69 : decode b_M_ordered 69 = .ok (.getfield 211, 3) := by decide +kernel
theorem d_M_ordered_72 : decode b_M_ordered 72 = .ok (.iload_n 3, 1) := by decide +kernel
theorem d_M_ordered_73 : decode b_M_ordered 73 = .ok (.iconst 1, 1) := by decide +kernel
theorem d_M_ordered_74 : decode b_M_ordered 74 = .ok (.iadd, 1) := by decide +kernel
theorem d_M_ordered_75 : decode b_M_ordered 75 = .ok (.iaload, 1) := by decide +kernel
theorem d_M_ordered_76 : decode b_M_ordered 76 = .ok (.if_icmp .ge 28, 3) := by decide +kernel
theorem d_M_ordered_79 : decode b_M_ordered 79 = .ok (.iload 4, 2) := by decide +kernel
theorem d_M_ordered_81 : decode b_M_ordered 81 = .ok (.ifCond .eq 23, 3) := by decide +kernel
theorem d_M_ordered_84 : decode b_M_ordered 84 = .ok (.aload_n 0, 1) := by decide +kernel
theorem d_M_ordered_85 : decode b_M_ordered 85 = .ok (.getfield 221, 3) := by decide +kernel
theorem d_M_ordered_88 : decode b_M_ordered 88 = .ok (.aload_n 0, 1) := by decide +kernel
theorem d_M_ordered_89 : decode b_M_ordered 89 = .ok (.getfield 215, 3) := by decide +kernel
theorem d_M_ordered_92 : decode b_M_ordered 92 = .ok (.iload 5, 2) := by decide +kernel
theorem d_M_ordered_94 : decode b_M_ordered 94 = .ok (.iaload, 1) := by decide +kernel
theorem d_M_ordered_95 : decode b_M_ordered 95 = .ok (.baload, 1) := by decide +kernel
theorem d_M_ordered_96 : decode b_M_ordered 96 = .ok (.istore 4, 2) := by decide +kernel
theorem d_M_ordered_98 : decode b_M_ordered 98 = .ok (.iinc 5 1, 3) := by decide +kernel
theorem d_M_ordered_101 : decode b_M_ordered 101 = .ok (.goto (-35), 3) := by decide +kernel
theorem d_M_ordered_104 : decode b_M_ordered 104 = .ok (.iload 4, 2) := by decide +kernel
theorem d_M_ordered_106 : decode b_M_ordered 106 = .ok (.ifCond .ne 6, 3) := by decide +kernel
theorem d_M_ordered_109 : decode b_M_ordered 109 = .ok (.goto 22, 3) := by decide +kernel
theorem d_M_ordered_112 : decode b_M_ordered 112 = .ok (.aload_n 0, 1) := by decide +kernel
theorem d_M_ordered_113 : decode b_M_ordered 113 = .ok (.getfield 221, 3) := by decide +kernel
theorem d_M_ordered_116 : decode b_M_ordered 116 = .ok (.iload_n 3, 1) := by decide +kernel
theorem d_M_ordered_117 : decode b_M_ordered 117 = .ok (.iconst 1, 1) := by decide +kernel
theorem d_M_ordered_118 : decode b_M_ordered 118 = .ok (.bastore, 1) := by decide +kernel
theorem d_M_ordered_119 : decode b_M_ordered 119 = .ok (.aload_n 0, 1) := by decide +kernel
theorem d_M_ordered_120 : decode b_M_ordered 120 = .ok (.getfield 227, 3) := by decide +kernel
theorem d_M_ordered_123 : decode b_M_ordered 123 = .ok (.iload_n 1, 1) := by decide +kernel
theorem d_M_ordered_124 : decode b_M_ordered 124 = .ok (.iinc 1 1, 3) := by decide +kernel
theorem d_M_ordered_127 : decode b_M_ordered 127 = .ok (.iload_n 3, 1) := by decide +kernel
theorem d_M_ordered_128 : decode b_M_ordered 128 = .ok (.iastore, 1) := by decide +kernel
theorem d_M_ordered_129 : decode b_M_ordered 129 = .ok (.iconst 1, 1) := by decide +kernel
theorem d_M_ordered_130 : decode b_M_ordered 130 = .ok (.istore_n 2, 1) := by decide +kernel
theorem d_M_ordered_131 : decode b_M_ordered 131 = .ok (.iinc 3 1, 3) := by decide +kernel
theorem d_M_ordered_134 : decode b_M_ordered 134 = .ok (.goto (-99), 3) := by decide +kernel
theorem d_M_ordered_137 : decode b_M_ordered 137 = .ok (.goto (-110), 3) := by decide +kernel
theorem d_M_ordered_140 : decode b_M_ordered 140 = .ok (.iload_n 1, 1) := by decide +kernel
theorem d_M_ordered_141 : decode b_M_ordered 141 = .ok (.aload_n 0, 1) := by decide +kernel
theorem d_M_ordered_142 : decode b_M_ordered 142 = .ok (.getfield 169, 3) := by decide +kernel
theorem d_M_ordered_145 : decode b_M_ordered 145 = .ok (.if_icmp .ne 4, 3) := by decide +kernel
theorem d_M_ordered_148 : decode b_M_ordered 148 = .ok (.return_, 1) := by decide +kernel
theorem d_M_ordered_149 : decode b_M_ordered 149 = .ok (.iconst 0, 1) := by decide +kernel
theorem d_M_ordered_150 : decode b_M_ordered 150 = .ok (.istore_n 3, 1) := by decide +kernel
theorem d_M_ordered_151 : decode b_M_ordered 151 = .ok (.iload_n 3, 1) := by decide +kernel
theorem d_M_ordered_152 : decode b_M_ordered 152 = .ok (.aload_n 0, 1) := by decide +kernel
theorem d_M_ordered_153 : decode b_M_ordered 153 = .ok (.getfield 169, 3) := by decide +kernel
theorem d_M_ordered_156 : decode b_M_ordered 156 = .ok (.if_icmp .ge 29, 3) := by decide +kernel
theorem d_M_ordered_159 : decode b_M_ordered 159 = .ok (.aload_n 0, 1) := by decide +kernel
theorem d_M_ordered_160 : decode b_M_ordered 160 = .ok (.getfield 230, 3) := by decide +kernel
theorem d_M_ordered_163 : decode b_M_ordered 163 = .ok (.iload_n 3, 1) := by decide +kernel
theorem d_M_ordered_164 : decode b_M_ordered 164 = .ok (.aload_n 0, 1) := by decide +kernel
theorem d_M_ordered_165 : decode b_M_ordered 165 = .ok (.getfield 221, 3) := by decide +kernel
theorem d_M_ordered_168 : decode b_M_ordered 168 = .ok (.iload_n 3, 1) := by decide +kernel
theorem d_M_ordered_169 : decode b_M_ordered 169 = .ok (.baload, 1) := by decide +kernel
theorem d_M_ordered_170 : decode b_M_ordered 170 = .ok (.ifCond .ne 7, 3) := by decide +kernel
theorem d_M_ordered_173 : decode b_M_ordered 173 = .ok (.iconst 1, 1) := by decide +kernel
theorem d_M_ordered_174 : decode b_M_ordered 174 = .ok (.goto 4, 3) := by decide +kernel
theorem d_M_ordered_177 : decode b_M_ordered 177 = .ok (.iconst 0, 1) := by decide +kernel
theorem d_M_ordered_178 : decode b_M_ordered 178 = .ok (.bastore, 1) := by decide +kernel
theorem d_M_ordered_179 : decode b_M_ordered 179 = .ok (.iinc 3 1, 3) := by decide +kernel
theorem d_M_ordered_182 : decode b_M_ordered 182 = .ok (.goto (-31), 3) := by decide +kernel
theorem d_M_ordered_185 : decode b_M_ordered 185 = .ok (.iconst 0, 1) := by decide +kernel
theorem d_M_ordered_186 : decode b_M_ordered 186 = .ok (.istore_n 3, 1) := by decide +kernel
theorem d_M_ordered_187 : decode b_M_ordered 187 = .ok (.iload_n 3, 1) := by decide +kernel
theorem d_M_ordered_188 : decode b_M_ordered 188 = .ok (.aload_n 0, 1) := by decide +kernel
theorem d_M_ordered_189 : decode b_M_ordered 189 = .ok (.getfield 169, 3) := by decide +kernel
theorem d_M_ordered_192 : decode b_M_ordered 192 = .ok (.if_icmp .ge 42, 3) := by decide +kernel
theorem d_M_ordered_195 : decode b_M_ordered 195 = .ok (.aload_n 0, 1) := by decide +kernel
theorem d_M_ordered_196 : decode b_M_ordered 196 = .ok (.getfield 230, 3) := by decide +kernel
theorem d_M_ordered_199 : decode b_M_ordered 199 = .ok (.iload_n 3, 1) := by decide +kernel
theorem d_M_ordered_200 : decode b_M_ordered 200 = .ok (.baload, 1) := by decide +kernel
theorem d_M_ordered_201 : decode b_M_ordered 201 = .ok (.ifCond .eq 27, 3) := by decide +kernel
theorem d_M_ordered_204 : decode b_M_ordered 204 = .ok (.aload_n 0, 1) := by decide +kernel
theorem d_M_ordered_205 : decode b_M_ordered 205 = .ok (.iload_n 3, 1) := by decide +kernel
theorem d_M_ordered_206 : decode b_M_ordered 206 = .ok (.iload_n 3, 1) := by decide +kernel
theorem d_M_ordered_207 : decode b_M_ordered 207 = .ok (.invokevirtual 495, 3) := by decide +kernel
theorem d_M_ordered_210 : decode b_M_ordered 210 = .ok (.ifCond .eq 18, 3) := by decide +kernel
theorem d_M_ordered_213 : decode b_M_ordered 213 = .ok (.new 296, 3) := by decide +kernel
theorem d_M_ordered_216 : decode b_M_ordered 216 = .ok (.dup, 1) := by decide +kernel
theorem d_M_ordered_217 : decode b_M_ordered 217 = .ok (.bipush 7, 2) := by decide +kernel
theorem d_M_ordered_219 : decode b_M_ordered 219 = .ok (.aload_n 0, 1) := by decide +kernel
theorem d_M_ordered_220 : decode b_M_ordered 220 = .ok (.iload_n 3, 1) := by decide +kernel
theorem d_M_ordered_221 : decode b_M_ordered 221 = .ok (.invokevirtual 498, 3) := by decide +kernel
theorem d_M_ordered_224 : decode b_M_ordered 224 = .ok (.invokespecial 298, 3) := by decide +kernel
theorem d_M_ordered_227 : decode b_M_ordered 227 = .ok (.athrow, 1) := by decide +kernel
theorem d_M_ordered_228 : decode b_M_ordered 228 = .ok (.iinc 3 1, 3) := by decide +kernel
theorem d_M_ordered_231 : decode b_M_ordered 231 = .ok (.goto (-44), 3) := by decide +kernel
theorem d_M_ordered_234 : decode b_M_ordered 234 = .ok (.return_, 1) := by decide +kernel
abbrev mt_M_ordered : MT := (R_M, b_M_ordered, 6, none)
theorem vf_M_ordered : VF y_M_ordered mt_M_ordered 12 0 := ⟨im_M_ordered, se_M_ordered, in_M, co_M_ordered, by decide +kernel, _, _, rfl⟩
def f_M_ordered_b213 (γ : St) (x1 : Int) : Option Res :=
  bndN (f_M_placeOfVariable γ x1) fun r2 γ3 => chk (i32 r2) (some (.inl (7, r2), γ3))
def f_M_ordered_b228 (k187 : St → Int → Option Res) (x213 : St → Int → Option Res) (γ : St) (x4 : Int) : Option Res :=
  chk (i32 (x4 + 1)) (k187 γ (x4 + 1))
def f_M_ordered_L187 (x213 : St → Int → Option Res) : Nat → St → Int → Option Res
  | 0, _, _ => none
  | n + 1, γ, x8 =>
  if (γ 0 51) ≤ x8 then
  (some (.inr 0, γ))
  else
  (chk (inb x8 6100) (if (γ 49 x8) = 0 then
  (f_M_ordered_b228 (f_M_ordered_L187 x213 n) x213 γ x8)
  else
  (bndN (f_M_caused γ x8 x8) fun r12 γ13 =>
  if r12 = 0 then
  (f_M_ordered_b228 (f_M_ordered_L187 x213 n) x213 γ13 x8)
  else
  (x213 γ13 x8))))
def f_M_ordered_b185 (γ : St) : Option Res :=
  f_M_ordered_L187 (f_M_ordered_b213) FU γ 0
def f_M_ordered_b178 (k151 : St → Int → Option Res) (x185 : St → Option Res) (γ : St) (x15 : Int) (x16 : Int) (x17 : Int) : Option Res :=
  chk (x16 = 0 ∨ x16 = 1) (chk (inb x17 6100) (ap (setA γ 49 x17 x16) fun γ19 =>
  chk (i32 (x15 + 1)) (k151 γ19 (x15 + 1))))
def f_M_ordered_L151 (x185 : St → Option Res) : Nat → St → Int → Option Res
  | 0, _, _ => none
  | n + 1, γ, x22 =>
  if (γ 0 51) ≤ x22 then
  (x185 γ )
  else
  (chk (inb x22 6100) (if (γ 46 x22) ≠ 0 then
  (f_M_ordered_b178 (f_M_ordered_L151 x185 n) x185 γ x22 0 x22)
  else
  (f_M_ordered_b178 (f_M_ordered_L151 x185 n) x185 γ x22 1 x22)))
def f_M_ordered_b140 (γ : St) (x27 : Int) : Option Res :=
  if x27 ≠ (γ 0 51) then
  (f_M_ordered_L151 (f_M_ordered_b185) FU γ 0)
  else
  (some (.inr 0, γ))
def f_M_ordered_b137 (k27 : St → Int → Int → Option Res) (x140 : St → Int → Option Res) (γ : St) (x29 : Int) (x30 : Int) : Option Res :=
  k27 γ x29 x30
def f_M_ordered_b131 (k35 : St → Int → Int → Int → Option Res) (x137 : St → Int → Int → Option Res) (γ : St) (x34 : Int) (x35 : Int) (x36 : Int) : Option Res :=
  chk (i32 (x36 + 1)) (k35 γ x34 x35 (x36 + 1))
def f_M_ordered_b104 (k35 : St → Int → Int → Int → Option Res) (x137 : St → Int → Int → Option Res) (γ : St) (x43 : Int) (x44 : Int) (x45 : Int) (x46 : Int) : Option Res :=
  if x46 ≠ 0 then
  (chk (inb x45 6100) (ap (setA γ 46 x45 1) fun γ48 =>
  chk (i32 (x43 + 1)) (chk (inb x43 6100) (ap (setA γ48 48 x43 x45) fun γ51 =>
  f_M_ordered_b131 k35 x137 γ51 (x43 + 1) 1 x45))))
  else
  (f_M_ordered_b131 k35 x137 γ x43 x44 x45)
def f_M_ordered_L66 (x104 : St → Int → Int → Int → Int → Option Res) : Nat → St → Int → Int → Int → Int → Int → Option Res
  | 0, _, _, _, _, _, _ => none
  | n + 1, γ, x57, x58, x59, x60, x61 =>
  chk (i32 (x59 + 1)) (chk (inb (x59 + 1) 6101) (if (γ 44 (x59 + 1)) ≤ x61 then
  (x104 γ x57 x58 x59 x60)
  else
  (if x60 = 0 then
  (x104 γ x57 x58 x59 x60)
  else
  (chk (inb x61 60000) (chk (inb (γ 45 x61) 6100) (ap (γ 46 (γ 45 x61)) fun x69 =>
  chk (i32 (x61 + 1)) ((f_M_ordered_L66 x104 n) γ x57 x58 x59 x69 (x61 + 1))))))))
def f_M_ordered_L35 (x137 : St → Int → Int → Option Res) : Nat → St → Int → Int → Int → Option Res
  | 0, _, _, _, _ => none
  | n + 1, γ, x75, x76, x77 =>
  if (γ 0 51) ≤ x77 then
  (x137 γ x75 x76)
  else
  (chk (inb x77 6100) (if (γ 46 x77) = 0 then
  (chk (inb x77 6101) (ap (γ 44 x77) fun x83 =>
  f_M_ordered_L66 (f_M_ordered_b104 (f_M_ordered_L35 x137 n) x137) FU γ x75 x76 x77 1 x83))
  else
  (f_M_ordered_b131 (f_M_ordered_L35 x137 n) x137 γ x75 x76 x77)))
def f_M_ordered_L27 (x140 : St → Int → Option Res) : Nat → St → Int → Int → Option Res
  | 0, _, _, _ => none
  | n + 1, γ, x86, x87 =>
  if x87 = 0 then
  (x140 γ x86)
  else
  (f_M_ordered_L35 (f_M_ordered_b137 (f_M_ordered_L27 x140 n) x140) FU γ x86 0 0)
def f_M_ordered_b23 (γ : St) : Option Res :=
  f_M_ordered_L27 (f_M_ordered_b140) FU γ 0 1
def f_M_ordered_L2 (x23 : St → Option Res) : Nat → St → Int → Option Res
  | 0, _, _ => none
  | n + 1, γ, x89 =>
  if (γ 0 51) ≤ x89 then
  (x23 γ )
  else
  (chk (inb x89 6100) (ap (setA γ 46 x89 0) fun γ92 =>
  chk (i32 (x89 + 1)) ((f_M_ordered_L2 x23 n) γ92 (x89 + 1))))
def f_M_ordered (γ : St) : Option Res :=
  f_M_ordered_L2 (f_M_ordered_b23) FU γ 0
set_option maxHeartbeats 4000000 in
theorem s_M_ordered_b213 {Γ : Ctx} : ∀ (γ : St) (x1 : Int), i32 x1 → SB Γ BM mt_M_ordered (RmT 7 266) 0 0 (KT Γ BM mt_M_ordered.2.2.2) 213 [(0, vR Γ 0), (3, vI x1)] [] γ (f_M_ordered_b213 γ x1) := by
  intro γ x1 hx1
  unfold f_M_ordered_b213
  exact sb_thrC vf_M_placeOfVariable (c_M_placeOfVariable γ x1 hx1) 0 1 rfl rfl rfl ml_M_498 rfl ⟨by decide, by decide⟩ rfl d_M_ordered_213 d_M_ordered_216 (pu_bipush d_M_ordered_217 (by decide)) d_M_ordered_219 d_M_ordered_220 d_M_ordered_221 d_M_ordered_224 d_M_ordered_227 (by decide) ⟨by decide, by decide⟩
set_option maxHeartbeats 4000000 in
theorem s_M_ordered_b228 {Γ : Ctx} {k187 : St → Int → Option Res} {x213 : St → Int → Option Res} (hk187 : ∀ (γ : St) (x6 : Int), i32 x6 → SB Γ BM mt_M_ordered (RmT 7 266) 0 0 (KT Γ BM mt_M_ordered.2.2.2) 187 [(0, vR Γ 0), (3, vI x6)] [] γ (k187 γ x6)) (hx213 : ∀ (γ : St) (x7 : Int), i32 x7 → SB Γ BM mt_M_ordered (RmT 7 266) 0 0 (KT Γ BM mt_M_ordered.2.2.2) 213 [(0, vR Γ 0), (3, vI x7)] [] γ (x213 γ x7)) : ∀ (γ : St) (x4 : Int), i32 x4 → SB Γ BM mt_M_ordered (RmT 7 266) 0 0 (KT Γ BM mt_M_ordered.2.2.2) 228 [(0, vR Γ 0), (3, vI x4)] [] γ (f_M_ordered_b228 k187 x213 γ x4) := by
  intro γ x4 hx4
  unfold f_M_ordered_b228
  refine sb_iinc 1 [(3, vI (x4 + 1)), (0, vR Γ 0)] d_M_ordered_228 rfl (by decide) rfl ?_
  refine sb_chk (fun c5 => ?_)
  refine sb_goto 187 d_M_ordered_231 (by decide) ?_
  exact sb_lv [1, 0] rfl (hk187 γ (x4 + 1) c5)
set_option maxHeartbeats 4000000 in
theorem s_M_ordered_L187 {Γ : Ctx} {x213 : St → Int → Option Res} (hx213 : ∀ (γ : St) (x14 : Int), i32 x14 → SB Γ BM mt_M_ordered (RmT 7 266) 0 0 (KT Γ BM mt_M_ordered.2.2.2) 213 [(0, vR Γ 0), (3, vI x14)] [] γ (x213 γ x14)) : ∀ (n : Nat) (γ : St) (x8 : Int), i32 x8 → SB Γ BM mt_M_ordered (RmT 7 266) 0 0 (KT Γ BM mt_M_ordered.2.2.2) 187 [(0, vR Γ 0), (3, vI x8)] [] γ (f_M_ordered_L187 x213 n γ x8) := by
  intro n
  induction n with
  | zero => intros; exact sb_none
  | succ n ih =>
    intro γ x8 hx8
    unfold f_M_ordered_L187
    refine sb_iload_n 1 d_M_ordered_187 rfl ?_
    refine sb_aload_n 0 d_M_ordered_188 rfl ?_
    refine g_M_169 d_M_ordered_189 (fun c9 => ?_)
    refine sb_icmp_ge 234 hx8 c9 d_M_ordered_192 (by decide) (fun _ => ?_) (fun _ => ?_)
    · exact st_v rfl d_M_ordered_234
    · refine sb_aload_n 0 d_M_ordered_195 rfl ?_
      refine g_M_230 d_M_ordered_196 ?_
      refine sb_iload_n 1 d_M_ordered_199 rfl ?_
      refine al_M_49 d_M_ordered_200 (fun _ c11 => ?_)
      refine sb_if_eq 228 c11 d_M_ordered_201 (by decide) (fun _ => ?_) (fun _ => ?_)
      · exact sb_lv [0, 1] rfl (s_M_ordered_b228 ih hx213 γ x8 hx8)
      · refine sb_aload_n 0 d_M_ordered_204 rfl ?_
        refine sb_iload_n 1 d_M_ordered_205 rfl ?_
        refine sb_iload_n 1 d_M_ordered_206 rfl ?_
        refine sb_cVz vf_M_caused (c_M_caused γ x8 x8 hx8 hx8) rfl ml_M_495 (As := [vI x8, vI x8]) rfl rfl (Nat.le_of_ble_eq_true rfl) ⟨by decide, by decide⟩ d_M_ordered_207 (fun r12 γ13 hr12 => ?_)
        refine sb_if_eq 228 (z2i hr12) d_M_ordered_210 (by decide) (fun _ => ?_) (fun _ => ?_)
        · exact sb_lv [0, 1] rfl (s_M_ordered_b228 ih hx213 γ13 x8 hx8)
        · exact sb_lv [0, 1] rfl (hx213 γ13 x8 hx8)
set_option maxHeartbeats 4000000 in
theorem s_M_ordered_b185 {Γ : Ctx} : ∀ (γ : St), SB Γ BM mt_M_ordered (RmT 7 266) 0 0 (KT Γ BM mt_M_ordered.2.2.2) 185 [(0, vR Γ 0)] [] γ (f_M_ordered_b185 γ ) := by
  intro γ
  unfold f_M_ordered_b185
  refine sb_iconst d_M_ordered_185 ?_
  refine sb_istore_n [(3, vI 0), (0, vR Γ 0)] d_M_ordered_186 (by decide) rfl ?_
  exact sb_lv [1, 0] rfl (s_M_ordered_L187 (s_M_ordered_b213) FU γ 0 (by decide))
set_option maxHeartbeats 4000000 in
theorem s_M_ordered_b178 {Γ : Ctx} {k151 : St → Int → Option Res} {x185 : St → Option Res} (hk151 : ∀ (γ : St) (x21 : Int), i32 x21 → SB Γ BM mt_M_ordered (RmT 7 266) 0 0 (KT Γ BM mt_M_ordered.2.2.2) 151 [(0, vR Γ 0), (3, vI x21)] [] γ (k151 γ x21)) (hx185 : ∀ (γ : St), SB Γ BM mt_M_ordered (RmT 7 266) 0 0 (KT Γ BM mt_M_ordered.2.2.2) 185 [(0, vR Γ 0)] [] γ (x185 γ )) : ∀ (γ : St) (x15 : Int) (x16 : Int) (x17 : Int), i32 x15 → i32 x16 → i32 x17 → SB Γ BM mt_M_ordered (RmT 7 266) 0 0 (KT Γ BM mt_M_ordered.2.2.2) 178 [(0, vR Γ 0), (3, vI x15)] [vI x16, vI x17, vR Γ 49] γ (f_M_ordered_b178 k151 x185 γ x15 x16 x17) := by
  intro γ x15 x16 x17 hx15 hx16 hx17
  unfold f_M_ordered_b178
  refine sb_chk (fun c18 => ?_)
  refine as_M_49 c18 d_M_ordered_178 (fun _ => ?_)
  refine sb_aps (fun γ19 => ?_)
  refine sb_iinc 1 [(3, vI (x15 + 1)), (0, vR Γ 0)] d_M_ordered_179 rfl (by decide) rfl ?_
  refine sb_chk (fun c20 => ?_)
  refine sb_goto 151 d_M_ordered_182 (by decide) ?_
  exact sb_lv [1, 0] rfl (hk151 γ19 (x15 + 1) c20)
set_option maxHeartbeats 4000000 in
theorem s_M_ordered_L151 {Γ : Ctx} {x185 : St → Option Res} (hx185 : ∀ (γ : St), SB Γ BM mt_M_ordered (RmT 7 266) 0 0 (KT Γ BM mt_M_ordered.2.2.2) 185 [(0, vR Γ 0)] [] γ (x185 γ )) : ∀ (n : Nat) (γ : St) (x22 : Int), i32 x22 → SB Γ BM mt_M_ordered (RmT 7 266) 0 0 (KT Γ BM mt_M_ordered.2.2.2) 151 [(0, vR Γ 0), (3, vI x22)] [] γ (f_M_ordered_L151 x185 n γ x22) := by
  intro n
  induction n with
  | zero => intros; exact sb_none
  | succ n ih =>
    intro γ x22 hx22
    unfold f_M_ordered_L151
    refine sb_iload_n 1 d_M_ordered_151 rfl ?_
    refine sb_aload_n 0 d_M_ordered_152 rfl ?_
    refine g_M_169 d_M_ordered_153 (fun c23 => ?_)
    refine sb_icmp_ge 185 hx22 c23 d_M_ordered_156 (by decide) (fun _ => ?_) (fun _ => ?_)
    · exact sb_lv [0] rfl (hx185 γ  )
    · refine sb_aload_n 0 d_M_ordered_159 rfl ?_
      refine g_M_230 d_M_ordered_160 ?_
      refine sb_iload_n 1 d_M_ordered_163 rfl ?_
      refine sb_aload_n 0 d_M_ordered_164 rfl ?_
      refine g_M_221 d_M_ordered_165 ?_
      refine sb_iload_n 1 d_M_ordered_168 rfl ?_
      refine al_M_46 d_M_ordered_169 (fun _ c26 => ?_)
      refine sb_if_ne 177 c26 d_M_ordered_170 (by decide) (fun _ => ?_) (fun _ => ?_)
      · refine sb_iconst d_M_ordered_177 ?_
        exact sb_lv [0, 1] rfl (s_M_ordered_b178 ih hx185 γ x22 0 x22 hx22 (by decide) hx22)
      · refine sb_iconst d_M_ordered_173 ?_
        refine sb_goto 178 d_M_ordered_174 (by decide) ?_
        exact sb_lv [0, 1] rfl (s_M_ordered_b178 ih hx185 γ x22 1 x22 hx22 (by decide) hx22)
set_option maxHeartbeats 4000000 in
theorem s_M_ordered_b140 {Γ : Ctx} : ∀ (γ : St) (x27 : Int), i32 x27 → SB Γ BM mt_M_ordered (RmT 7 266) 0 0 (KT Γ BM mt_M_ordered.2.2.2) 140 [(0, vR Γ 0), (1, vI x27)] [] γ (f_M_ordered_b140 γ x27) := by
  intro γ x27 hx27
  unfold f_M_ordered_b140
  refine sb_iload_n 1 d_M_ordered_140 rfl ?_
  refine sb_aload_n 0 d_M_ordered_141 rfl ?_
  refine g_M_169 d_M_ordered_142 (fun c28 => ?_)
  refine sb_icmp_ne 149 hx27 c28 d_M_ordered_145 (by decide) (fun _ => ?_) (fun _ => ?_)
  · refine sb_iconst d_M_ordered_149 ?_
    refine sb_istore_n [(3, vI 0), (0, vR Γ 0), (1, vI x27)] d_M_ordered_150 (by decide) rfl ?_
    exact sb_lv [1, 0] rfl (s_M_ordered_L151 (s_M_ordered_b185) FU γ 0 (by decide))
  · exact st_v rfl d_M_ordered_148
set_option maxHeartbeats 4000000 in
theorem s_M_ordered_b137 {Γ : Ctx} {k27 : St → Int → Int → Option Res} {x140 : St → Int → Option Res} (hk27 : ∀ (γ : St) (x31 : Int) (x32 : Int), i32 x31 → i32 x32 → SB Γ BM mt_M_ordered (RmT 7 266) 0 0 (KT Γ BM mt_M_ordered.2.2.2) 27 [(0, vR Γ 0), (1, vI x31), (2, vI x32)] [] γ (k27 γ x31 x32)) (hx140 : ∀ (γ : St) (x33 : Int), i32 x33 → SB Γ BM mt_M_ordered (RmT 7 266) 0 0 (KT Γ BM mt_M_ordered.2.2.2) 140 [(0, vR Γ 0), (1, vI x33)] [] γ (x140 γ x33)) : ∀ (γ : St) (x29 : Int) (x30 : Int), i32 x29 → i32 x30 → SB Γ BM mt_M_ordered (RmT 7 266) 0 0 (KT Γ BM mt_M_ordered.2.2.2) 137 [(0, vR Γ 0), (1, vI x29), (2, vI x30)] [] γ (f_M_ordered_b137 k27 x140 γ x29 x30) := by
  intro γ x29 x30 hx29 hx30
  unfold f_M_ordered_b137
  refine sb_goto 27 d_M_ordered_137 (by decide) ?_
  exact sb_lv [0, 1, 2] rfl (hk27 γ x29 x30 hx29 hx30)
set_option maxHeartbeats 4000000 in
theorem s_M_ordered_b131 {Γ : Ctx} {k35 : St → Int → Int → Int → Option Res} {x137 : St → Int → Int → Option Res} (hk35 : ∀ (γ : St) (x38 : Int) (x39 : Int) (x40 : Int), i32 x38 → i32 x39 → i32 x40 → SB Γ BM mt_M_ordered (RmT 7 266) 0 0 (KT Γ BM mt_M_ordered.2.2.2) 35 [(0, vR Γ 0), (1, vI x38), (2, vI x39), (3, vI x40)] [] γ (k35 γ x38 x39 x40)) (hx137 : ∀ (γ : St) (x41 : Int) (x42 : Int), i32 x41 → i32 x42 → SB Γ BM mt_M_ordered (RmT 7 266) 0 0 (KT Γ BM mt_M_ordered.2.2.2) 137 [(0, vR Γ 0), (1, vI x41), (2, vI x42)] [] γ (x137 γ x41 x42)) : ∀ (γ : St) (x34 : Int) (x35 : Int) (x36 : Int), i32 x34 → i32 x35 → i32 x36 → SB Γ BM mt_M_ordered (RmT 7 266) 0 0 (KT Γ BM mt_M_ordered.2.2.2) 131 [(0, vR Γ 0), (1, vI x34), (2, vI x35), (3, vI x36)] [] γ (f_M_ordered_b131 k35 x137 γ x34 x35 x36) := by
  intro γ x34 x35 x36 hx34 hx35 hx36
  unfold f_M_ordered_b131
  refine sb_iinc 3 [(3, vI (x36 + 1)), (0, vR Γ 0), (1, vI x34), (2, vI x35)] d_M_ordered_131 rfl (by decide) rfl ?_
  refine sb_chk (fun c37 => ?_)
  refine sb_goto 35 d_M_ordered_134 (by decide) ?_
  exact sb_lv [1, 2, 3, 0] rfl (hk35 γ x34 x35 (x36 + 1) hx34 hx35 c37)
set_option maxHeartbeats 4000000 in
theorem s_M_ordered_b104 {Γ : Ctx} {k35 : St → Int → Int → Int → Option Res} {x137 : St → Int → Int → Option Res} (hk35 : ∀ (γ : St) (x52 : Int) (x53 : Int) (x54 : Int), i32 x52 → i32 x53 → i32 x54 → SB Γ BM mt_M_ordered (RmT 7 266) 0 0 (KT Γ BM mt_M_ordered.2.2.2) 35 [(0, vR Γ 0), (1, vI x52), (2, vI x53), (3, vI x54)] [] γ (k35 γ x52 x53 x54)) (hx137 : ∀ (γ : St) (x55 : Int) (x56 : Int), i32 x55 → i32 x56 → SB Γ BM mt_M_ordered (RmT 7 266) 0 0 (KT Γ BM mt_M_ordered.2.2.2) 137 [(0, vR Γ 0), (1, vI x55), (2, vI x56)] [] γ (x137 γ x55 x56)) : ∀ (γ : St) (x43 : Int) (x44 : Int) (x45 : Int) (x46 : Int), i32 x43 → i32 x44 → i32 x45 → i32 x46 → SB Γ BM mt_M_ordered (RmT 7 266) 0 0 (KT Γ BM mt_M_ordered.2.2.2) 104 [(0, vR Γ 0), (1, vI x43), (2, vI x44), (3, vI x45), (4, vI x46)] [] γ (f_M_ordered_b104 k35 x137 γ x43 x44 x45 x46) := by
  intro γ x43 x44 x45 x46 hx43 hx44 hx45 hx46
  unfold f_M_ordered_b104
  refine sb_iload 4 d_M_ordered_104 rfl ?_
  refine sb_if_ne 112 hx46 d_M_ordered_106 (by decide) (fun _ => ?_) (fun _ => ?_)
  · refine sb_aload_n 0 d_M_ordered_112 rfl ?_
    refine g_M_221 d_M_ordered_113 ?_
    refine sb_iload_n 3 d_M_ordered_116 rfl ?_
    refine sb_iconst d_M_ordered_117 ?_
    refine as_M_46 (by decide) d_M_ordered_118 (fun _ => ?_)
    refine sb_aps (fun γ48 => ?_)
    refine sb_aload_n 0 d_M_ordered_119 rfl ?_
    refine g_M_227 d_M_ordered_120 ?_
    refine sb_iload_n 1 d_M_ordered_123 rfl ?_
    refine sb_iinc 1 [(1, vI (x43 + 1)), (0, vR Γ 0), (2, vI x44), (3, vI x45), (4, vI x46)] d_M_ordered_124 rfl (by decide) rfl ?_
    refine sb_chk (fun c50 => ?_)
    refine sb_iload_n 3 d_M_ordered_127 rfl ?_
    refine as_M_48 hx45 d_M_ordered_128 (fun _ => ?_)
    refine sb_aps (fun γ51 => ?_)
    refine sb_iconst d_M_ordered_129 ?_
    refine sb_istore_n [(2, vI 1), (1, vI (x43 + 1)), (0, vR Γ 0), (3, vI x45), (4, vI x46)] d_M_ordered_130 (by decide) rfl ?_
    exact sb_lv [2, 1, 0, 3] rfl (s_M_ordered_b131 hk35 hx137 γ51 (x43 + 1) 1 x45 c50 (by decide) hx45)
  · refine sb_goto 131 d_M_ordered_109 (by decide) ?_
    exact sb_lv [0, 1, 2, 3] rfl (s_M_ordered_b131 hk35 hx137 γ x43 x44 x45 hx43 hx44 hx45)
set_option maxHeartbeats 4000000 in
theorem s_M_ordered_L66 {Γ : Ctx} {x104 : St → Int → Int → Int → Int → Option Res} (hx104 : ∀ (γ : St) (x71 : Int) (x72 : Int) (x73 : Int) (x74 : Int), i32 x71 → i32 x72 → i32 x73 → i32 x74 → SB Γ BM mt_M_ordered (RmT 7 266) 0 0 (KT Γ BM mt_M_ordered.2.2.2) 104 [(0, vR Γ 0), (1, vI x71), (2, vI x72), (3, vI x73), (4, vI x74)] [] γ (x104 γ x71 x72 x73 x74)) : ∀ (n : Nat) (γ : St) (x57 : Int) (x58 : Int) (x59 : Int) (x60 : Int) (x61 : Int), i32 x57 → i32 x58 → i32 x59 → i32 x60 → i32 x61 → SB Γ BM mt_M_ordered (RmT 7 266) 0 0 (KT Γ BM mt_M_ordered.2.2.2) 66 [(0, vR Γ 0), (1, vI x57), (2, vI x58), (3, vI x59), (4, vI x60), (5, vI x61)] [] γ (f_M_ordered_L66 x104 n γ x57 x58 x59 x60 x61) := by
  intro n
  induction n with
  | zero => intros; exact sb_none
  | succ n ih =>
    intro γ x57 x58 x59 x60 x61 hx57 hx58 hx59 hx60 hx61
    unfold f_M_ordered_L66
    refine sb_iload 5 d_M_ordered_66 rfl ?_
    refine sb_aload_n 0 d_M_ordered_68 rfl ?_
    refine g_M_211 d_M_ordered_69 ?_
    refine sb_iload_n 3 d_M_ordered_72 rfl ?_
    refine sb_iconst d_M_ordered_73 ?_
    refine sb_iadd d_M_ordered_74 ?_
    refine sb_chk (fun c63 => ?_)
    refine al_M_44 d_M_ordered_75 (fun _ c64 => ?_)
    refine sb_icmp_ge 104 hx61 c64 d_M_ordered_76 (by decide) (fun _ => ?_) (fun _ => ?_)
    · exact sb_lv [0, 1, 2, 3, 4] rfl (hx104 γ x57 x58 x59 x60 hx57 hx58 hx59 hx60)
    · refine sb_iload 4 d_M_ordered_79 rfl ?_
      refine sb_if_eq 104 hx60 d_M_ordered_81 (by decide) (fun _ => ?_) (fun _ => ?_)
      · exact sb_lv [0, 1, 2, 3, 4] rfl (hx104 γ x57 x58 x59 x60 hx57 hx58 hx59 hx60)
      · refine sb_aload_n 0 d_M_ordered_84 rfl ?_
        refine g_M_221 d_M_ordered_85 ?_
        refine sb_aload_n 0 d_M_ordered_88 rfl ?_
        refine g_M_215 d_M_ordered_89 ?_
        refine sb_iload 5 d_M_ordered_92 rfl ?_
        refine al_M_45 d_M_ordered_94 (fun _ c67 => ?_)
        refine al_M_46 d_M_ordered_95 (fun _ c68 => ?_)
        refine sb_istore [(4, vI (γ 46 (γ 45 x61))), (0, vR Γ 0), (1, vI x57), (2, vI x58), (3, vI x59), (5, vI x61)] d_M_ordered_96 (by decide) rfl ?_
        refine sb_nme (e := γ 46 (γ 45 x61)) (fun x69 => [(4, vI x69), (0, vR Γ 0), (1, vI x57), (2, vI x58), (3, vI x59), (5, vI x61)]) c68 (fun x69 hx69 => ?_)
        refine sb_iinc 5 [(5, vI (x61 + 1)), (4, vI x69), (0, vR Γ 0), (1, vI x57), (2, vI x58), (3, vI x59)] d_M_ordered_98 rfl (by decide) rfl ?_
        refine sb_chk (fun c70 => ?_)
        refine sb_goto 66 d_M_ordered_101 (by decide) ?_
        exact sb_lv [2, 3, 4, 5, 1, 0] rfl (ih γ x57 x58 x59 x69 (x61 + 1) hx57 hx58 hx59 hx69 c70)
set_option maxHeartbeats 4000000 in
theorem s_M_ordered_L35 {Γ : Ctx} {x137 : St → Int → Int → Option Res} (hx137 : ∀ (γ : St) (x84 : Int) (x85 : Int), i32 x84 → i32 x85 → SB Γ BM mt_M_ordered (RmT 7 266) 0 0 (KT Γ BM mt_M_ordered.2.2.2) 137 [(0, vR Γ 0), (1, vI x84), (2, vI x85)] [] γ (x137 γ x84 x85)) : ∀ (n : Nat) (γ : St) (x75 : Int) (x76 : Int) (x77 : Int), i32 x75 → i32 x76 → i32 x77 → SB Γ BM mt_M_ordered (RmT 7 266) 0 0 (KT Γ BM mt_M_ordered.2.2.2) 35 [(0, vR Γ 0), (1, vI x75), (2, vI x76), (3, vI x77)] [] γ (f_M_ordered_L35 x137 n γ x75 x76 x77) := by
  intro n
  induction n with
  | zero => intros; exact sb_none
  | succ n ih =>
    intro γ x75 x76 x77 hx75 hx76 hx77
    unfold f_M_ordered_L35
    refine sb_iload_n 3 d_M_ordered_35 rfl ?_
    refine sb_aload_n 0 d_M_ordered_36 rfl ?_
    refine g_M_169 d_M_ordered_37 (fun c78 => ?_)
    refine sb_icmp_ge 137 hx77 c78 d_M_ordered_40 (by decide) (fun _ => ?_) (fun _ => ?_)
    · exact sb_lv [0, 1, 2] rfl (hx137 γ x75 x76 hx75 hx76)
    · refine sb_aload_n 0 d_M_ordered_43 rfl ?_
      refine g_M_221 d_M_ordered_44 ?_
      refine sb_iload_n 3 d_M_ordered_47 rfl ?_
      refine al_M_46 d_M_ordered_48 (fun _ c80 => ?_)
      refine sb_if_eq 55 c80 d_M_ordered_49 (by decide) (fun _ => ?_) (fun _ => ?_)
      · refine sb_iconst d_M_ordered_55 ?_
        refine sb_istore [(4, vI 1), (0, vR Γ 0), (1, vI x75), (2, vI x76), (3, vI x77)] d_M_ordered_56 (by decide) rfl ?_
        refine sb_aload_n 1 d_M_ordered_58 rfl ?_
        refine g_M_211 d_M_ordered_59 ?_
        refine sb_iload_n 4 d_M_ordered_62 rfl ?_
        refine al_M_44 d_M_ordered_63 (fun _ c82 => ?_)
        refine sb_istore [(5, vI (γ 44 x77)), (4, vI 1), (0, vR Γ 0), (1, vI x75), (2, vI x76), (3, vI x77)] d_M_ordered_64 (by decide) rfl ?_
        refine sb_nme (e := γ 44 x77) (fun x83 => [(5, vI x83), (4, vI 1), (0, vR Γ 0), (1, vI x75), (2, vI x76), (3, vI x77)]) c82 (fun x83 hx83 => ?_)
        exact sb_lv [2, 3, 4, 5, 1, 0] rfl (s_M_ordered_L66 (s_M_ordered_b104 ih hx137) FU γ x75 x76 x77 1 x83 hx75 hx76 hx77 (by decide) hx83)
      · refine sb_goto 131 d_M_ordered_52 (by decide) ?_
        exact sb_lv [0, 1, 2, 3] rfl (s_M_ordered_b131 ih hx137 γ x75 x76 x77 hx75 hx76 hx77)
set_option maxHeartbeats 4000000 in
theorem s_M_ordered_L27 {Γ : Ctx} {x140 : St → Int → Option Res} (hx140 : ∀ (γ : St) (x88 : Int), i32 x88 → SB Γ BM mt_M_ordered (RmT 7 266) 0 0 (KT Γ BM mt_M_ordered.2.2.2) 140 [(0, vR Γ 0), (1, vI x88)] [] γ (x140 γ x88)) : ∀ (n : Nat) (γ : St) (x86 : Int) (x87 : Int), i32 x86 → i32 x87 → SB Γ BM mt_M_ordered (RmT 7 266) 0 0 (KT Γ BM mt_M_ordered.2.2.2) 27 [(0, vR Γ 0), (1, vI x86), (2, vI x87)] [] γ (f_M_ordered_L27 x140 n γ x86 x87) := by
  intro n
  induction n with
  | zero => intros; exact sb_none
  | succ n ih =>
    intro γ x86 x87 hx86 hx87
    unfold f_M_ordered_L27
    refine sb_iload_n 2 d_M_ordered_27 rfl ?_
    refine sb_if_eq 140 hx87 d_M_ordered_28 (by decide) (fun _ => ?_) (fun _ => ?_)
    · exact sb_lv [0, 1] rfl (hx140 γ x86 hx86)
    · refine sb_iconst d_M_ordered_31 ?_
      refine sb_istore_n [(2, vI 0), (0, vR Γ 0), (1, vI x86)] d_M_ordered_32 (by decide) rfl ?_
      refine sb_iconst d_M_ordered_33 ?_
      refine sb_istore_n [(3, vI 0), (2, vI 0), (0, vR Γ 0), (1, vI x86)] d_M_ordered_34 (by decide) rfl ?_
      exact sb_lv [2, 3, 1, 0] rfl (s_M_ordered_L35 (s_M_ordered_b137 ih hx140) FU γ x86 0 0 hx86 (by decide) (by decide))
set_option maxHeartbeats 4000000 in
theorem s_M_ordered_b23 {Γ : Ctx} : ∀ (γ : St), SB Γ BM mt_M_ordered (RmT 7 266) 0 0 (KT Γ BM mt_M_ordered.2.2.2) 23 [(0, vR Γ 0)] [] γ (f_M_ordered_b23 γ ) := by
  intro γ
  unfold f_M_ordered_b23
  refine sb_iconst d_M_ordered_23 ?_
  refine sb_istore_n [(1, vI 0), (0, vR Γ 0)] d_M_ordered_24 (by decide) rfl ?_
  refine sb_iconst d_M_ordered_25 ?_
  refine sb_istore_n [(2, vI 1), (1, vI 0), (0, vR Γ 0)] d_M_ordered_26 (by decide) rfl ?_
  exact sb_lv [2, 1, 0] rfl (s_M_ordered_L27 (s_M_ordered_b140) FU γ 0 1 (by decide) (by decide))
set_option maxHeartbeats 4000000 in
theorem s_M_ordered_L2 {Γ : Ctx} {x23 : St → Option Res} (hx23 : ∀ (γ : St), SB Γ BM mt_M_ordered (RmT 7 266) 0 0 (KT Γ BM mt_M_ordered.2.2.2) 23 [(0, vR Γ 0)] [] γ (x23 γ )) : ∀ (n : Nat) (γ : St) (x89 : Int), i32 x89 → SB Γ BM mt_M_ordered (RmT 7 266) 0 0 (KT Γ BM mt_M_ordered.2.2.2) 2 [(0, vR Γ 0), (1, vI x89)] [] γ (f_M_ordered_L2 x23 n γ x89) := by
  intro n
  induction n with
  | zero => intros; exact sb_none
  | succ n ih =>
    intro γ x89 hx89
    unfold f_M_ordered_L2
    refine sb_iload_n 1 d_M_ordered_2 rfl ?_
    refine sb_aload_n 0 d_M_ordered_3 rfl ?_
    refine g_M_169 d_M_ordered_4 (fun c90 => ?_)
    refine sb_icmp_ge 23 hx89 c90 d_M_ordered_7 (by decide) (fun _ => ?_) (fun _ => ?_)
    · exact sb_lv [0] rfl (hx23 γ  )
    · refine sb_aload_n 0 d_M_ordered_10 rfl ?_
      refine g_M_221 d_M_ordered_11 ?_
      refine sb_iload_n 1 d_M_ordered_14 rfl ?_
      refine sb_iconst d_M_ordered_15 ?_
      refine as_M_46 (by decide) d_M_ordered_16 (fun _ => ?_)
      refine sb_aps (fun γ92 => ?_)
      refine sb_iinc 1 [(1, vI (x89 + 1)), (0, vR Γ 0)] d_M_ordered_17 rfl (by decide) rfl ?_
      refine sb_chk (fun c93 => ?_)
      refine sb_goto 2 d_M_ordered_20 (by decide) ?_
      exact sb_lv [1, 0] rfl (ih γ92 (x89 + 1) c93)
set_option maxHeartbeats 4000000 in
theorem c_M_ordered {Γ : Ctx} (γ : St) : TC Γ BM y_M_ordered mt_M_ordered 7 266 [vR Γ 0] γ (f_M_ordered γ) := by
  refine tc_of (by decide) rfl (Nat.le_of_ble_eq_true rfl) ?_
  show SB Γ BM mt_M_ordered (RmT 7 266) 0 0 (KT Γ BM mt_M_ordered.2.2.2) 0 [(0, vR Γ 0)] [] γ _
  unfold f_M_ordered
  refine sb_iconst d_M_ordered_0 ?_
  refine sb_istore_n [(1, vI 0), (0, vR Γ 0)] d_M_ordered_1 (by decide) rfl ?_
  exact sb_lv [1, 0] rfl (s_M_ordered_L2 (s_M_ordered_b23) FU γ 0 (by decide))
