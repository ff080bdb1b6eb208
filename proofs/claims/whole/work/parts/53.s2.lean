/-! the class as functions: nodes, code, expressions -/
theorem d_Nd_begin_0 : decode b_Nd_begin 0 = .ok (.aload_n 0, 1) := by decide +kernel
theorem d_Nd_begin_1 : decode b_Nd_begin 1 = .ok (.iconst 0, 1) := by decide +kernel
theorem d_Nd_begin_2 : decode b_Nd_begin 2 = .ok (.putfield 54, 3) := by decide +kernel
theorem d_Nd_begin_5 : decode b_Nd_begin 5 = .ok (.aload_n 0, 1) := by decide +kernel
theorem d_Nd_begin_6 : decode b_Nd_begin 6 = .ok (.iconst 0, 1) := by decide +kernel
theorem d_Nd_begin_7 : decode b_Nd_begin 7 = .ok (.putfield 58, 3) := by decide +kernel
theorem d_Nd_begin_10 : decode b_Nd_begin 10 = .ok (.return_, 1) := by decide +kernel
abbrev mt_Nd_begin : MT := (R_Nd, b_Nd_begin, 1, none)
theorem vf_Nd_begin : VF y_Nd_begin mt_Nd_begin 6 0 := ⟨im_Nd_begin, se_Nd_begin, in_Nd, co_Nd_begin, by decide +kernel, _, _, rfl⟩
def f_Nd_begin (γ : St) : Option (Int × St) :=
  ap (setA γ 3 9 0) fun γ1 =>
  ap (setA γ1 3 15 0) fun γ2 =>
  some (0, γ2)
set_option maxHeartbeats 4000000 in
theorem c_Nd_begin {Γ : Ctx} (γ : St) : NC Γ BS y_Nd_begin mt_Nd_begin 6 240 [vR Γ 3] γ (f_Nd_begin γ) := by
  refine nc_of (by decide) rfl (Nat.le_of_ble_eq_true rfl) ?_
  show SB Γ BS mt_Nd_begin (RmN 6 240) 0 0 (KN Γ BS mt_Nd_begin.2.2.2) 0 [(0, vR Γ 3)] [] γ _
  unfold f_Nd_begin
  refine sb_aload_n 0 d_Nd_begin_0 rfl ?_
  refine sb_iconst d_Nd_begin_1 ?_
  refine p_Nd_54 (by decide) d_Nd_begin_2 ?_
  refine sb_aps (fun γ1 => ?_)
  refine sb_aload_n 0 d_Nd_begin_5 rfl ?_
  refine sb_iconst d_Nd_begin_6 ?_
  refine p_Nd_58 (by decide) d_Nd_begin_7 ?_
  refine sb_aps (fun γ2 => ?_)
  exact sn_v rfl d_Nd_begin_10
theorem d_Cd_begin_0 : decode b_Cd_begin 0 = .ok (.aload_n 0, 1) := by decide +kernel
theorem d_Cd_begin_1 : decode b_Cd_begin 1 = .ok (.iconst 0, 1) := by decide +kernel
theorem d_Cd_begin_2 : decode b_Cd_begin 2 = .ok (.putfield 44, 3) := by decide +kernel
theorem d_Cd_begin_5 : decode b_Cd_begin 5 = .ok (.aload_n 0, 1) := by decide +kernel
theorem d_Cd_begin_6 : decode b_Cd_begin 6 = .ok (.iconst 0, 1) := by decide +kernel
theorem d_Cd_begin_7 : decode b_Cd_begin 7 = .ok (.putfield 48, 3) := by decide +kernel
theorem d_Cd_begin_10 : decode b_Cd_begin 10 = .ok (.aload_n 0, 1) := by decide +kernel
theorem d_Cd_begin_11 : decode b_Cd_begin 11 = .ok (.iconst 0, 1) := by decide +kernel
theorem d_Cd_begin_12 : decode b_Cd_begin 12 = .ok (.putfield 51, 3) := by decide +kernel
theorem d_Cd_begin_15 : decode b_Cd_begin 15 = .ok (.return_, 1) := by decide +kernel
abbrev mt_Cd_begin : MT := (R_Cd, b_Cd_begin, 1, none)
theorem vf_Cd_begin : VF y_Cd_begin mt_Cd_begin 2 0 := ⟨im_Cd_begin, se_Cd_begin, in_Cd, co_Cd_begin, by decide +kernel, _, _, rfl⟩
def f_Cd_begin (γ : St) : Option (Int × St) :=
  ap (setA γ 4 4 0) fun γ1 =>
  ap (setA γ1 4 10 0) fun γ2 =>
  ap (setA γ2 4 12 0) fun γ3 =>
  some (0, γ3)
set_option maxHeartbeats 4000000 in
theorem c_Cd_begin {Γ : Ctx} (γ : St) : NC Γ BS y_Cd_begin mt_Cd_begin 6 240 [vR Γ 4] γ (f_Cd_begin γ) := by
  refine nc_of (by decide) rfl (Nat.le_of_ble_eq_true rfl) ?_
  show SB Γ BS mt_Cd_begin (RmN 6 240) 0 0 (KN Γ BS mt_Cd_begin.2.2.2) 0 [(0, vR Γ 4)] [] γ _
  unfold f_Cd_begin
  refine sb_aload_n 0 d_Cd_begin_0 rfl ?_
  refine sb_iconst d_Cd_begin_1 ?_
  refine p_Cd_44 (by decide) d_Cd_begin_2 ?_
  refine sb_aps (fun γ1 => ?_)
  refine sb_aload_n 0 d_Cd_begin_5 rfl ?_
  refine sb_iconst d_Cd_begin_6 ?_
  refine p_Cd_48 (by decide) d_Cd_begin_7 ?_
  refine sb_aps (fun γ2 => ?_)
  refine sb_aload_n 0 d_Cd_begin_10 rfl ?_
  refine sb_iconst d_Cd_begin_11 ?_
  refine p_Cd_51 (by decide) d_Cd_begin_12 ?_
  refine sb_aps (fun γ3 => ?_)
  exact sn_v rfl d_Cd_begin_15
theorem d_Nd_open_0 : decode b_Nd_open 0 = .ok (.aload_n 0, 1) := by decide +kernel
theorem d_Nd_open_1 : decode b_Nd_open 1 = .ok (.getfield 9, 3) := by decide +kernel
theorem d_Nd_open_4 : decode b_Nd_open 4 = .ok (.aload_n 0, 1) := by decide +kernel
theorem d_Nd_open_5 : decode b_Nd_open 5 = .ok (.getfield 54, 3) := by decide +kernel
theorem d_Nd_open_8 : decode b_Nd_open 8 = .ok (.iload_n 1, 1) := by decide +kernel
theorem d_Nd_open_9 : decode b_Nd_open 9 = .ok (.iastore, 1) := by decide +kernel
theorem d_Nd_open_10 : decode b_Nd_open 10 = .ok (.aload_n 0, 1) := by decide +kernel
theorem d_Nd_open_11 : decode b_Nd_open 11 = .ok (.getfield 15, 3) := by decide +kernel
theorem d_Nd_open_14 : decode b_Nd_open 14 = .ok (.aload_n 0, 1) := by decide +kernel
theorem d_Nd_open_15 : decode b_Nd_open 15 = .ok (.getfield 54, 3) := by decide +kernel
theorem d_Nd_open_18 : decode b_Nd_open 18 = .ok (.aload_n 0, 1) := by decide +kernel
theorem d_Nd_open_19 : decode b_Nd_open 19 = .ok (.getfield 58, 3) := by decide +kernel
theorem d_Nd_open_22 : decode b_Nd_open 22 = .ok (.iastore, 1) := by decide +kernel
theorem d_Nd_open_23 : decode b_Nd_open 23 = .ok (.aload_n 0, 1) := by decide +kernel
theorem d_Nd_open_24 : decode b_Nd_open 24 = .ok (.getfield 18, 3) := by decide +kernel
theorem d_Nd_open_27 : decode b_Nd_open 27 = .ok (.aload_n 0, 1) := by decide +kernel
theorem d_Nd_open_28 : decode b_Nd_open 28 = .ok (.getfield 54, 3) := by decide +kernel
theorem d_Nd_open_31 : decode b_Nd_open 31 = .ok (.iconst 0, 1) := by decide +kernel
theorem d_Nd_open_32 : decode b_Nd_open 32 = .ok (.iastore, 1) := by decide +kernel
theorem d_Nd_open_33 : decode b_Nd_open 33 = .ok (.aload_n 0, 1) := by decide +kernel
theorem d_Nd_open_34 : decode b_Nd_open 34 = .ok (.getfield 21, 3) := by decide +kernel
theorem d_Nd_open_37 : decode b_Nd_open 37 = .ok (.aload_n 0, 1) := by decide +kernel
theorem d_Nd_open_38 : decode b_Nd_open 38 = .ok (.getfield 54, 3) := by decide +kernel
theorem d_Nd_open_41 : decode b_Nd_open 41 = .ok (.iconst 0, 1) := by decide +kernel
theorem d_Nd_open_42 : decode b_Nd_open 42 = .ok (.iastore, 1) := by decide +kernel
theorem d_Nd_open_43 : decode b_Nd_open 43 = .ok (.aload_n 0, 1) := by decide +kernel
theorem d_Nd_open_44 : decode b_Nd_open 44 = .ok (.getfield 24, 3) := by decide +kernel
theorem d_Nd_open_47 : decode b_Nd_open 47 = .ok (.aload_n 0, 1) := by decide +kernel
theorem d_Nd_open_48 : decode b_Nd_open 48 = .ok (.getfield 54, 3) := by decide +kernel
theorem d_Nd_open_51 : decode b_Nd_open 51 = .ok (.iconst 0, 1) := by decide +kernel
theorem d_Nd_open_52 : decode b_Nd_open 52 = .ok (.iastore, 1) := by decide +kernel
theorem d_Nd_open_53 : decode b_Nd_open 53 = .ok (.aload_n 0, 1) := by decide +kernel
theorem d_Nd_open_54 : decode b_Nd_open 54 = .ok (.getfield 27, 3) := by decide +kernel
theorem d_Nd_open_57 : decode b_Nd_open 57 = .ok (.aload_n 0, 1) := by decide +kernel
theorem d_Nd_open_58 : decode b_Nd_open 58 = .ok (.getfield 54, 3) := by decide +kernel
theorem d_Nd_open_61 : decode b_Nd_open 61 = .ok (.iload_n 2, 1) := by decide +kernel
theorem d_Nd_open_62 : decode b_Nd_open 62 = .ok (.iastore, 1) := by decide +kernel
theorem d_Nd_open_63 : decode b_Nd_open 63 = .ok (.return_, 1) := by decide +kernel
abbrev mt_Nd_open : MT := (R_Nd, b_Nd_open, 3, none)
theorem vf_Nd_open : VF y_Nd_open mt_Nd_open 6 2 := ⟨im_Nd_open, se_Nd_open, in_Nd, co_Nd_open, by decide +kernel, _, _, rfl⟩
def f_Nd_open (γ : St) (a0 : Int) (a1 : Int) : Option (Int × St) :=
  chk (inb (γ 3 9) 59) (ap (setA γ 24 (γ 3 9) a0) fun γ3 =>
  chk (inb (γ3 3 9) 59) (ap (setA γ3 25 (γ3 3 9) (γ3 3 15)) fun γ7 =>
  chk (inb (γ7 3 9) 59) (ap (setA γ7 26 (γ7 3 9) 0) fun γ10 =>
  chk (inb (γ10 3 9) 59) (ap (setA γ10 27 (γ10 3 9) 0) fun γ13 =>
  chk (inb (γ13 3 9) 59) (ap (setA γ13 28 (γ13 3 9) 0) fun γ16 =>
  chk (inb (γ16 3 9) 59) (ap (setA γ16 29 (γ16 3 9) a1) fun γ19 =>
  some (0, γ19)))))))
set_option maxHeartbeats 4000000 in
theorem c_Nd_open {Γ : Ctx} (γ : St) (a0 : Int) (a1 : Int) (ha0 : i32 a0) (ha1 : i32 a1) : NC Γ BS y_Nd_open mt_Nd_open 6 240 [vR Γ 3, vI a0, vI a1] γ (f_Nd_open γ a0 a1) := by
  refine nc_of (by decide) rfl (Nat.le_of_ble_eq_true rfl) ?_
  show SB Γ BS mt_Nd_open (RmN 6 240) 0 0 (KN Γ BS mt_Nd_open.2.2.2) 0 [(0, vR Γ 3), (1, vI a0), (2, vI a1)] [] γ _
  unfold f_Nd_open
  refine sb_aload_n 0 d_Nd_open_0 rfl ?_
  refine g_Nd_9 d_Nd_open_1 ?_
  refine sb_aload_n 0 d_Nd_open_4 rfl ?_
  refine g_Nd_54 d_Nd_open_5 (fun c2 => ?_)
  refine sb_iload_n 1 d_Nd_open_8 rfl ?_
  refine as_S_24 ha0 d_Nd_open_9 (fun _ => ?_)
  refine sb_aps (fun γ3 => ?_)
  refine sb_aload_n 0 d_Nd_open_10 rfl ?_
  refine g_Nd_15 d_Nd_open_11 ?_
  refine sb_aload_n 0 d_Nd_open_14 rfl ?_
  refine g_Nd_54 d_Nd_open_15 (fun c5 => ?_)
  refine sb_aload_n 0 d_Nd_open_18 rfl ?_
  refine g_Nd_58 d_Nd_open_19 (fun c6 => ?_)
  refine as_S_25 c6 d_Nd_open_22 (fun _ => ?_)
  refine sb_aps (fun γ7 => ?_)
  refine sb_aload_n 0 d_Nd_open_23 rfl ?_
  refine g_Nd_18 d_Nd_open_24 ?_
  refine sb_aload_n 0 d_Nd_open_27 rfl ?_
  refine g_Nd_54 d_Nd_open_28 (fun c9 => ?_)
  refine sb_iconst d_Nd_open_31 ?_
  refine as_S_26 (by decide) d_Nd_open_32 (fun _ => ?_)
  refine sb_aps (fun γ10 => ?_)
  refine sb_aload_n 0 d_Nd_open_33 rfl ?_
  refine g_Nd_21 d_Nd_open_34 ?_
  refine sb_aload_n 0 d_Nd_open_37 rfl ?_
  refine g_Nd_54 d_Nd_open_38 (fun c12 => ?_)
  refine sb_iconst d_Nd_open_41 ?_
  refine as_S_27 (by decide) d_Nd_open_42 (fun _ => ?_)
  refine sb_aps (fun γ13 => ?_)
  refine sb_aload_n 0 d_Nd_open_43 rfl ?_
  refine g_Nd_24 d_Nd_open_44 ?_
  refine sb_aload_n 0 d_Nd_open_47 rfl ?_
  refine g_Nd_54 d_Nd_open_48 (fun c15 => ?_)
  refine sb_iconst d_Nd_open_51 ?_
  refine as_S_28 (by decide) d_Nd_open_52 (fun _ => ?_)
  refine sb_aps (fun γ16 => ?_)
  refine sb_aload_n 0 d_Nd_open_53 rfl ?_
  refine g_Nd_27 d_Nd_open_54 ?_
  refine sb_aload_n 0 d_Nd_open_57 rfl ?_
  refine g_Nd_54 d_Nd_open_58 (fun c18 => ?_)
  refine sb_iload_n 2 d_Nd_open_61 rfl ?_
  refine as_S_29 ha1 d_Nd_open_62 (fun _ => ?_)
  refine sb_aps (fun γ19 => ?_)
  exact sn_v rfl d_Nd_open_63
theorem d_Nd_declare_0 : decode b_Nd_declare 0 = .ok (.aload_n 0, 1) := by decide +kernel
theorem d_Nd_declare_1 : decode b_Nd_declare 1 = .ok (.getfield 42, 3) := by decide +kernel
theorem d_Nd_declare_4 : decode b_Nd_declare 4 = .ok (.aload_n 0, 1) := by decide +kernel
theorem d_Nd_declare_5 : decode b_Nd_declare 5 = .ok (.getfield 58, 3) := by decide +kernel
theorem d_Nd_declare_8 : decode b_Nd_declare 8 = .ok (.iconst (-1), 1) := by decide +kernel
theorem d_Nd_declare_9 : decode b_Nd_declare 9 = .ok (.iastore, 1) := by decide +kernel
theorem d_Nd_declare_10 : decode b_Nd_declare 10 = .ok (.aload_n 0, 1) := by decide +kernel
theorem d_Nd_declare_11 : decode b_Nd_declare 11 = .ok (.getfield 45, 3) := by decide +kernel
theorem d_Nd_declare_14 : decode b_Nd_declare 14 = .ok (.aload_n 0, 1) := by decide +kernel
theorem d_Nd_declare_15 : decode b_Nd_declare 15 = .ok (.getfield 58, 3) := by decide +kernel
theorem d_Nd_declare_18 : decode b_Nd_declare 18 = .ok (.iconst 0, 1) := by decide +kernel
theorem d_Nd_declare_19 : decode b_Nd_declare 19 = .ok (.iastore, 1) := by decide +kernel
theorem d_Nd_declare_20 : decode b_Nd_declare 20 = .ok (.aload_n 0, 1) := by decide +kernel
theorem d_Nd_declare_21 : decode b_Nd_declare 21 = .ok (.getfield 48, 3) := by decide +kernel
theorem d_Nd_declare_24 : decode b_Nd_declare 24 = .ok (.aload_n 0, 1) := by decide +kernel
theorem d_Nd_declare_25 : decode b_Nd_declare 25 = .ok (.getfield 58, 3) := by decide +kernel
theorem d_Nd_declare_28 : decode b_Nd_declare 28 = .ok (.iconst 0, 1) := by decide +kernel
theorem d_Nd_declare_29 : decode b_Nd_declare 29 = .ok (.iastore, 1) := by decide +kernel
theorem d_Nd_declare_30 : decode b_Nd_declare 30 = .ok (.aload_n 0, 1) := by decide +kernel
theorem d_Nd_declare_31 : decode b_Nd_declare 31 = .ok (.getfield 51, 3) := by decide +kernel
theorem d_Nd_declare_34 : decode b_Nd_declare 34 = .ok (.aload_n 0, 1) := by decide +kernel
theorem d_Nd_declare_35 : decode b_Nd_declare 35 = .ok (.getfield 58, 3) := by decide +kernel
theorem d_Nd_declare_38 : decode b_Nd_declare 38 = .ok (.iconst 0, 1) := by decide +kernel
theorem d_Nd_declare_39 : decode b_Nd_declare 39 = .ok (.iastore, 1) := by decide +kernel
theorem d_Nd_declare_40 : decode b_Nd_declare 40 = .ok (.aload_n 0, 1) := by decide +kernel
theorem d_Nd_declare_41 : decode b_Nd_declare 41 = .ok (.dup, 1) := by decide +kernel
theorem d_Nd_declare_42 : decode b_Nd_declare 42 = .ok (.getfield 58, 3) := by decide +kernel
theorem d_Nd_declare_45 : decode b_Nd_declare 45 = .ok (.iconst 1, 1) := by decide +kernel
theorem d_Nd_declare_46 : decode b_Nd_declare 46 = .ok (.iadd, 1) := by decide +kernel
theorem d_Nd_declare_47 : decode b_Nd_declare 47 = .ok (.putfield 58, 3) := by decide +kernel
theorem d_Nd_declare_50 : decode b_Nd_declare 50 = .ok (.aload_n 0, 1) := by decide +kernel
theorem d_Nd_declare_51 : decode b_Nd_declare 51 = .ok (.getfield 24, 3) := by decide +kernel
theorem d_Nd_declare_54 : decode b_Nd_declare 54 = .ok (.aload_n 0, 1) := by decide +kernel
theorem d_Nd_declare_55 : decode b_Nd_declare 55 = .ok (.getfield 54, 3) := by decide +kernel
theorem d_Nd_declare_58 : decode b_Nd_declare 58 = .ok (.dup2, 1) := by decide +kernel
theorem d_Nd_declare_59 : decode b_Nd_declare 59 = .ok (.iaload, 1) := by decide +kernel
theorem d_Nd_declare_60 : decode b_Nd_declare 60 = .ok (.iconst 1, 1) := by decide +kernel
theorem d_Nd_declare_61 : decode b_Nd_declare 61 = .ok (.iadd, 1) := by decide +kernel
theorem d_Nd_declare_62 : decode b_Nd_declare 62 = .ok (.iastore, 1) := by decide +kernel
theorem d_Nd_declare_63 : decode b_Nd_declare 63 = .ok (.aload_n 0, 1) := by decide +kernel
theorem d_Nd_declare_64 : decode b_Nd_declare 64 = .ok (.getfield 24, 3) := by decide +kernel
theorem d_Nd_declare_67 : decode b_Nd_declare 67 = .ok (.aload_n 0, 1) := by decide +kernel
theorem d_Nd_declare_68 : decode b_Nd_declare 68 = .ok (.getfield 54, 3) := by decide +kernel
theorem d_Nd_declare_71 : decode b_Nd_declare 71 = .ok (.iaload, 1) := by decide +kernel
theorem d_Nd_declare_72 : decode b_Nd_declare 72 = .ok (.iconst 1, 1) := by decide +kernel
theorem d_Nd_declare_73 : decode b_Nd_declare 73 = .ok (.isub, 1) := by decide +kernel
theorem d_Nd_declare_74 : decode b_Nd_declare 74 = .ok (.ireturn, 1) := by decide +kernel
abbrev mt_Nd_declare : MT := (R_Nd, b_Nd_declare, 1, some .int)
theorem vf_Nd_declare : VF y_Nd_declare mt_Nd_declare 6 0 := ⟨im_Nd_declare, se_Nd_declare, in_Nd, co_Nd_declare, by decide +kernel, _, _, rfl⟩
def f_Nd_declare (γ : St) : Option (Int × St) :=
  chk (inb (γ 3 15) 5841) (ap (setA γ 34 (γ 3 15) (-1)) fun γ3 =>
  chk (inb (γ3 3 15) 5841) (ap (setA γ3 35 (γ3 3 15) 0) fun γ6 =>
  chk (inb (γ6 3 15) 5841) (ap (setA γ6 36 (γ6 3 15) 0) fun γ9 =>
  chk (inb (γ9 3 15) 5841) (ap (setA γ9 37 (γ9 3 15) 0) fun γ12 =>
  chk (i32 ((γ12 3 15) + 1)) (ap (setA γ12 3 15 ((γ12 3 15) + 1)) fun γ15 =>
  chk (inb (γ15 3 9) 59) (chk (i32 ((γ15 28 (γ15 3 9)) + 1)) (chk (inb (γ15 3 9) 59) (ap (setA γ15 28 (γ15 3 9) ((γ15 28 (γ15 3 9)) + 1)) fun γ20 =>
  chk (inb (γ20 3 9) 59) (chk (i32 ((γ20 28 (γ20 3 9)) - 1)) (some ((γ20 28 (γ20 3 9)) - 1, γ20)))))))))))
set_option maxHeartbeats 4000000 in
theorem c_Nd_declare {Γ : Ctx} (γ : St) : NC Γ BS y_Nd_declare mt_Nd_declare 6 240 [vR Γ 3] γ (f_Nd_declare γ) := by
  refine nc_of (by decide) rfl (Nat.le_of_ble_eq_true rfl) ?_
  show SB Γ BS mt_Nd_declare (RmN 6 240) 0 0 (KN Γ BS mt_Nd_declare.2.2.2) 0 [(0, vR Γ 3)] [] γ _
  unfold f_Nd_declare
  refine sb_aload_n 0 d_Nd_declare_0 rfl ?_
  refine g_Nd_42 d_Nd_declare_1 ?_
  refine sb_aload_n 0 d_Nd_declare_4 rfl ?_
  refine g_Nd_58 d_Nd_declare_5 (fun c2 => ?_)
  refine sb_iconst d_Nd_declare_8 ?_
  refine as_S_34 (by decide) d_Nd_declare_9 (fun _ => ?_)
  refine sb_aps (fun γ3 => ?_)
  refine sb_aload_n 0 d_Nd_declare_10 rfl ?_
  refine g_Nd_45 d_Nd_declare_11 ?_
  refine sb_aload_n 0 d_Nd_declare_14 rfl ?_
  refine g_Nd_58 d_Nd_declare_15 (fun c5 => ?_)
  refine sb_iconst d_Nd_declare_18 ?_
  refine as_S_35 (by decide) d_Nd_declare_19 (fun _ => ?_)
  refine sb_aps (fun γ6 => ?_)
  refine sb_aload_n 0 d_Nd_declare_20 rfl ?_
  refine g_Nd_48 d_Nd_declare_21 ?_
  refine sb_aload_n 0 d_Nd_declare_24 rfl ?_
  refine g_Nd_58 d_Nd_declare_25 (fun c8 => ?_)
  refine sb_iconst d_Nd_declare_28 ?_
  refine as_S_36 (by decide) d_Nd_declare_29 (fun _ => ?_)
  refine sb_aps (fun γ9 => ?_)
  refine sb_aload_n 0 d_Nd_declare_30 rfl ?_
  refine g_Nd_51 d_Nd_declare_31 ?_
  refine sb_aload_n 0 d_Nd_declare_34 rfl ?_
  refine g_Nd_58 d_Nd_declare_35 (fun c11 => ?_)
  refine sb_iconst d_Nd_declare_38 ?_
  refine as_S_37 (by decide) d_Nd_declare_39 (fun _ => ?_)
  refine sb_aps (fun γ12 => ?_)
  refine sb_aload_n 0 d_Nd_declare_40 rfl ?_
  refine sb_dup d_Nd_declare_41 rfl ?_
  refine g_Nd_58 d_Nd_declare_42 (fun c13 => ?_)
  refine sb_iconst d_Nd_declare_45 ?_
  refine sb_iadd d_Nd_declare_46 ?_
  refine sb_chk (fun c14 => ?_)
  refine p_Nd_58 c14 d_Nd_declare_47 ?_
  refine sb_aps (fun γ15 => ?_)
  refine sb_aload_n 0 d_Nd_declare_50 rfl ?_
  refine g_Nd_24 d_Nd_declare_51 ?_
  refine sb_aload_n 0 d_Nd_declare_54 rfl ?_
  refine g_Nd_54 d_Nd_declare_55 (fun c17 => ?_)
  refine sb_dup2 d_Nd_declare_58 rfl rfl ?_
  refine al_S_28 d_Nd_declare_59 (fun _ c18 => ?_)
  refine sb_iconst d_Nd_declare_60 ?_
  refine sb_iadd d_Nd_declare_61 ?_
  refine sb_chk (fun c19 => ?_)
  refine as_S_28 c19 d_Nd_declare_62 (fun _ => ?_)
  refine sb_aps (fun γ20 => ?_)
  refine sb_aload_n 0 d_Nd_declare_63 rfl ?_
  refine g_Nd_24 d_Nd_declare_64 ?_
  refine sb_aload_n 0 d_Nd_declare_67 rfl ?_
  refine g_Nd_54 d_Nd_declare_68 (fun c22 => ?_)
  refine al_S_28 d_Nd_declare_71 (fun _ c23 => ?_)
  refine sb_iconst d_Nd_declare_72 ?_
  refine sb_isub d_Nd_declare_73 ?_
  refine sb_chk (fun c24 => ?_)
  exact sn_i rfl c24 d_Nd_declare_74
theorem d_Er_variableNow_0 : decode b_Er_variableNow 0 = .ok (.aload_n 0, 1) := by decide +kernel
theorem d_Er_variableNow_1 : decode b_Er_variableNow 1 = .ok (.getfield 27, 3) := by decide +kernel
theorem d_Er_variableNow_4 : decode b_Er_variableNow 4 = .ok (.getfield 77, 3) := by decide +kernel
theorem d_Er_variableNow_7 : decode b_Er_variableNow 7 = .ok (.aload_n 0, 1) := by decide +kernel
theorem d_Er_variableNow_8 : decode b_Er_variableNow 8 = .ok (.getfield 27, 3) := by decide +kernel
theorem d_Er_variableNow_11 : decode b_Er_variableNow 11 = .ok (.getfield 80, 3) := by decide +kernel
theorem d_Er_variableNow_14 : decode b_Er_variableNow 14 = .ok (.iaload, 1) := by decide +kernel
theorem d_Er_variableNow_15 : decode b_Er_variableNow 15 = .ok (.istore_n 1, 1) := by decide +kernel
theorem d_Er_variableNow_16 : decode b_Er_variableNow 16 = .ok (.aload_n 0, 1) := by decide +kernel
theorem d_Er_variableNow_17 : decode b_Er_variableNow 17 = .ok (.getfield 27, 3) := by decide +kernel
theorem d_Er_variableNow_20 : decode b_Er_variableNow 20 = .ok (.getfield 83, 3) := by decide +kernel
theorem d_Er_variableNow_23 : decode b_Er_variableNow 23 = .ok (.getfield 87, 3) := by decide +kernel
theorem d_Er_variableNow_26 : decode b_Er_variableNow 26 = .ok (.iload_n 1, 1) := by decide +kernel
theorem d_Er_variableNow_27 : decode b_Er_variableNow 27 = .ok (.iaload, 1) := by decide +kernel
theorem d_Er_variableNow_28 : decode b_Er_variableNow 28 = .ok (.aload_n 0, 1) := by decide +kernel
theorem d_Er_variableNow_29 : decode b_Er_variableNow 29 = .ok (.getfield 31, 3) := by decide +kernel
theorem d_Er_variableNow_32 : decode b_Er_variableNow 32 = .ok (.getfield 92, 3) := by decide +kernel
theorem d_Er_variableNow_35 : decode b_Er_variableNow 35 = .ok (.iconst 1, 1) := by decide +kernel
theorem d_Er_variableNow_36 : decode b_Er_variableNow 36 = .ok (.iadd, 1) := by decide +kernel
theorem d_Er_variableNow_37 : decode b_Er_variableNow 37 = .ok (.if_icmp .ne 18, 3) := by decide +kernel
theorem d_Er_variableNow_40 : decode b_Er_variableNow 40 = .ok (.aload_n 0, 1) := by decide +kernel
theorem d_Er_variableNow_41 : decode b_Er_variableNow 41 = .ok (.getfield 27, 3) := by decide +kernel
theorem d_Er_variableNow_44 : decode b_Er_variableNow 44 = .ok (.getfield 83, 3) := by decide +kernel
theorem d_Er_variableNow_47 : decode b_Er_variableNow 47 = .ok (.getfield 95, 3) := by decide +kernel
theorem d_Er_variableNow_50 : decode b_Er_variableNow 50 = .ok (.iload_n 1, 1) := by decide +kernel
theorem d_Er_variableNow_51 : decode b_Er_variableNow 51 = .ok (.iaload, 1) := by decide +kernel
theorem d_Er_variableNow_52 : decode b_Er_variableNow 52 = .ok (.goto 4, 3) := by decide +kernel
theorem d_Er_variableNow_55 : decode b_Er_variableNow 55 = .ok (.iconst (-1), 1) := by decide +kernel
theorem d_Er_variableNow_56 : decode b_Er_variableNow 56 = .ok (.ireturn, 1) := by decide +kernel
abbrev mt_Er_variableNow : MT := (R_Er, b_Er_variableNow, 2, some .int)
theorem vf_Er_variableNow : VF y_Er_variableNow mt_Er_variableNow 3 0 := ⟨im_Er_variableNow, se_Er_variableNow, in_Er, co_Er_variableNow, by decide +kernel, _, _, rfl⟩
def f_Er_variableNow (γ : St) : Option (Int × St) :=
  chk (inb (γ 1 6) 65537) (ap (γ 16 (γ 1 6)) fun x6 =>
  chk (inb x6 5923) (chk (i32 ((γ 3 9) + 1)) (if (γ 22 x6) ≠ ((γ 3 9) + 1) then
  (some ((-1), γ))
  else
  (chk (inb x6 5923) (some (γ 21 x6, γ))))))
set_option maxHeartbeats 4000000 in
theorem c_Er_variableNow {Γ : Ctx} (γ : St) : NC Γ BS y_Er_variableNow mt_Er_variableNow 6 240 [vR Γ 6] γ (f_Er_variableNow γ) := by
  refine nc_of (by decide) rfl (Nat.le_of_ble_eq_true rfl) ?_
  show SB Γ BS mt_Er_variableNow (RmN 6 240) 0 0 (KN Γ BS mt_Er_variableNow.2.2.2) 0 [(0, vR Γ 6)] [] γ _
  unfold f_Er_variableNow
  refine sb_aload_n 0 d_Er_variableNow_0 rfl ?_
  refine g_Er_27 d_Er_variableNow_1 ?_
  refine g_Er_77 d_Er_variableNow_4 ?_
  refine sb_aload_n 0 d_Er_variableNow_7 rfl ?_
  refine g_Er_27 d_Er_variableNow_8 ?_
  refine g_Er_80 d_Er_variableNow_11 (fun c4 => ?_)
  refine al_S_16 d_Er_variableNow_14 (fun _ c5 => ?_)
  refine sb_istore_n [(1, vI (γ 16 (γ 1 6))), (0, vR Γ 6)] d_Er_variableNow_15 (by decide) rfl ?_
  refine sb_nme (e := γ 16 (γ 1 6)) (fun x6 => [(1, vI x6), (0, vR Γ 6)]) c5 (fun x6 hx6 => ?_)
  refine sb_aload_n 1 d_Er_variableNow_16 rfl ?_
  refine g_Er_27 d_Er_variableNow_17 ?_
  refine g_Er_83 d_Er_variableNow_20 ?_
  refine g_Er_87 d_Er_variableNow_23 ?_
  refine sb_iload_n 0 d_Er_variableNow_26 rfl ?_
  refine al_S_22 d_Er_variableNow_27 (fun _ c10 => ?_)
  refine sb_aload_n 1 d_Er_variableNow_28 rfl ?_
  refine g_Er_31 d_Er_variableNow_29 ?_
  refine g_Er_92 d_Er_variableNow_32 (fun c12 => ?_)
  refine sb_iconst d_Er_variableNow_35 ?_
  refine sb_iadd d_Er_variableNow_36 ?_
  refine sb_chk (fun c13 => ?_)
  refine sb_icmp_ne 55 c10 c13 d_Er_variableNow_37 (by decide) (fun _ => ?_) (fun _ => ?_)
  · refine sb_iconst d_Er_variableNow_55 ?_
    exact sn_i rfl (by decide) d_Er_variableNow_56
  · refine sb_aload_n 1 d_Er_variableNow_40 rfl ?_
    refine g_Er_27 d_Er_variableNow_41 ?_
    refine g_Er_83 d_Er_variableNow_44 ?_
    refine g_Er_95 d_Er_variableNow_47 ?_
    refine sb_iload_n 0 d_Er_variableNow_50 rfl ?_
    refine al_S_21 d_Er_variableNow_51 (fun _ c17 => ?_)
    refine sb_goto 56 d_Er_variableNow_52 (by decide) ?_
    exact sn_i rfl c17 d_Er_variableNow_56
theorem d_Er_readClock_0 : decode b_Er_readClock 0 = .ok (.aload_n 0, 1) := by decide +kernel
theorem d_Er_readClock_1 : decode b_Er_readClock 1 = .ok (.getfield 27, 3) := by decide +kernel
theorem d_Er_readClock_4 : decode b_Er_readClock 4 = .ok (.invokevirtual 98, 3) := by decide +kernel
theorem d_Er_readClock_7 : decode b_Er_readClock 7 = .ok (.aload_n 0, 1) := by decide +kernel
theorem d_Er_readClock_8 : decode b_Er_readClock 8 = .ok (.getfield 27, 3) := by decide +kernel
theorem d_Er_readClock_11 : decode b_Er_readClock 11 = .ok (.invokevirtual 101, 3) := by decide +kernel
theorem d_Er_readClock_14 : decode b_Er_readClock 14 = .ok (.bipush 28, 2) := by decide +kernel
theorem d_Er_readClock_16 : decode b_Er_readClock 16 = .ok (.if_icmp .ne 7, 3) := by decide +kernel
theorem d_Er_readClock_19 : decode b_Er_readClock 19 = .ok (.iconst 0, 1) := by decide +kernel
theorem d_Er_readClock_20 : decode b_Er_readClock 20 = .ok (.goto 4, 3) := by decide +kernel
theorem d_Er_readClock_23 : decode b_Er_readClock 23 = .ok (.iconst 1, 1) := by decide +kernel
theorem d_Er_readClock_24 : decode b_Er_readClock 24 = .ok (.istore_n 2, 1) := by decide +kernel
theorem d_Er_readClock_25 : decode b_Er_readClock 25 = .ok (.iload_n 2, 1) := by decide +kernel
theorem d_Er_readClock_26 : decode b_Er_readClock 26 = .ok (.ifCond .ne 10, 3) := by decide +kernel
theorem d_Er_readClock_29 : decode b_Er_readClock 29 = .ok (.aload_n 0, 1) := by decide +kernel
theorem d_Er_readClock_30 : decode b_Er_readClock 30 = .ok (.getfield 27, 3) := by decide +kernel
theorem d_Er_readClock_33 : decode b_Er_readClock 33 = .ok (.invokevirtual 98, 3) := by decide +kernel
theorem d_Er_readClock_36 : decode b_Er_readClock 36 = .ok (.aload_n 0, 1) := by decide +kernel
theorem d_Er_readClock_37 : decode b_Er_readClock 37 = .ok (.getfield 27, 3) := by decide +kernel
theorem d_Er_readClock_40 : decode b_Er_readClock 40 = .ok (.invokevirtual 101, 3) := by decide +kernel
theorem d_Er_readClock_43 : decode b_Er_readClock 43 = .ok (.iconst 2, 1) := by decide +kernel
theorem d_Er_readClock_44 : decode b_Er_readClock 44 = .ok (.if_icmp .eq 14, 3) := by decide +kernel
theorem d_Er_readClock_47 : decode b_Er_readClock 47 = .ok (.aload_n 0, 1) := by decide +kernel
theorem d_Er_readClock_48 : decode b_Er_readClock 48 = .ok (.getfield 27, 3) := by decide +kernel
theorem d_Er_readClock_51 : decode b_Er_readClock 51 = .ok (.iconst 1, 1) := by decide +kernel
theorem d_Er_readClock_52 : decode b_Er_readClock 52 = .ok (.invokevirtual 105, 3) := by decide +kernel
theorem d_Er_readClock_55 : decode b_Er_readClock 55 = .ok (.pop, 1) := by decide +kernel
theorem d_Er_readClock_56 : decode b_Er_readClock 56 = .ok (.iconst (-1), 1) := by decide +kernel
theorem d_Er_readClock_57 : decode b_Er_readClock 57 = .ok (.ireturn, 1) := by decide +kernel
theorem d_Er_readClock_58 : decode b_Er_readClock 58 = .ok (.aload_n 0, 1) := by decide +kernel
theorem d_Er_readClock_59 : decode b_Er_readClock 59 = .ok (.invokevirtual 109, 3) := by decide +kernel
theorem d_Er_readClock_62 : decode b_Er_readClock 62 = .ok (.istore_n 3, 1) := by decide +kernel
theorem d_Er_readClock_63 : decode b_Er_readClock 63 = .ok (.aload_n 0, 1) := by decide +kernel
theorem d_Er_readClock_64 : decode b_Er_readClock 64 = .ok (.getfield 31, 3) := by decide +kernel
theorem d_Er_readClock_67 : decode b_Er_readClock 67 = .ok (.getfield 112, 3) := by decide +kernel
theorem d_Er_readClock_70 : decode b_Er_readClock 70 = .ok (.aload_n 0, 1) := by decide +kernel
theorem d_Er_readClock_71 : decode b_Er_readClock 71 = .ok (.getfield 31, 3) := by decide +kernel
theorem d_Er_readClock_74 : decode b_Er_readClock 74 = .ok (.getfield 92, 3) := by decide +kernel
theorem d_Er_readClock_77 : decode b_Er_readClock 77 = .ok (.iaload, 1) := by decide +kernel
theorem d_Er_readClock_78 : decode b_Er_readClock 78 = .ok (.iload_n 3, 1) := by decide +kernel
theorem d_Er_readClock_79 : decode b_Er_readClock 79 = .ok (.iadd, 1) := by decide +kernel
theorem d_Er_readClock_80 : decode b_Er_readClock 80 = .ok (.istore 4, 2) := by decide +kernel
theorem d_Er_readClock_82 : decode b_Er_readClock 82 = .ok (.iload_n 3, 1) := by decide +kernel
theorem d_Er_readClock_83 : decode b_Er_readClock 83 = .ok (.ifCond .lt 22, 3) := by decide +kernel
theorem d_Er_readClock_86 : decode b_Er_readClock 86 = .ok (.iload_n 3, 1) := by decide +kernel
theorem d_Er_readClock_87 : decode b_Er_readClock 87 = .ok (.iload_n 1, 1) := by decide +kernel
theorem d_Er_readClock_88 : decode b_Er_readClock 88 = .ok (.if_icmp .ge 17, 3) := by decide +kernel
theorem d_Er_readClock_91 : decode b_Er_readClock 91 = .ok (.aload_n 0, 1) := by decide +kernel
theorem d_Er_readClock_92 : decode b_Er_readClock 92 = .ok (.getfield 31, 3) := by decide +kernel
theorem d_Er_readClock_95 : decode b_Er_readClock 95 = .ok (.getfield 115, 3) := by decide +kernel
theorem d_Er_readClock_98 : decode b_Er_readClock 98 = .ok (.iload 4, 2) := by decide +kernel
theorem d_Er_readClock_100 : decode b_Er_readClock 100 = .ok (.iaload, 1) := by decide +kernel
theorem d_Er_readClock_101 : decode b_Er_readClock 101 = .ok (.iconst 1, 1) := by decide +kernel
theorem d_Er_readClock_102 : decode b_Er_readClock 102 = .ok (.if_icmp .eq 14, 3) := by decide +kernel
theorem d_Er_readClock_105 : decode b_Er_readClock 105 = .ok (.aload_n 0, 1) := by decide +kernel
theorem d_Er_readClock_106 : decode b_Er_readClock 106 = .ok (.getfield 27, 3) := by decide +kernel
theorem d_Er_readClock_109 : decode b_Er_readClock 109 = .ok (.iconst 2, 1) := by decide +kernel
theorem d_Er_readClock_110 : decode b_Er_readClock 110 = .ok (.invokevirtual 105, 3) := by decide +kernel
theorem d_Er_readClock_113 : decode b_Er_readClock 113 = .ok (.pop, 1) := by decide +kernel
theorem d_Er_readClock_114 : decode b_Er_readClock 114 = .ok (.iconst (-1), 1) := by decide +kernel
theorem d_Er_readClock_115 : decode b_Er_readClock 115 = .ok (.ireturn, 1) := by decide +kernel
theorem d_Er_readClock_116 : decode b_Er_readClock 116 = .ok (.aload_n 0, 1) := by decide +kernel
theorem d_Er_readClock_117 : decode b_Er_readClock 117 = .ok (.getfield 31, 3) := by decide +kernel
theorem d_Er_readClock_120 : decode b_Er_readClock 120 = .ok (.getfield 118, 3) := by decide +kernel
theorem d_Er_readClock_123 : decode b_Er_readClock 123 = .ok (.iload 4, 2) := by decide +kernel
theorem d_Er_readClock_125 : decode b_Er_readClock 125 = .ok (.iaload, 1) := by decide +kernel
theorem d_Er_readClock_126 : decode b_Er_readClock 126 = .ok (.bipush 8, 2) := by decide +kernel
theorem d_Er_readClock_128 : decode b_Er_readClock 128 = .ok (.if_icmp .ne 14, 3) := by decide +kernel
theorem d_Er_readClock_131 : decode b_Er_readClock 131 = .ok (.aload_n 0, 1) := by decide +kernel
theorem d_Er_readClock_132 : decode b_Er_readClock 132 = .ok (.getfield 27, 3) := by decide +kernel
theorem d_Er_readClock_135 : decode b_Er_readClock 135 = .ok (.iconst 3, 1) := by decide +kernel
theorem d_Er_readClock_136 : decode b_Er_readClock 136 = .ok (.invokevirtual 105, 3) := by decide +kernel
theorem d_Er_readClock_139 : decode b_Er_readClock 139 = .ok (.pop, 1) := by decide +kernel
theorem d_Er_readClock_140 : decode b_Er_readClock 140 = .ok (.iconst (-1), 1) := by decide +kernel
theorem d_Er_readClock_141 : decode b_Er_readClock 141 = .ok (.ireturn, 1) := by decide +kernel
theorem d_Er_readClock_142 : decode b_Er_readClock 142 = .ok (.aload_n 0, 1) := by decide +kernel
theorem d_Er_readClock_143 : decode b_Er_readClock 143 = .ok (.getfield 27, 3) := by decide +kernel
theorem d_Er_readClock_146 : decode b_Er_readClock 146 = .ok (.invokevirtual 98, 3) := by decide +kernel
theorem d_Er_readClock_149 : decode b_Er_readClock 149 = .ok (.iconst 2, 1) := by decide +kernel
theorem d_Er_readClock_150 : decode b_Er_readClock 150 = .ok (.iload_n 3, 1) := by decide +kernel
theorem d_Er_readClock_151 : decode b_Er_readClock 151 = .ok (.imul, 1) := by decide +kernel
theorem d_Er_readClock_152 : decode b_Er_readClock 152 = .ok (.iload_n 2, 1) := by decide +kernel
theorem d_Er_readClock_153 : decode b_Er_readClock 153 = .ok (.iadd, 1) := by decide +kernel
theorem d_Er_readClock_154 : decode b_Er_readClock 154 = .ok (.ireturn, 1) := by decide +kernel
abbrev mt_Er_readClock : MT := (R_Er, b_Er_readClock, 5, some .int)
theorem vf_Er_readClock : VF y_Er_readClock mt_Er_readClock 3 1 := ⟨im_Er_readClock, se_Er_readClock, in_Er, co_Er_readClock, by decide +kernel, _, _, rfl⟩
def f_Er_readClock_b105 (γ : St) : Option (Int × St) :=
  bndN (f_Tk_fail γ 2) fun r2 γ3 =>
  some ((-1), γ3)
def f_Er_readClock_b36 (γ : St) (x4 : Int) (x5 : Int) : Option (Int × St) :=
  bndN (f_Tk_kindNow γ) fun r7 γ8 =>
  if r7 = 2 then
  (bndN (f_Er_variableNow γ8) fun r9 γ10 =>
  chk (inb (γ10 3 9) 59) (chk (i32 ((γ10 25 (γ10 3 9)) + r9)) (ap ((γ10 25 (γ10 3 9)) + r9) fun x17 =>
  if r9 < 0 then
  (f_Er_readClock_b105 γ10 )
  else
  (if x4 ≤ r9 then
  (f_Er_readClock_b105 γ10 )
  else
  (chk (inb x17 5841) (if (γ10 33 x17) = 1 then
  (chk (inb x17 5841) (if (γ10 35 x17) ≠ 8 then
  (bndN (f_Tk_step γ10) fun _ γ26 =>
  chk (i32 (2 * r9)) (chk (i32 ((2 * r9) + x5)) (some ((2 * r9) + x5, γ26))))
  else
  (bndN (f_Tk_fail γ10 3) fun r30 γ31 =>
  some ((-1), γ31))))
  else
  (f_Er_readClock_b105 γ10 )))))))
  else
  (bndN (f_Tk_fail γ8 1) fun r33 γ34 =>
  some ((-1), γ34))
def f_Er_readClock_b24 (γ : St) (x35 : Int) (x36 : Int) : Option (Int × St) :=
  if x36 ≠ 0 then
  (f_Er_readClock_b36 γ x35 x36)
  else
  (bndN (f_Tk_step γ) fun _ γ39 =>
  f_Er_readClock_b36 γ39 x35 x36)
def f_Er_readClock (γ : St) (a0 : Int) : Option (Int × St) :=
  bndN (f_Tk_step γ) fun _ γ42 =>
  bndN (f_Tk_kindNow γ42) fun r44 γ45 =>
  if r44 ≠ 28 then
  (f_Er_readClock_b24 γ45 a0 1)
  else
  (f_Er_readClock_b24 γ45 a0 0)
set_option maxHeartbeats 4000000 in
theorem s_Er_readClock_b105 {Γ : Ctx} : ∀ (γ : St), SB Γ BS mt_Er_readClock (RmN 7 261) 0 0 (KN Γ BS mt_Er_readClock.2.2.2) 105 [(0, vR Γ 6)] [] γ (f_Er_readClock_b105 γ ) := by
  intro γ
  unfold f_Er_readClock_b105
  refine sb_aload_n 0 d_Er_readClock_105 rfl ?_
  refine g_Er_27 d_Er_readClock_106 ?_
  refine sb_iconst d_Er_readClock_109 ?_
  refine sb_cVz vf_Tk_fail (c_Tk_fail γ 2 (by decide)) rfl ml_Er_105 (As := [vI 2]) rfl rfl (Nat.le_of_ble_eq_true rfl) ⟨by decide, by decide⟩ d_Er_readClock_110 (fun r2 γ3 hr2 => ?_)
  refine sb_pop d_Er_readClock_113 rfl ?_
  refine sb_iconst d_Er_readClock_114 ?_
  exact sn_i rfl (by decide) d_Er_readClock_115
set_option maxHeartbeats 4000000 in
theorem s_Er_readClock_b36 {Γ : Ctx} : ∀ (γ : St) (x4 : Int) (x5 : Int), i32 x4 → i32 x5 → SB Γ BS mt_Er_readClock (RmN 7 261) 0 0 (KN Γ BS mt_Er_readClock.2.2.2) 36 [(0, vR Γ 6), (1, vI x4), (2, vI x5)] [] γ (f_Er_readClock_b36 γ x4 x5) := by
  intro γ x4 x5 hx4 hx5
  unfold f_Er_readClock_b36
  refine sb_aload_n 0 d_Er_readClock_36 rfl ?_
  refine g_Er_27 d_Er_readClock_37 ?_
  refine sb_cVi vf_Tk_kindNow (c_Tk_kindNow γ  ) rfl ml_Er_101 (As := []) rfl rfl (Nat.le_of_ble_eq_true rfl) ⟨by decide, by decide⟩ d_Er_readClock_40 (fun r7 γ8 hr7 => ?_)
  refine sb_iconst d_Er_readClock_43 ?_
  refine sb_icmp_eq 58 hr7 (by decide) d_Er_readClock_44 (by decide) (fun _ => ?_) (fun _ => ?_)
  · refine sb_aload_n 0 d_Er_readClock_58 rfl ?_
    refine sb_cVi vf_Er_variableNow (c_Er_variableNow γ8  ) rfl ml_Er_109 (As := []) rfl rfl (Nat.le_of_ble_eq_true rfl) ⟨by decide, by decide⟩ d_Er_readClock_59 (fun r9 γ10 hr9 => ?_)
    refine sb_istore_n [(3, vI r9), (0, vR Γ 6), (1, vI x4), (2, vI x5)] d_Er_readClock_62 (by decide) rfl ?_
    refine sb_aload_n 1 d_Er_readClock_63 rfl ?_
    refine g_Er_31 d_Er_readClock_64 ?_
    refine g_Er_112 d_Er_readClock_67 ?_
    refine sb_aload_n 1 d_Er_readClock_70 rfl ?_
    refine g_Er_31 d_Er_readClock_71 ?_
    refine g_Er_92 d_Er_readClock_74 (fun c14 => ?_)
    refine al_S_25 d_Er_readClock_77 (fun _ c15 => ?_)
    refine sb_iload_n 0 d_Er_readClock_78 rfl ?_
    refine sb_iadd d_Er_readClock_79 ?_
    refine sb_chk (fun c16 => ?_)
    refine sb_istore [(4, vI ((γ10 25 (γ10 3 9)) + r9)), (3, vI r9), (0, vR Γ 6), (1, vI x4), (2, vI x5)] d_Er_readClock_80 (by decide) rfl ?_
    refine sb_nme (e := (γ10 25 (γ10 3 9)) + r9) (fun x17 => [(4, vI x17), (3, vI r9), (0, vR Γ 6), (1, vI x4), (2, vI x5)]) c16 (fun x17 hx17 => ?_)
    refine sb_iload_n 1 d_Er_readClock_82 rfl ?_
    refine sb_if_lt 105 hr9 d_Er_readClock_83 (by decide) (fun _ => ?_) (fun _ => ?_)
    · exact sb_lv [2] rfl (s_Er_readClock_b105 γ10  )
    · refine sb_iload_n 1 d_Er_readClock_86 rfl ?_
      refine sb_iload_n 3 d_Er_readClock_87 rfl ?_
      refine sb_icmp_ge 105 hr9 hx4 d_Er_readClock_88 (by decide) (fun _ => ?_) (fun _ => ?_)
      · exact sb_lv [2] rfl (s_Er_readClock_b105 γ10  )
      · refine sb_aload_n 2 d_Er_readClock_91 rfl ?_
        refine g_Er_31 d_Er_readClock_92 ?_
        refine g_Er_115 d_Er_readClock_95 ?_
        refine sb_iload 0 d_Er_readClock_98 rfl ?_
        refine al_S_33 d_Er_readClock_100 (fun _ c20 => ?_)
        refine sb_iconst d_Er_readClock_101 ?_
        refine sb_icmp_eq 116 c20 (by decide) d_Er_readClock_102 (by decide) (fun _ => ?_) (fun _ => ?_)
        · refine sb_aload_n 2 d_Er_readClock_116 rfl ?_
          refine g_Er_31 d_Er_readClock_117 ?_
          refine g_Er_118 d_Er_readClock_120 ?_
          refine sb_iload 0 d_Er_readClock_123 rfl ?_
          refine al_S_35 d_Er_readClock_125 (fun _ c23 => ?_)
          refine sb_bipush d_Er_readClock_126 (by decide) ?_
          refine sb_icmp_ne 142 c23 (by decide) d_Er_readClock_128 (by decide) (fun _ => ?_) (fun _ => ?_)
          · refine sb_aload_n 2 d_Er_readClock_142 rfl ?_
            refine g_Er_27 d_Er_readClock_143 ?_
            refine sb_cVv vf_Tk_step (c_Tk_step γ10  ) rfl ml_Er_98 (As := []) rfl rfl (Nat.le_of_ble_eq_true rfl) ⟨by decide, by decide⟩ d_Er_readClock_146 (fun _ γ26 => ?_)
            refine sb_iconst d_Er_readClock_149 ?_
            refine sb_iload_n 1 d_Er_readClock_150 rfl ?_
            refine sb_imul d_Er_readClock_151 ?_
            refine sb_chk (fun c27 => ?_)
            refine sb_iload_n 4 d_Er_readClock_152 rfl ?_
            refine sb_iadd d_Er_readClock_153 ?_
            refine sb_chk (fun c28 => ?_)
            exact sn_i rfl c28 d_Er_readClock_154
          · refine sb_aload_n 2 d_Er_readClock_131 rfl ?_
            refine g_Er_27 d_Er_readClock_132 ?_
            refine sb_iconst d_Er_readClock_135 ?_
            refine sb_cVz vf_Tk_fail (c_Tk_fail γ10 3 (by decide)) rfl ml_Er_105 (As := [vI 3]) rfl rfl (Nat.le_of_ble_eq_true rfl) ⟨by decide, by decide⟩ d_Er_readClock_136 (fun r30 γ31 hr30 => ?_)
            refine sb_pop d_Er_readClock_139 rfl ?_
            refine sb_iconst d_Er_readClock_140 ?_
            exact sn_i rfl (by decide) d_Er_readClock_141
        · exact sb_lv [2] rfl (s_Er_readClock_b105 γ10  )
  · refine sb_aload_n 0 d_Er_readClock_47 rfl ?_
    refine g_Er_27 d_Er_readClock_48 ?_
    refine sb_iconst d_Er_readClock_51 ?_
    refine sb_cVz vf_Tk_fail (c_Tk_fail γ8 1 (by decide)) rfl ml_Er_105 (As := [vI 1]) rfl rfl (Nat.le_of_ble_eq_true rfl) ⟨by decide, by decide⟩ d_Er_readClock_52 (fun r33 γ34 hr33 => ?_)
    refine sb_pop d_Er_readClock_55 rfl ?_
    refine sb_iconst d_Er_readClock_56 ?_
    exact sn_i rfl (by decide) d_Er_readClock_57
set_option maxHeartbeats 4000000 in
theorem s_Er_readClock_b24 {Γ : Ctx} : ∀ (γ : St) (x35 : Int) (x36 : Int), i32 x35 → i32 x36 → SB Γ BS mt_Er_readClock (RmN 7 261) 0 0 (KN Γ BS mt_Er_readClock.2.2.2) 24 [(0, vR Γ 6), (1, vI x35)] [vI x36] γ (f_Er_readClock_b24 γ x35 x36) := by
  intro γ x35 x36 hx35 hx36
  unfold f_Er_readClock_b24
  refine sb_istore_n [(2, vI x36), (0, vR Γ 6), (1, vI x35)] d_Er_readClock_24 (by decide) rfl ?_
  refine sb_iload_n 0 d_Er_readClock_25 rfl ?_
  refine sb_if_ne 36 hx36 d_Er_readClock_26 (by decide) (fun _ => ?_) (fun _ => ?_)
  · exact sb_lv [1, 2, 0] rfl (s_Er_readClock_b36 γ x35 x36 hx35 hx36)
  · refine sb_aload_n 1 d_Er_readClock_29 rfl ?_
    refine g_Er_27 d_Er_readClock_30 ?_
    refine sb_cVv vf_Tk_step (c_Tk_step γ  ) rfl ml_Er_98 (As := []) rfl rfl (Nat.le_of_ble_eq_true rfl) ⟨by decide, by decide⟩ d_Er_readClock_33 (fun _ γ39 => ?_)
    exact sb_lv [1, 2, 0] rfl (s_Er_readClock_b36 γ39 x35 x36 hx35 hx36)
set_option maxHeartbeats 4000000 in
theorem c_Er_readClock {Γ : Ctx} (γ : St) (a0 : Int) (ha0 : i32 a0) : NC Γ BS y_Er_readClock mt_Er_readClock 7 261 [vR Γ 6, vI a0] γ (f_Er_readClock γ a0) := by
  refine nc_of (by decide) rfl (Nat.le_of_ble_eq_true rfl) ?_
  show SB Γ BS mt_Er_readClock (RmN 7 261) 0 0 (KN Γ BS mt_Er_readClock.2.2.2) 0 [(0, vR Γ 6), (1, vI a0)] [] γ _
  unfold f_Er_readClock
  refine sb_aload_n 0 d_Er_readClock_0 rfl ?_
  refine g_Er_27 d_Er_readClock_1 ?_
  refine sb_cVv vf_Tk_step (c_Tk_step γ  ) rfl ml_Er_98 (As := []) rfl rfl (Nat.le_of_ble_eq_true rfl) ⟨by decide, by decide⟩ d_Er_readClock_4 (fun _ γ42 => ?_)
  refine sb_aload_n 0 d_Er_readClock_7 rfl ?_
  refine g_Er_27 d_Er_readClock_8 ?_
  refine sb_cVi vf_Tk_kindNow (c_Tk_kindNow γ42  ) rfl ml_Er_101 (As := []) rfl rfl (Nat.le_of_ble_eq_true rfl) ⟨by decide, by decide⟩ d_Er_readClock_11 (fun r44 γ45 hr44 => ?_)
  refine sb_bipush d_Er_readClock_14 (by decide) ?_
  refine sb_icmp_ne 23 hr44 (by decide) d_Er_readClock_16 (by decide) (fun _ => ?_) (fun _ => ?_)
  · refine sb_iconst d_Er_readClock_23 ?_
    exact sb_lv [0, 1] rfl (s_Er_readClock_b24 γ45 a0 1 ha0 (by decide))
  · refine sb_iconst d_Er_readClock_19 ?_
    refine sb_goto 24 d_Er_readClock_20 (by decide) ?_
    exact sb_lv [0, 1] rfl (s_Er_readClock_b24 γ45 a0 0 ha0 (by decide))
theorem d_Cd_openEquation_0 : decode b_Cd_openEquation 0 = .ok (.aload_n 0, 1) := by decide +kernel
theorem d_Cd_openEquation_1 : decode b_Cd_openEquation 1 = .ok (.getfield 25, 3) := by decide +kernel
theorem d_Cd_openEquation_4 : decode b_Cd_openEquation 4 = .ok (.aload_n 0, 1) := by decide +kernel
theorem d_Cd_openEquation_5 : decode b_Cd_openEquation 5 = .ok (.getfield 48, 3) := by decide +kernel
theorem d_Cd_openEquation_8 : decode b_Cd_openEquation 8 = .ok (.iload_n 1, 1) := by decide +kernel
theorem d_Cd_openEquation_9 : decode b_Cd_openEquation 9 = .ok (.iastore, 1) := by decide +kernel
theorem d_Cd_openEquation_10 : decode b_Cd_openEquation 10 = .ok (.aload_n 0, 1) := by decide +kernel
theorem d_Cd_openEquation_11 : decode b_Cd_openEquation 11 = .ok (.getfield 28, 3) := by decide +kernel
theorem d_Cd_openEquation_14 : decode b_Cd_openEquation 14 = .ok (.aload_n 0, 1) := by decide +kernel
theorem d_Cd_openEquation_15 : decode b_Cd_openEquation 15 = .ok (.getfield 48, 3) := by decide +kernel
theorem d_Cd_openEquation_18 : decode b_Cd_openEquation 18 = .ok (.aload_n 0, 1) := by decide +kernel
theorem d_Cd_openEquation_19 : decode b_Cd_openEquation 19 = .ok (.getfield 44, 3) := by decide +kernel
theorem d_Cd_openEquation_22 : decode b_Cd_openEquation 22 = .ok (.iastore, 1) := by decide +kernel
theorem d_Cd_openEquation_23 : decode b_Cd_openEquation 23 = .ok (.aload_n 0, 1) := by decide +kernel
theorem d_Cd_openEquation_24 : decode b_Cd_openEquation 24 = .ok (.getfield 34, 3) := by decide +kernel
theorem d_Cd_openEquation_27 : decode b_Cd_openEquation 27 = .ok (.aload_n 0, 1) := by decide +kernel
theorem d_Cd_openEquation_28 : decode b_Cd_openEquation 28 = .ok (.getfield 48, 3) := by decide +kernel
theorem d_Cd_openEquation_31 : decode b_Cd_openEquation 31 = .ok (.aload_n 0, 1) := by decide +kernel
theorem d_Cd_openEquation_32 : decode b_Cd_openEquation 32 = .ok (.getfield 51, 3) := by decide +kernel
theorem d_Cd_openEquation_35 : decode b_Cd_openEquation 35 = .ok (.iastore, 1) := by decide +kernel
theorem d_Cd_openEquation_36 : decode b_Cd_openEquation 36 = .ok (.aload_n 0, 1) := by decide +kernel
theorem d_Cd_openEquation_37 : decode b_Cd_openEquation 37 = .ok (.getfield 37, 3) := by decide +kernel
theorem d_Cd_openEquation_40 : decode b_Cd_openEquation 40 = .ok (.aload_n 0, 1) := by decide +kernel
theorem d_Cd_openEquation_41 : decode b_Cd_openEquation 41 = .ok (.getfield 48, 3) := by decide +kernel
theorem d_Cd_openEquation_44 : decode b_Cd_openEquation 44 = .ok (.iconst 0, 1) := by decide +kernel
theorem d_Cd_openEquation_45 : decode b_Cd_openEquation 45 = .ok (.iastore, 1) := by decide +kernel
theorem d_Cd_openEquation_46 : decode b_Cd_openEquation 46 = .ok (.return_, 1) := by decide +kernel
abbrev mt_Cd_openEquation : MT := (R_Cd, b_Cd_openEquation, 2, none)
theorem vf_Cd_openEquation : VF y_Cd_openEquation mt_Cd_openEquation 2 1 := ⟨im_Cd_openEquation, se_Cd_openEquation, in_Cd, co_Cd_openEquation, by decide +kernel, _, _, rfl⟩
def f_Cd_openEquation (γ : St) (a0 : Int) : Option (Int × St) :=
  chk (inb (γ 4 10) 16385) (ap (setA γ 42 (γ 4 10) a0) fun γ3 =>
  chk (inb (γ3 4 10) 16385) (ap (setA γ3 43 (γ3 4 10) (γ3 4 4)) fun γ7 =>
  chk (inb (γ7 4 10) 16385) (ap (setA γ7 45 (γ7 4 10) (γ7 4 12)) fun γ11 =>
  chk (inb (γ11 4 10) 16385) (ap (setA γ11 46 (γ11 4 10) 0) fun γ14 =>
  some (0, γ14)))))
set_option maxHeartbeats 4000000 in
theorem c_Cd_openEquation {Γ : Ctx} (γ : St) (a0 : Int) (ha0 : i32 a0) : NC Γ BS y_Cd_openEquation mt_Cd_openEquation 6 240 [vR Γ 4, vI a0] γ (f_Cd_openEquation γ a0) := by
  refine nc_of (by decide) rfl (Nat.le_of_ble_eq_true rfl) ?_
  show SB Γ BS mt_Cd_openEquation (RmN 6 240) 0 0 (KN Γ BS mt_Cd_openEquation.2.2.2) 0 [(0, vR Γ 4), (1, vI a0)] [] γ _
  unfold f_Cd_openEquation
  refine sb_aload_n 0 d_Cd_openEquation_0 rfl ?_
  refine g_Cd_25 d_Cd_openEquation_1 ?_
  refine sb_aload_n 0 d_Cd_openEquation_4 rfl ?_
  refine g_Cd_48 d_Cd_openEquation_5 (fun c2 => ?_)
  refine sb_iload_n 1 d_Cd_openEquation_8 rfl ?_
  refine as_S_42 ha0 d_Cd_openEquation_9 (fun _ => ?_)
  refine sb_aps (fun γ3 => ?_)
  refine sb_aload_n 0 d_Cd_openEquation_10 rfl ?_
  refine g_Cd_28 d_Cd_openEquation_11 ?_
  refine sb_aload_n 0 d_Cd_openEquation_14 rfl ?_
  refine g_Cd_48 d_Cd_openEquation_15 (fun c5 => ?_)
  refine sb_aload_n 0 d_Cd_openEquation_18 rfl ?_
  refine g_Cd_44 d_Cd_openEquation_19 (fun c6 => ?_)
  refine as_S_43 c6 d_Cd_openEquation_22 (fun _ => ?_)
  refine sb_aps (fun γ7 => ?_)
  refine sb_aload_n 0 d_Cd_openEquation_23 rfl ?_
  refine g_Cd_34 d_Cd_openEquation_24 ?_
  refine sb_aload_n 0 d_Cd_openEquation_27 rfl ?_
  refine g_Cd_48 d_Cd_openEquation_28 (fun c9 => ?_)
  refine sb_aload_n 0 d_Cd_openEquation_31 rfl ?_
  refine g_Cd_51 d_Cd_openEquation_32 (fun c10 => ?_)
  refine as_S_45 c10 d_Cd_openEquation_35 (fun _ => ?_)
  refine sb_aps (fun γ11 => ?_)
  refine sb_aload_n 0 d_Cd_openEquation_36 rfl ?_
  refine g_Cd_37 d_Cd_openEquation_37 ?_
  refine sb_aload_n 0 d_Cd_openEquation_40 rfl ?_
  refine g_Cd_48 d_Cd_openEquation_41 (fun c13 => ?_)
  refine sb_iconst d_Cd_openEquation_44 ?_
  refine as_S_46 (by decide) d_Cd_openEquation_45 (fun _ => ?_)
  refine sb_aps (fun γ14 => ?_)
  exact sn_v rfl d_Cd_openEquation_46
theorem d_Cd_addLeft_0 : decode b_Cd_addLeft 0 = .ok (.aload_n 0, 1) := by decide +kernel
theorem d_Cd_addLeft_1 : decode b_Cd_addLeft 1 = .ok (.getfield 41, 3) := by decide +kernel
theorem d_Cd_addLeft_4 : decode b_Cd_addLeft 4 = .ok (.aload_n 0, 1) := by decide +kernel
theorem d_Cd_addLeft_5 : decode b_Cd_addLeft 5 = .ok (.getfield 51, 3) := by decide +kernel
theorem d_Cd_addLeft_8 : decode b_Cd_addLeft 8 = .ok (.iload_n 1, 1) := by decide +kernel
theorem d_Cd_addLeft_9 : decode b_Cd_addLeft 9 = .ok (.iastore, 1) := by decide +kernel
theorem d_Cd_addLeft_10 : decode b_Cd_addLeft 10 = .ok (.aload_n 0, 1) := by decide +kernel
theorem d_Cd_addLeft_11 : decode b_Cd_addLeft 11 = .ok (.dup, 1) := by decide +kernel
theorem d_Cd_addLeft_12 : decode b_Cd_addLeft 12 = .ok (.getfield 51, 3) := by decide +kernel
theorem d_Cd_addLeft_15 : decode b_Cd_addLeft 15 = .ok (.iconst 1, 1) := by decide +kernel
theorem d_Cd_addLeft_16 : decode b_Cd_addLeft 16 = .ok (.iadd, 1) := by decide +kernel
theorem d_Cd_addLeft_17 : decode b_Cd_addLeft 17 = .ok (.putfield 51, 3) := by decide +kernel
theorem d_Cd_addLeft_20 : decode b_Cd_addLeft 20 = .ok (.aload_n 0, 1) := by decide +kernel
theorem d_Cd_addLeft_21 : decode b_Cd_addLeft 21 = .ok (.getfield 37, 3) := by decide +kernel
theorem d_Cd_addLeft_24 : decode b_Cd_addLeft 24 = .ok (.aload_n 0, 1) := by decide +kernel
theorem d_Cd_addLeft_25 : decode b_Cd_addLeft 25 = .ok (.getfield 48, 3) := by decide +kernel
theorem d_Cd_addLeft_28 : decode b_Cd_addLeft 28 = .ok (.dup2, 1) := by decide +kernel
theorem d_Cd_addLeft_29 : decode b_Cd_addLeft 29 = .ok (.iaload, 1) := by decide +kernel
theorem d_Cd_addLeft_30 : decode b_Cd_addLeft 30 = .ok (.iconst 1, 1) := by decide +kernel
theorem d_Cd_addLeft_31 : decode b_Cd_addLeft 31 = .ok (.iadd, 1) := by decide +kernel
theorem d_Cd_addLeft_32 : decode b_Cd_addLeft 32 = .ok (.iastore, 1) := by decide +kernel
theorem d_Cd_addLeft_33 : decode b_Cd_addLeft 33 = .ok (.return_, 1) := by decide +kernel
abbrev mt_Cd_addLeft : MT := (R_Cd, b_Cd_addLeft, 2, none)
theorem vf_Cd_addLeft : VF y_Cd_addLeft mt_Cd_addLeft 2 1 := ⟨im_Cd_addLeft, se_Cd_addLeft, in_Cd, co_Cd_addLeft, by decide +kernel, _, _, rfl⟩
def f_Cd_addLeft (γ : St) (a0 : Int) : Option (Int × St) :=
  chk (inb (γ 4 12) 32769) (ap (setA γ 47 (γ 4 12) a0) fun γ3 =>
  chk (i32 ((γ3 4 12) + 1)) (ap (setA γ3 4 12 ((γ3 4 12) + 1)) fun γ6 =>
  chk (inb (γ6 4 10) 16385) (chk (i32 ((γ6 46 (γ6 4 10)) + 1)) (chk (inb (γ6 4 10) 16385) (ap (setA γ6 46 (γ6 4 10) ((γ6 46 (γ6 4 10)) + 1)) fun γ11 =>
  some (0, γ11))))))
set_option maxHeartbeats 4000000 in
theorem c_Cd_addLeft {Γ : Ctx} (γ : St) (a0 : Int) (ha0 : i32 a0) : NC Γ BS y_Cd_addLeft mt_Cd_addLeft 6 240 [vR Γ 4, vI a0] γ (f_Cd_addLeft γ a0) := by
  refine nc_of (by decide) rfl (Nat.le_of_ble_eq_true rfl) ?_
  show SB Γ BS mt_Cd_addLeft (RmN 6 240) 0 0 (KN Γ BS mt_Cd_addLeft.2.2.2) 0 [(0, vR Γ 4), (1, vI a0)] [] γ _
  unfold f_Cd_addLeft
  refine sb_aload_n 0 d_Cd_addLeft_0 rfl ?_
  refine g_Cd_41 d_Cd_addLeft_1 ?_
  refine sb_aload_n 0 d_Cd_addLeft_4 rfl ?_
  refine g_Cd_51 d_Cd_addLeft_5 (fun c2 => ?_)
  refine sb_iload_n 1 d_Cd_addLeft_8 rfl ?_
  refine as_S_47 ha0 d_Cd_addLeft_9 (fun _ => ?_)
  refine sb_aps (fun γ3 => ?_)
  refine sb_aload_n 0 d_Cd_addLeft_10 rfl ?_
  refine sb_dup d_Cd_addLeft_11 rfl ?_
  refine g_Cd_51 d_Cd_addLeft_12 (fun c4 => ?_)
  refine sb_iconst d_Cd_addLeft_15 ?_
  refine sb_iadd d_Cd_addLeft_16 ?_
  refine sb_chk (fun c5 => ?_)
  refine p_Cd_51 c5 d_Cd_addLeft_17 ?_
  refine sb_aps (fun γ6 => ?_)
  refine sb_aload_n 0 d_Cd_addLeft_20 rfl ?_
  refine g_Cd_37 d_Cd_addLeft_21 ?_
  refine sb_aload_n 0 d_Cd_addLeft_24 rfl ?_
  refine g_Cd_48 d_Cd_addLeft_25 (fun c8 => ?_)
  refine sb_dup2 d_Cd_addLeft_28 rfl rfl ?_
  refine al_S_46 d_Cd_addLeft_29 (fun _ c9 => ?_)
  refine sb_iconst d_Cd_addLeft_30 ?_
  refine sb_iadd d_Cd_addLeft_31 ?_
  refine sb_chk (fun c10 => ?_)
  refine as_S_46 c10 d_Cd_addLeft_32 (fun _ => ?_)
  refine sb_aps (fun γ11 => ?_)
  exact sn_v rfl d_Cd_addLeft_33
theorem d_S_nesting_0 : decode b_S_nesting 0 = .ok (.iload_n 0, 1) := by decide +kernel
theorem d_S_nesting_1 : decode b_S_nesting 1 = .ok (.tableswitch 141 9 39 #[139, 139, 139, 139, 139, 139, 139, 139, 139, 141, 141, 141, 141, 141, 141, 141, 141, 141, 141, 141, 139, 139, 139, 141, 141, 141, 141, 141, 141, 139, 139], 139) := by decide +kernel
theorem d_S_nesting_140 : decode b_S_nesting 140 = .ok (.iconst 0, 1) := by decide +kernel
theorem d_S_nesting_141 : decode b_S_nesting 141 = .ok (.ireturn, 1) := by decide +kernel
theorem d_S_nesting_142 : decode b_S_nesting 142 = .ok (.iconst 1, 1) := by decide +kernel
theorem d_S_nesting_143 : decode b_S_nesting 143 = .ok (.ireturn, 1) := by decide +kernel
abbrev mt_S_nesting : MT := (R_S, b_S_nesting, 1, some .int)
theorem vf_S_nesting : SF y_S_nesting mt_S_nesting 1 := ⟨sm_S_nesting, in_S, co_S_nesting, by decide +kernel⟩
def f_S_nesting (γ : St) (a0 : Int) : Option (Int × St) :=
  if a0 = 9 then
  (some (0, γ))
  else if a0 = 10 then
  (some (0, γ))
  else if a0 = 11 then
  (some (0, γ))
  else if a0 = 12 then
  (some (0, γ))
  else if a0 = 13 then
  (some (0, γ))
  else if a0 = 14 then
  (some (0, γ))
  else if a0 = 15 then
  (some (0, γ))
  else if a0 = 16 then
  (some (0, γ))
  else if a0 = 17 then
  (some (0, γ))
  else if a0 = 29 then
  (some (0, γ))
  else if a0 = 30 then
  (some (0, γ))
  else if a0 = 31 then
  (some (0, γ))
  else if a0 = 38 then
  (some (0, γ))
  else if a0 = 39 then
  (some (0, γ))
  else (some (1, γ))
set_option maxHeartbeats 4000000 in
theorem c_S_nesting {Γ : Ctx} (γ : St) (a0 : Int) (ha0 : i32 a0) : NC Γ BS y_S_nesting mt_S_nesting 6 240 [vI a0] γ (f_S_nesting γ a0) := by
  refine nc_of (by decide) rfl (Nat.le_of_ble_eq_true rfl) ?_
  show SB Γ BS mt_S_nesting (RmN 6 240) 0 0 (KN Γ BS mt_S_nesting.2.2.2) 0 [(0, vI a0)] [] γ _
  unfold f_S_nesting
  refine sb_iload_n 0 d_S_nesting_0 rfl ?_
  refine sb_tc (off := 139) 9 140 ha0 d_S_nesting_1 (by decide) (by decide) (fun _ => ?_) (fun n1 => ?_)
  · refine sb_iconst d_S_nesting_140 ?_
    exact sn_i rfl (by decide) d_S_nesting_141
  refine sb_tc (off := 139) 10 140 ha0 d_S_nesting_1 (by decide) (by decide) (fun _ => ?_) (fun n2 => ?_)
  · refine sb_iconst d_S_nesting_140 ?_
    exact sn_i rfl (by decide) d_S_nesting_141
  refine sb_tc (off := 139) 11 140 ha0 d_S_nesting_1 (by decide) (by decide) (fun _ => ?_) (fun n3 => ?_)
  · refine sb_iconst d_S_nesting_140 ?_
    exact sn_i rfl (by decide) d_S_nesting_141
  refine sb_tc (off := 139) 12 140 ha0 d_S_nesting_1 (by decide) (by decide) (fun _ => ?_) (fun n4 => ?_)
  · refine sb_iconst d_S_nesting_140 ?_
    exact sn_i rfl (by decide) d_S_nesting_141
  refine sb_tc (off := 139) 13 140 ha0 d_S_nesting_1 (by decide) (by decide) (fun _ => ?_) (fun n5 => ?_)
  · refine sb_iconst d_S_nesting_140 ?_
    exact sn_i rfl (by decide) d_S_nesting_141
  refine sb_tc (off := 139) 14 140 ha0 d_S_nesting_1 (by decide) (by decide) (fun _ => ?_) (fun n6 => ?_)
  · refine sb_iconst d_S_nesting_140 ?_
    exact sn_i rfl (by decide) d_S_nesting_141
  refine sb_tc (off := 139) 15 140 ha0 d_S_nesting_1 (by decide) (by decide) (fun _ => ?_) (fun n7 => ?_)
  · refine sb_iconst d_S_nesting_140 ?_
    exact sn_i rfl (by decide) d_S_nesting_141
  refine sb_tc (off := 139) 16 140 ha0 d_S_nesting_1 (by decide) (by decide) (fun _ => ?_) (fun n8 => ?_)
  · refine sb_iconst d_S_nesting_140 ?_
    exact sn_i rfl (by decide) d_S_nesting_141
  refine sb_tc (off := 139) 17 140 ha0 d_S_nesting_1 (by decide) (by decide) (fun _ => ?_) (fun n9 => ?_)
  · refine sb_iconst d_S_nesting_140 ?_
    exact sn_i rfl (by decide) d_S_nesting_141
  refine sb_tc (off := 139) 29 140 ha0 d_S_nesting_1 (by decide) (by decide) (fun _ => ?_) (fun n10 => ?_)
  · refine sb_iconst d_S_nesting_140 ?_
    exact sn_i rfl (by decide) d_S_nesting_141
  refine sb_tc (off := 139) 30 140 ha0 d_S_nesting_1 (by decide) (by decide) (fun _ => ?_) (fun n11 => ?_)
  · refine sb_iconst d_S_nesting_140 ?_
    exact sn_i rfl (by decide) d_S_nesting_141
  refine sb_tc (off := 139) 31 140 ha0 d_S_nesting_1 (by decide) (by decide) (fun _ => ?_) (fun n12 => ?_)
  · refine sb_iconst d_S_nesting_140 ?_
    exact sn_i rfl (by decide) d_S_nesting_141
  refine sb_tc (off := 139) 38 140 ha0 d_S_nesting_1 (by decide) (by decide) (fun _ => ?_) (fun n13 => ?_)
  · refine sb_iconst d_S_nesting_140 ?_
    exact sn_i rfl (by decide) d_S_nesting_141
  refine sb_tc (off := 139) 39 140 ha0 d_S_nesting_1 (by decide) (by decide) (fun _ => ?_) (fun n14 => ?_)
  · refine sb_iconst d_S_nesting_140 ?_
    exact sn_i rfl (by decide) d_S_nesting_141
  refine sb_tg (off := 141) 18 142 ha0 d_S_nesting_1 (by decide) (by decide) (fun _ => ?_) (fun n15 => ?_)
  · refine sb_iconst d_S_nesting_142 ?_
    exact sn_i rfl (by decide) d_S_nesting_143
  refine sb_tg (off := 141) 19 142 ha0 d_S_nesting_1 (by decide) (by decide) (fun _ => ?_) (fun n16 => ?_)
  · refine sb_iconst d_S_nesting_142 ?_
    exact sn_i rfl (by decide) d_S_nesting_143
  refine sb_tg (off := 141) 20 142 ha0 d_S_nesting_1 (by decide) (by decide) (fun _ => ?_) (fun n17 => ?_)
  · refine sb_iconst d_S_nesting_142 ?_
    exact sn_i rfl (by decide) d_S_nesting_143
  refine sb_tg (off := 141) 21 142 ha0 d_S_nesting_1 (by decide) (by decide) (fun _ => ?_) (fun n18 => ?_)
  · refine sb_iconst d_S_nesting_142 ?_
    exact sn_i rfl (by decide) d_S_nesting_143
  refine sb_tg (off := 141) 22 142 ha0 d_S_nesting_1 (by decide) (by decide) (fun _ => ?_) (fun n19 => ?_)
  · refine sb_iconst d_S_nesting_142 ?_
    exact sn_i rfl (by decide) d_S_nesting_143
  refine sb_tg (off := 141) 23 142 ha0 d_S_nesting_1 (by decide) (by decide) (fun _ => ?_) (fun n20 => ?_)
  · refine sb_iconst d_S_nesting_142 ?_
    exact sn_i rfl (by decide) d_S_nesting_143
  refine sb_tg (off := 141) 24 142 ha0 d_S_nesting_1 (by decide) (by decide) (fun _ => ?_) (fun n21 => ?_)
  · refine sb_iconst d_S_nesting_142 ?_
    exact sn_i rfl (by decide) d_S_nesting_143
  refine sb_tg (off := 141) 25 142 ha0 d_S_nesting_1 (by decide) (by decide) (fun _ => ?_) (fun n22 => ?_)
  · refine sb_iconst d_S_nesting_142 ?_
    exact sn_i rfl (by decide) d_S_nesting_143
  refine sb_tg (off := 141) 26 142 ha0 d_S_nesting_1 (by decide) (by decide) (fun _ => ?_) (fun n23 => ?_)
  · refine sb_iconst d_S_nesting_142 ?_
    exact sn_i rfl (by decide) d_S_nesting_143
  refine sb_tg (off := 141) 27 142 ha0 d_S_nesting_1 (by decide) (by decide) (fun _ => ?_) (fun n24 => ?_)
  · refine sb_iconst d_S_nesting_142 ?_
    exact sn_i rfl (by decide) d_S_nesting_143
  refine sb_tg (off := 141) 28 142 ha0 d_S_nesting_1 (by decide) (by decide) (fun _ => ?_) (fun n25 => ?_)
  · refine sb_iconst d_S_nesting_142 ?_
    exact sn_i rfl (by decide) d_S_nesting_143
  refine sb_tg (off := 141) 32 142 ha0 d_S_nesting_1 (by decide) (by decide) (fun _ => ?_) (fun n26 => ?_)
  · refine sb_iconst d_S_nesting_142 ?_
    exact sn_i rfl (by decide) d_S_nesting_143
  refine sb_tg (off := 141) 33 142 ha0 d_S_nesting_1 (by decide) (by decide) (fun _ => ?_) (fun n27 => ?_)
  · refine sb_iconst d_S_nesting_142 ?_
    exact sn_i rfl (by decide) d_S_nesting_143
  refine sb_tg (off := 141) 34 142 ha0 d_S_nesting_1 (by decide) (by decide) (fun _ => ?_) (fun n28 => ?_)
  · refine sb_iconst d_S_nesting_142 ?_
    exact sn_i rfl (by decide) d_S_nesting_143
  refine sb_tg (off := 141) 35 142 ha0 d_S_nesting_1 (by decide) (by decide) (fun _ => ?_) (fun n29 => ?_)
  · refine sb_iconst d_S_nesting_142 ?_
    exact sn_i rfl (by decide) d_S_nesting_143
  refine sb_tg (off := 141) 36 142 ha0 d_S_nesting_1 (by decide) (by decide) (fun _ => ?_) (fun n30 => ?_)
  · refine sb_iconst d_S_nesting_142 ?_
    exact sn_i rfl (by decide) d_S_nesting_143
  refine sb_tg (off := 141) 37 142 ha0 d_S_nesting_1 (by decide) (by decide) (fun _ => ?_) (fun n31 => ?_)
  · refine sb_iconst d_S_nesting_142 ?_
    exact sn_i rfl (by decide) d_S_nesting_143
  refine sb_td 142 ha0 d_S_nesting_1 (by omega) (by decide) ?_
  refine sb_iconst d_S_nesting_142 ?_
  exact sn_i rfl (by decide) d_S_nesting_143
theorem d_Er_push_0 : decode b_Er_push 0 = .ok (.aload_n 0, 1) := by decide +kernel
theorem d_Er_push_1 : decode b_Er_push 1 = .ok (.getfield 39, 3) := by decide +kernel
theorem d_Er_push_4 : decode b_Er_push 4 = .ok (.sipush 512, 3) := by decide +kernel
theorem d_Er_push_7 : decode b_Er_push 7 = .ok (.if_icmp .lt 12, 3) := by decide +kernel
theorem d_Er_push_10 : decode b_Er_push 10 = .ok (.aload_n 0, 1) := by decide +kernel
theorem d_Er_push_11 : decode b_Er_push 11 = .ok (.getfield 27, 3) := by decide +kernel
theorem d_Er_push_14 : decode b_Er_push 14 = .ok (.iconst 3, 1) := by decide +kernel
theorem d_Er_push_15 : decode b_Er_push 15 = .ok (.invokevirtual 105, 3) := by decide +kernel
theorem d_Er_push_18 : decode b_Er_push 18 = .ok (.ireturn, 1) := by decide +kernel
theorem d_Er_push_19 : decode b_Er_push 19 = .ok (.aload_n 0, 1) := by decide +kernel
theorem d_Er_push_20 : decode b_Er_push 20 = .ok (.getfield 11, 3) := by decide +kernel
theorem d_Er_push_23 : decode b_Er_push 23 = .ok (.aload_n 0, 1) := by decide +kernel
theorem d_Er_push_24 : decode b_Er_push 24 = .ok (.getfield 39, 3) := by decide +kernel
theorem d_Er_push_27 : decode b_Er_push 27 = .ok (.iload_n 1, 1) := by decide +kernel
theorem d_Er_push_28 : decode b_Er_push 28 = .ok (.iastore, 1) := by decide +kernel
theorem d_Er_push_29 : decode b_Er_push 29 = .ok (.aload_n 0, 1) := by decide +kernel
theorem d_Er_push_30 : decode b_Er_push 30 = .ok (.dup, 1) := by decide +kernel
theorem d_Er_push_31 : decode b_Er_push 31 = .ok (.getfield 39, 3) := by decide +kernel
theorem d_Er_push_34 : decode b_Er_push 34 = .ok (.iconst 1, 1) := by decide +kernel
theorem d_Er_push_35 : decode b_Er_push 35 = .ok (.iadd, 1) := by decide +kernel
theorem d_Er_push_36 : decode b_Er_push 36 = .ok (.putfield 39, 3) := by decide +kernel
theorem d_Er_push_39 : decode b_Er_push 39 = .ok (.aload_n 0, 1) := by decide +kernel
theorem d_Er_push_40 : decode b_Er_push 40 = .ok (.dup, 1) := by decide +kernel
theorem d_Er_push_41 : decode b_Er_push 41 = .ok (.getfield 46, 3) := by decide +kernel
theorem d_Er_push_44 : decode b_Er_push 44 = .ok (.iload_n 1, 1) := by decide +kernel
theorem d_Er_push_45 : decode b_Er_push 45 = .ok (.invokestatic 147, 3) := by decide +kernel
theorem d_Er_push_48 : decode b_Er_push 48 = .ok (.iadd, 1) := by decide +kernel
theorem d_Er_push_49 : decode b_Er_push 49 = .ok (.putfield 46, 3) := by decide +kernel
theorem d_Er_push_52 : decode b_Er_push 52 = .ok (.aload_n 0, 1) := by decide +kernel
theorem d_Er_push_53 : decode b_Er_push 53 = .ok (.iconst 1, 1) := by decide +kernel
theorem d_Er_push_54 : decode b_Er_push 54 = .ok (.putfield 53, 3) := by decide +kernel
theorem d_Er_push_57 : decode b_Er_push 57 = .ok (.aload_n 0, 1) := by decide +kernel
theorem d_Er_push_58 : decode b_Er_push 58 = .ok (.iload_n 2, 1) := by decide +kernel
theorem d_Er_push_59 : decode b_Er_push 59 = .ok (.putfield 56, 3) := by decide +kernel
theorem d_Er_push_62 : decode b_Er_push 62 = .ok (.aload_n 0, 1) := by decide +kernel
theorem d_Er_push_63 : decode b_Er_push 63 = .ok (.getfield 27, 3) := by decide +kernel
theorem d_Er_push_66 : decode b_Er_push 66 = .ok (.invokevirtual 98, 3) := by decide +kernel
theorem d_Er_push_69 : decode b_Er_push 69 = .ok (.iconst 1, 1) := by decide +kernel
theorem d_Er_push_70 : decode b_Er_push 70 = .ok (.ireturn, 1) := by decide +kernel
abbrev mt_Er_push : MT := (R_Er, b_Er_push, 3, some .boolean)
theorem vf_Er_push : VF y_Er_push mt_Er_push 3 2 := ⟨im_Er_push, se_Er_push, in_Er, co_Er_push, by decide +kernel, _, _, rfl⟩
def f_Er_push (γ : St) (a0 : Int) (a1 : Int) : Option (Int × St) :=
  if (γ 6 8) < 512 then
  (chk (inb (γ 6 8) 512) (ap (setA γ 48 (γ 6 8) a0) fun γ4 =>
  chk (i32 ((γ4 6 8) + 1)) (ap (setA γ4 6 8 ((γ4 6 8) + 1)) fun γ7 =>
  bndN (f_S_nesting γ7 a0) fun r9 γ10 =>
  chk (i32 ((γ7 6 10) + r9)) (ap (setA γ10 6 10 ((γ7 6 10) + r9)) fun γ12 =>
  ap (setA γ12 6 12 1) fun γ13 =>
  chk (a1 = 0 ∨ a1 = 1) (ap (setA γ13 6 13 a1) fun γ15 =>
  bndN (f_Tk_step γ15) fun _ γ18 =>
  some (1, γ18))))))
  else
  (bndN (f_Tk_fail γ 3) fun r20 γ21 =>
  some (r20, γ21))
set_option maxHeartbeats 4000000 in
theorem c_Er_push {Γ : Ctx} (γ : St) (a0 : Int) (a1 : Int) (ha0 : i32 a0) (ha1 : i32 a1) : NC Γ BS y_Er_push mt_Er_push 7 261 [vR Γ 6, vI a0, vI a1] γ (f_Er_push γ a0 a1) := by
  refine nc_of (by decide) rfl (Nat.le_of_ble_eq_true rfl) ?_
  show SB Γ BS mt_Er_push (RmN 7 261) 0 0 (KN Γ BS mt_Er_push.2.2.2) 0 [(0, vR Γ 6), (1, vI a0), (2, vI a1)] [] γ _
  unfold f_Er_push
  refine sb_aload_n 0 d_Er_push_0 rfl ?_
  refine g_Er_39 d_Er_push_1 (fun c1 => ?_)
  refine sb_sipush d_Er_push_4 (by decide) ?_
  refine sb_icmp_lt 19 c1 (by decide) d_Er_push_7 (by decide) (fun _ => ?_) (fun _ => ?_)
  · refine sb_aload_n 0 d_Er_push_19 rfl ?_
    refine g_Er_11 d_Er_push_20 ?_
    refine sb_aload_n 0 d_Er_push_23 rfl ?_
    refine g_Er_39 d_Er_push_24 (fun c3 => ?_)
    refine sb_iload_n 1 d_Er_push_27 rfl ?_
    refine as_S_48 ha0 d_Er_push_28 (fun _ => ?_)
    refine sb_aps (fun γ4 => ?_)
    refine sb_aload_n 0 d_Er_push_29 rfl ?_
    refine sb_dup d_Er_push_30 rfl ?_
    refine g_Er_39 d_Er_push_31 (fun c5 => ?_)
    refine sb_iconst d_Er_push_34 ?_
    refine sb_iadd d_Er_push_35 ?_
    refine sb_chk (fun c6 => ?_)
    refine p_Er_39 c6 d_Er_push_36 ?_
    refine sb_aps (fun γ7 => ?_)
    refine sb_aload_n 0 d_Er_push_39 rfl ?_
    refine sb_dup d_Er_push_40 rfl ?_
    refine g_Er_46 d_Er_push_41 (fun c8 => ?_)
    refine sb_iload_n 1 d_Er_push_44 rfl ?_
    refine sb_cNi vf_S_nesting (c_S_nesting γ7 a0 ha0) (fun X => X.E.2.2.2.2.2.2.1) (As := [vI a0]) rfl rfl (Nat.le_of_ble_eq_true rfl) ⟨by decide, by decide⟩ d_Er_push_45 (fun r9 γ10 hr9 => ?_)
    refine sb_iadd d_Er_push_48 ?_
    refine sb_chk (fun c11 => ?_)
    refine p_Er_46 c11 d_Er_push_49 ?_
    refine sb_aps (fun γ12 => ?_)
    refine sb_aload_n 0 d_Er_push_52 rfl ?_
    refine sb_iconst d_Er_push_53 ?_
    refine p_Er_53 (by decide) d_Er_push_54 ?_
    refine sb_aps (fun γ13 => ?_)
    refine sb_aload_n 0 d_Er_push_57 rfl ?_
    refine sb_iload_n 2 d_Er_push_58 rfl ?_
    refine sb_chk (fun c14 => ?_)
    refine p_Er_56 c14 d_Er_push_59 ?_
    refine sb_aps (fun γ15 => ?_)
    refine sb_aload_n 0 d_Er_push_62 rfl ?_
    refine g_Er_27 d_Er_push_63 ?_
    refine sb_cVv vf_Tk_step (c_Tk_step γ15  ) rfl ml_Er_98 (As := []) rfl rfl (Nat.le_of_ble_eq_true rfl) ⟨by decide, by decide⟩ d_Er_push_66 (fun _ γ18 => ?_)
    refine sb_iconst d_Er_push_69 ?_
    exact sn_z rfl (by decide) d_Er_push_70
  · refine sb_aload_n 0 d_Er_push_10 rfl ?_
    refine g_Er_27 d_Er_push_11 ?_
    refine sb_iconst d_Er_push_14 ?_
    refine sb_cVz vf_Tk_fail (c_Tk_fail γ 3 (by decide)) rfl ml_Er_105 (As := [vI 3]) rfl rfl (Nat.le_of_ble_eq_true rfl) ⟨by decide, by decide⟩ d_Er_push_15 (fun r20 γ21 hr20 => ?_)
    exact sn_z rfl hr20 d_Er_push_18
theorem d_Er_readCalled_0 : decode b_Er_readCalled 0 = .ok (.aload_n 0, 1) := by decide +kernel
theorem d_Er_readCalled_1 : decode b_Er_readCalled 1 = .ok (.getfield 27, 3) := by decide +kernel
theorem d_Er_readCalled_4 : decode b_Er_readCalled 4 = .ok (.invokevirtual 101, 3) := by decide +kernel
theorem d_Er_readCalled_7 : decode b_Er_readCalled 7 = .ok (.iconst 2, 1) := by decide +kernel
theorem d_Er_readCalled_8 : decode b_Er_readCalled 8 = .ok (.if_icmp .eq 12, 3) := by decide +kernel
theorem d_Er_readCalled_11 : decode b_Er_readCalled 11 = .ok (.aload_n 0, 1) := by decide +kernel
theorem d_Er_readCalled_12 : decode b_Er_readCalled 12 = .ok (.getfield 27, 3) := by decide +kernel
theorem d_Er_readCalled_15 : decode b_Er_readCalled 15 = .ok (.iconst 1, 1) := by decide +kernel
theorem d_Er_readCalled_16 : decode b_Er_readCalled 16 = .ok (.invokevirtual 105, 3) := by decide +kernel
theorem d_Er_readCalled_19 : decode b_Er_readCalled 19 = .ok (.ireturn, 1) := by decide +kernel
theorem d_Er_readCalled_20 : decode b_Er_readCalled 20 = .ok (.aload_n 0, 1) := by decide +kernel
theorem d_Er_readCalled_21 : decode b_Er_readCalled 21 = .ok (.getfield 27, 3) := by decide +kernel
theorem d_Er_readCalled_24 : decode b_Er_readCalled 24 = .ok (.getfield 83, 3) := by decide +kernel
theorem d_Er_readCalled_27 : decode b_Er_readCalled 27 = .ok (.getfield 144, 3) := by decide +kernel
theorem d_Er_readCalled_30 : decode b_Er_readCalled 30 = .ok (.aload_n 0, 1) := by decide +kernel
theorem d_Er_readCalled_31 : decode b_Er_readCalled 31 = .ok (.getfield 27, 3) := by decide +kernel
theorem d_Er_readCalled_34 : decode b_Er_readCalled 34 = .ok (.invokevirtual 121, 3) := by decide +kernel
theorem d_Er_readCalled_37 : decode b_Er_readCalled 37 = .ok (.iaload, 1) := by decide +kernel
theorem d_Er_readCalled_38 : decode b_Er_readCalled 38 = .ok (.iconst 1, 1) := by decide +kernel
theorem d_Er_readCalled_39 : decode b_Er_readCalled 39 = .ok (.isub, 1) := by decide +kernel
theorem d_Er_readCalled_40 : decode b_Er_readCalled 40 = .ok (.istore_n 1, 1) := by decide +kernel
theorem d_Er_readCalled_41 : decode b_Er_readCalled 41 = .ok (.iload_n 1, 1) := by decide +kernel
theorem d_Er_readCalled_42 : decode b_Er_readCalled 42 = .ok (.ifCond .ge 12, 3) := by decide +kernel
theorem d_Er_readCalled_45 : decode b_Er_readCalled 45 = .ok (.aload_n 0, 1) := by decide +kernel
theorem d_Er_readCalled_46 : decode b_Er_readCalled 46 = .ok (.getfield 27, 3) := by decide +kernel
theorem d_Er_readCalled_49 : decode b_Er_readCalled 49 = .ok (.iconst 2, 1) := by decide +kernel
theorem d_Er_readCalled_50 : decode b_Er_readCalled 50 = .ok (.invokevirtual 105, 3) := by decide +kernel
theorem d_Er_readCalled_53 : decode b_Er_readCalled 53 = .ok (.ireturn, 1) := by decide +kernel
theorem d_Er_readCalled_54 : decode b_Er_readCalled 54 = .ok (.aload_n 0, 1) := by decide +kernel
theorem d_Er_readCalled_55 : decode b_Er_readCalled 55 = .ok (.getfield 27, 3) := by decide +kernel
theorem d_Er_readCalled_58 : decode b_Er_readCalled 58 = .ok (.invokevirtual 98, 3) := by decide +kernel
theorem d_Er_readCalled_61 : decode b_Er_readCalled 61 = .ok (.aload_n 0, 1) := by decide +kernel
theorem d_Er_readCalled_62 : decode b_Er_readCalled 62 = .ok (.getfield 27, 3) := by decide +kernel
theorem d_Er_readCalled_65 : decode b_Er_readCalled 65 = .ok (.invokevirtual 101, 3) := by decide +kernel
theorem d_Er_readCalled_68 : decode b_Er_readCalled 68 = .ok (.iconst 4, 1) := by decide +kernel
theorem d_Er_readCalled_69 : decode b_Er_readCalled 69 = .ok (.if_icmp .ne 13, 3) := by decide +kernel
theorem d_Er_readCalled_72 : decode b_Er_readCalled 72 = .ok (.aload_n 0, 1) := by decide +kernel
theorem d_Er_readCalled_73 : decode b_Er_readCalled 73 = .ok (.bipush 43, 2) := by decide +kernel
theorem d_Er_readCalled_75 : decode b_Er_readCalled 75 = .ok (.iconst 1, 1) := by decide +kernel
theorem d_Er_readCalled_76 : decode b_Er_readCalled 76 = .ok (.invokevirtual 134, 3) := by decide +kernel
theorem d_Er_readCalled_79 : decode b_Er_readCalled 79 = .ok (.ifCond .ne 12, 3) := by decide +kernel
theorem d_Er_readCalled_82 : decode b_Er_readCalled 82 = .ok (.aload_n 0, 1) := by decide +kernel
theorem d_Er_readCalled_83 : decode b_Er_readCalled 83 = .ok (.getfield 27, 3) := by decide +kernel
theorem d_Er_readCalled_86 : decode b_Er_readCalled 86 = .ok (.iconst 1, 1) := by decide +kernel
theorem d_Er_readCalled_87 : decode b_Er_readCalled 87 = .ok (.invokevirtual 105, 3) := by decide +kernel
theorem d_Er_readCalled_90 : decode b_Er_readCalled 90 = .ok (.ireturn, 1) := by decide +kernel
theorem d_Er_readCalled_91 : decode b_Er_readCalled 91 = .ok (.aload_n 0, 1) := by decide +kernel
theorem d_Er_readCalled_92 : decode b_Er_readCalled 92 = .ok (.getfield 15, 3) := by decide +kernel
theorem d_Er_readCalled_95 : decode b_Er_readCalled 95 = .ok (.aload_n 0, 1) := by decide +kernel
theorem d_Er_readCalled_96 : decode b_Er_readCalled 96 = .ok (.getfield 39, 3) := by decide +kernel
theorem d_Er_readCalled_99 : decode b_Er_readCalled 99 = .ok (.iconst 1, 1) := by decide +kernel
theorem d_Er_readCalled_100 : decode b_Er_readCalled 100 = .ok (.isub, 1) := by decide +kernel
theorem d_Er_readCalled_101 : decode b_Er_readCalled 101 = .ok (.iload_n 1, 1) := by decide +kernel
theorem d_Er_readCalled_102 : decode b_Er_readCalled 102 = .ok (.iastore, 1) := by decide +kernel
theorem d_Er_readCalled_103 : decode b_Er_readCalled 103 = .ok (.aload_n 0, 1) := by decide +kernel
theorem d_Er_readCalled_104 : decode b_Er_readCalled 104 = .ok (.getfield 18, 3) := by decide +kernel
theorem d_Er_readCalled_107 : decode b_Er_readCalled 107 = .ok (.aload_n 0, 1) := by decide +kernel
theorem d_Er_readCalled_108 : decode b_Er_readCalled 108 = .ok (.getfield 39, 3) := by decide +kernel
theorem d_Er_readCalled_111 : decode b_Er_readCalled 111 = .ok (.iconst 1, 1) := by decide +kernel
theorem d_Er_readCalled_112 : decode b_Er_readCalled 112 = .ok (.isub, 1) := by decide +kernel
theorem d_Er_readCalled_113 : decode b_Er_readCalled 113 = .ok (.iconst 0, 1) := by decide +kernel
theorem d_Er_readCalled_114 : decode b_Er_readCalled 114 = .ok (.iastore, 1) := by decide +kernel
theorem d_Er_readCalled_115 : decode b_Er_readCalled 115 = .ok (.aload_n 0, 1) := by decide +kernel
theorem d_Er_readCalled_116 : decode b_Er_readCalled 116 = .ok (.getfield 21, 3) := by decide +kernel
theorem d_Er_readCalled_119 : decode b_Er_readCalled 119 = .ok (.aload_n 0, 1) := by decide +kernel
theorem d_Er_readCalled_120 : decode b_Er_readCalled 120 = .ok (.getfield 39, 3) := by decide +kernel
theorem d_Er_readCalled_123 : decode b_Er_readCalled 123 = .ok (.iconst 1, 1) := by decide +kernel
theorem d_Er_readCalled_124 : decode b_Er_readCalled 124 = .ok (.isub, 1) := by decide +kernel
theorem d_Er_readCalled_125 : decode b_Er_readCalled 125 = .ok (.iconst 0, 1) := by decide +kernel
theorem d_Er_readCalled_126 : decode b_Er_readCalled 126 = .ok (.iastore, 1) := by decide +kernel
theorem d_Er_readCalled_127 : decode b_Er_readCalled 127 = .ok (.iconst 1, 1) := by decide +kernel
theorem d_Er_readCalled_128 : decode b_Er_readCalled 128 = .ok (.ireturn, 1) := by decide +kernel
abbrev mt_Er_readCalled : MT := (R_Er, b_Er_readCalled, 2, some .boolean)
theorem vf_Er_readCalled : VF y_Er_readCalled mt_Er_readCalled 3 0 := ⟨im_Er_readCalled, se_Er_readCalled, in_Er, co_Er_readCalled, by decide +kernel, _, _, rfl⟩
def f_Er_readCalled_b82 (γ : St) : Option (Int × St) :=
  bndN (f_Tk_fail γ 1) fun r2 γ3 =>
  some (r2, γ3)
def f_Er_readCalled (γ : St) : Option (Int × St) :=
  bndN (f_Tk_kindNow γ) fun r5 γ6 =>
  if r5 = 2 then
  (bndN (f_Tk_itemNow γ6) fun r11 γ12 =>
  chk (inb r11 5923) (chk (i32 ((γ12 23 r11) - 1)) (ap ((γ12 23 r11) - 1) fun x15 =>
  if 0 ≤ x15 then
  (bndN (f_Tk_step γ12) fun _ γ18 =>
  bndN (f_Tk_kindNow γ18) fun r20 γ21 =>
  if r20 ≠ 4 then
  (f_Er_readCalled_b82 γ21 )
  else
  (bndN (f_Er_push γ21 43 1) fun r22 γ23 =>
  if r22 ≠ 0 then
  (chk (i32 ((γ23 6 8) - 1)) (chk (inb ((γ23 6 8) - 1) 512) (ap (setA γ23 49 ((γ23 6 8) - 1) x15) fun γ27 =>
  chk (i32 ((γ27 6 8) - 1)) (chk (inb ((γ27 6 8) - 1) 512) (ap (setA γ27 50 ((γ27 6 8) - 1) 0) fun γ31 =>
  chk (i32 ((γ31 6 8) - 1)) (chk (inb ((γ31 6 8) - 1) 512) (ap (setA γ31 51 ((γ31 6 8) - 1) 0) fun γ35 =>
  some (1, γ35))))))))
  else
  (f_Er_readCalled_b82 γ23 )))
  else
  (bndN (f_Tk_fail γ12 2) fun r37 γ38 =>
  some (r37, γ38)))))
  else
  (bndN (f_Tk_fail γ6 1) fun r40 γ41 =>
  some (r40, γ41))
set_option maxHeartbeats 4000000 in
theorem s_Er_readCalled_b82 {Γ : Ctx} : ∀ (γ : St), SB Γ BS mt_Er_readCalled (RmN 8 283) 0 0 (KN Γ BS mt_Er_readCalled.2.2.2) 82 [(0, vR Γ 6)] [] γ (f_Er_readCalled_b82 γ ) := by
  intro γ
  unfold f_Er_readCalled_b82
  refine sb_aload_n 0 d_Er_readCalled_82 rfl ?_
  refine g_Er_27 d_Er_readCalled_83 ?_
  refine sb_iconst d_Er_readCalled_86 ?_
  refine sb_cVz vf_Tk_fail (c_Tk_fail γ 1 (by decide)) rfl ml_Er_105 (As := [vI 1]) rfl rfl (Nat.le_of_ble_eq_true rfl) ⟨by decide, by decide⟩ d_Er_readCalled_87 (fun r2 γ3 hr2 => ?_)
  exact sn_z rfl hr2 d_Er_readCalled_90
set_option maxHeartbeats 4000000 in
theorem c_Er_readCalled {Γ : Ctx} (γ : St) : NC Γ BS y_Er_readCalled mt_Er_readCalled 8 283 [vR Γ 6] γ (f_Er_readCalled γ) := by
  refine nc_of (by decide) rfl (Nat.le_of_ble_eq_true rfl) ?_
  show SB Γ BS mt_Er_readCalled (RmN 8 283) 0 0 (KN Γ BS mt_Er_readCalled.2.2.2) 0 [(0, vR Γ 6)] [] γ _
  unfold f_Er_readCalled
  refine sb_aload_n 0 d_Er_readCalled_0 rfl ?_
  refine g_Er_27 d_Er_readCalled_1 ?_
  refine sb_cVi vf_Tk_kindNow (c_Tk_kindNow γ  ) rfl ml_Er_101 (As := []) rfl rfl (Nat.le_of_ble_eq_true rfl) ⟨by decide, by decide⟩ d_Er_readCalled_4 (fun r5 γ6 hr5 => ?_)
  refine sb_iconst d_Er_readCalled_7 ?_
  refine sb_icmp_eq 20 hr5 (by decide) d_Er_readCalled_8 (by decide) (fun _ => ?_) (fun _ => ?_)
  · refine sb_aload_n 0 d_Er_readCalled_20 rfl ?_
    refine g_Er_27 d_Er_readCalled_21 ?_
    refine g_Er_83 d_Er_readCalled_24 ?_
    refine g_Er_144 d_Er_readCalled_27 ?_
    refine sb_aload_n 0 d_Er_readCalled_30 rfl ?_
    refine g_Er_27 d_Er_readCalled_31 ?_
    refine sb_cVi vf_Tk_itemNow (c_Tk_itemNow γ6  ) rfl ml_Er_121 (As := []) rfl rfl (Nat.le_of_ble_eq_true rfl) ⟨by decide, by decide⟩ d_Er_readCalled_34 (fun r11 γ12 hr11 => ?_)
    refine al_S_23 d_Er_readCalled_37 (fun _ c13 => ?_)
    refine sb_iconst d_Er_readCalled_38 ?_
    refine sb_isub d_Er_readCalled_39 ?_
    refine sb_chk (fun c14 => ?_)
    refine sb_istore_n [(1, vI ((γ12 23 r11) - 1)), (0, vR Γ 6)] d_Er_readCalled_40 (by decide) rfl ?_
    refine sb_nme (e := (γ12 23 r11) - 1) (fun x15 => [(1, vI x15), (0, vR Γ 6)]) c14 (fun x15 hx15 => ?_)
    refine sb_iload_n 0 d_Er_readCalled_41 rfl ?_
    refine sb_if_ge 54 hx15 d_Er_readCalled_42 (by decide) (fun _ => ?_) (fun _ => ?_)
    · refine sb_aload_n 1 d_Er_readCalled_54 rfl ?_
      refine g_Er_27 d_Er_readCalled_55 ?_
      refine sb_cVv vf_Tk_step (c_Tk_step γ12  ) rfl ml_Er_98 (As := []) rfl rfl (Nat.le_of_ble_eq_true rfl) ⟨by decide, by decide⟩ d_Er_readCalled_58 (fun _ γ18 => ?_)
      refine sb_aload_n 1 d_Er_readCalled_61 rfl ?_
      refine g_Er_27 d_Er_readCalled_62 ?_
      refine sb_cVi vf_Tk_kindNow (c_Tk_kindNow γ18  ) rfl ml_Er_101 (As := []) rfl rfl (Nat.le_of_ble_eq_true rfl) ⟨by decide, by decide⟩ d_Er_readCalled_65 (fun r20 γ21 hr20 => ?_)
      refine sb_iconst d_Er_readCalled_68 ?_
      refine sb_icmp_ne 82 hr20 (by decide) d_Er_readCalled_69 (by decide) (fun _ => ?_) (fun _ => ?_)
      · exact sb_lv [1] rfl (s_Er_readCalled_b82 γ21  )
      · refine sb_aload_n 1 d_Er_readCalled_72 rfl ?_
        refine sb_bipush d_Er_readCalled_73 (by decide) ?_
        refine sb_iconst d_Er_readCalled_75 ?_
        refine sb_cVz vf_Er_push (c_Er_push γ21 43 1 (by decide) (by decide)) rfl ml_Er_134 (As := [vI 43, vI 1]) rfl rfl (Nat.le_of_ble_eq_true rfl) ⟨by decide, by decide⟩ d_Er_readCalled_76 (fun r22 γ23 hr22 => ?_)
        refine sb_if_ne 91 (z2i hr22) d_Er_readCalled_79 (by decide) (fun _ => ?_) (fun _ => ?_)
        · refine sb_aload_n 1 d_Er_readCalled_91 rfl ?_
          refine g_Er_15 d_Er_readCalled_92 ?_
          refine sb_aload_n 1 d_Er_readCalled_95 rfl ?_
          refine g_Er_39 d_Er_readCalled_96 (fun c25 => ?_)
          refine sb_iconst d_Er_readCalled_99 ?_
          refine sb_isub d_Er_readCalled_100 ?_
          refine sb_chk (fun c26 => ?_)
          refine sb_iload_n 0 d_Er_readCalled_101 rfl ?_
          refine as_S_49 hx15 d_Er_readCalled_102 (fun _ => ?_)
          refine sb_aps (fun γ27 => ?_)
          refine sb_aload_n 1 d_Er_readCalled_103 rfl ?_
          refine g_Er_18 d_Er_readCalled_104 ?_
          refine sb_aload_n 1 d_Er_readCalled_107 rfl ?_
          refine g_Er_39 d_Er_readCalled_108 (fun c29 => ?_)
          refine sb_iconst d_Er_readCalled_111 ?_
          refine sb_isub d_Er_readCalled_112 ?_
          refine sb_chk (fun c30 => ?_)
          refine sb_iconst d_Er_readCalled_113 ?_
          refine as_S_50 (by decide) d_Er_readCalled_114 (fun _ => ?_)
          refine sb_aps (fun γ31 => ?_)
          refine sb_aload_n 1 d_Er_readCalled_115 rfl ?_
          refine g_Er_21 d_Er_readCalled_116 ?_
          refine sb_aload_n 1 d_Er_readCalled_119 rfl ?_
          refine g_Er_39 d_Er_readCalled_120 (fun c33 => ?_)
          refine sb_iconst d_Er_readCalled_123 ?_
          refine sb_isub d_Er_readCalled_124 ?_
          refine sb_chk (fun c34 => ?_)
          refine sb_iconst d_Er_readCalled_125 ?_
          refine as_S_51 (by decide) d_Er_readCalled_126 (fun _ => ?_)
          refine sb_aps (fun γ35 => ?_)
          refine sb_iconst d_Er_readCalled_127 ?_
          exact sn_z rfl (by decide) d_Er_readCalled_128
        · exact sb_lv [1] rfl (s_Er_readCalled_b82 γ23  )
    · refine sb_aload_n 1 d_Er_readCalled_45 rfl ?_
      refine g_Er_27 d_Er_readCalled_46 ?_
      refine sb_iconst d_Er_readCalled_49 ?_
      refine sb_cVz vf_Tk_fail (c_Tk_fail γ12 2 (by decide)) rfl ml_Er_105 (As := [vI 2]) rfl rfl (Nat.le_of_ble_eq_true rfl) ⟨by decide, by decide⟩ d_Er_readCalled_50 (fun r37 γ38 hr37 => ?_)
      exact sn_z rfl hr37 d_Er_readCalled_53
  · refine sb_aload_n 0 d_Er_readCalled_11 rfl ?_
    refine g_Er_27 d_Er_readCalled_12 ?_
    refine sb_iconst d_Er_readCalled_15 ?_
    refine sb_cVz vf_Tk_fail (c_Tk_fail γ6 1 (by decide)) rfl ml_Er_105 (As := [vI 1]) rfl rfl (Nat.le_of_ble_eq_true rfl) ⟨by decide, by decide⟩ d_Er_readCalled_16 (fun r40 γ41 hr40 => ?_)
    exact sn_z rfl hr40 d_Er_readCalled_19
theorem d_Cd_add_0 : decode b_Cd_add 0 = .ok (.aload_n 0, 1) := by decide +kernel
theorem d_Cd_add_1 : decode b_Cd_add 1 = .ok (.getfield 10, 3) := by decide +kernel
theorem d_Cd_add_4 : decode b_Cd_add 4 = .ok (.aload_n 0, 1) := by decide +kernel
theorem d_Cd_add_5 : decode b_Cd_add 5 = .ok (.getfield 44, 3) := by decide +kernel
theorem d_Cd_add_8 : decode b_Cd_add 8 = .ok (.iload_n 1, 1) := by decide +kernel
theorem d_Cd_add_9 : decode b_Cd_add 9 = .ok (.iastore, 1) := by decide +kernel
theorem d_Cd_add_10 : decode b_Cd_add 10 = .ok (.aload_n 0, 1) := by decide +kernel
theorem d_Cd_add_11 : decode b_Cd_add 11 = .ok (.getfield 16, 3) := by decide +kernel
theorem d_Cd_add_14 : decode b_Cd_add 14 = .ok (.aload_n 0, 1) := by decide +kernel
theorem d_Cd_add_15 : decode b_Cd_add 15 = .ok (.getfield 44, 3) := by decide +kernel
theorem d_Cd_add_18 : decode b_Cd_add 18 = .ok (.iload_n 2, 1) := by decide +kernel
theorem d_Cd_add_19 : decode b_Cd_add 19 = .ok (.iastore, 1) := by decide +kernel
theorem d_Cd_add_20 : decode b_Cd_add 20 = .ok (.aload_n 0, 1) := by decide +kernel
theorem d_Cd_add_21 : decode b_Cd_add 21 = .ok (.getfield 19, 3) := by decide +kernel
theorem d_Cd_add_24 : decode b_Cd_add 24 = .ok (.aload_n 0, 1) := by decide +kernel
theorem d_Cd_add_25 : decode b_Cd_add 25 = .ok (.getfield 44, 3) := by decide +kernel
theorem d_Cd_add_28 : decode b_Cd_add 28 = .ok (.iload_n 3, 1) := by decide +kernel
theorem d_Cd_add_29 : decode b_Cd_add 29 = .ok (.iastore, 1) := by decide +kernel
theorem d_Cd_add_30 : decode b_Cd_add 30 = .ok (.aload_n 0, 1) := by decide +kernel
theorem d_Cd_add_31 : decode b_Cd_add 31 = .ok (.getfield 22, 3) := by decide +kernel
theorem d_Cd_add_34 : decode b_Cd_add 34 = .ok (.aload_n 0, 1) := by decide +kernel
theorem d_Cd_add_35 : decode b_Cd_add 35 = .ok (.getfield 44, 3) := by decide +kernel
theorem d_Cd_add_38 : decode b_Cd_add 38 = .ok (.bipush (-2), 2) := by decide +kernel
theorem d_Cd_add_40 : decode b_Cd_add 40 = .ok (.iastore, 1) := by decide +kernel
theorem d_Cd_add_41 : decode b_Cd_add 41 = .ok (.aload_n 0, 1) := by decide +kernel
theorem d_Cd_add_42 : decode b_Cd_add 42 = .ok (.dup, 1) := by decide +kernel
theorem d_Cd_add_43 : decode b_Cd_add 43 = .ok (.getfield 44, 3) := by decide +kernel
theorem d_Cd_add_46 : decode b_Cd_add 46 = .ok (.iconst 1, 1) := by decide +kernel
theorem d_Cd_add_47 : decode b_Cd_add 47 = .ok (.iadd, 1) := by decide +kernel
theorem d_Cd_add_48 : decode b_Cd_add 48 = .ok (.putfield 44, 3) := by decide +kernel
theorem d_Cd_add_51 : decode b_Cd_add 51 = .ok (.return_, 1) := by decide +kernel
abbrev mt_Cd_add : MT := (R_Cd, b_Cd_add, 4, none)
theorem vf_Cd_add : VF y_Cd_add mt_Cd_add 2 3 := ⟨im_Cd_add, se_Cd_add, in_Cd, co_Cd_add, by decide +kernel, _, _, rfl⟩
def f_Cd_add (γ : St) (a0 : Int) (a1 : Int) (a2 : Int) : Option (Int × St) :=
  chk (inb (γ 4 4) 65537) (ap (setA γ 38 (γ 4 4) a0) fun γ3 =>
  chk (inb (γ3 4 4) 65537) (ap (setA γ3 39 (γ3 4 4) a1) fun γ6 =>
  chk (inb (γ6 4 4) 65537) (ap (setA γ6 40 (γ6 4 4) a2) fun γ9 =>
  chk (inb (γ9 4 4) 65537) (ap (setA γ9 41 (γ9 4 4) (-2)) fun γ12 =>
  chk (i32 ((γ12 4 4) + 1)) (ap (setA γ12 4 4 ((γ12 4 4) + 1)) fun γ15 =>
  some (0, γ15))))))
set_option maxHeartbeats 4000000 in
theorem c_Cd_add {Γ : Ctx} (γ : St) (a0 : Int) (a1 : Int) (a2 : Int) (ha0 : i32 a0) (ha1 : i32 a1) (ha2 : i32 a2) : NC Γ BS y_Cd_add mt_Cd_add 6 240 [vR Γ 4, vI a0, vI a1, vI a2] γ (f_Cd_add γ a0 a1 a2) := by
  refine nc_of (by decide) rfl (Nat.le_of_ble_eq_true rfl) ?_
  show SB Γ BS mt_Cd_add (RmN 6 240) 0 0 (KN Γ BS mt_Cd_add.2.2.2) 0 [(0, vR Γ 4), (1, vI a0), (2, vI a1), (3, vI a2)] [] γ _
  unfold f_Cd_add
  refine sb_aload_n 0 d_Cd_add_0 rfl ?_
  refine g_Cd_10 d_Cd_add_1 ?_
  refine sb_aload_n 0 d_Cd_add_4 rfl ?_
  refine g_Cd_44 d_Cd_add_5 (fun c2 => ?_)
  refine sb_iload_n 1 d_Cd_add_8 rfl ?_
  refine as_S_38 ha0 d_Cd_add_9 (fun _ => ?_)
  refine sb_aps (fun γ3 => ?_)
  refine sb_aload_n 0 d_Cd_add_10 rfl ?_
  refine g_Cd_16 d_Cd_add_11 ?_
  refine sb_aload_n 0 d_Cd_add_14 rfl ?_
  refine g_Cd_44 d_Cd_add_15 (fun c5 => ?_)
  refine sb_iload_n 2 d_Cd_add_18 rfl ?_
  refine as_S_39 ha1 d_Cd_add_19 (fun _ => ?_)
  refine sb_aps (fun γ6 => ?_)
  refine sb_aload_n 0 d_Cd_add_20 rfl ?_
  refine g_Cd_19 d_Cd_add_21 ?_
  refine sb_aload_n 0 d_Cd_add_24 rfl ?_
  refine g_Cd_44 d_Cd_add_25 (fun c8 => ?_)
  refine sb_iload_n 3 d_Cd_add_28 rfl ?_
  refine as_S_40 ha2 d_Cd_add_29 (fun _ => ?_)
  refine sb_aps (fun γ9 => ?_)
  refine sb_aload_n 0 d_Cd_add_30 rfl ?_
  refine g_Cd_22 d_Cd_add_31 ?_
  refine sb_aload_n 0 d_Cd_add_34 rfl ?_
  refine g_Cd_44 d_Cd_add_35 (fun c11 => ?_)
  refine sb_bipush d_Cd_add_38 (by decide) ?_
  refine as_S_41 (by decide) d_Cd_add_40 (fun _ => ?_)
  refine sb_aps (fun γ12 => ?_)
  refine sb_aload_n 0 d_Cd_add_41 rfl ?_
  refine sb_dup d_Cd_add_42 rfl ?_
  refine g_Cd_44 d_Cd_add_43 (fun c13 => ?_)
  refine sb_iconst d_Cd_add_46 ?_
  refine sb_iadd d_Cd_add_47 ?_
  refine sb_chk (fun c14 => ?_)
  refine p_Cd_44 c14 d_Cd_add_48 ?_
  refine sb_aps (fun γ15 => ?_)
  exact sn_v rfl d_Cd_add_51
theorem d_Er_takeAtom_0 : decode b_Er_takeAtom 0 = .ok (.aload_n 0, 1) := by decide +kernel
theorem d_Er_takeAtom_1 : decode b_Er_takeAtom 1 = .ok (.getfield 43, 3) := by decide +kernel
theorem d_Er_takeAtom_4 : decode b_Er_takeAtom 4 = .ok (.sipush 512, 3) := by decide +kernel
theorem d_Er_takeAtom_7 : decode b_Er_takeAtom 7 = .ok (.if_icmp .lt 12, 3) := by decide +kernel
theorem d_Er_takeAtom_10 : decode b_Er_takeAtom 10 = .ok (.aload_n 0, 1) := by decide +kernel
theorem d_Er_takeAtom_11 : decode b_Er_takeAtom 11 = .ok (.getfield 27, 3) := by decide +kernel
theorem d_Er_takeAtom_14 : decode b_Er_takeAtom 14 = .ok (.iconst 3, 1) := by decide +kernel
theorem d_Er_takeAtom_15 : decode b_Er_takeAtom 15 = .ok (.invokevirtual 105, 3) := by decide +kernel
theorem d_Er_takeAtom_18 : decode b_Er_takeAtom 18 = .ok (.ireturn, 1) := by decide +kernel
theorem d_Er_takeAtom_19 : decode b_Er_takeAtom 19 = .ok (.aload_n 0, 1) := by decide +kernel
theorem d_Er_takeAtom_20 : decode b_Er_takeAtom 20 = .ok (.getfield 35, 3) := by decide +kernel
theorem d_Er_takeAtom_23 : decode b_Er_takeAtom 23 = .ok (.iload_n 1, 1) := by decide +kernel
theorem d_Er_takeAtom_24 : decode b_Er_takeAtom 24 = .ok (.iload_n 2, 1) := by decide +kernel
theorem d_Er_takeAtom_25 : decode b_Er_takeAtom 25 = .ok (.iconst 0, 1) := by decide +kernel
theorem d_Er_takeAtom_26 : decode b_Er_takeAtom 26 = .ok (.invokevirtual 138, 3) := by decide +kernel
theorem d_Er_takeAtom_29 : decode b_Er_takeAtom 29 = .ok (.aload_n 0, 1) := by decide +kernel
theorem d_Er_takeAtom_30 : decode b_Er_takeAtom 30 = .ok (.getfield 24, 3) := by decide +kernel
theorem d_Er_takeAtom_33 : decode b_Er_takeAtom 33 = .ok (.aload_n 0, 1) := by decide +kernel
theorem d_Er_takeAtom_34 : decode b_Er_takeAtom 34 = .ok (.getfield 43, 3) := by decide +kernel
theorem d_Er_takeAtom_37 : decode b_Er_takeAtom 37 = .ok (.iconst 1, 1) := by decide +kernel
theorem d_Er_takeAtom_38 : decode b_Er_takeAtom 38 = .ok (.iastore, 1) := by decide +kernel
theorem d_Er_takeAtom_39 : decode b_Er_takeAtom 39 = .ok (.aload_n 0, 1) := by decide +kernel
theorem d_Er_takeAtom_40 : decode b_Er_takeAtom 40 = .ok (.dup, 1) := by decide +kernel
theorem d_Er_takeAtom_41 : decode b_Er_takeAtom 41 = .ok (.getfield 43, 3) := by decide +kernel
theorem d_Er_takeAtom_44 : decode b_Er_takeAtom 44 = .ok (.iconst 1, 1) := by decide +kernel
theorem d_Er_takeAtom_45 : decode b_Er_takeAtom 45 = .ok (.iadd, 1) := by decide +kernel
theorem d_Er_takeAtom_46 : decode b_Er_takeAtom 46 = .ok (.putfield 43, 3) := by decide +kernel
theorem d_Er_takeAtom_49 : decode b_Er_takeAtom 49 = .ok (.aload_n 0, 1) := by decide +kernel
theorem d_Er_takeAtom_50 : decode b_Er_takeAtom 50 = .ok (.iconst 0, 1) := by decide +kernel
theorem d_Er_takeAtom_51 : decode b_Er_takeAtom 51 = .ok (.putfield 53, 3) := by decide +kernel
theorem d_Er_takeAtom_54 : decode b_Er_takeAtom 54 = .ok (.aload_n 0, 1) := by decide +kernel
theorem d_Er_takeAtom_55 : decode b_Er_takeAtom 55 = .ok (.getfield 27, 3) := by decide +kernel
theorem d_Er_takeAtom_58 : decode b_Er_takeAtom 58 = .ok (.invokevirtual 98, 3) := by decide +kernel
theorem d_Er_takeAtom_61 : decode b_Er_takeAtom 61 = .ok (.iconst 1, 1) := by decide +kernel
theorem d_Er_takeAtom_62 : decode b_Er_takeAtom 62 = .ok (.ireturn, 1) := by decide +kernel
abbrev mt_Er_takeAtom : MT := (R_Er, b_Er_takeAtom, 3, some .boolean)
theorem vf_Er_takeAtom : VF y_Er_takeAtom mt_Er_takeAtom 3 2 := ⟨im_Er_takeAtom, se_Er_takeAtom, in_Er, co_Er_takeAtom, by decide +kernel, _, _, rfl⟩
def f_Er_takeAtom (γ : St) (a0 : Int) (a1 : Int) : Option (Int × St) :=
  if (γ 6 9) < 512 then
  (bndN (f_Cd_add γ a0 a1 0) fun _ γ4 =>
  chk (inb (γ4 6 9) 512) (ap (setA γ4 52 (γ4 6 9) 1) fun γ7 =>
  chk (i32 ((γ7 6 9) + 1)) (ap (setA γ7 6 9 ((γ7 6 9) + 1)) fun γ10 =>
  ap (setA γ10 6 12 0) fun γ11 =>
  bndN (f_Tk_step γ11) fun _ γ14 =>
  some (1, γ14))))
  else
  (bndN (f_Tk_fail γ 3) fun r16 γ17 =>
  some (r16, γ17))
set_option maxHeartbeats 4000000 in
theorem c_Er_takeAtom {Γ : Ctx} (γ : St) (a0 : Int) (a1 : Int) (ha0 : i32 a0) (ha1 : i32 a1) : NC Γ BS y_Er_takeAtom mt_Er_takeAtom 7 263 [vR Γ 6, vI a0, vI a1] γ (f_Er_takeAtom γ a0 a1) := by
  refine nc_of (by decide) rfl (Nat.le_of_ble_eq_true rfl) ?_
  show SB Γ BS mt_Er_takeAtom (RmN 7 263) 0 0 (KN Γ BS mt_Er_takeAtom.2.2.2) 0 [(0, vR Γ 6), (1, vI a0), (2, vI a1)] [] γ _
  unfold f_Er_takeAtom
  refine sb_aload_n 0 d_Er_takeAtom_0 rfl ?_
  refine g_Er_43 d_Er_takeAtom_1 (fun c1 => ?_)
  refine sb_sipush d_Er_takeAtom_4 (by decide) ?_
  refine sb_icmp_lt 19 c1 (by decide) d_Er_takeAtom_7 (by decide) (fun _ => ?_) (fun _ => ?_)
  · refine sb_aload_n 0 d_Er_takeAtom_19 rfl ?_
    refine g_Er_35 d_Er_takeAtom_20 ?_
    refine sb_iload_n 1 d_Er_takeAtom_23 rfl ?_
    refine sb_iload_n 2 d_Er_takeAtom_24 rfl ?_
    refine sb_iconst d_Er_takeAtom_25 ?_
    refine sb_cVv vf_Cd_add (c_Cd_add γ a0 a1 0 ha0 ha1 (by decide)) rfl ml_Er_138 (As := [vI a0, vI a1, vI 0]) rfl rfl (Nat.le_of_ble_eq_true rfl) ⟨by decide, by decide⟩ d_Er_takeAtom_26 (fun _ γ4 => ?_)
    refine sb_aload_n 0 d_Er_takeAtom_29 rfl ?_
    refine g_Er_24 d_Er_takeAtom_30 ?_
    refine sb_aload_n 0 d_Er_takeAtom_33 rfl ?_
    refine g_Er_43 d_Er_takeAtom_34 (fun c6 => ?_)
    refine sb_iconst d_Er_takeAtom_37 ?_
    refine as_S_52 (by decide) d_Er_takeAtom_38 (fun _ => ?_)
    refine sb_aps (fun γ7 => ?_)
    refine sb_aload_n 0 d_Er_takeAtom_39 rfl ?_
    refine sb_dup d_Er_takeAtom_40 rfl ?_
    refine g_Er_43 d_Er_takeAtom_41 (fun c8 => ?_)
    refine sb_iconst d_Er_takeAtom_44 ?_
    refine sb_iadd d_Er_takeAtom_45 ?_
    refine sb_chk (fun c9 => ?_)
    refine p_Er_43 c9 d_Er_takeAtom_46 ?_
    refine sb_aps (fun γ10 => ?_)
    refine sb_aload_n 0 d_Er_takeAtom_49 rfl ?_
    refine sb_iconst d_Er_takeAtom_50 ?_
    refine p_Er_53 (by decide) d_Er_takeAtom_51 ?_
    refine sb_aps (fun γ11 => ?_)
    refine sb_aload_n 0 d_Er_takeAtom_54 rfl ?_
    refine g_Er_27 d_Er_takeAtom_55 ?_
    refine sb_cVv vf_Tk_step (c_Tk_step γ11  ) rfl ml_Er_98 (As := []) rfl rfl (Nat.le_of_ble_eq_true rfl) ⟨by decide, by decide⟩ d_Er_takeAtom_58 (fun _ γ14 => ?_)
    refine sb_iconst d_Er_takeAtom_61 ?_
    exact sn_z rfl (by decide) d_Er_takeAtom_62
  · refine sb_aload_n 0 d_Er_takeAtom_10 rfl ?_
    refine g_Er_27 d_Er_takeAtom_11 ?_
    refine sb_iconst d_Er_takeAtom_14 ?_
    refine sb_cVz vf_Tk_fail (c_Tk_fail γ 3 (by decide)) rfl ml_Er_105 (As := [vI 3]) rfl rfl (Nat.le_of_ble_eq_true rfl) ⟨by decide, by decide⟩ d_Er_takeAtom_15 (fun r16 γ17 hr16 => ?_)
    exact sn_z rfl hr16 d_Er_takeAtom_18
theorem d_Er_readVariable_0 : decode b_Er_readVariable 0 = .ok (.aload_n 0, 1) := by decide +kernel
theorem d_Er_readVariable_1 : decode b_Er_readVariable 1 = .ok (.invokevirtual 109, 3) := by decide +kernel
theorem d_Er_readVariable_4 : decode b_Er_readVariable 4 = .ok (.istore_n 1, 1) := by decide +kernel
theorem d_Er_readVariable_5 : decode b_Er_readVariable 5 = .ok (.iload_n 1, 1) := by decide +kernel
theorem d_Er_readVariable_6 : decode b_Er_readVariable 6 = .ok (.ifCond .ge 14, 3) := by decide +kernel
theorem d_Er_readVariable_9 : decode b_Er_readVariable 9 = .ok (.aload_n 0, 1) := by decide +kernel
theorem d_Er_readVariable_10 : decode b_Er_readVariable 10 = .ok (.getfield 27, 3) := by decide +kernel
theorem d_Er_readVariable_13 : decode b_Er_readVariable 13 = .ok (.iconst 2, 1) := by decide +kernel
theorem d_Er_readVariable_14 : decode b_Er_readVariable 14 = .ok (.invokevirtual 105, 3) := by decide +kernel
theorem d_Er_readVariable_17 : decode b_Er_readVariable 17 = .ok (.goto 9, 3) := by decide +kernel
theorem d_Er_readVariable_20 : decode b_Er_readVariable 20 = .ok (.aload_n 0, 1) := by decide +kernel
theorem d_Er_readVariable_21 : decode b_Er_readVariable 21 = .ok (.iconst 2, 1) := by decide +kernel
theorem d_Er_readVariable_22 : decode b_Er_readVariable 22 = .ok (.iload_n 1, 1) := by decide +kernel
theorem d_Er_readVariable_23 : decode b_Er_readVariable 23 = .ok (.invokevirtual 124, 3) := by decide +kernel
theorem d_Er_readVariable_26 : decode b_Er_readVariable 26 = .ok (.ireturn, 1) := by decide +kernel
abbrev mt_Er_readVariable : MT := (R_Er, b_Er_readVariable, 2, some .boolean)
theorem vf_Er_readVariable : VF y_Er_readVariable mt_Er_readVariable 3 0 := ⟨im_Er_readVariable, se_Er_readVariable, in_Er, co_Er_readVariable, by decide +kernel, _, _, rfl⟩
def f_Er_readVariable (γ : St) : Option (Int × St) :=
  bndN (f_Er_variableNow γ) fun r1 γ2 =>
  if 0 ≤ r1 then
  (bndN (f_Er_takeAtom γ2 2 r1) fun r3 γ4 =>
  some (r3, γ4))
  else
  (bndN (f_Tk_fail γ2 2) fun r6 γ7 =>
  some (r6, γ7))
set_option maxHeartbeats 4000000 in
theorem c_Er_readVariable {Γ : Ctx} (γ : St) : NC Γ BS y_Er_readVariable mt_Er_readVariable 8 285 [vR Γ 6] γ (f_Er_readVariable γ) := by
  refine nc_of (by decide) rfl (Nat.le_of_ble_eq_true rfl) ?_
  show SB Γ BS mt_Er_readVariable (RmN 8 285) 0 0 (KN Γ BS mt_Er_readVariable.2.2.2) 0 [(0, vR Γ 6)] [] γ _
  unfold f_Er_readVariable
  refine sb_aload_n 0 d_Er_readVariable_0 rfl ?_
  refine sb_cVi vf_Er_variableNow (c_Er_variableNow γ  ) rfl ml_Er_109 (As := []) rfl rfl (Nat.le_of_ble_eq_true rfl) ⟨by decide, by decide⟩ d_Er_readVariable_1 (fun r1 γ2 hr1 => ?_)
  refine sb_istore_n [(1, vI r1), (0, vR Γ 6)] d_Er_readVariable_4 (by decide) rfl ?_
  refine sb_iload_n 0 d_Er_readVariable_5 rfl ?_
  refine sb_if_ge 20 hr1 d_Er_readVariable_6 (by decide) (fun _ => ?_) (fun _ => ?_)
  · refine sb_aload_n 1 d_Er_readVariable_20 rfl ?_
    refine sb_iconst d_Er_readVariable_21 ?_
    refine sb_iload_n 0 d_Er_readVariable_22 rfl ?_
    refine sb_cVz vf_Er_takeAtom (c_Er_takeAtom γ2 2 r1 (by decide) hr1) rfl ml_Er_124 (As := [vI 2, vI r1]) rfl rfl (Nat.le_of_ble_eq_true rfl) ⟨by decide, by decide⟩ d_Er_readVariable_23 (fun r3 γ4 hr3 => ?_)
    exact sn_z rfl hr3 d_Er_readVariable_26
  · refine sb_aload_n 1 d_Er_readVariable_9 rfl ?_
    refine g_Er_27 d_Er_readVariable_10 ?_
    refine sb_iconst d_Er_readVariable_13 ?_
    refine sb_cVz vf_Tk_fail (c_Tk_fail γ2 2 (by decide)) rfl ml_Er_105 (As := [vI 2]) rfl rfl (Nat.le_of_ble_eq_true rfl) ⟨by decide, by decide⟩ d_Er_readVariable_14 (fun r6 γ7 hr6 => ?_)
    refine sb_goto 26 d_Er_readVariable_17 (by decide) ?_
    exact sn_z rfl hr6 d_Er_readVariable_26
theorem d_Er_readOperand_0 : decode b_Er_readOperand 0 = .ok (.aload_n 0, 1) := by decide +kernel
theorem d_Er_readOperand_1 : decode b_Er_readOperand 1 = .ok (.getfield 46, 3) := by decide +kernel
theorem d_Er_readOperand_4 : decode b_Er_readOperand 4 = .ok (.bipush 40, 2) := by decide +kernel
theorem d_Er_readOperand_6 : decode b_Er_readOperand 6 = .ok (.if_icmp .le 12, 3) := by decide +kernel
theorem d_Er_readOperand_9 : decode b_Er_readOperand 9 = .ok (.aload_n 0, 1) := by decide +kernel
theorem d_Er_readOperand_10 : decode b_Er_readOperand 10 = .ok (.getfield 27, 3) := by decide +kernel
theorem d_Er_readOperand_13 : decode b_Er_readOperand 13 = .ok (.iconst 3, 1) := by decide +kernel
theorem d_Er_readOperand_14 : decode b_Er_readOperand 14 = .ok (.invokevirtual 105, 3) := by decide +kernel
theorem d_Er_readOperand_17 : decode b_Er_readOperand 17 = .ok (.ireturn, 1) := by decide +kernel
theorem d_Er_readOperand_18 : decode b_Er_readOperand 18 = .ok (.aload_n 0, 1) := by decide +kernel
theorem d_Er_readOperand_19 : decode b_Er_readOperand 19 = .ok (.getfield 27, 3) := by decide +kernel
theorem d_Er_readOperand_22 : decode b_Er_readOperand 22 = .ok (.invokevirtual 101, 3) := by decide +kernel
theorem d_Er_readOperand_25 : decode b_Er_readOperand 25 = .ok (.istore_n 1, 1) := by decide +kernel
theorem d_Er_readOperand_26 : decode b_Er_readOperand 26 = .ok (.iload_n 1, 1) := by decide +kernel
theorem d_Er_readOperand_27 : decode b_Er_readOperand 27 = .ok (.tableswitch 273 2 41 #[202, 173, 240, 273, 273, 273, 273, 273, 273, 273, 273, 273, 273, 273, 225, 273, 273, 273, 273, 273, 273, 273, 273, 273, 273, 273, 233, 273, 273, 273, 247, 273, 273, 233, 233, 273, 273, 273, 186, 194], 173) := by decide +kernel
theorem d_Er_readOperand_200 : decode b_Er_readOperand 200 = .ok (.aload_n 0, 1) := by decide +kernel
theorem d_Er_readOperand_201 : decode b_Er_readOperand 201 = .ok (.iconst 3, 1) := by decide +kernel
theorem d_Er_readOperand_202 : decode b_Er_readOperand 202 = .ok (.aload_n 0, 1) := by decide +kernel
theorem d_Er_readOperand_203 : decode b_Er_readOperand 203 = .ok (.getfield 27, 3) := by decide +kernel
theorem d_Er_readOperand_206 : decode b_Er_readOperand 206 = .ok (.invokevirtual 121, 3) := by decide +kernel
theorem d_Er_readOperand_209 : decode b_Er_readOperand 209 = .ok (.invokevirtual 124, 3) := by decide +kernel
theorem d_Er_readOperand_212 : decode b_Er_readOperand 212 = .ok (.ireturn, 1) := by decide +kernel
theorem d_Er_readOperand_213 : decode b_Er_readOperand 213 = .ok (.aload_n 0, 1) := by decide +kernel
theorem d_Er_readOperand_214 : decode b_Er_readOperand 214 = .ok (.bipush 40, 2) := by decide +kernel
theorem d_Er_readOperand_216 : decode b_Er_readOperand 216 = .ok (.iconst 1, 1) := by decide +kernel
theorem d_Er_readOperand_217 : decode b_Er_readOperand 217 = .ok (.invokevirtual 124, 3) := by decide +kernel
theorem d_Er_readOperand_220 : decode b_Er_readOperand 220 = .ok (.ireturn, 1) := by decide +kernel
theorem d_Er_readOperand_221 : decode b_Er_readOperand 221 = .ok (.aload_n 0, 1) := by decide +kernel
theorem d_Er_readOperand_222 : decode b_Er_readOperand 222 = .ok (.bipush 41, 2) := by decide +kernel
theorem d_Er_readOperand_224 : decode b_Er_readOperand 224 = .ok (.iconst 0, 1) := by decide +kernel
theorem d_Er_readOperand_225 : decode b_Er_readOperand 225 = .ok (.invokevirtual 124, 3) := by decide +kernel
theorem d_Er_readOperand_228 : decode b_Er_readOperand 228 = .ok (.ireturn, 1) := by decide +kernel
theorem d_Er_readOperand_229 : decode b_Er_readOperand 229 = .ok (.aload_n 0, 1) := by decide +kernel
theorem d_Er_readOperand_230 : decode b_Er_readOperand 230 = .ok (.getfield 27, 3) := by decide +kernel
theorem d_Er_readOperand_233 : decode b_Er_readOperand 233 = .ok (.invokevirtual 128, 3) := by decide +kernel
theorem d_Er_readOperand_236 : decode b_Er_readOperand 236 = .ok (.iconst 4, 1) := by decide +kernel
theorem d_Er_readOperand_237 : decode b_Er_readOperand 237 = .ok (.if_icmp .ne 10, 3) := by decide +kernel
theorem d_Er_readOperand_240 : decode b_Er_readOperand 240 = .ok (.aload_n 0, 1) := by decide +kernel
theorem d_Er_readOperand_241 : decode b_Er_readOperand 241 = .ok (.invokevirtual 62, 3) := by decide +kernel
theorem d_Er_readOperand_244 : decode b_Er_readOperand 244 = .ok (.goto 7, 3) := by decide +kernel
theorem d_Er_readOperand_247 : decode b_Er_readOperand 247 = .ok (.aload_n 0, 1) := by decide +kernel
theorem d_Er_readOperand_248 : decode b_Er_readOperand 248 = .ok (.invokevirtual 131, 3) := by decide +kernel
theorem d_Er_readOperand_251 : decode b_Er_readOperand 251 = .ok (.ireturn, 1) := by decide +kernel
theorem d_Er_readOperand_252 : decode b_Er_readOperand 252 = .ok (.aload_n 0, 1) := by decide +kernel
theorem d_Er_readOperand_253 : decode b_Er_readOperand 253 = .ok (.bipush 42, 2) := by decide +kernel
theorem d_Er_readOperand_255 : decode b_Er_readOperand 255 = .ok (.iconst 0, 1) := by decide +kernel
theorem d_Er_readOperand_256 : decode b_Er_readOperand 256 = .ok (.invokevirtual 134, 3) := by decide +kernel
theorem d_Er_readOperand_259 : decode b_Er_readOperand 259 = .ok (.ireturn, 1) := by decide +kernel
theorem d_Er_readOperand_260 : decode b_Er_readOperand 260 = .ok (.aload_n 0, 1) := by decide +kernel
theorem d_Er_readOperand_261 : decode b_Er_readOperand 261 = .ok (.iload_n 1, 1) := by decide +kernel
theorem d_Er_readOperand_262 : decode b_Er_readOperand 262 = .ok (.iconst 0, 1) := by decide +kernel
theorem d_Er_readOperand_263 : decode b_Er_readOperand 263 = .ok (.invokevirtual 134, 3) := by decide +kernel
theorem d_Er_readOperand_266 : decode b_Er_readOperand 266 = .ok (.ireturn, 1) := by decide +kernel
theorem d_Er_readOperand_267 : decode b_Er_readOperand 267 = .ok (.aload_n 0, 1) := by decide +kernel
theorem d_Er_readOperand_268 : decode b_Er_readOperand 268 = .ok (.iconst 4, 1) := by decide +kernel
theorem d_Er_readOperand_269 : decode b_Er_readOperand 269 = .ok (.iconst 1, 1) := by decide +kernel
theorem d_Er_readOperand_270 : decode b_Er_readOperand 270 = .ok (.invokevirtual 134, 3) := by decide +kernel
theorem d_Er_readOperand_273 : decode b_Er_readOperand 273 = .ok (.ireturn, 1) := by decide +kernel
theorem d_Er_readOperand_274 : decode b_Er_readOperand 274 = .ok (.aload_n 0, 1) := by decide +kernel
theorem d_Er_readOperand_275 : decode b_Er_readOperand 275 = .ok (.getfield 56, 3) := by decide +kernel
theorem d_Er_readOperand_278 : decode b_Er_readOperand 278 = .ok (.ifCond .eq 13, 3) := by decide +kernel
theorem d_Er_readOperand_281 : decode b_Er_readOperand 281 = .ok (.aload_n 0, 1) := by decide +kernel
theorem d_Er_readOperand_282 : decode b_Er_readOperand 282 = .ok (.bipush 32, 2) := by decide +kernel
theorem d_Er_readOperand_284 : decode b_Er_readOperand 284 = .ok (.iconst 1, 1) := by decide +kernel
theorem d_Er_readOperand_285 : decode b_Er_readOperand 285 = .ok (.invokevirtual 134, 3) := by decide +kernel
theorem d_Er_readOperand_288 : decode b_Er_readOperand 288 = .ok (.goto 11, 3) := by decide +kernel
theorem d_Er_readOperand_291 : decode b_Er_readOperand 291 = .ok (.aload_n 0, 1) := by decide +kernel
theorem d_Er_readOperand_292 : decode b_Er_readOperand 292 = .ok (.getfield 27, 3) := by decide +kernel
theorem d_Er_readOperand_295 : decode b_Er_readOperand 295 = .ok (.iconst 1, 1) := by decide +kernel
theorem d_Er_readOperand_296 : decode b_Er_readOperand 296 = .ok (.invokevirtual 105, 3) := by decide +kernel
theorem d_Er_readOperand_299 : decode b_Er_readOperand 299 = .ok (.ireturn, 1) := by decide +kernel
theorem d_Er_readOperand_300 : decode b_Er_readOperand 300 = .ok (.aload_n 0, 1) := by decide +kernel
theorem d_Er_readOperand_301 : decode b_Er_readOperand 301 = .ok (.getfield 27, 3) := by decide +kernel
theorem d_Er_readOperand_304 : decode b_Er_readOperand 304 = .ok (.iconst 1, 1) := by decide +kernel
theorem d_Er_readOperand_305 : decode b_Er_readOperand 305 = .ok (.invokevirtual 105, 3) := by decide +kernel
theorem d_Er_readOperand_308 : decode b_Er_readOperand 308 = .ok (.ireturn, 1) := by decide +kernel
abbrev mt_Er_readOperand : MT := (R_Er, b_Er_readOperand, 2, some .boolean)
theorem vf_Er_readOperand : VF y_Er_readOperand mt_Er_readOperand 3 0 := ⟨im_Er_readOperand, se_Er_readOperand, in_Er, co_Er_readOperand, by decide +kernel, _, _, rfl⟩
def f_Er_readOperand (γ : St) : Option (Int × St) :=
  if (γ 6 10) ≤ 40 then
  (bndN (f_Tk_kindNow γ) fun r3 γ4 =>
  if r3 = 2 then
  (bndN (f_Tk_kindNext γ4) fun r6 γ7 =>
  if r6 ≠ 4 then
  (bndN (f_Er_readVariable γ7) fun r8 γ9 =>
  some (r8, γ9))
  else
  (bndN (f_Er_readCalled γ7) fun r10 γ11 =>
  some (r10, γ11)))
  else if r3 = 3 then
  (bndN (f_Tk_itemNow γ4) fun r14 γ15 =>
  bndN (f_Er_takeAtom γ15 3 r14) fun r16 γ17 =>
  some (r16, γ17))
  else if r3 = 4 then
  (bndN (f_Er_push γ4 4 1) fun r19 γ20 =>
  some (r19, γ20))
  else if r3 = 16 then
  (bndN (f_Er_push γ4 42 0) fun r22 γ23 =>
  some (r22, γ23))
  else if r3 = 28 then
  (bndN (f_Er_push γ4 r3 0) fun r25 γ26 =>
  some (r25, γ26))
  else if r3 = 32 then
  (if (γ4 6 13) = 0 then
  (bndN (f_Tk_fail γ4 1) fun r30 γ31 =>
  some (r30, γ31))
  else
  (bndN (f_Er_push γ4 32 1) fun r32 γ33 =>
  some (r32, γ33)))
  else if r3 = 35 then
  (bndN (f_Er_push γ4 r3 0) fun r35 γ36 =>
  some (r35, γ36))
  else if r3 = 36 then
  (bndN (f_Er_push γ4 r3 0) fun r38 γ39 =>
  some (r38, γ39))
  else if r3 = 40 then
  (bndN (f_Er_takeAtom γ4 40 1) fun r41 γ42 =>
  some (r41, γ42))
  else if r3 = 41 then
  (bndN (f_Er_takeAtom γ4 41 0) fun r44 γ45 =>
  some (r44, γ45))
  else (bndN (f_Tk_fail γ4 1) fun r48 γ49 =>
  some (r48, γ49)))
  else
  (bndN (f_Tk_fail γ 3) fun r81 γ82 =>
  some (r81, γ82))
set_option maxHeartbeats 4000000 in
theorem c_Er_readOperand {Γ : Ctx} (γ : St) : NC Γ BS y_Er_readOperand mt_Er_readOperand 9 306 [vR Γ 6] γ (f_Er_readOperand γ) := by
  refine nc_of (by decide) rfl (Nat.le_of_ble_eq_true rfl) ?_
  show SB Γ BS mt_Er_readOperand (RmN 9 306) 0 0 (KN Γ BS mt_Er_readOperand.2.2.2) 0 [(0, vR Γ 6)] [] γ _
  unfold f_Er_readOperand
  refine sb_aload_n 0 d_Er_readOperand_0 rfl ?_
  refine g_Er_46 d_Er_readOperand_1 (fun c1 => ?_)
  refine sb_bipush d_Er_readOperand_4 (by decide) ?_
  refine sb_icmp_le 18 c1 (by decide) d_Er_readOperand_6 (by decide) (fun _ => ?_) (fun _ => ?_)
  · refine sb_aload_n 0 d_Er_readOperand_18 rfl ?_
    refine g_Er_27 d_Er_readOperand_19 ?_
    refine sb_cVi vf_Tk_kindNow (c_Tk_kindNow γ  ) rfl ml_Er_101 (As := []) rfl rfl (Nat.le_of_ble_eq_true rfl) ⟨by decide, by decide⟩ d_Er_readOperand_22 (fun r3 γ4 hr3 => ?_)
    refine sb_istore_n [(1, vI r3), (0, vR Γ 6)] d_Er_readOperand_25 (by decide) rfl ?_
    refine sb_iload_n 0 d_Er_readOperand_26 rfl ?_
    refine sb_tc (off := 202) 2 229 hr3 d_Er_readOperand_27 (by decide) (by decide) (fun _ => ?_) (fun n12 => ?_)
    · refine sb_aload_n 1 d_Er_readOperand_229 rfl ?_
      refine g_Er_27 d_Er_readOperand_230 ?_
      refine sb_cVi vf_Tk_kindNext (c_Tk_kindNext γ4  ) rfl ml_Er_128 (As := []) rfl rfl (Nat.le_of_ble_eq_true rfl) ⟨by decide, by decide⟩ d_Er_readOperand_233 (fun r6 γ7 hr6 => ?_)
      refine sb_iconst d_Er_readOperand_236 ?_
      refine sb_icmp_ne 247 hr6 (by decide) d_Er_readOperand_237 (by decide) (fun _ => ?_) (fun _ => ?_)
      · refine sb_aload_n 1 d_Er_readOperand_247 rfl ?_
        refine sb_cVz vf_Er_readVariable (c_Er_readVariable γ7  ) rfl ml_Er_131 (As := []) rfl rfl (Nat.le_of_ble_eq_true rfl) ⟨by decide, by decide⟩ d_Er_readOperand_248 (fun r8 γ9 hr8 => ?_)
        exact sn_z rfl hr8 d_Er_readOperand_251
      · refine sb_aload_n 1 d_Er_readOperand_240 rfl ?_
        refine sb_cVz vf_Er_readCalled (c_Er_readCalled γ7  ) rfl ml_Er_62 (As := []) rfl rfl (Nat.le_of_ble_eq_true rfl) ⟨by decide, by decide⟩ d_Er_readOperand_241 (fun r10 γ11 hr10 => ?_)
        refine sb_goto 251 d_Er_readOperand_244 (by decide) ?_
        exact sn_z rfl hr10 d_Er_readOperand_251
    refine sb_tc (off := 173) 3 200 hr3 d_Er_readOperand_27 (by decide) (by decide) (fun _ => ?_) (fun n18 => ?_)
    · refine sb_aload_n 1 d_Er_readOperand_200 rfl ?_
      refine sb_iconst d_Er_readOperand_201 ?_
      refine sb_aload_n 1 d_Er_readOperand_202 rfl ?_
      refine g_Er_27 d_Er_readOperand_203 ?_
      refine sb_cVi vf_Tk_itemNow (c_Tk_itemNow γ4  ) rfl ml_Er_121 (As := []) rfl rfl (Nat.le_of_ble_eq_true rfl) ⟨by decide, by decide⟩ d_Er_readOperand_206 (fun r14 γ15 hr14 => ?_)
      refine sb_cVz vf_Er_takeAtom (c_Er_takeAtom γ15 3 r14 (by decide) hr14) rfl ml_Er_124 (As := [vI 3, vI r14]) rfl rfl (Nat.le_of_ble_eq_true rfl) ⟨by decide, by decide⟩ d_Er_readOperand_209 (fun r16 γ17 hr16 => ?_)
      exact sn_z rfl hr16 d_Er_readOperand_212
    refine sb_tc (off := 240) 4 267 hr3 d_Er_readOperand_27 (by decide) (by decide) (fun _ => ?_) (fun n21 => ?_)
    · refine sb_aload_n 1 d_Er_readOperand_267 rfl ?_
      refine sb_iconst d_Er_readOperand_268 ?_
      refine sb_iconst d_Er_readOperand_269 ?_
      refine sb_cVz vf_Er_push (c_Er_push γ4 4 1 (by decide) (by decide)) rfl ml_Er_134 (As := [vI 4, vI 1]) rfl rfl (Nat.le_of_ble_eq_true rfl) ⟨by decide, by decide⟩ d_Er_readOperand_270 (fun r19 γ20 hr19 => ?_)
      exact sn_z rfl hr19 d_Er_readOperand_273
    refine sb_tc (off := 225) 16 252 hr3 d_Er_readOperand_27 (by decide) (by decide) (fun _ => ?_) (fun n24 => ?_)
    · refine sb_aload_n 1 d_Er_readOperand_252 rfl ?_
      refine sb_bipush d_Er_readOperand_253 (by decide) ?_
      refine sb_iconst d_Er_readOperand_255 ?_
      refine sb_cVz vf_Er_push (c_Er_push γ4 42 0 (by decide) (by decide)) rfl ml_Er_134 (As := [vI 42, vI 0]) rfl rfl (Nat.le_of_ble_eq_true rfl) ⟨by decide, by decide⟩ d_Er_readOperand_256 (fun r22 γ23 hr22 => ?_)
      exact sn_z rfl hr22 d_Er_readOperand_259
    refine sb_tc (off := 233) 28 260 hr3 d_Er_readOperand_27 (by decide) (by decide) (fun _ => ?_) (fun n27 => ?_)
    · refine sb_aload_n 1 d_Er_readOperand_260 rfl ?_
      refine sb_iload_n 0 d_Er_readOperand_261 rfl ?_
      refine sb_iconst d_Er_readOperand_262 ?_
      refine sb_cVz vf_Er_push (c_Er_push γ4 r3 0 hr3 (by decide)) rfl ml_Er_134 (As := [vI r3, vI 0]) rfl rfl (Nat.le_of_ble_eq_true rfl) ⟨by decide, by decide⟩ d_Er_readOperand_263 (fun r25 γ26 hr25 => ?_)
      exact sn_z rfl hr25 d_Er_readOperand_266
    refine sb_tc (off := 247) 32 274 hr3 d_Er_readOperand_27 (by decide) (by decide) (fun _ => ?_) (fun n34 => ?_)
    · refine sb_aload_n 1 d_Er_readOperand_274 rfl ?_
      refine g_Er_56 d_Er_readOperand_275 (fun c28 => ?_)
      refine sb_if_eq 291 c28 d_Er_readOperand_278 (by decide) (fun _ => ?_) (fun _ => ?_)
      · refine sb_aload_n 1 d_Er_readOperand_291 rfl ?_
        refine g_Er_27 d_Er_readOperand_292 ?_
        refine sb_iconst d_Er_readOperand_295 ?_
        refine sb_cVz vf_Tk_fail (c_Tk_fail γ4 1 (by decide)) rfl ml_Er_105 (As := [vI 1]) rfl rfl (Nat.le_of_ble_eq_true rfl) ⟨by decide, by decide⟩ d_Er_readOperand_296 (fun r30 γ31 hr30 => ?_)
        exact sn_z rfl hr30 d_Er_readOperand_299
      · refine sb_aload_n 1 d_Er_readOperand_281 rfl ?_
        refine sb_bipush d_Er_readOperand_282 (by decide) ?_
        refine sb_iconst d_Er_readOperand_284 ?_
        refine sb_cVz vf_Er_push (c_Er_push γ4 32 1 (by decide) (by decide)) rfl ml_Er_134 (As := [vI 32, vI 1]) rfl rfl (Nat.le_of_ble_eq_true rfl) ⟨by decide, by decide⟩ d_Er_readOperand_285 (fun r32 γ33 hr32 => ?_)
        refine sb_goto 299 d_Er_readOperand_288 (by decide) ?_
        exact sn_z rfl hr32 d_Er_readOperand_299
    refine sb_tc (off := 233) 35 260 hr3 d_Er_readOperand_27 (by decide) (by decide) (fun _ => ?_) (fun n37 => ?_)
    · refine sb_aload_n 1 d_Er_readOperand_260 rfl ?_
      refine sb_iload_n 0 d_Er_readOperand_261 rfl ?_
      refine sb_iconst d_Er_readOperand_262 ?_
      refine sb_cVz vf_Er_push (c_Er_push γ4 r3 0 hr3 (by decide)) rfl ml_Er_134 (As := [vI r3, vI 0]) rfl rfl (Nat.le_of_ble_eq_true rfl) ⟨by decide, by decide⟩ d_Er_readOperand_263 (fun r35 γ36 hr35 => ?_)
      exact sn_z rfl hr35 d_Er_readOperand_266
    refine sb_tc (off := 233) 36 260 hr3 d_Er_readOperand_27 (by decide) (by decide) (fun _ => ?_) (fun n40 => ?_)
    · refine sb_aload_n 1 d_Er_readOperand_260 rfl ?_
      refine sb_iload_n 0 d_Er_readOperand_261 rfl ?_
      refine sb_iconst d_Er_readOperand_262 ?_
      refine sb_cVz vf_Er_push (c_Er_push γ4 r3 0 hr3 (by decide)) rfl ml_Er_134 (As := [vI r3, vI 0]) rfl rfl (Nat.le_of_ble_eq_true rfl) ⟨by decide, by decide⟩ d_Er_readOperand_263 (fun r38 γ39 hr38 => ?_)
      exact sn_z rfl hr38 d_Er_readOperand_266
    refine sb_tc (off := 186) 40 213 hr3 d_Er_readOperand_27 (by decide) (by decide) (fun _ => ?_) (fun n43 => ?_)
    · refine sb_aload_n 1 d_Er_readOperand_213 rfl ?_
      refine sb_bipush d_Er_readOperand_214 (by decide) ?_
      refine sb_iconst d_Er_readOperand_216 ?_
      refine sb_cVz vf_Er_takeAtom (c_Er_takeAtom γ4 40 1 (by decide) (by decide)) rfl ml_Er_124 (As := [vI 40, vI 1]) rfl rfl (Nat.le_of_ble_eq_true rfl) ⟨by decide, by decide⟩ d_Er_readOperand_217 (fun r41 γ42 hr41 => ?_)
      exact sn_z rfl hr41 d_Er_readOperand_220
    refine sb_tc (off := 194) 41 221 hr3 d_Er_readOperand_27 (by decide) (by decide) (fun _ => ?_) (fun n46 => ?_)
    · refine sb_aload_n 1 d_Er_readOperand_221 rfl ?_
      refine sb_bipush d_Er_readOperand_222 (by decide) ?_
      refine sb_iconst d_Er_readOperand_224 ?_
      refine sb_cVz vf_Er_takeAtom (c_Er_takeAtom γ4 41 0 (by decide) (by decide)) rfl ml_Er_124 (As := [vI 41, vI 0]) rfl rfl (Nat.le_of_ble_eq_true rfl) ⟨by decide, by decide⟩ d_Er_readOperand_225 (fun r44 γ45 hr44 => ?_)
      exact sn_z rfl hr44 d_Er_readOperand_228
    refine sb_tg (off := 273) 5 300 hr3 d_Er_readOperand_27 (by decide) (by decide) (fun _ => ?_) (fun n50 => ?_)
    · refine sb_aload_n 1 d_Er_readOperand_300 rfl ?_
      refine g_Er_27 d_Er_readOperand_301 ?_
      refine sb_iconst d_Er_readOperand_304 ?_
      refine sb_cVz vf_Tk_fail (c_Tk_fail γ4 1 (by decide)) rfl ml_Er_105 (As := [vI 1]) rfl rfl (Nat.le_of_ble_eq_true rfl) ⟨by decide, by decide⟩ d_Er_readOperand_305 (fun r48 γ49 hr48 => ?_)
      exact sn_z rfl hr48 d_Er_readOperand_308
    refine sb_tg (off := 273) 6 300 hr3 d_Er_readOperand_27 (by decide) (by decide) (fun _ => ?_) (fun n51 => ?_)
    · refine sb_aload_n 1 d_Er_readOperand_300 rfl ?_
      refine g_Er_27 d_Er_readOperand_301 ?_
      refine sb_iconst d_Er_readOperand_304 ?_
      refine sb_cVz vf_Tk_fail (c_Tk_fail γ4 1 (by decide)) rfl ml_Er_105 (As := [vI 1]) rfl rfl (Nat.le_of_ble_eq_true rfl) ⟨by decide, by decide⟩ d_Er_readOperand_305 (fun r48 γ49 hr48 => ?_)
      exact sn_z rfl hr48 d_Er_readOperand_308
    refine sb_tg (off := 273) 7 300 hr3 d_Er_readOperand_27 (by decide) (by decide) (fun _ => ?_) (fun n52 => ?_)
    · refine sb_aload_n 1 d_Er_readOperand_300 rfl ?_
      refine g_Er_27 d_Er_readOperand_301 ?_
      refine sb_iconst d_Er_readOperand_304 ?_
      refine sb_cVz vf_Tk_fail (c_Tk_fail γ4 1 (by decide)) rfl ml_Er_105 (As := [vI 1]) rfl rfl (Nat.le_of_ble_eq_true rfl) ⟨by decide, by decide⟩ d_Er_readOperand_305 (fun r48 γ49 hr48 => ?_)
      exact sn_z rfl hr48 d_Er_readOperand_308
    refine sb_tg (off := 273) 8 300 hr3 d_Er_readOperand_27 (by decide) (by decide) (fun _ => ?_) (fun n53 => ?_)
    · refine sb_aload_n 1 d_Er_readOperand_300 rfl ?_
      refine g_Er_27 d_Er_readOperand_301 ?_
      refine sb_iconst d_Er_readOperand_304 ?_
      refine sb_cVz vf_Tk_fail (c_Tk_fail γ4 1 (by decide)) rfl ml_Er_105 (As := [vI 1]) rfl rfl (Nat.le_of_ble_eq_true rfl) ⟨by decide, by decide⟩ d_Er_readOperand_305 (fun r48 γ49 hr48 => ?_)
      exact sn_z rfl hr48 d_Er_readOperand_308
    refine sb_tg (off := 273) 9 300 hr3 d_Er_readOperand_27 (by decide) (by decide) (fun _ => ?_) (fun n54 => ?_)
    · refine sb_aload_n 1 d_Er_readOperand_300 rfl ?_
      refine g_Er_27 d_Er_readOperand_301 ?_
      refine sb_iconst d_Er_readOperand_304 ?_
      refine sb_cVz vf_Tk_fail (c_Tk_fail γ4 1 (by decide)) rfl ml_Er_105 (As := [vI 1]) rfl rfl (Nat.le_of_ble_eq_true rfl) ⟨by decide, by decide⟩ d_Er_readOperand_305 (fun r48 γ49 hr48 => ?_)
      exact sn_z rfl hr48 d_Er_readOperand_308
    refine sb_tg (off := 273) 10 300 hr3 d_Er_readOperand_27 (by decide) (by decide) (fun _ => ?_) (fun n55 => ?_)
    · refine sb_aload_n 1 d_Er_readOperand_300 rfl ?_
      refine g_Er_27 d_Er_readOperand_301 ?_
      refine sb_iconst d_Er_readOperand_304 ?_
      refine sb_cVz vf_Tk_fail (c_Tk_fail γ4 1 (by decide)) rfl ml_Er_105 (As := [vI 1]) rfl rfl (Nat.le_of_ble_eq_true rfl) ⟨by decide, by decide⟩ d_Er_readOperand_305 (fun r48 γ49 hr48 => ?_)
      exact sn_z rfl hr48 d_Er_readOperand_308
    refine sb_tg (off := 273) 11 300 hr3 d_Er_readOperand_27 (by decide) (by decide) (fun _ => ?_) (fun n56 => ?_)
    · refine sb_aload_n 1 d_Er_readOperand_300 rfl ?_
      refine g_Er_27 d_Er_readOperand_301 ?_
      refine sb_iconst d_Er_readOperand_304 ?_
      refine sb_cVz vf_Tk_fail (c_Tk_fail γ4 1 (by decide)) rfl ml_Er_105 (As := [vI 1]) rfl rfl (Nat.le_of_ble_eq_true rfl) ⟨by decide, by decide⟩ d_Er_readOperand_305 (fun r48 γ49 hr48 => ?_)
      exact sn_z rfl hr48 d_Er_readOperand_308
    refine sb_tg (off := 273) 12 300 hr3 d_Er_readOperand_27 (by decide) (by decide) (fun _ => ?_) (fun n57 => ?_)
    · refine sb_aload_n 1 d_Er_readOperand_300 rfl ?_
      refine g_Er_27 d_Er_readOperand_301 ?_
      refine sb_iconst d_Er_readOperand_304 ?_
      refine sb_cVz vf_Tk_fail (c_Tk_fail γ4 1 (by decide)) rfl ml_Er_105 (As := [vI 1]) rfl rfl (Nat.le_of_ble_eq_true rfl) ⟨by decide, by decide⟩ d_Er_readOperand_305 (fun r48 γ49 hr48 => ?_)
      exact sn_z rfl hr48 d_Er_readOperand_308
    refine sb_tg (off := 273) 13 300 hr3 d_Er_readOperand_27 (by decide) (by decide) (fun _ => ?_) (fun n58 => ?_)
    · refine sb_aload_n 1 d_Er_readOperand_300 rfl ?_
      refine g_Er_27 d_Er_readOperand_301 ?_
      refine sb_iconst d_Er_readOperand_304 ?_
      refine sb_cVz vf_Tk_fail (c_Tk_fail γ4 1 (by decide)) rfl ml_Er_105 (As := [vI 1]) rfl rfl (Nat.le_of_ble_eq_true rfl) ⟨by decide, by decide⟩ d_Er_readOperand_305 (fun r48 γ49 hr48 => ?_)
      exact sn_z rfl hr48 d_Er_readOperand_308
    refine sb_tg (off := 273) 14 300 hr3 d_Er_readOperand_27 (by decide) (by decide) (fun _ => ?_) (fun n59 => ?_)
    · refine sb_aload_n 1 d_Er_readOperand_300 rfl ?_
      refine g_Er_27 d_Er_readOperand_301 ?_
      refine sb_iconst d_Er_readOperand_304 ?_
      refine sb_cVz vf_Tk_fail (c_Tk_fail γ4 1 (by decide)) rfl ml_Er_105 (As := [vI 1]) rfl rfl (Nat.le_of_ble_eq_true rfl) ⟨by decide, by decide⟩ d_Er_readOperand_305 (fun r48 γ49 hr48 => ?_)
      exact sn_z rfl hr48 d_Er_readOperand_308
    refine sb_tg (off := 273) 15 300 hr3 d_Er_readOperand_27 (by decide) (by decide) (fun _ => ?_) (fun n60 => ?_)
    · refine sb_aload_n 1 d_Er_readOperand_300 rfl ?_
      refine g_Er_27 d_Er_readOperand_301 ?_
      refine sb_iconst d_Er_readOperand_304 ?_
      refine sb_cVz vf_Tk_fail (c_Tk_fail γ4 1 (by decide)) rfl ml_Er_105 (As := [vI 1]) rfl rfl (Nat.le_of_ble_eq_true rfl) ⟨by decide, by decide⟩ d_Er_readOperand_305 (fun r48 γ49 hr48 => ?_)
      exact sn_z rfl hr48 d_Er_readOperand_308
    refine sb_tg (off := 273) 17 300 hr3 d_Er_readOperand_27 (by decide) (by decide) (fun _ => ?_) (fun n61 => ?_)
    · refine sb_aload_n 1 d_Er_readOperand_300 rfl ?_
      refine g_Er_27 d_Er_readOperand_301 ?_
      refine sb_iconst d_Er_readOperand_304 ?_
      refine sb_cVz vf_Tk_fail (c_Tk_fail γ4 1 (by decide)) rfl ml_Er_105 (As := [vI 1]) rfl rfl (Nat.le_of_ble_eq_true rfl) ⟨by decide, by decide⟩ d_Er_readOperand_305 (fun r48 γ49 hr48 => ?_)
      exact sn_z rfl hr48 d_Er_readOperand_308
    refine sb_tg (off := 273) 18 300 hr3 d_Er_readOperand_27 (by decide) (by decide) (fun _ => ?_) (fun n62 => ?_)
    · refine sb_aload_n 1 d_Er_readOperand_300 rfl ?_
      refine g_Er_27 d_Er_readOperand_301 ?_
      refine sb_iconst d_Er_readOperand_304 ?_
      refine sb_cVz vf_Tk_fail (c_Tk_fail γ4 1 (by decide)) rfl ml_Er_105 (As := [vI 1]) rfl rfl (Nat.le_of_ble_eq_true rfl) ⟨by decide, by decide⟩ d_Er_readOperand_305 (fun r48 γ49 hr48 => ?_)
      exact sn_z rfl hr48 d_Er_readOperand_308
    refine sb_tg (off := 273) 19 300 hr3 d_Er_readOperand_27 (by decide) (by decide) (fun _ => ?_) (fun n63 => ?_)
    · refine sb_aload_n 1 d_Er_readOperand_300 rfl ?_
      refine g_Er_27 d_Er_readOperand_301 ?_
      refine sb_iconst d_Er_readOperand_304 ?_
      refine sb_cVz vf_Tk_fail (c_Tk_fail γ4 1 (by decide)) rfl ml_Er_105 (As := [vI 1]) rfl rfl (Nat.le_of_ble_eq_true rfl) ⟨by decide, by decide⟩ d_Er_readOperand_305 (fun r48 γ49 hr48 => ?_)
      exact sn_z rfl hr48 d_Er_readOperand_308
    refine sb_tg (off := 273) 20 300 hr3 d_Er_readOperand_27 (by decide) (by decide) (fun _ => ?_) (fun n64 => ?_)
    · refine sb_aload_n 1 d_Er_readOperand_300 rfl ?_
      refine g_Er_27 d_Er_readOperand_301 ?_
      refine sb_iconst d_Er_readOperand_304 ?_
      refine sb_cVz vf_Tk_fail (c_Tk_fail γ4 1 (by decide)) rfl ml_Er_105 (As := [vI 1]) rfl rfl (Nat.le_of_ble_eq_true rfl) ⟨by decide, by decide⟩ d_Er_readOperand_305 (fun r48 γ49 hr48 => ?_)
      exact sn_z rfl hr48 d_Er_readOperand_308
    refine sb_tg (off := 273) 21 300 hr3 d_Er_readOperand_27 (by decide) (by decide) (fun _ => ?_) (fun n65 => ?_)
    · refine sb_aload_n 1 d_Er_readOperand_300 rfl ?_
      refine g_Er_27 d_Er_readOperand_301 ?_
      refine sb_iconst d_Er_readOperand_304 ?_
      refine sb_cVz vf_Tk_fail (c_Tk_fail γ4 1 (by decide)) rfl ml_Er_105 (As := [vI 1]) rfl rfl (Nat.le_of_ble_eq_true rfl) ⟨by decide, by decide⟩ d_Er_readOperand_305 (fun r48 γ49 hr48 => ?_)
      exact sn_z rfl hr48 d_Er_readOperand_308
    refine sb_tg (off := 273) 22 300 hr3 d_Er_readOperand_27 (by decide) (by decide) (fun _ => ?_) (fun n66 => ?_)
    · refine sb_aload_n 1 d_Er_readOperand_300 rfl ?_
      refine g_Er_27 d_Er_readOperand_301 ?_
      refine sb_iconst d_Er_readOperand_304 ?_
      refine sb_cVz vf_Tk_fail (c_Tk_fail γ4 1 (by decide)) rfl ml_Er_105 (As := [vI 1]) rfl rfl (Nat.le_of_ble_eq_true rfl) ⟨by decide, by decide⟩ d_Er_readOperand_305 (fun r48 γ49 hr48 => ?_)
      exact sn_z rfl hr48 d_Er_readOperand_308
    refine sb_tg (off := 273) 23 300 hr3 d_Er_readOperand_27 (by decide) (by decide) (fun _ => ?_) (fun n67 => ?_)
    · refine sb_aload_n 1 d_Er_readOperand_300 rfl ?_
      refine g_Er_27 d_Er_readOperand_301 ?_
      refine sb_iconst d_Er_readOperand_304 ?_
      refine sb_cVz vf_Tk_fail (c_Tk_fail γ4 1 (by decide)) rfl ml_Er_105 (As := [vI 1]) rfl rfl (Nat.le_of_ble_eq_true rfl) ⟨by decide, by decide⟩ d_Er_readOperand_305 (fun r48 γ49 hr48 => ?_)
      exact sn_z rfl hr48 d_Er_readOperand_308
    refine sb_tg (off := 273) 24 300 hr3 d_Er_readOperand_27 (by decide) (by decide) (fun _ => ?_) (fun n68 => ?_)
    · refine sb_aload_n 1 d_Er_readOperand_300 rfl ?_
      refine g_Er_27 d_Er_readOperand_301 ?_
      refine sb_iconst d_Er_readOperand_304 ?_
      refine sb_cVz vf_Tk_fail (c_Tk_fail γ4 1 (by decide)) rfl ml_Er_105 (As := [vI 1]) rfl rfl (Nat.le_of_ble_eq_true rfl) ⟨by decide, by decide⟩ d_Er_readOperand_305 (fun r48 γ49 hr48 => ?_)
      exact sn_z rfl hr48 d_Er_readOperand_308
    refine sb_tg (off := 273) 25 300 hr3 d_Er_readOperand_27 (by decide) (by decide) (fun _ => ?_) (fun n69 => ?_)
    · refine sb_aload_n 1 d_Er_readOperand_300 rfl ?_
      refine g_Er_27 d_Er_readOperand_301 ?_
      refine sb_iconst d_Er_readOperand_304 ?_
      refine sb_cVz vf_Tk_fail (c_Tk_fail γ4 1 (by decide)) rfl ml_Er_105 (As := [vI 1]) rfl rfl (Nat.le_of_ble_eq_true rfl) ⟨by decide, by decide⟩ d_Er_readOperand_305 (fun r48 γ49 hr48 => ?_)
      exact sn_z rfl hr48 d_Er_readOperand_308
    refine sb_tg (off := 273) 26 300 hr3 d_Er_readOperand_27 (by decide) (by decide) (fun _ => ?_) (fun n70 => ?_)
    · refine sb_aload_n 1 d_Er_readOperand_300 rfl ?_
      refine g_Er_27 d_Er_readOperand_301 ?_
      refine sb_iconst d_Er_readOperand_304 ?_
      refine sb_cVz vf_Tk_fail (c_Tk_fail γ4 1 (by decide)) rfl ml_Er_105 (As := [vI 1]) rfl rfl (Nat.le_of_ble_eq_true rfl) ⟨by decide, by decide⟩ d_Er_readOperand_305 (fun r48 γ49 hr48 => ?_)
      exact sn_z rfl hr48 d_Er_readOperand_308
    refine sb_tg (off := 273) 27 300 hr3 d_Er_readOperand_27 (by decide) (by decide) (fun _ => ?_) (fun n71 => ?_)
    · refine sb_aload_n 1 d_Er_readOperand_300 rfl ?_
      refine g_Er_27 d_Er_readOperand_301 ?_
      refine sb_iconst d_Er_readOperand_304 ?_
      refine sb_cVz vf_Tk_fail (c_Tk_fail γ4 1 (by decide)) rfl ml_Er_105 (As := [vI 1]) rfl rfl (Nat.le_of_ble_eq_true rfl) ⟨by decide, by decide⟩ d_Er_readOperand_305 (fun r48 γ49 hr48 => ?_)
      exact sn_z rfl hr48 d_Er_readOperand_308
    refine sb_tg (off := 273) 29 300 hr3 d_Er_readOperand_27 (by decide) (by decide) (fun _ => ?_) (fun n72 => ?_)
    · refine sb_aload_n 1 d_Er_readOperand_300 rfl ?_
      refine g_Er_27 d_Er_readOperand_301 ?_
      refine sb_iconst d_Er_readOperand_304 ?_
      refine sb_cVz vf_Tk_fail (c_Tk_fail γ4 1 (by decide)) rfl ml_Er_105 (As := [vI 1]) rfl rfl (Nat.le_of_ble_eq_true rfl) ⟨by decide, by decide⟩ d_Er_readOperand_305 (fun r48 γ49 hr48 => ?_)
      exact sn_z rfl hr48 d_Er_readOperand_308
    refine sb_tg (off := 273) 30 300 hr3 d_Er_readOperand_27 (by decide) (by decide) (fun _ => ?_) (fun n73 => ?_)
    · refine sb_aload_n 1 d_Er_readOperand_300 rfl ?_
      refine g_Er_27 d_Er_readOperand_301 ?_
      refine sb_iconst d_Er_readOperand_304 ?_
      refine sb_cVz vf_Tk_fail (c_Tk_fail γ4 1 (by decide)) rfl ml_Er_105 (As := [vI 1]) rfl rfl (Nat.le_of_ble_eq_true rfl) ⟨by decide, by decide⟩ d_Er_readOperand_305 (fun r48 γ49 hr48 => ?_)
      exact sn_z rfl hr48 d_Er_readOperand_308
    refine sb_tg (off := 273) 31 300 hr3 d_Er_readOperand_27 (by decide) (by decide) (fun _ => ?_) (fun n74 => ?_)
    · refine sb_aload_n 1 d_Er_readOperand_300 rfl ?_
      refine g_Er_27 d_Er_readOperand_301 ?_
      refine sb_iconst d_Er_readOperand_304 ?_
      refine sb_cVz vf_Tk_fail (c_Tk_fail γ4 1 (by decide)) rfl ml_Er_105 (As := [vI 1]) rfl rfl (Nat.le_of_ble_eq_true rfl) ⟨by decide, by decide⟩ d_Er_readOperand_305 (fun r48 γ49 hr48 => ?_)
      exact sn_z rfl hr48 d_Er_readOperand_308
    refine sb_tg (off := 273) 33 300 hr3 d_Er_readOperand_27 (by decide) (by decide) (fun _ => ?_) (fun n75 => ?_)
    · refine sb_aload_n 1 d_Er_readOperand_300 rfl ?_
      refine g_Er_27 d_Er_readOperand_301 ?_
      refine sb_iconst d_Er_readOperand_304 ?_
      refine sb_cVz vf_Tk_fail (c_Tk_fail γ4 1 (by decide)) rfl ml_Er_105 (As := [vI 1]) rfl rfl (Nat.le_of_ble_eq_true rfl) ⟨by decide, by decide⟩ d_Er_readOperand_305 (fun r48 γ49 hr48 => ?_)
      exact sn_z rfl hr48 d_Er_readOperand_308
    refine sb_tg (off := 273) 34 300 hr3 d_Er_readOperand_27 (by decide) (by decide) (fun _ => ?_) (fun n76 => ?_)
    · refine sb_aload_n 1 d_Er_readOperand_300 rfl ?_
      refine g_Er_27 d_Er_readOperand_301 ?_
      refine sb_iconst d_Er_readOperand_304 ?_
      refine sb_cVz vf_Tk_fail (c_Tk_fail γ4 1 (by decide)) rfl ml_Er_105 (As := [vI 1]) rfl rfl (Nat.le_of_ble_eq_true rfl) ⟨by decide, by decide⟩ d_Er_readOperand_305 (fun r48 γ49 hr48 => ?_)
      exact sn_z rfl hr48 d_Er_readOperand_308
    refine sb_tg (off := 273) 37 300 hr3 d_Er_readOperand_27 (by decide) (by decide) (fun _ => ?_) (fun n77 => ?_)
    · refine sb_aload_n 1 d_Er_readOperand_300 rfl ?_
      refine g_Er_27 d_Er_readOperand_301 ?_
      refine sb_iconst d_Er_readOperand_304 ?_
      refine sb_cVz vf_Tk_fail (c_Tk_fail γ4 1 (by decide)) rfl ml_Er_105 (As := [vI 1]) rfl rfl (Nat.le_of_ble_eq_true rfl) ⟨by decide, by decide⟩ d_Er_readOperand_305 (fun r48 γ49 hr48 => ?_)
      exact sn_z rfl hr48 d_Er_readOperand_308
    refine sb_tg (off := 273) 38 300 hr3 d_Er_readOperand_27 (by decide) (by decide) (fun _ => ?_) (fun n78 => ?_)
    · refine sb_aload_n 1 d_Er_readOperand_300 rfl ?_
      refine g_Er_27 d_Er_readOperand_301 ?_
      refine sb_iconst d_Er_readOperand_304 ?_
      refine sb_cVz vf_Tk_fail (c_Tk_fail γ4 1 (by decide)) rfl ml_Er_105 (As := [vI 1]) rfl rfl (Nat.le_of_ble_eq_true rfl) ⟨by decide, by decide⟩ d_Er_readOperand_305 (fun r48 γ49 hr48 => ?_)
      exact sn_z rfl hr48 d_Er_readOperand_308
    refine sb_tg (off := 273) 39 300 hr3 d_Er_readOperand_27 (by decide) (by decide) (fun _ => ?_) (fun n79 => ?_)
    · refine sb_aload_n 1 d_Er_readOperand_300 rfl ?_
      refine g_Er_27 d_Er_readOperand_301 ?_
      refine sb_iconst d_Er_readOperand_304 ?_
      refine sb_cVz vf_Tk_fail (c_Tk_fail γ4 1 (by decide)) rfl ml_Er_105 (As := [vI 1]) rfl rfl (Nat.le_of_ble_eq_true rfl) ⟨by decide, by decide⟩ d_Er_readOperand_305 (fun r48 γ49 hr48 => ?_)
      exact sn_z rfl hr48 d_Er_readOperand_308
    refine sb_td 300 hr3 d_Er_readOperand_27 (by omega) (by decide) ?_
    refine sb_aload_n 1 d_Er_readOperand_300 rfl ?_
    refine g_Er_27 d_Er_readOperand_301 ?_
    refine sb_iconst d_Er_readOperand_304 ?_
    refine sb_cVz vf_Tk_fail (c_Tk_fail γ4 1 (by decide)) rfl ml_Er_105 (As := [vI 1]) rfl rfl (Nat.le_of_ble_eq_true rfl) ⟨by decide, by decide⟩ d_Er_readOperand_305 (fun r48 γ49 hr48 => ?_)
    exact sn_z rfl hr48 d_Er_readOperand_308
  · refine sb_aload_n 0 d_Er_readOperand_9 rfl ?_
    refine g_Er_27 d_Er_readOperand_10 ?_
    refine sb_iconst d_Er_readOperand_13 ?_
    refine sb_cVz vf_Tk_fail (c_Tk_fail γ 3 (by decide)) rfl ml_Er_105 (As := [vI 3]) rfl rfl (Nat.le_of_ble_eq_true rfl) ⟨by decide, by decide⟩ d_Er_readOperand_14 (fun r81 γ82 hr81 => ?_)
    exact sn_z rfl hr81 d_Er_readOperand_17
theorem d_Er_readWhen_0 : decode b_Er_readWhen 0 = .ok (.aload_n 0, 1) := by decide +kernel
theorem d_Er_readWhen_1 : decode b_Er_readWhen 1 = .ok (.aload_n 0, 1) := by decide +kernel
theorem d_Er_readWhen_2 : decode b_Er_readWhen 2 = .ok (.getfield 31, 3) := by decide +kernel
theorem d_Er_readWhen_5 : decode b_Er_readWhen 5 = .ok (.getfield 166, 3) := by decide +kernel
theorem d_Er_readWhen_8 : decode b_Er_readWhen 8 = .ok (.aload_n 0, 1) := by decide +kernel
theorem d_Er_readWhen_9 : decode b_Er_readWhen 9 = .ok (.getfield 31, 3) := by decide +kernel
theorem d_Er_readWhen_12 : decode b_Er_readWhen 12 = .ok (.getfield 92, 3) := by decide +kernel
theorem d_Er_readWhen_15 : decode b_Er_readWhen 15 = .ok (.iaload, 1) := by decide +kernel
theorem d_Er_readWhen_16 : decode b_Er_readWhen 16 = .ok (.invokevirtual 169, 3) := by decide +kernel
theorem d_Er_readWhen_19 : decode b_Er_readWhen 19 = .ok (.istore_n 1, 1) := by decide +kernel
theorem d_Er_readWhen_20 : decode b_Er_readWhen 20 = .ok (.iload_n 1, 1) := by decide +kernel
theorem d_Er_readWhen_21 : decode b_Er_readWhen 21 = .ok (.ifCond .ge 5, 3) := by decide +kernel
theorem d_Er_readWhen_24 : decode b_Er_readWhen 24 = .ok (.iconst 0, 1) := by decide +kernel
theorem d_Er_readWhen_25 : decode b_Er_readWhen 25 = .ok (.ireturn, 1) := by decide +kernel
theorem d_Er_readWhen_26 : decode b_Er_readWhen 26 = .ok (.aload_n 0, 1) := by decide +kernel
theorem d_Er_readWhen_27 : decode b_Er_readWhen 27 = .ok (.getfield 35, 3) := by decide +kernel
theorem d_Er_readWhen_30 : decode b_Er_readWhen 30 = .ok (.bipush 27, 2) := by decide +kernel
theorem d_Er_readWhen_32 : decode b_Er_readWhen 32 = .ok (.iload_n 1, 1) := by decide +kernel
theorem d_Er_readWhen_33 : decode b_Er_readWhen 33 = .ok (.iconst 1, 1) := by decide +kernel
theorem d_Er_readWhen_34 : decode b_Er_readWhen 34 = .ok (.invokevirtual 138, 3) := by decide +kernel
theorem d_Er_readWhen_37 : decode b_Er_readWhen 37 = .ok (.aload_n 0, 1) := by decide +kernel
theorem d_Er_readWhen_38 : decode b_Er_readWhen 38 = .ok (.getfield 24, 3) := by decide +kernel
theorem d_Er_readWhen_41 : decode b_Er_readWhen 41 = .ok (.aload_n 0, 1) := by decide +kernel
theorem d_Er_readWhen_42 : decode b_Er_readWhen 42 = .ok (.getfield 43, 3) := by decide +kernel
theorem d_Er_readWhen_45 : decode b_Er_readWhen 45 = .ok (.iconst 1, 1) := by decide +kernel
theorem d_Er_readWhen_46 : decode b_Er_readWhen 46 = .ok (.isub, 1) := by decide +kernel
theorem d_Er_readWhen_47 : decode b_Er_readWhen 47 = .ok (.dup2, 1) := by decide +kernel
theorem d_Er_readWhen_48 : decode b_Er_readWhen 48 = .ok (.iaload, 1) := by decide +kernel
theorem d_Er_readWhen_49 : decode b_Er_readWhen 49 = .ok (.iconst 1, 1) := by decide +kernel
theorem d_Er_readWhen_50 : decode b_Er_readWhen 50 = .ok (.iadd, 1) := by decide +kernel
theorem d_Er_readWhen_51 : decode b_Er_readWhen 51 = .ok (.iastore, 1) := by decide +kernel
theorem d_Er_readWhen_52 : decode b_Er_readWhen 52 = .ok (.aload_n 0, 1) := by decide +kernel
theorem d_Er_readWhen_53 : decode b_Er_readWhen 53 = .ok (.getfield 24, 3) := by decide +kernel
theorem d_Er_readWhen_56 : decode b_Er_readWhen 56 = .ok (.aload_n 0, 1) := by decide +kernel
theorem d_Er_readWhen_57 : decode b_Er_readWhen 57 = .ok (.getfield 43, 3) := by decide +kernel
theorem d_Er_readWhen_60 : decode b_Er_readWhen 60 = .ok (.iconst 1, 1) := by decide +kernel
theorem d_Er_readWhen_61 : decode b_Er_readWhen 61 = .ok (.isub, 1) := by decide +kernel
theorem d_Er_readWhen_62 : decode b_Er_readWhen 62 = .ok (.iaload, 1) := by decide +kernel
theorem d_Er_readWhen_63 : decode b_Er_readWhen 63 = .ok (.sipush 200, 3) := by decide +kernel
theorem d_Er_readWhen_66 : decode b_Er_readWhen 66 = .ok (.if_icmp .le 14, 3) := by decide +kernel
theorem d_Er_readWhen_69 : decode b_Er_readWhen 69 = .ok (.aload_n 0, 1) := by decide +kernel
theorem d_Er_readWhen_70 : decode b_Er_readWhen 70 = .ok (.getfield 27, 3) := by decide +kernel
theorem d_Er_readWhen_73 : decode b_Er_readWhen 73 = .ok (.iconst 3, 1) := by decide +kernel
theorem d_Er_readWhen_74 : decode b_Er_readWhen 74 = .ok (.invokevirtual 105, 3) := by decide +kernel
theorem d_Er_readWhen_77 : decode b_Er_readWhen 77 = .ok (.ifCond .eq 7, 3) := by decide +kernel
theorem d_Er_readWhen_80 : decode b_Er_readWhen 80 = .ok (.iconst 1, 1) := by decide +kernel
theorem d_Er_readWhen_81 : decode b_Er_readWhen 81 = .ok (.goto 4, 3) := by decide +kernel
theorem d_Er_readWhen_84 : decode b_Er_readWhen 84 = .ok (.iconst 0, 1) := by decide +kernel
theorem d_Er_readWhen_85 : decode b_Er_readWhen 85 = .ok (.ireturn, 1) := by decide +kernel
abbrev mt_Er_readWhen : MT := (R_Er, b_Er_readWhen, 2, some .boolean)
theorem vf_Er_readWhen : VF y_Er_readWhen mt_Er_readWhen 3 0 := ⟨im_Er_readWhen, se_Er_readWhen, in_Er, co_Er_readWhen, by decide +kernel, _, _, rfl⟩
def f_Er_readWhen (γ : St) : Option (Int × St) :=
  chk (inb (γ 3 9) 59) (bndN (f_Er_readClock γ (γ 28 (γ 3 9))) fun r6 γ7 =>
  if 0 ≤ r6 then
  (bndN (f_Cd_add γ7 27 r6 1) fun _ γ10 =>
  chk (i32 ((γ10 6 9) - 1)) (chk (inb ((γ10 6 9) - 1) 512) (chk (i32 ((γ10 52 ((γ10 6 9) - 1)) + 1)) (chk (inb ((γ10 6 9) - 1) 512) (ap (setA γ10 52 ((γ10 6 9) - 1) ((γ10 52 ((γ10 6 9) - 1)) + 1)) fun γ16 =>
  chk (i32 ((γ16 6 9) - 1)) (chk (inb ((γ16 6 9) - 1) 512) (if (γ16 52 ((γ16 6 9) - 1)) ≤ 200 then
  (some (1, γ16))
  else
  (bndN (f_Tk_fail γ16 3) fun r22 γ23 =>
  if r22 = 0 then
  (some (0, γ23))
  else
  (some (1, γ23))))))))))
  else
  (some (0, γ7)))
set_option maxHeartbeats 4000000 in
theorem c_Er_readWhen {Γ : Ctx} (γ : St) : NC Γ BS y_Er_readWhen mt_Er_readWhen 8 285 [vR Γ 6] γ (f_Er_readWhen γ) := by
  refine nc_of (by decide) rfl (Nat.le_of_ble_eq_true rfl) ?_
  show SB Γ BS mt_Er_readWhen (RmN 8 285) 0 0 (KN Γ BS mt_Er_readWhen.2.2.2) 0 [(0, vR Γ 6)] [] γ _
  unfold f_Er_readWhen
  refine sb_aload_n 0 d_Er_readWhen_0 rfl ?_
  refine sb_aload_n 0 d_Er_readWhen_1 rfl ?_
  refine g_Er_31 d_Er_readWhen_2 ?_
  refine g_Er_166 d_Er_readWhen_5 ?_
  refine sb_aload_n 0 d_Er_readWhen_8 rfl ?_
  refine g_Er_31 d_Er_readWhen_9 ?_
  refine g_Er_92 d_Er_readWhen_12 (fun c4 => ?_)
  refine al_S_28 d_Er_readWhen_15 (fun _ c5 => ?_)
  refine sb_cVi vf_Er_readClock (c_Er_readClock γ (γ 28 (γ 3 9)) c5) rfl ml_Er_169 (As := [vI (γ 28 (γ 3 9))]) rfl rfl (Nat.le_of_ble_eq_true rfl) ⟨by decide, by decide⟩ d_Er_readWhen_16 (fun r6 γ7 hr6 => ?_)
  refine sb_istore_n [(1, vI r6), (0, vR Γ 6)] d_Er_readWhen_19 (by decide) rfl ?_
  refine sb_iload_n 0 d_Er_readWhen_20 rfl ?_
  refine sb_if_ge 26 hr6 d_Er_readWhen_21 (by decide) (fun _ => ?_) (fun _ => ?_)
  · refine sb_aload_n 1 d_Er_readWhen_26 rfl ?_
    refine g_Er_35 d_Er_readWhen_27 ?_
    refine sb_bipush d_Er_readWhen_30 (by decide) ?_
    refine sb_iload_n 0 d_Er_readWhen_32 rfl ?_
    refine sb_iconst d_Er_readWhen_33 ?_
    refine sb_cVv vf_Cd_add (c_Cd_add γ7 27 r6 1 (by decide) hr6 (by decide)) rfl ml_Er_138 (As := [vI 27, vI r6, vI 1]) rfl rfl (Nat.le_of_ble_eq_true rfl) ⟨by decide, by decide⟩ d_Er_readWhen_34 (fun _ γ10 => ?_)
    refine sb_aload_n 1 d_Er_readWhen_37 rfl ?_
    refine g_Er_24 d_Er_readWhen_38 ?_
    refine sb_aload_n 1 d_Er_readWhen_41 rfl ?_
    refine g_Er_43 d_Er_readWhen_42 (fun c12 => ?_)
    refine sb_iconst d_Er_readWhen_45 ?_
    refine sb_isub d_Er_readWhen_46 ?_
    refine sb_chk (fun c13 => ?_)
    refine sb_dup2 d_Er_readWhen_47 rfl rfl ?_
    refine al_S_52 d_Er_readWhen_48 (fun _ c14 => ?_)
    refine sb_iconst d_Er_readWhen_49 ?_
    refine sb_iadd d_Er_readWhen_50 ?_
    refine sb_chk (fun c15 => ?_)
    refine as_S_52 c15 d_Er_readWhen_51 (fun _ => ?_)
    refine sb_aps (fun γ16 => ?_)
    refine sb_aload_n 1 d_Er_readWhen_52 rfl ?_
    refine g_Er_24 d_Er_readWhen_53 ?_
    refine sb_aload_n 1 d_Er_readWhen_56 rfl ?_
    refine g_Er_43 d_Er_readWhen_57 (fun c18 => ?_)
    refine sb_iconst d_Er_readWhen_60 ?_
    refine sb_isub d_Er_readWhen_61 ?_
    refine sb_chk (fun c19 => ?_)
    refine al_S_52 d_Er_readWhen_62 (fun _ c20 => ?_)
    refine sb_sipush d_Er_readWhen_63 (by decide) ?_
    refine sb_icmp_le 80 c20 (by decide) d_Er_readWhen_66 (by decide) (fun _ => ?_) (fun _ => ?_)
    · refine sb_iconst d_Er_readWhen_80 ?_
      refine sb_goto 85 d_Er_readWhen_81 (by decide) ?_
      exact sn_z rfl (by decide) d_Er_readWhen_85
    · refine sb_aload_n 1 d_Er_readWhen_69 rfl ?_
      refine g_Er_27 d_Er_readWhen_70 ?_
      refine sb_iconst d_Er_readWhen_73 ?_
      refine sb_cVz vf_Tk_fail (c_Tk_fail γ16 3 (by decide)) rfl ml_Er_105 (As := [vI 3]) rfl rfl (Nat.le_of_ble_eq_true rfl) ⟨by decide, by decide⟩ d_Er_readWhen_74 (fun r22 γ23 hr22 => ?_)
      refine sb_if_eq 84 (z2i hr22) d_Er_readWhen_77 (by decide) (fun _ => ?_) (fun _ => ?_)
      · refine sb_iconst d_Er_readWhen_84 ?_
        exact sn_z rfl (by decide) d_Er_readWhen_85
      · refine sb_iconst d_Er_readWhen_80 ?_
        refine sb_goto 85 d_Er_readWhen_81 (by decide) ?_
        exact sn_z rfl (by decide) d_Er_readWhen_85
  · refine sb_iconst d_Er_readWhen_24 ?_
    exact sn_z rfl (by decide) d_Er_readWhen_25
theorem d_S_rank_0 : decode b_S_rank 0 = .ok (.iload_n 0, 1) := by decide +kernel
theorem d_S_rank_1 : decode b_S_rank 1 = .ok (.tableswitch 170 9 42 #[159, 159, 159, 159, 159, 159, 161, 161, 164, 151, 153, 170, 170, 170, 170, 170, 170, 170, 170, 167, 157, 155, 155, 170, 170, 151, 167, 167, 151, 164, 164, 170, 170, 167], 151) := by decide +kernel
theorem d_S_rank_152 : decode b_S_rank 152 = .ok (.iconst 1, 1) := by decide +kernel
theorem d_S_rank_153 : decode b_S_rank 153 = .ok (.ireturn, 1) := by decide +kernel
theorem d_S_rank_154 : decode b_S_rank 154 = .ok (.iconst 2, 1) := by decide +kernel
theorem d_S_rank_155 : decode b_S_rank 155 = .ok (.ireturn, 1) := by decide +kernel
theorem d_S_rank_156 : decode b_S_rank 156 = .ok (.iconst 3, 1) := by decide +kernel
theorem d_S_rank_157 : decode b_S_rank 157 = .ok (.ireturn, 1) := by decide +kernel
theorem d_S_rank_158 : decode b_S_rank 158 = .ok (.iconst 4, 1) := by decide +kernel
theorem d_S_rank_159 : decode b_S_rank 159 = .ok (.ireturn, 1) := by decide +kernel
theorem d_S_rank_160 : decode b_S_rank 160 = .ok (.iconst 5, 1) := by decide +kernel
theorem d_S_rank_161 : decode b_S_rank 161 = .ok (.ireturn, 1) := by decide +kernel
theorem d_S_rank_162 : decode b_S_rank 162 = .ok (.bipush 6, 2) := by decide +kernel
theorem d_S_rank_164 : decode b_S_rank 164 = .ok (.ireturn, 1) := by decide +kernel
theorem d_S_rank_165 : decode b_S_rank 165 = .ok (.bipush 7, 2) := by decide +kernel
theorem d_S_rank_167 : decode b_S_rank 167 = .ok (.ireturn, 1) := by decide +kernel
theorem d_S_rank_168 : decode b_S_rank 168 = .ok (.bipush 8, 2) := by decide +kernel
theorem d_S_rank_170 : decode b_S_rank 170 = .ok (.ireturn, 1) := by decide +kernel
theorem d_S_rank_171 : decode b_S_rank 171 = .ok (.iconst 0, 1) := by decide +kernel
theorem d_S_rank_172 : decode b_S_rank 172 = .ok (.ireturn, 1) := by decide +kernel
abbrev mt_S_rank : MT := (R_S, b_S_rank, 1, some .int)
theorem vf_S_rank : SF y_S_rank mt_S_rank 1 := ⟨sm_S_rank, in_S, co_S_rank, by decide +kernel⟩
def f_S_rank (γ : St) (a0 : Int) : Option (Int × St) :=
  if a0 = 9 then
  (some (5, γ))
  else if a0 = 10 then
  (some (5, γ))
  else if a0 = 11 then
  (some (5, γ))
  else if a0 = 12 then
  (some (5, γ))
  else if a0 = 13 then
  (some (5, γ))
  else if a0 = 14 then
  (some (5, γ))
  else if a0 = 15 then
  (some (6, γ))
  else if a0 = 16 then
  (some (6, γ))
  else if a0 = 17 then
  (some (7, γ))
  else if a0 = 18 then
  (some (1, γ))
  else if a0 = 19 then
  (some (2, γ))
  else if a0 = 28 then
  (some (8, γ))
  else if a0 = 29 then
  (some (4, γ))
  else if a0 = 30 then
  (some (3, γ))
  else if a0 = 31 then
  (some (3, γ))
  else if a0 = 34 then
  (some (1, γ))
  else if a0 = 35 then
  (some (8, γ))
  else if a0 = 36 then
  (some (8, γ))
  else if a0 = 37 then
  (some (1, γ))
  else if a0 = 38 then
  (some (7, γ))
  else if a0 = 39 then
  (some (7, γ))
  else if a0 = 42 then
  (some (8, γ))
  else (some (0, γ))
set_option maxHeartbeats 4000000 in
theorem c_S_rank {Γ : Ctx} (γ : St) (a0 : Int) (ha0 : i32 a0) : NC Γ BS y_S_rank mt_S_rank 6 240 [vI a0] γ (f_S_rank γ a0) := by
  refine nc_of (by decide) rfl (Nat.le_of_ble_eq_true rfl) ?_
  show SB Γ BS mt_S_rank (RmN 6 240) 0 0 (KN Γ BS mt_S_rank.2.2.2) 0 [(0, vI a0)] [] γ _
  unfold f_S_rank
  refine sb_iload_n 0 d_S_rank_0 rfl ?_
  refine sb_tc (off := 159) 9 160 ha0 d_S_rank_1 (by decide) (by decide) (fun _ => ?_) (fun n1 => ?_)
  · refine sb_iconst d_S_rank_160 ?_
    exact sn_i rfl (by decide) d_S_rank_161
  refine sb_tc (off := 159) 10 160 ha0 d_S_rank_1 (by decide) (by decide) (fun _ => ?_) (fun n2 => ?_)
  · refine sb_iconst d_S_rank_160 ?_
    exact sn_i rfl (by decide) d_S_rank_161
  refine sb_tc (off := 159) 11 160 ha0 d_S_rank_1 (by decide) (by decide) (fun _ => ?_) (fun n3 => ?_)
  · refine sb_iconst d_S_rank_160 ?_
    exact sn_i rfl (by decide) d_S_rank_161
  refine sb_tc (off := 159) 12 160 ha0 d_S_rank_1 (by decide) (by decide) (fun _ => ?_) (fun n4 => ?_)
  · refine sb_iconst d_S_rank_160 ?_
    exact sn_i rfl (by decide) d_S_rank_161
  refine sb_tc (off := 159) 13 160 ha0 d_S_rank_1 (by decide) (by decide) (fun _ => ?_) (fun n5 => ?_)
  · refine sb_iconst d_S_rank_160 ?_
    exact sn_i rfl (by decide) d_S_rank_161
  refine sb_tc (off := 159) 14 160 ha0 d_S_rank_1 (by decide) (by decide) (fun _ => ?_) (fun n6 => ?_)
  · refine sb_iconst d_S_rank_160 ?_
    exact sn_i rfl (by decide) d_S_rank_161
  refine sb_tc (off := 161) 15 162 ha0 d_S_rank_1 (by decide) (by decide) (fun _ => ?_) (fun n7 => ?_)
  · refine sb_bipush d_S_rank_162 (by decide) ?_
    exact sn_i rfl (by decide) d_S_rank_164
  refine sb_tc (off := 161) 16 162 ha0 d_S_rank_1 (by decide) (by decide) (fun _ => ?_) (fun n8 => ?_)
  · refine sb_bipush d_S_rank_162 (by decide) ?_
    exact sn_i rfl (by decide) d_S_rank_164
  refine sb_tc (off := 164) 17 165 ha0 d_S_rank_1 (by decide) (by decide) (fun _ => ?_) (fun n9 => ?_)
  · refine sb_bipush d_S_rank_165 (by decide) ?_
    exact sn_i rfl (by decide) d_S_rank_167
  refine sb_tc (off := 151) 18 152 ha0 d_S_rank_1 (by decide) (by decide) (fun _ => ?_) (fun n10 => ?_)
  · refine sb_iconst d_S_rank_152 ?_
    exact sn_i rfl (by decide) d_S_rank_153
  refine sb_tc (off := 153) 19 154 ha0 d_S_rank_1 (by decide) (by decide) (fun _ => ?_) (fun n11 => ?_)
  · refine sb_iconst d_S_rank_154 ?_
    exact sn_i rfl (by decide) d_S_rank_155
  refine sb_tc (off := 167) 28 168 ha0 d_S_rank_1 (by decide) (by decide) (fun _ => ?_) (fun n12 => ?_)
  · refine sb_bipush d_S_rank_168 (by decide) ?_
    exact sn_i rfl (by decide) d_S_rank_170
  refine sb_tc (off := 157) 29 158 ha0 d_S_rank_1 (by decide) (by decide) (fun _ => ?_) (fun n13 => ?_)
  · refine sb_iconst d_S_rank_158 ?_
    exact sn_i rfl (by decide) d_S_rank_159
  refine sb_tc (off := 155) 30 156 ha0 d_S_rank_1 (by decide) (by decide) (fun _ => ?_) (fun n14 => ?_)
  · refine sb_iconst d_S_rank_156 ?_
    exact sn_i rfl (by decide) d_S_rank_157
  refine sb_tc (off := 155) 31 156 ha0 d_S_rank_1 (by decide) (by decide) (fun _ => ?_) (fun n15 => ?_)
  · refine sb_iconst d_S_rank_156 ?_
    exact sn_i rfl (by decide) d_S_rank_157
  refine sb_tc (off := 151) 34 152 ha0 d_S_rank_1 (by decide) (by decide) (fun _ => ?_) (fun n16 => ?_)
  · refine sb_iconst d_S_rank_152 ?_
    exact sn_i rfl (by decide) d_S_rank_153
  refine sb_tc (off := 167) 35 168 ha0 d_S_rank_1 (by decide) (by decide) (fun _ => ?_) (fun n17 => ?_)
  · refine sb_bipush d_S_rank_168 (by decide) ?_
    exact sn_i rfl (by decide) d_S_rank_170
  refine sb_tc (off := 167) 36 168 ha0 d_S_rank_1 (by decide) (by decide) (fun _ => ?_) (fun n18 => ?_)
  · refine sb_bipush d_S_rank_168 (by decide) ?_
    exact sn_i rfl (by decide) d_S_rank_170
  refine sb_tc (off := 151) 37 152 ha0 d_S_rank_1 (by decide) (by decide) (fun _ => ?_) (fun n19 => ?_)
  · refine sb_iconst d_S_rank_152 ?_
    exact sn_i rfl (by decide) d_S_rank_153
  refine sb_tc (off := 164) 38 165 ha0 d_S_rank_1 (by decide) (by decide) (fun _ => ?_) (fun n20 => ?_)
  · refine sb_bipush d_S_rank_165 (by decide) ?_
    exact sn_i rfl (by decide) d_S_rank_167
  refine sb_tc (off := 164) 39 165 ha0 d_S_rank_1 (by decide) (by decide) (fun _ => ?_) (fun n21 => ?_)
  · refine sb_bipush d_S_rank_165 (by decide) ?_
    exact sn_i rfl (by decide) d_S_rank_167
  refine sb_tc (off := 167) 42 168 ha0 d_S_rank_1 (by decide) (by decide) (fun _ => ?_) (fun n22 => ?_)
  · refine sb_bipush d_S_rank_168 (by decide) ?_
    exact sn_i rfl (by decide) d_S_rank_170
  refine sb_tg (off := 170) 20 171 ha0 d_S_rank_1 (by decide) (by decide) (fun _ => ?_) (fun n23 => ?_)
  · refine sb_iconst d_S_rank_171 ?_
    exact sn_i rfl (by decide) d_S_rank_172
  refine sb_tg (off := 170) 21 171 ha0 d_S_rank_1 (by decide) (by decide) (fun _ => ?_) (fun n24 => ?_)
  · refine sb_iconst d_S_rank_171 ?_
    exact sn_i rfl (by decide) d_S_rank_172
  refine sb_tg (off := 170) 22 171 ha0 d_S_rank_1 (by decide) (by decide) (fun _ => ?_) (fun n25 => ?_)
  · refine sb_iconst d_S_rank_171 ?_
    exact sn_i rfl (by decide) d_S_rank_172
  refine sb_tg (off := 170) 23 171 ha0 d_S_rank_1 (by decide) (by decide) (fun _ => ?_) (fun n26 => ?_)
  · refine sb_iconst d_S_rank_171 ?_
    exact sn_i rfl (by decide) d_S_rank_172
  refine sb_tg (off := 170) 24 171 ha0 d_S_rank_1 (by decide) (by decide) (fun _ => ?_) (fun n27 => ?_)
  · refine sb_iconst d_S_rank_171 ?_
    exact sn_i rfl (by decide) d_S_rank_172
  refine sb_tg (off := 170) 25 171 ha0 d_S_rank_1 (by decide) (by decide) (fun _ => ?_) (fun n28 => ?_)
  · refine sb_iconst d_S_rank_171 ?_
    exact sn_i rfl (by decide) d_S_rank_172
  refine sb_tg (off := 170) 26 171 ha0 d_S_rank_1 (by decide) (by decide) (fun _ => ?_) (fun n29 => ?_)
  · refine sb_iconst d_S_rank_171 ?_
    exact sn_i rfl (by decide) d_S_rank_172
  refine sb_tg (off := 170) 27 171 ha0 d_S_rank_1 (by decide) (by decide) (fun _ => ?_) (fun n30 => ?_)
  · refine sb_iconst d_S_rank_171 ?_
    exact sn_i rfl (by decide) d_S_rank_172
  refine sb_tg (off := 170) 32 171 ha0 d_S_rank_1 (by decide) (by decide) (fun _ => ?_) (fun n31 => ?_)
  · refine sb_iconst d_S_rank_171 ?_
    exact sn_i rfl (by decide) d_S_rank_172
  refine sb_tg (off := 170) 33 171 ha0 d_S_rank_1 (by decide) (by decide) (fun _ => ?_) (fun n32 => ?_)
  · refine sb_iconst d_S_rank_171 ?_
    exact sn_i rfl (by decide) d_S_rank_172
  refine sb_tg (off := 170) 40 171 ha0 d_S_rank_1 (by decide) (by decide) (fun _ => ?_) (fun n33 => ?_)
  · refine sb_iconst d_S_rank_171 ?_
    exact sn_i rfl (by decide) d_S_rank_172
  refine sb_tg (off := 170) 41 171 ha0 d_S_rank_1 (by decide) (by decide) (fun _ => ?_) (fun n34 => ?_)
  · refine sb_iconst d_S_rank_171 ?_
    exact sn_i rfl (by decide) d_S_rank_172
  refine sb_td 171 ha0 d_S_rank_1 (by omega) (by decide) ?_
  refine sb_iconst d_S_rank_171 ?_
  exact sn_i rfl (by decide) d_S_rank_172
theorem d_Er_reduce_0 : decode b_Er_reduce 0 = .ok (.iconst 1, 1) := by decide +kernel
theorem d_Er_reduce_1 : decode b_Er_reduce 1 = .ok (.istore_n 2, 1) := by decide +kernel
theorem d_Er_reduce_2 : decode b_Er_reduce 2 = .ok (.iload_n 2, 1) := by decide +kernel
theorem d_Er_reduce_3 : decode b_Er_reduce 3 = .ok (.ifCond .eq 234, 3) := by decide +kernel
theorem d_Er_reduce_6 : decode b_Er_reduce 6 = .ok (.aload_n 0, 1) := by decide +kernel
theorem d_Er_reduce_7 : decode b_Er_reduce 7 = .ok (.getfield 39, 3) := by decide +kernel
theorem d_Er_reduce_10 : decode b_Er_reduce 10 = .ok (.ifCond .le 227, 3) := by decide +kernel
theorem d_Er_reduce_13 : decode b_Er_reduce 13 = .ok (.aload_n 0, 1) := by decide +kernel
theorem d_Er_reduce_14 : decode b_Er_reduce 14 = .ok (.getfield 11, 3) := by decide +kernel
theorem d_Er_reduce_17 : decode b_Er_reduce 17 = .ok (.aload_n 0, 1) := by decide +kernel
theorem d_Er_reduce_18 : decode b_Er_reduce 18 = .ok (.getfield 39, 3) := by decide +kernel
theorem d_Er_reduce_21 : decode b_Er_reduce 21 = .ok (.iconst 1, 1) := by decide +kernel
theorem d_Er_reduce_22 : decode b_Er_reduce 22 = .ok (.isub, 1) := by decide +kernel
theorem d_Er_reduce_23 : decode b_Er_reduce 23 = .ok (.iaload, 1) := by decide +kernel
theorem d_Er_reduce_24 : decode b_Er_reduce 24 = .ok (.invokestatic 154, 3) := by decide +kernel
theorem d_Er_reduce_27 : decode b_Er_reduce 27 = .ok (.iload_n 1, 1) := by decide +kernel
theorem d_Er_reduce_28 : decode b_Er_reduce 28 = .ok (.if_icmp .lt 209, 3) := by decide +kernel
theorem d_Er_reduce_31 : decode b_Er_reduce 31 = .ok (.aload_n 0, 1) := by decide +kernel
theorem d_Er_reduce_32 : decode b_Er_reduce 32 = .ok (.dup, 1) := by decide +kernel
theorem d_Er_reduce_33 : decode b_Er_reduce 33 = .ok (.getfield 39, 3) := by decide +kernel
theorem d_Er_reduce_36 : decode b_Er_reduce 36 = .ok (.iconst 1, 1) := by decide +kernel
theorem d_Er_reduce_37 : decode b_Er_reduce 37 = .ok (.isub, 1) := by decide +kernel
theorem d_Er_reduce_38 : decode b_Er_reduce 38 = .ok (.putfield 39, 3) := by decide +kernel
theorem d_Er_reduce_41 : decode b_Er_reduce 41 = .ok (.aload_n 0, 1) := by decide +kernel
theorem d_Er_reduce_42 : decode b_Er_reduce 42 = .ok (.getfield 11, 3) := by decide +kernel
theorem d_Er_reduce_45 : decode b_Er_reduce 45 = .ok (.aload_n 0, 1) := by decide +kernel
theorem d_Er_reduce_46 : decode b_Er_reduce 46 = .ok (.getfield 39, 3) := by decide +kernel
theorem d_Er_reduce_49 : decode b_Er_reduce 49 = .ok (.iaload, 1) := by decide +kernel
theorem d_Er_reduce_50 : decode b_Er_reduce 50 = .ok (.istore_n 3, 1) := by decide +kernel
theorem d_Er_reduce_51 : decode b_Er_reduce 51 = .ok (.iload_n 3, 1) := by decide +kernel
theorem d_Er_reduce_52 : decode b_Er_reduce 52 = .ok (.bipush 34, 2) := by decide +kernel
theorem d_Er_reduce_54 : decode b_Er_reduce 54 = .ok (.if_icmp .ne 7, 3) := by decide +kernel
theorem d_Er_reduce_57 : decode b_Er_reduce 57 = .ok (.iconst 3, 1) := by decide +kernel
theorem d_Er_reduce_58 : decode b_Er_reduce 58 = .ok (.goto 17, 3) := by decide +kernel
theorem d_Er_reduce_61 : decode b_Er_reduce 61 = .ok (.iload_n 3, 1) := by decide +kernel
theorem d_Er_reduce_62 : decode b_Er_reduce 62 = .ok (.invokestatic 154, 3) := by decide +kernel
theorem d_Er_reduce_65 : decode b_Er_reduce 65 = .ok (.bipush 8, 2) := by decide +kernel
theorem d_Er_reduce_67 : decode b_Er_reduce 67 = .ok (.if_icmp .ne 7, 3) := by decide +kernel
theorem d_Er_reduce_70 : decode b_Er_reduce 70 = .ok (.iconst 1, 1) := by decide +kernel
theorem d_Er_reduce_71 : decode b_Er_reduce 71 = .ok (.goto 4, 3) := by decide +kernel
theorem d_Er_reduce_74 : decode b_Er_reduce 74 = .ok (.iconst 2, 1) := by decide +kernel
theorem d_Er_reduce_75 : decode b_Er_reduce 75 = .ok (.istore 4, 2) := by decide +kernel
theorem d_Er_reduce_77 : decode b_Er_reduce 77 = .ok (.aload_n 0, 1) := by decide +kernel
theorem d_Er_reduce_78 : decode b_Er_reduce 78 = .ok (.dup, 1) := by decide +kernel
theorem d_Er_reduce_79 : decode b_Er_reduce 79 = .ok (.getfield 46, 3) := by decide +kernel
theorem d_Er_reduce_82 : decode b_Er_reduce 82 = .ok (.iload_n 3, 1) := by decide +kernel
theorem d_Er_reduce_83 : decode b_Er_reduce 83 = .ok (.invokestatic 147, 3) := by decide +kernel
theorem d_Er_reduce_86 : decode b_Er_reduce 86 = .ok (.isub, 1) := by decide +kernel
theorem d_Er_reduce_87 : decode b_Er_reduce 87 = .ok (.putfield 46, 3) := by decide +kernel
theorem d_Er_reduce_90 : decode b_Er_reduce 90 = .ok (.aload_n 0, 1) := by decide +kernel
theorem d_Er_reduce_91 : decode b_Er_reduce 91 = .ok (.dup, 1) := by decide +kernel
theorem d_Er_reduce_92 : decode b_Er_reduce 92 = .ok (.getfield 43, 3) := by decide +kernel
theorem d_Er_reduce_95 : decode b_Er_reduce 95 = .ok (.iload 4, 2) := by decide +kernel
theorem d_Er_reduce_97 : decode b_Er_reduce 97 = .ok (.iconst 1, 1) := by decide +kernel
theorem d_Er_reduce_98 : decode b_Er_reduce 98 = .ok (.isub, 1) := by decide +kernel
theorem d_Er_reduce_99 : decode b_Er_reduce 99 = .ok (.isub, 1) := by decide +kernel
theorem d_Er_reduce_100 : decode b_Er_reduce 100 = .ok (.putfield 43, 3) := by decide +kernel
theorem d_Er_reduce_103 : decode b_Er_reduce 103 = .ok (.aload_n 0, 1) := by decide +kernel
theorem d_Er_reduce_104 : decode b_Er_reduce 104 = .ok (.getfield 24, 3) := by decide +kernel
theorem d_Er_reduce_107 : decode b_Er_reduce 107 = .ok (.aload_n 0, 1) := by decide +kernel
theorem d_Er_reduce_108 : decode b_Er_reduce 108 = .ok (.getfield 43, 3) := by decide +kernel
theorem d_Er_reduce_111 : decode b_Er_reduce 111 = .ok (.iconst 1, 1) := by decide +kernel
theorem d_Er_reduce_112 : decode b_Er_reduce 112 = .ok (.isub, 1) := by decide +kernel
theorem d_Er_reduce_113 : decode b_Er_reduce 113 = .ok (.iaload, 1) := by decide +kernel
theorem d_Er_reduce_114 : decode b_Er_reduce 114 = .ok (.istore 5, 2) := by decide +kernel
theorem d_Er_reduce_116 : decode b_Er_reduce 116 = .ok (.iconst 1, 1) := by decide +kernel
theorem d_Er_reduce_117 : decode b_Er_reduce 117 = .ok (.istore 6, 2) := by decide +kernel
theorem d_Er_reduce_119 : decode b_Er_reduce 119 = .ok (.iload 6, 2) := by decide +kernel
theorem d_Er_reduce_121 : decode b_Er_reduce 121 = .ok (.iload 4, 2) := by decide +kernel
theorem d_Er_reduce_123 : decode b_Er_reduce 123 = .ok (.if_icmp .ge 49, 3) := by decide +kernel
theorem d_Er_reduce_126 : decode b_Er_reduce 126 = .ok (.iload 5, 2) := by decide +kernel
theorem d_Er_reduce_128 : decode b_Er_reduce 128 = .ok (.aload_n 0, 1) := by decide +kernel
theorem d_Er_reduce_129 : decode b_Er_reduce 129 = .ok (.getfield 24, 3) := by decide +kernel
theorem d_Er_reduce_132 : decode b_Er_reduce 132 = .ok (.aload_n 0, 1) := by decide +kernel
theorem d_Er_reduce_133 : decode b_Er_reduce 133 = .ok (.getfield 43, 3) := by decide +kernel
theorem d_Er_reduce_136 : decode b_Er_reduce 136 = .ok (.iconst 1, 1) := by decide +kernel
theorem d_Er_reduce_137 : decode b_Er_reduce 137 = .ok (.isub, 1) := by decide +kernel
theorem d_Er_reduce_138 : decode b_Er_reduce 138 = .ok (.iload 6, 2) := by decide +kernel
theorem d_Er_reduce_140 : decode b_Er_reduce 140 = .ok (.iadd, 1) := by decide +kernel
theorem d_Er_reduce_141 : decode b_Er_reduce 141 = .ok (.iaload, 1) := by decide +kernel
theorem d_Er_reduce_142 : decode b_Er_reduce 142 = .ok (.if_icmp .lt 8, 3) := by decide +kernel
theorem d_Er_reduce_145 : decode b_Er_reduce 145 = .ok (.iload 5, 2) := by decide +kernel
theorem d_Er_reduce_147 : decode b_Er_reduce 147 = .ok (.goto 17, 3) := by decide +kernel
theorem d_Er_reduce_150 : decode b_Er_reduce 150 = .ok (.aload_n 0, 1) := by decide +kernel
theorem d_Er_reduce_151 : decode b_Er_reduce 151 = .ok (.getfield 24, 3) := by decide +kernel
theorem d_Er_reduce_154 : decode b_Er_reduce 154 = .ok (.aload_n 0, 1) := by decide +kernel
theorem d_Er_reduce_155 : decode b_Er_reduce 155 = .ok (.getfield 43, 3) := by decide +kernel
theorem d_Er_reduce_158 : decode b_Er_reduce 158 = .ok (.iconst 1, 1) := by decide +kernel
theorem d_Er_reduce_159 : decode b_Er_reduce 159 = .ok (.isub, 1) := by decide +kernel
theorem d_Er_reduce_160 : decode b_Er_reduce 160 = .ok (.iload 6, 2) := by decide +kernel
theorem d_Er_reduce_162 : decode b_Er_reduce 162 = .ok (.iadd, 1) := by decide +kernel
theorem d_Er_reduce_163 : decode b_Er_reduce 163 = .ok (.iaload, 1) := by decide +kernel
theorem d_Er_reduce_164 : decode b_Er_reduce 164 = .ok (.istore 5, 2) := by decide +kernel
theorem d_Er_reduce_166 : decode b_Er_reduce 166 = .ok (.iinc 6 1, 3) := by decide +kernel
theorem d_Er_reduce_169 : decode b_Er_reduce 169 = .ok (.goto (-50), 3) := by decide +kernel
theorem d_Er_reduce_172 : decode b_Er_reduce 172 = .ok (.aload_n 0, 1) := by decide +kernel
theorem d_Er_reduce_173 : decode b_Er_reduce 173 = .ok (.getfield 24, 3) := by decide +kernel
theorem d_Er_reduce_176 : decode b_Er_reduce 176 = .ok (.aload_n 0, 1) := by decide +kernel
theorem d_Er_reduce_177 : decode b_Er_reduce 177 = .ok (.getfield 43, 3) := by decide +kernel
theorem d_Er_reduce_180 : decode b_Er_reduce 180 = .ok (.iconst 1, 1) := by decide +kernel
theorem d_Er_reduce_181 : decode b_Er_reduce 181 = .ok (.isub, 1) := by decide +kernel
theorem d_Er_reduce_182 : decode b_Er_reduce 182 = .ok (.iload 5, 2) := by decide +kernel
theorem d_Er_reduce_184 : decode b_Er_reduce 184 = .ok (.iconst 1, 1) := by decide +kernel
theorem d_Er_reduce_185 : decode b_Er_reduce 185 = .ok (.iadd, 1) := by decide +kernel
theorem d_Er_reduce_186 : decode b_Er_reduce 186 = .ok (.iastore, 1) := by decide +kernel
theorem d_Er_reduce_187 : decode b_Er_reduce 187 = .ok (.aload_n 0, 1) := by decide +kernel
theorem d_Er_reduce_188 : decode b_Er_reduce 188 = .ok (.getfield 35, 3) := by decide +kernel
theorem d_Er_reduce_191 : decode b_Er_reduce 191 = .ok (.iload_n 3, 1) := by decide +kernel
theorem d_Er_reduce_192 : decode b_Er_reduce 192 = .ok (.bipush 34, 2) := by decide +kernel
theorem d_Er_reduce_194 : decode b_Er_reduce 194 = .ok (.if_icmp .ne 8, 3) := by decide +kernel
theorem d_Er_reduce_197 : decode b_Er_reduce 197 = .ok (.bipush 32, 2) := by decide +kernel
theorem d_Er_reduce_199 : decode b_Er_reduce 199 = .ok (.goto 4, 3) := by decide +kernel
theorem d_Er_reduce_202 : decode b_Er_reduce 202 = .ok (.iload_n 3, 1) := by decide +kernel
theorem d_Er_reduce_203 : decode b_Er_reduce 203 = .ok (.iconst 0, 1) := by decide +kernel
theorem d_Er_reduce_204 : decode b_Er_reduce 204 = .ok (.iload 4, 2) := by decide +kernel
theorem d_Er_reduce_206 : decode b_Er_reduce 206 = .ok (.invokevirtual 138, 3) := by decide +kernel
theorem d_Er_reduce_209 : decode b_Er_reduce 209 = .ok (.iload 5, 2) := by decide +kernel
theorem d_Er_reduce_211 : decode b_Er_reduce 211 = .ok (.sipush 200, 3) := by decide +kernel
theorem d_Er_reduce_214 : decode b_Er_reduce 214 = .ok (.if_icmp .lt 14, 3) := by decide +kernel
theorem d_Er_reduce_217 : decode b_Er_reduce 217 = .ok (.aload_n 0, 1) := by decide +kernel
theorem d_Er_reduce_218 : decode b_Er_reduce 218 = .ok (.getfield 27, 3) := by decide +kernel
theorem d_Er_reduce_221 : decode b_Er_reduce 221 = .ok (.iconst 3, 1) := by decide +kernel
theorem d_Er_reduce_222 : decode b_Er_reduce 222 = .ok (.invokevirtual 105, 3) := by decide +kernel
theorem d_Er_reduce_225 : decode b_Er_reduce 225 = .ok (.ifCond .eq 7, 3) := by decide +kernel
theorem d_Er_reduce_228 : decode b_Er_reduce 228 = .ok (.iconst 1, 1) := by decide +kernel
theorem d_Er_reduce_229 : decode b_Er_reduce 229 = .ok (.goto 4, 3) := by decide +kernel
theorem d_Er_reduce_232 : decode b_Er_reduce 232 = .ok (.iconst 0, 1) := by decide +kernel
theorem d_Er_reduce_233 : decode b_Er_reduce 233 = .ok (.istore_n 2, 1) := by decide +kernel
theorem d_Er_reduce_234 : decode b_Er_reduce 234 = .ok (.goto (-232), 3) := by decide +kernel
theorem d_Er_reduce_237 : decode b_Er_reduce 237 = .ok (.iload_n 2, 1) := by decide +kernel
theorem d_Er_reduce_238 : decode b_Er_reduce 238 = .ok (.ireturn, 1) := by decide +kernel
abbrev mt_Er_reduce : MT := (R_Er, b_Er_reduce, 7, some .boolean)
theorem vf_Er_reduce : VF y_Er_reduce mt_Er_reduce 3 1 := ⟨im_Er_reduce, se_Er_reduce, in_Er, co_Er_reduce, by decide +kernel, _, _, rfl⟩
def f_Er_reduce_b233 (k2 : St → Int → Int → Option (Int × St)) (γ : St) (x1 : Int) (x2 : Int) : Option (Int × St) :=
  k2 γ x1 x2
def f_Er_reduce_b228 (k2 : St → Int → Int → Option (Int × St)) (γ : St) (x5 : Int) : Option (Int × St) :=
  f_Er_reduce_b233 k2 γ x5 1
def f_Er_reduce_b203 (k2 : St → Int → Int → Option (Int × St)) (γ : St) (x8 : Int) (x9 : Int) (x10 : Int) (x11 : Int) : Option (Int × St) :=
  bndN (f_Cd_add γ x11 0 x9) fun _ γ13 =>
  if x10 < 200 then
  (f_Er_reduce_b228 k2 γ13 x8)
  else
  (bndN (f_Tk_fail γ13 3) fun r15 γ16 =>
  if r15 = 0 then
  (f_Er_reduce_b233 k2 γ16 x8 0)
  else
  (f_Er_reduce_b228 k2 γ16 x8))
def f_Er_reduce_b172 (k2 : St → Int → Int → Option (Int × St)) (γ : St) (x19 : Int) (x20 : Int) (x21 : Int) (x22 : Int) : Option (Int × St) :=
  chk (i32 ((γ 6 9) - 1)) (chk (i32 (x22 + 1)) (chk (inb ((γ 6 9) - 1) 512) (ap (setA γ 52 ((γ 6 9) - 1) (x22 + 1)) fun γ27 =>
  if x20 ≠ 34 then
  (f_Er_reduce_b203 k2 γ27 x19 x21 x22 x20)
  else
  (f_Er_reduce_b203 k2 γ27 x19 x21 x22 32))))
def f_Er_reduce_b164 (k119 : St → Int → Int → Int → Int → Int → Option (Int × St)) (e172 : St → Int → Int → Int → Int → Option (Int × St)) (γ : St) (x31 : Int) (x32 : Int) (x33 : Int) (x34 : Int) (x35 : Int) : Option (Int × St) :=
  chk (i32 (x34 + 1)) (k119 γ x31 x32 x33 x35 (x34 + 1))
def f_Er_reduce_L119 (e172 : St → Int → Int → Int → Int → Option (Int × St)) : Nat → St → Int → Int → Int → Int → Int → Option (Int × St)
  | 0, _, _, _, _, _, _ => none
  | n + 1, γ, x46, x47, x48, x49, x50 =>
  if x48 ≤ x50 then
  (e172 γ x46 x47 x48 x49)
  else
  (chk (i32 ((γ 6 9) - 1)) (chk (i32 (((γ 6 9) - 1) + x50)) (chk (inb (((γ 6 9) - 1) + x50) 512) (if x49 < (γ 52 (((γ 6 9) - 1) + x50)) then
  (chk (i32 ((γ 6 9) - 1)) (chk (i32 (((γ 6 9) - 1) + x50)) (chk (inb (((γ 6 9) - 1) + x50) 512) (f_Er_reduce_b164 (f_Er_reduce_L119 e172 n) e172 γ x46 x47 x48 x50 (γ 52 (((γ 6 9) - 1) + x50))))))
  else
  (f_Er_reduce_b164 (f_Er_reduce_L119 e172 n) e172 γ x46 x47 x48 x50 x49)))))
def f_Er_reduce_b75 (k2 : St → Int → Int → Option (Int × St)) (γ : St) (x65 : Int) (x66 : Int) (x67 : Int) : Option (Int × St) :=
  bndN (f_S_nesting γ x66) fun r69 γ70 =>
  chk (i32 ((γ 6 10) - r69)) (ap (setA γ70 6 10 ((γ 6 10) - r69)) fun γ72 =>
  chk (i32 (x67 - 1)) (chk (i32 ((γ72 6 9) - (x67 - 1))) (ap (setA γ72 6 9 ((γ72 6 9) - (x67 - 1))) fun γ76 =>
  chk (i32 ((γ76 6 9) - 1)) (chk (inb ((γ76 6 9) - 1) 512) (ap (γ76 52 ((γ76 6 9) - 1)) fun x81 =>
  f_Er_reduce_L119 (f_Er_reduce_b172 k2) FU γ76 x65 x66 x67 x81 1)))))
def f_Er_reduce_L2 : Nat → St → Int → Int → Option (Int × St)
  | 0, _, _, _ => none
  | n + 1, γ, x84, x85 =>
  if x85 = 0 then
  (chk (x85 = 0 ∨ x85 = 1) (some (x85, γ)))
  else
  (if (γ 6 8) ≤ 0 then
  (chk (x85 = 0 ∨ x85 = 1) (some (x85, γ)))
  else
  (chk (i32 ((γ 6 8) - 1)) (chk (inb ((γ 6 8) - 1) 512) (bndN (f_S_rank γ (γ 48 ((γ 6 8) - 1))) fun r93 γ94 =>
  if r93 < x84 then
  (chk (x85 = 0 ∨ x85 = 1) (some (x85, γ94)))
  else
  (chk (i32 ((γ94 6 8) - 1)) (ap (setA γ94 6 8 ((γ94 6 8) - 1)) fun γ98 =>
  chk (inb (γ98 6 8) 512) (ap (γ98 48 (γ98 6 8)) fun x102 =>
  if x102 ≠ 34 then
  (bndN (f_S_rank γ98 x102) fun r103 γ104 =>
  if r103 ≠ 8 then
  (f_Er_reduce_b75 (f_Er_reduce_L2 n) γ104 x84 x102 2)
  else
  (f_Er_reduce_b75 (f_Er_reduce_L2 n) γ104 x84 x102 1))
  else
  (f_Er_reduce_b75 (f_Er_reduce_L2 n) γ98 x84 x102 3))))))))
def f_Er_reduce (γ : St) (a0 : Int) : Option (Int × St) :=
  f_Er_reduce_L2  FU γ a0 1
set_option maxHeartbeats 4000000 in
theorem s_Er_reduce_b233 {Γ : Ctx} {k2 : St → Int → Int → Option (Int × St)} (hk2 : ∀ (γ : St) (x3 : Int) (x4 : Int), i32 x3 → i32 x4 → SB Γ BS mt_Er_reduce (RmN 7 263) 0 0 (KN Γ BS mt_Er_reduce.2.2.2) 2 [(0, vR Γ 6), (1, vI x3), (2, vI x4)] [] γ (k2 γ x3 x4)) : ∀ (γ : St) (x1 : Int) (x2 : Int), i32 x1 → i32 x2 → SB Γ BS mt_Er_reduce (RmN 7 263) 0 0 (KN Γ BS mt_Er_reduce.2.2.2) 233 [(0, vR Γ 6), (1, vI x1)] [vI x2] γ (f_Er_reduce_b233 k2 γ x1 x2) := by
  intro γ x1 x2 hx1 hx2
  unfold f_Er_reduce_b233
  refine sb_istore_n [(2, vI x2), (0, vR Γ 6), (1, vI x1)] d_Er_reduce_233 (by decide) rfl ?_
  refine sb_goto 2 d_Er_reduce_234 (by decide) ?_
  exact sb_lv [1, 2, 0] rfl (hk2 γ x1 x2 hx1 hx2)
set_option maxHeartbeats 4000000 in
theorem s_Er_reduce_b228 {Γ : Ctx} {k2 : St → Int → Int → Option (Int × St)} (hk2 : ∀ (γ : St) (x6 : Int) (x7 : Int), i32 x6 → i32 x7 → SB Γ BS mt_Er_reduce (RmN 7 263) 0 0 (KN Γ BS mt_Er_reduce.2.2.2) 2 [(0, vR Γ 6), (1, vI x6), (2, vI x7)] [] γ (k2 γ x6 x7)) : ∀ (γ : St) (x5 : Int), i32 x5 → SB Γ BS mt_Er_reduce (RmN 7 263) 0 0 (KN Γ BS mt_Er_reduce.2.2.2) 228 [(0, vR Γ 6), (1, vI x5)] [] γ (f_Er_reduce_b228 k2 γ x5) := by
  intro γ x5 hx5
  unfold f_Er_reduce_b228
  refine sb_iconst d_Er_reduce_228 ?_
  refine sb_goto 233 d_Er_reduce_229 (by decide) ?_
  exact sb_lv [0, 1] rfl (s_Er_reduce_b233 hk2 γ x5 1 hx5 (by decide))
set_option maxHeartbeats 4000000 in
theorem s_Er_reduce_b203 {Γ : Ctx} {k2 : St → Int → Int → Option (Int × St)} (hk2 : ∀ (γ : St) (x17 : Int) (x18 : Int), i32 x17 → i32 x18 → SB Γ BS mt_Er_reduce (RmN 7 263) 0 0 (KN Γ BS mt_Er_reduce.2.2.2) 2 [(0, vR Γ 6), (1, vI x17), (2, vI x18)] [] γ (k2 γ x17 x18)) : ∀ (γ : St) (x8 : Int) (x9 : Int) (x10 : Int) (x11 : Int), i32 x8 → i32 x9 → i32 x10 → i32 x11 → SB Γ BS mt_Er_reduce (RmN 7 263) 0 0 (KN Γ BS mt_Er_reduce.2.2.2) 203 [(0, vR Γ 6), (1, vI x8), (4, vI x9), (5, vI x10)] [vI x11, vR Γ 4] γ (f_Er_reduce_b203 k2 γ x8 x9 x10 x11) := by
  intro γ x8 x9 x10 x11 hx8 hx9 hx10 hx11
  unfold f_Er_reduce_b203
  refine sb_iconst d_Er_reduce_203 ?_
  refine sb_iload 2 d_Er_reduce_204 rfl ?_
  refine sb_cVv vf_Cd_add (c_Cd_add γ x11 0 x9 hx11 (by decide) hx9) rfl ml_Er_138 (As := [vI x11, vI 0, vI x9]) rfl rfl (Nat.le_of_ble_eq_true rfl) ⟨by decide, by decide⟩ d_Er_reduce_206 (fun _ γ13 => ?_)
  refine sb_iload 3 d_Er_reduce_209 rfl ?_
  refine sb_sipush d_Er_reduce_211 (by decide) ?_
  refine sb_icmp_lt 228 hx10 (by decide) d_Er_reduce_214 (by decide) (fun _ => ?_) (fun _ => ?_)
  · exact sb_lv [0, 1] rfl (s_Er_reduce_b228 hk2 γ13 x8 hx8)
  · refine sb_aload_n 0 d_Er_reduce_217 rfl ?_
    refine g_Er_27 d_Er_reduce_218 ?_
    refine sb_iconst d_Er_reduce_221 ?_
    refine sb_cVz vf_Tk_fail (c_Tk_fail γ13 3 (by decide)) rfl ml_Er_105 (As := [vI 3]) rfl rfl (Nat.le_of_ble_eq_true rfl) ⟨by decide, by decide⟩ d_Er_reduce_222 (fun r15 γ16 hr15 => ?_)
    refine sb_if_eq 232 (z2i hr15) d_Er_reduce_225 (by decide) (fun _ => ?_) (fun _ => ?_)
    · refine sb_iconst d_Er_reduce_232 ?_
      exact sb_lv [0, 1] rfl (s_Er_reduce_b233 hk2 γ16 x8 0 hx8 (by decide))
    · exact sb_lv [0, 1] rfl (s_Er_reduce_b228 hk2 γ16 x8 hx8)
set_option maxHeartbeats 4000000 in
theorem s_Er_reduce_b172 {Γ : Ctx} {k2 : St → Int → Int → Option (Int × St)} (hk2 : ∀ (γ : St) (x29 : Int) (x30 : Int), i32 x29 → i32 x30 → SB Γ BS mt_Er_reduce (RmN 7 263) 0 0 (KN Γ BS mt_Er_reduce.2.2.2) 2 [(0, vR Γ 6), (1, vI x29), (2, vI x30)] [] γ (k2 γ x29 x30)) : ∀ (γ : St) (x19 : Int) (x20 : Int) (x21 : Int) (x22 : Int), i32 x19 → i32 x20 → i32 x21 → i32 x22 → SB Γ BS mt_Er_reduce (RmN 7 263) 0 0 (KN Γ BS mt_Er_reduce.2.2.2) 172 [(0, vR Γ 6), (1, vI x19), (3, vI x20), (4, vI x21), (5, vI x22)] [] γ (f_Er_reduce_b172 k2 γ x19 x20 x21 x22) := by
  intro γ x19 x20 x21 x22 hx19 hx20 hx21 hx22
  unfold f_Er_reduce_b172
  refine sb_aload_n 0 d_Er_reduce_172 rfl ?_
  refine g_Er_24 d_Er_reduce_173 ?_
  refine sb_aload_n 0 d_Er_reduce_176 rfl ?_
  refine g_Er_43 d_Er_reduce_177 (fun c24 => ?_)
  refine sb_iconst d_Er_reduce_180 ?_
  refine sb_isub d_Er_reduce_181 ?_
  refine sb_chk (fun c25 => ?_)
  refine sb_iload 4 d_Er_reduce_182 rfl ?_
  refine sb_iconst d_Er_reduce_184 ?_
  refine sb_iadd d_Er_reduce_185 ?_
  refine sb_chk (fun c26 => ?_)
  refine as_S_52 c26 d_Er_reduce_186 (fun _ => ?_)
  refine sb_aps (fun γ27 => ?_)
  refine sb_aload_n 0 d_Er_reduce_187 rfl ?_
  refine g_Er_35 d_Er_reduce_188 ?_
  refine sb_iload_n 2 d_Er_reduce_191 rfl ?_
  refine sb_bipush d_Er_reduce_192 (by decide) ?_
  refine sb_icmp_ne 202 hx20 (by decide) d_Er_reduce_194 (by decide) (fun _ => ?_) (fun _ => ?_)
  · refine sb_iload_n 2 d_Er_reduce_202 rfl ?_
    exact sb_lv [0, 1, 3, 4] rfl (s_Er_reduce_b203 hk2 γ27 x19 x21 x22 x20 hx19 hx21 hx22 hx20)
  · refine sb_bipush d_Er_reduce_197 (by decide) ?_
    refine sb_goto 203 d_Er_reduce_199 (by decide) ?_
    exact sb_lv [0, 1, 3, 4] rfl (s_Er_reduce_b203 hk2 γ27 x19 x21 x22 32 hx19 hx21 hx22 (by decide))
set_option maxHeartbeats 4000000 in
theorem s_Er_reduce_b164 {Γ : Ctx} {k119 : St → Int → Int → Int → Int → Int → Option (Int × St)} {e172 : St → Int → Int → Int → Int → Option (Int × St)} (hk119 : ∀ (γ : St) (x37 : Int) (x38 : Int) (x39 : Int) (x40 : Int) (x41 : Int), i32 x37 → i32 x38 → i32 x39 → i32 x40 → i32 x41 → SB Γ BS mt_Er_reduce (RmN 7 263) 0 0 (KN Γ BS mt_Er_reduce.2.2.2) 119 [(0, vR Γ 6), (1, vI x37), (3, vI x38), (4, vI x39), (5, vI x40), (6, vI x41)] [] γ (k119 γ x37 x38 x39 x40 x41)) (he172 : ∀ (γ : St) (x42 : Int) (x43 : Int) (x44 : Int) (x45 : Int), i32 x42 → i32 x43 → i32 x44 → i32 x45 → SB Γ BS mt_Er_reduce (RmN 7 263) 0 0 (KN Γ BS mt_Er_reduce.2.2.2) 172 [(0, vR Γ 6), (1, vI x42), (3, vI x43), (4, vI x44), (5, vI x45)] [] γ (e172 γ x42 x43 x44 x45)) : ∀ (γ : St) (x31 : Int) (x32 : Int) (x33 : Int) (x34 : Int) (x35 : Int), i32 x31 → i32 x32 → i32 x33 → i32 x34 → i32 x35 → SB Γ BS mt_Er_reduce (RmN 7 263) 0 0 (KN Γ BS mt_Er_reduce.2.2.2) 164 [(0, vR Γ 6), (1, vI x31), (3, vI x32), (4, vI x33), (6, vI x34)] [vI x35] γ (f_Er_reduce_b164 k119 e172 γ x31 x32 x33 x34 x35) := by
  intro γ x31 x32 x33 x34 x35 hx31 hx32 hx33 hx34 hx35
  unfold f_Er_reduce_b164
  refine sb_istore [(5, vI x35), (0, vR Γ 6), (1, vI x31), (3, vI x32), (4, vI x33), (6, vI x34)] d_Er_reduce_164 (by decide) rfl ?_
  refine sb_iinc 5 [(6, vI (x34 + 1)), (5, vI x35), (0, vR Γ 6), (1, vI x31), (3, vI x32), (4, vI x33)] d_Er_reduce_166 rfl (by decide) rfl ?_
  refine sb_chk (fun c36 => ?_)
  refine sb_goto 119 d_Er_reduce_169 (by decide) ?_
  exact sb_lv [2, 3, 4, 5, 1, 0] rfl (hk119 γ x31 x32 x33 x35 (x34 + 1) hx31 hx32 hx33 hx35 c36)
set_option maxHeartbeats 4000000 in
theorem s_Er_reduce_L119 {Γ : Ctx} {e172 : St → Int → Int → Int → Int → Option (Int × St)} (he172 : ∀ (γ : St) (x61 : Int) (x62 : Int) (x63 : Int) (x64 : Int), i32 x61 → i32 x62 → i32 x63 → i32 x64 → SB Γ BS mt_Er_reduce (RmN 7 263) 0 0 (KN Γ BS mt_Er_reduce.2.2.2) 172 [(0, vR Γ 6), (1, vI x61), (3, vI x62), (4, vI x63), (5, vI x64)] [] γ (e172 γ x61 x62 x63 x64)) : ∀ (n : Nat) (γ : St) (x46 : Int) (x47 : Int) (x48 : Int) (x49 : Int) (x50 : Int), i32 x46 → i32 x47 → i32 x48 → i32 x49 → i32 x50 → SB Γ BS mt_Er_reduce (RmN 7 263) 0 0 (KN Γ BS mt_Er_reduce.2.2.2) 119 [(0, vR Γ 6), (1, vI x46), (3, vI x47), (4, vI x48), (5, vI x49), (6, vI x50)] [] γ (f_Er_reduce_L119 e172 n γ x46 x47 x48 x49 x50) := by
  intro n
  induction n with
  | zero => intros; exact sb_none
  | succ n ih =>
    intro γ x46 x47 x48 x49 x50 hx46 hx47 hx48 hx49 hx50
    unfold f_Er_reduce_L119
    refine sb_iload 5 d_Er_reduce_119 rfl ?_
    refine sb_iload 3 d_Er_reduce_121 rfl ?_
    refine sb_icmp_ge 172 hx50 hx48 d_Er_reduce_123 (by decide) (fun _ => ?_) (fun _ => ?_)
    · exact sb_lv [0, 1, 2, 3, 4] rfl (he172 γ x46 x47 x48 x49 hx46 hx47 hx48 hx49)
    · refine sb_iload 4 d_Er_reduce_126 rfl ?_
      refine sb_aload_n 0 d_Er_reduce_128 rfl ?_
      refine g_Er_24 d_Er_reduce_129 ?_
      refine sb_aload_n 0 d_Er_reduce_132 rfl ?_
      refine g_Er_43 d_Er_reduce_133 (fun c52 => ?_)
      refine sb_iconst d_Er_reduce_136 ?_
      refine sb_isub d_Er_reduce_137 ?_
      refine sb_chk (fun c53 => ?_)
      refine sb_iload 5 d_Er_reduce_138 rfl ?_
      refine sb_iadd d_Er_reduce_140 ?_
      refine sb_chk (fun c54 => ?_)
      refine al_S_52 d_Er_reduce_141 (fun _ c55 => ?_)
      refine sb_icmp_lt 150 hx49 c55 d_Er_reduce_142 (by decide) (fun _ => ?_) (fun _ => ?_)
      · refine sb_aload_n 0 d_Er_reduce_150 rfl ?_
        refine g_Er_24 d_Er_reduce_151 ?_
        refine sb_aload_n 0 d_Er_reduce_154 rfl ?_
        refine g_Er_43 d_Er_reduce_155 (fun c57 => ?_)
        refine sb_iconst d_Er_reduce_158 ?_
        refine sb_isub d_Er_reduce_159 ?_
        refine sb_chk (fun c58 => ?_)
        refine sb_iload 5 d_Er_reduce_160 rfl ?_
        refine sb_iadd d_Er_reduce_162 ?_
        refine sb_chk (fun c59 => ?_)
        refine al_S_52 d_Er_reduce_163 (fun _ c60 => ?_)
        exact sb_lv [0, 1, 2, 3, 5] rfl (s_Er_reduce_b164 ih he172 γ x46 x47 x48 x50 (γ 52 (((γ 6 9) - 1) + x50)) hx46 hx47 hx48 hx50 c60)
      · refine sb_iload 4 d_Er_reduce_145 rfl ?_
        refine sb_goto 164 d_Er_reduce_147 (by decide) ?_
        exact sb_lv [0, 1, 2, 3, 5] rfl (s_Er_reduce_b164 ih he172 γ x46 x47 x48 x50 x49 hx46 hx47 hx48 hx50 hx49)
set_option maxHeartbeats 4000000 in
theorem s_Er_reduce_b75 {Γ : Ctx} {k2 : St → Int → Int → Option (Int × St)} (hk2 : ∀ (γ : St) (x82 : Int) (x83 : Int), i32 x82 → i32 x83 → SB Γ BS mt_Er_reduce (RmN 7 263) 0 0 (KN Γ BS mt_Er_reduce.2.2.2) 2 [(0, vR Γ 6), (1, vI x82), (2, vI x83)] [] γ (k2 γ x82 x83)) : ∀ (γ : St) (x65 : Int) (x66 : Int) (x67 : Int), i32 x65 → i32 x66 → i32 x67 → SB Γ BS mt_Er_reduce (RmN 7 263) 0 0 (KN Γ BS mt_Er_reduce.2.2.2) 75 [(0, vR Γ 6), (1, vI x65), (3, vI x66)] [vI x67] γ (f_Er_reduce_b75 k2 γ x65 x66 x67) := by
  intro γ x65 x66 x67 hx65 hx66 hx67
  unfold f_Er_reduce_b75
  refine sb_istore [(4, vI x67), (0, vR Γ 6), (1, vI x65), (3, vI x66)] d_Er_reduce_75 (by decide) rfl ?_
  refine sb_aload_n 1 d_Er_reduce_77 rfl ?_
  refine sb_dup d_Er_reduce_78 rfl ?_
  refine g_Er_46 d_Er_reduce_79 (fun c68 => ?_)
  refine sb_iload_n 3 d_Er_reduce_82 rfl ?_
  refine sb_cNi vf_S_nesting (c_S_nesting γ x66 hx66) (fun X => X.E.2.2.2.2.2.2.1) (As := [vI x66]) rfl rfl (Nat.le_of_ble_eq_true rfl) ⟨by decide, by decide⟩ d_Er_reduce_83 (fun r69 γ70 hr69 => ?_)
  refine sb_isub d_Er_reduce_86 ?_
  refine sb_chk (fun c71 => ?_)
  refine p_Er_46 c71 d_Er_reduce_87 ?_
  refine sb_aps (fun γ72 => ?_)
  refine sb_aload_n 1 d_Er_reduce_90 rfl ?_
  refine sb_dup d_Er_reduce_91 rfl ?_
  refine g_Er_43 d_Er_reduce_92 (fun c73 => ?_)
  refine sb_iload 0 d_Er_reduce_95 rfl ?_
  refine sb_iconst d_Er_reduce_97 ?_
  refine sb_isub d_Er_reduce_98 ?_
  refine sb_chk (fun c74 => ?_)
  refine sb_isub d_Er_reduce_99 ?_
  refine sb_chk (fun c75 => ?_)
  refine p_Er_43 c75 d_Er_reduce_100 ?_
  refine sb_aps (fun γ76 => ?_)
  refine sb_aload_n 1 d_Er_reduce_103 rfl ?_
  refine g_Er_24 d_Er_reduce_104 ?_
  refine sb_aload_n 1 d_Er_reduce_107 rfl ?_
  refine g_Er_43 d_Er_reduce_108 (fun c78 => ?_)
  refine sb_iconst d_Er_reduce_111 ?_
  refine sb_isub d_Er_reduce_112 ?_
  refine sb_chk (fun c79 => ?_)
  refine al_S_52 d_Er_reduce_113 (fun _ c80 => ?_)
  refine sb_istore [(5, vI (γ76 52 ((γ76 6 9) - 1))), (4, vI x67), (0, vR Γ 6), (1, vI x65), (3, vI x66)] d_Er_reduce_114 (by decide) rfl ?_
  refine sb_nme (e := γ76 52 ((γ76 6 9) - 1)) (fun x81 => [(5, vI x81), (4, vI x67), (0, vR Γ 6), (1, vI x65), (3, vI x66)]) c80 (fun x81 hx81 => ?_)
  refine sb_iconst d_Er_reduce_116 ?_
  refine sb_istore [(6, vI 1), (5, vI x81), (4, vI x67), (0, vR Γ 6), (1, vI x65), (3, vI x66)] d_Er_reduce_117 (by decide) rfl ?_
  exact sb_lv [3, 4, 5, 2, 1, 0] rfl (s_Er_reduce_L119 (s_Er_reduce_b172 hk2) FU γ76 x65 x66 x67 x81 1 hx65 hx66 hx67 hx81 (by decide))
set_option maxHeartbeats 4000000 in
theorem s_Er_reduce_L2 {Γ : Ctx} : ∀ (n : Nat) (γ : St) (x84 : Int) (x85 : Int), i32 x84 → i32 x85 → SB Γ BS mt_Er_reduce (RmN 7 263) 0 0 (KN Γ BS mt_Er_reduce.2.2.2) 2 [(0, vR Γ 6), (1, vI x84), (2, vI x85)] [] γ (f_Er_reduce_L2 n γ x84 x85) := by
  intro n
  induction n with
  | zero => intros; exact sb_none
  | succ n ih =>
    intro γ x84 x85 hx84 hx85
    unfold f_Er_reduce_L2
    refine sb_iload_n 2 d_Er_reduce_2 rfl ?_
    refine sb_if_eq 237 hx85 d_Er_reduce_3 (by decide) (fun _ => ?_) (fun _ => ?_)
    · refine sb_iload_n 2 d_Er_reduce_237 rfl ?_
      refine sb_chk (fun c86 => ?_)
      exact sn_z rfl c86 d_Er_reduce_238
    · refine sb_aload_n 0 d_Er_reduce_6 rfl ?_
      refine g_Er_39 d_Er_reduce_7 (fun c87 => ?_)
      refine sb_if_le 237 c87 d_Er_reduce_10 (by decide) (fun _ => ?_) (fun _ => ?_)
      · refine sb_iload_n 2 d_Er_reduce_237 rfl ?_
        refine sb_chk (fun c88 => ?_)
        exact sn_z rfl c88 d_Er_reduce_238
      · refine sb_aload_n 0 d_Er_reduce_13 rfl ?_
        refine g_Er_11 d_Er_reduce_14 ?_
        refine sb_aload_n 0 d_Er_reduce_17 rfl ?_
        refine g_Er_39 d_Er_reduce_18 (fun c90 => ?_)
        refine sb_iconst d_Er_reduce_21 ?_
        refine sb_isub d_Er_reduce_22 ?_
        refine sb_chk (fun c91 => ?_)
        refine al_S_48 d_Er_reduce_23 (fun _ c92 => ?_)
        refine sb_cNi vf_S_rank (c_S_rank γ (γ 48 ((γ 6 8) - 1)) c92) (fun X => X.E.2.2.2.2.2.2.2.1) (As := [vI (γ 48 ((γ 6 8) - 1))]) rfl rfl (Nat.le_of_ble_eq_true rfl) ⟨by decide, by decide⟩ d_Er_reduce_24 (fun r93 γ94 hr93 => ?_)
        refine sb_iload_n 1 d_Er_reduce_27 rfl ?_
        refine sb_icmp_lt 237 hr93 hx84 d_Er_reduce_28 (by decide) (fun _ => ?_) (fun _ => ?_)
        · refine sb_iload_n 2 d_Er_reduce_237 rfl ?_
          refine sb_chk (fun c95 => ?_)
          exact sn_z rfl c95 d_Er_reduce_238
        · refine sb_aload_n 0 d_Er_reduce_31 rfl ?_
          refine sb_dup d_Er_reduce_32 rfl ?_
          refine g_Er_39 d_Er_reduce_33 (fun c96 => ?_)
          refine sb_iconst d_Er_reduce_36 ?_
          refine sb_isub d_Er_reduce_37 ?_
          refine sb_chk (fun c97 => ?_)
          refine p_Er_39 c97 d_Er_reduce_38 ?_
          refine sb_aps (fun γ98 => ?_)
          refine sb_aload_n 0 d_Er_reduce_41 rfl ?_
          refine g_Er_11 d_Er_reduce_42 ?_
          refine sb_aload_n 0 d_Er_reduce_45 rfl ?_
          refine g_Er_39 d_Er_reduce_46 (fun c100 => ?_)
          refine al_S_48 d_Er_reduce_49 (fun _ c101 => ?_)
          refine sb_istore_n [(3, vI (γ98 48 (γ98 6 8))), (0, vR Γ 6), (1, vI x84), (2, vI x85)] d_Er_reduce_50 (by decide) rfl ?_
          refine sb_nme (e := γ98 48 (γ98 6 8)) (fun x102 => [(3, vI x102), (0, vR Γ 6), (1, vI x84), (2, vI x85)]) c101 (fun x102 hx102 => ?_)
          refine sb_iload_n 0 d_Er_reduce_51 rfl ?_
          refine sb_bipush d_Er_reduce_52 (by decide) ?_
          refine sb_icmp_ne 61 hx102 (by decide) d_Er_reduce_54 (by decide) (fun _ => ?_) (fun _ => ?_)
          · refine sb_iload_n 0 d_Er_reduce_61 rfl ?_
            refine sb_cNi vf_S_rank (c_S_rank γ98 x102 hx102) (fun X => X.E.2.2.2.2.2.2.2.1) (As := [vI x102]) rfl rfl (Nat.le_of_ble_eq_true rfl) ⟨by decide, by decide⟩ d_Er_reduce_62 (fun r103 γ104 hr103 => ?_)
            refine sb_bipush d_Er_reduce_65 (by decide) ?_
            refine sb_icmp_ne 74 hr103 (by decide) d_Er_reduce_67 (by decide) (fun _ => ?_) (fun _ => ?_)
            · refine sb_iconst d_Er_reduce_74 ?_
              exact sb_lv [1, 2, 0] rfl (s_Er_reduce_b75 ih γ104 x84 x102 2 hx84 hx102 (by decide))
            · refine sb_iconst d_Er_reduce_70 ?_
              refine sb_goto 75 d_Er_reduce_71 (by decide) ?_
              exact sb_lv [1, 2, 0] rfl (s_Er_reduce_b75 ih γ104 x84 x102 1 hx84 hx102 (by decide))
          · refine sb_iconst d_Er_reduce_57 ?_
            refine sb_goto 75 d_Er_reduce_58 (by decide) ?_
            exact sb_lv [1, 2, 0] rfl (s_Er_reduce_b75 ih γ98 x84 x102 3 hx84 hx102 (by decide))
set_option maxHeartbeats 4000000 in
theorem c_Er_reduce {Γ : Ctx} (γ : St) (a0 : Int) (ha0 : i32 a0) : NC Γ BS y_Er_reduce mt_Er_reduce 7 263 [vR Γ 6, vI a0] γ (f_Er_reduce γ a0) := by
  refine nc_of (by decide) rfl (Nat.le_of_ble_eq_true rfl) ?_
  show SB Γ BS mt_Er_reduce (RmN 7 263) 0 0 (KN Γ BS mt_Er_reduce.2.2.2) 0 [(0, vR Γ 6), (1, vI a0)] [] γ _
  unfold f_Er_reduce
  refine sb_iconst d_Er_reduce_0 ?_
  refine sb_istore_n [(2, vI 1), (0, vR Γ 6), (1, vI a0)] d_Er_reduce_1 (by decide) rfl ?_
  exact sb_lv [1, 2, 0] rfl (s_Er_reduce_L2  FU γ a0 1 ha0 (by decide))
theorem d_Er_readTwoSided_0 : decode b_Er_readTwoSided 0 = .ok (.iload_n 2, 1) := by decide +kernel
theorem d_Er_readTwoSided_1 : decode b_Er_readTwoSided 1 = .ok (.iconst 2, 1) := by decide +kernel
theorem d_Er_readTwoSided_2 : decode b_Er_readTwoSided 2 = .ok (.if_icmp .gt 7, 3) := by decide +kernel
theorem d_Er_readTwoSided_5 : decode b_Er_readTwoSided 5 = .ok (.iconst 1, 1) := by decide +kernel
theorem d_Er_readTwoSided_6 : decode b_Er_readTwoSided 6 = .ok (.goto 4, 3) := by decide +kernel
theorem d_Er_readTwoSided_9 : decode b_Er_readTwoSided 9 = .ok (.iconst 0, 1) := by decide +kernel
theorem d_Er_readTwoSided_10 : decode b_Er_readTwoSided 10 = .ok (.istore_n 3, 1) := by decide +kernel
theorem d_Er_readTwoSided_11 : decode b_Er_readTwoSided 11 = .ok (.aload_n 0, 1) := by decide +kernel
theorem d_Er_readTwoSided_12 : decode b_Er_readTwoSided 12 = .ok (.iload_n 3, 1) := by decide +kernel
theorem d_Er_readTwoSided_13 : decode b_Er_readTwoSided 13 = .ok (.ifCond .ne 8, 3) := by decide +kernel
theorem d_Er_readTwoSided_16 : decode b_Er_readTwoSided 16 = .ok (.iload_n 2, 1) := by decide +kernel
theorem d_Er_readTwoSided_17 : decode b_Er_readTwoSided 17 = .ok (.iconst 5, 1) := by decide +kernel
theorem d_Er_readTwoSided_18 : decode b_Er_readTwoSided 18 = .ok (.if_icmp .ne 9, 3) := by decide +kernel
theorem d_Er_readTwoSided_21 : decode b_Er_readTwoSided 21 = .ok (.iload_n 2, 1) := by decide +kernel
theorem d_Er_readTwoSided_22 : decode b_Er_readTwoSided 22 = .ok (.iconst 1, 1) := by decide +kernel
theorem d_Er_readTwoSided_23 : decode b_Er_readTwoSided 23 = .ok (.iadd, 1) := by decide +kernel
theorem d_Er_readTwoSided_24 : decode b_Er_readTwoSided 24 = .ok (.goto 4, 3) := by decide +kernel
theorem d_Er_readTwoSided_27 : decode b_Er_readTwoSided 27 = .ok (.iload_n 2, 1) := by decide +kernel
theorem d_Er_readTwoSided_28 : decode b_Er_readTwoSided 28 = .ok (.invokevirtual 160, 3) := by decide +kernel
theorem d_Er_readTwoSided_31 : decode b_Er_readTwoSided 31 = .ok (.ifCond .ne 5, 3) := by decide +kernel
theorem d_Er_readTwoSided_34 : decode b_Er_readTwoSided 34 = .ok (.iconst 0, 1) := by decide +kernel
theorem d_Er_readTwoSided_35 : decode b_Er_readTwoSided 35 = .ok (.ireturn, 1) := by decide +kernel
theorem d_Er_readTwoSided_36 : decode b_Er_readTwoSided 36 = .ok (.iload_n 2, 1) := by decide +kernel
theorem d_Er_readTwoSided_37 : decode b_Er_readTwoSided 37 = .ok (.iconst 5, 1) := by decide +kernel
theorem d_Er_readTwoSided_38 : decode b_Er_readTwoSided 38 = .ok (.if_icmp .ne 53, 3) := by decide +kernel
theorem d_Er_readTwoSided_41 : decode b_Er_readTwoSided 41 = .ok (.aload_n 0, 1) := by decide +kernel
theorem d_Er_readTwoSided_42 : decode b_Er_readTwoSided 42 = .ok (.getfield 39, 3) := by decide +kernel
theorem d_Er_readTwoSided_45 : decode b_Er_readTwoSided 45 = .ok (.ifCond .le 46, 3) := by decide +kernel
theorem d_Er_readTwoSided_48 : decode b_Er_readTwoSided 48 = .ok (.aload_n 0, 1) := by decide +kernel
theorem d_Er_readTwoSided_49 : decode b_Er_readTwoSided 49 = .ok (.getfield 11, 3) := by decide +kernel
theorem d_Er_readTwoSided_52 : decode b_Er_readTwoSided 52 = .ok (.aload_n 0, 1) := by decide +kernel
theorem d_Er_readTwoSided_53 : decode b_Er_readTwoSided 53 = .ok (.getfield 39, 3) := by decide +kernel
theorem d_Er_readTwoSided_56 : decode b_Er_readTwoSided 56 = .ok (.iconst 1, 1) := by decide +kernel
theorem d_Er_readTwoSided_57 : decode b_Er_readTwoSided 57 = .ok (.isub, 1) := by decide +kernel
theorem d_Er_readTwoSided_58 : decode b_Er_readTwoSided 58 = .ok (.iaload, 1) := by decide +kernel
theorem d_Er_readTwoSided_59 : decode b_Er_readTwoSided 59 = .ok (.invokestatic 154, 3) := by decide +kernel
theorem d_Er_readTwoSided_62 : decode b_Er_readTwoSided 62 = .ok (.iconst 5, 1) := by decide +kernel
theorem d_Er_readTwoSided_63 : decode b_Er_readTwoSided 63 = .ok (.if_icmp .ne 28, 3) := by decide +kernel
theorem d_Er_readTwoSided_66 : decode b_Er_readTwoSided 66 = .ok (.aload_n 0, 1) := by decide +kernel
theorem d_Er_readTwoSided_67 : decode b_Er_readTwoSided 67 = .ok (.iconst 1, 1) := by decide +kernel
theorem d_Er_readTwoSided_68 : decode b_Er_readTwoSided 68 = .ok (.invokevirtual 160, 3) := by decide +kernel
theorem d_Er_readTwoSided_71 : decode b_Er_readTwoSided 71 = .ok (.ifCond .eq 18, 3) := by decide +kernel
theorem d_Er_readTwoSided_74 : decode b_Er_readTwoSided 74 = .ok (.aload_n 0, 1) := by decide +kernel
theorem d_Er_readTwoSided_75 : decode b_Er_readTwoSided 75 = .ok (.getfield 27, 3) := by decide +kernel
theorem d_Er_readTwoSided_78 : decode b_Er_readTwoSided 78 = .ok (.iconst 1, 1) := by decide +kernel
theorem d_Er_readTwoSided_79 : decode b_Er_readTwoSided 79 = .ok (.invokevirtual 105, 3) := by decide +kernel
theorem d_Er_readTwoSided_82 : decode b_Er_readTwoSided 82 = .ok (.ifCond .eq 7, 3) := by decide +kernel
theorem d_Er_readTwoSided_85 : decode b_Er_readTwoSided 85 = .ok (.iconst 1, 1) := by decide +kernel
theorem d_Er_readTwoSided_86 : decode b_Er_readTwoSided 86 = .ok (.goto 4, 3) := by decide +kernel
theorem d_Er_readTwoSided_89 : decode b_Er_readTwoSided 89 = .ok (.iconst 0, 1) := by decide +kernel
theorem d_Er_readTwoSided_90 : decode b_Er_readTwoSided 90 = .ok (.ireturn, 1) := by decide +kernel
theorem d_Er_readTwoSided_91 : decode b_Er_readTwoSided 91 = .ok (.aload_n 0, 1) := by decide +kernel
theorem d_Er_readTwoSided_92 : decode b_Er_readTwoSided 92 = .ok (.iload_n 1, 1) := by decide +kernel
theorem d_Er_readTwoSided_93 : decode b_Er_readTwoSided 93 = .ok (.iload_n 2, 1) := by decide +kernel
theorem d_Er_readTwoSided_94 : decode b_Er_readTwoSided 94 = .ok (.iconst 1, 1) := by decide +kernel
theorem d_Er_readTwoSided_95 : decode b_Er_readTwoSided 95 = .ok (.if_icmp .ne 7, 3) := by decide +kernel
theorem d_Er_readTwoSided_98 : decode b_Er_readTwoSided 98 = .ok (.iconst 1, 1) := by decide +kernel
theorem d_Er_readTwoSided_99 : decode b_Er_readTwoSided 99 = .ok (.goto 4, 3) := by decide +kernel
theorem d_Er_readTwoSided_102 : decode b_Er_readTwoSided 102 = .ok (.iconst 0, 1) := by decide +kernel
theorem d_Er_readTwoSided_103 : decode b_Er_readTwoSided 103 = .ok (.invokevirtual 134, 3) := by decide +kernel
theorem d_Er_readTwoSided_106 : decode b_Er_readTwoSided 106 = .ok (.ireturn, 1) := by decide +kernel
abbrev mt_Er_readTwoSided : MT := (R_Er, b_Er_readTwoSided, 4, some .boolean)
theorem vf_Er_readTwoSided : VF y_Er_readTwoSided mt_Er_readTwoSided 3 2 := ⟨im_Er_readTwoSided, se_Er_readTwoSided, in_Er, co_Er_readTwoSided, by decide +kernel, _, _, rfl⟩
def f_Er_readTwoSided_b103 (γ : St) (x1 : Int) (x2 : Int) : Option (Int × St) :=
  bndN (f_Er_push γ x2 x1) fun r3 γ4 =>
  some (r3, γ4)
def f_Er_readTwoSided_b91 (γ : St) (x5 : Int) (x6 : Int) : Option (Int × St) :=
  if x6 ≠ 1 then
  (f_Er_readTwoSided_b103 γ 0 x5)
  else
  (f_Er_readTwoSided_b103 γ 1 x5)
def f_Er_readTwoSided_b28 (γ : St) (x7 : Int) (x8 : Int) (x9 : Int) : Option (Int × St) :=
  bndN (f_Er_reduce γ x9) fun r10 γ11 =>
  if r10 ≠ 0 then
  (if x8 ≠ 5 then
  (f_Er_readTwoSided_b91 γ11 x7 x8)
  else
  (if (γ11 6 8) ≤ 0 then
  (f_Er_readTwoSided_b91 γ11 x7 x8)
  else
  (chk (i32 ((γ11 6 8) - 1)) (chk (inb ((γ11 6 8) - 1) 512) (bndN (f_S_rank γ11 (γ11 48 ((γ11 6 8) - 1))) fun r17 γ18 =>
  if r17 ≠ 5 then
  (f_Er_readTwoSided_b91 γ18 x7 x8)
  else
  (bndN (f_Er_reduce γ18 1) fun r19 γ20 =>
  if r19 = 0 then
  (some (0, γ20))
  else
  (bndN (f_Tk_fail γ20 1) fun r22 γ23 =>
  if r22 = 0 then
  (some (0, γ23))
  else
  (some (1, γ23)))))))))
  else
  (some (0, γ11))
def f_Er_readTwoSided_b21 (γ : St) (x24 : Int) (x25 : Int) : Option (Int × St) :=
  chk (i32 (x25 + 1)) (f_Er_readTwoSided_b28 γ x24 x25 (x25 + 1))
def f_Er_readTwoSided_b10 (γ : St) (x27 : Int) (x28 : Int) (x29 : Int) : Option (Int × St) :=
  if x29 ≠ 0 then
  (f_Er_readTwoSided_b21 γ x27 x28)
  else
  (if x28 ≠ 5 then
  (f_Er_readTwoSided_b28 γ x27 x28 x28)
  else
  (f_Er_readTwoSided_b21 γ x27 x28))
def f_Er_readTwoSided (γ : St) (a0 : Int) (a1 : Int) : Option (Int × St) :=
  if 2 < a1 then
  (f_Er_readTwoSided_b10 γ a0 a1 0)
  else
  (f_Er_readTwoSided_b10 γ a0 a1 1)
set_option maxHeartbeats 4000000 in
theorem s_Er_readTwoSided_b103 {Γ : Ctx} : ∀ (γ : St) (x1 : Int) (x2 : Int), i32 x1 → i32 x2 → SB Γ BS mt_Er_readTwoSided (RmN 8 289) 0 0 (KN Γ BS mt_Er_readTwoSided.2.2.2) 103 [(0, vR Γ 6)] [vI x1, vI x2, vR Γ 6] γ (f_Er_readTwoSided_b103 γ x1 x2) := by
  intro γ x1 x2 hx1 hx2
  unfold f_Er_readTwoSided_b103
  refine sb_cVz vf_Er_push (c_Er_push γ x2 x1 hx2 hx1) rfl ml_Er_134 (As := [vI x2, vI x1]) rfl rfl (Nat.le_of_ble_eq_true rfl) ⟨by decide, by decide⟩ d_Er_readTwoSided_103 (fun r3 γ4 hr3 => ?_)
  exact sn_z rfl hr3 d_Er_readTwoSided_106
set_option maxHeartbeats 4000000 in
theorem s_Er_readTwoSided_b91 {Γ : Ctx} : ∀ (γ : St) (x5 : Int) (x6 : Int), i32 x5 → i32 x6 → SB Γ BS mt_Er_readTwoSided (RmN 8 289) 0 0 (KN Γ BS mt_Er_readTwoSided.2.2.2) 91 [(0, vR Γ 6), (1, vI x5), (2, vI x6)] [] γ (f_Er_readTwoSided_b91 γ x5 x6) := by
  intro γ x5 x6 hx5 hx6
  unfold f_Er_readTwoSided_b91
  refine sb_aload_n 0 d_Er_readTwoSided_91 rfl ?_
  refine sb_iload_n 1 d_Er_readTwoSided_92 rfl ?_
  refine sb_iload_n 2 d_Er_readTwoSided_93 rfl ?_
  refine sb_iconst d_Er_readTwoSided_94 ?_
  refine sb_icmp_ne 102 hx6 (by decide) d_Er_readTwoSided_95 (by decide) (fun _ => ?_) (fun _ => ?_)
  · refine sb_iconst d_Er_readTwoSided_102 ?_
    exact sb_lv [0] rfl (s_Er_readTwoSided_b103 γ 0 x5 (by decide) hx5)
  · refine sb_iconst d_Er_readTwoSided_98 ?_
    refine sb_goto 103 d_Er_readTwoSided_99 (by decide) ?_
    exact sb_lv [0] rfl (s_Er_readTwoSided_b103 γ 1 x5 (by decide) hx5)
set_option maxHeartbeats 4000000 in
theorem s_Er_readTwoSided_b28 {Γ : Ctx} : ∀ (γ : St) (x7 : Int) (x8 : Int) (x9 : Int), i32 x7 → i32 x8 → i32 x9 → SB Γ BS mt_Er_readTwoSided (RmN 8 289) 0 0 (KN Γ BS mt_Er_readTwoSided.2.2.2) 28 [(0, vR Γ 6), (1, vI x7), (2, vI x8)] [vI x9, vR Γ 6] γ (f_Er_readTwoSided_b28 γ x7 x8 x9) := by
  intro γ x7 x8 x9 hx7 hx8 hx9
  unfold f_Er_readTwoSided_b28
  refine sb_cVz vf_Er_reduce (c_Er_reduce γ x9 hx9) rfl ml_Er_160 (As := [vI x9]) rfl rfl (Nat.le_of_ble_eq_true rfl) ⟨by decide, by decide⟩ d_Er_readTwoSided_28 (fun r10 γ11 hr10 => ?_)
  refine sb_if_ne 36 (z2i hr10) d_Er_readTwoSided_31 (by decide) (fun _ => ?_) (fun _ => ?_)
  · refine sb_iload_n 2 d_Er_readTwoSided_36 rfl ?_
    refine sb_iconst d_Er_readTwoSided_37 ?_
    refine sb_icmp_ne 91 hx8 (by decide) d_Er_readTwoSided_38 (by decide) (fun _ => ?_) (fun _ => ?_)
    · exact sb_lv [0, 1, 2] rfl (s_Er_readTwoSided_b91 γ11 x7 x8 hx7 hx8)
    · refine sb_aload_n 0 d_Er_readTwoSided_41 rfl ?_
      refine g_Er_39 d_Er_readTwoSided_42 (fun c12 => ?_)
      refine sb_if_le 91 c12 d_Er_readTwoSided_45 (by decide) (fun _ => ?_) (fun _ => ?_)
      · exact sb_lv [0, 1, 2] rfl (s_Er_readTwoSided_b91 γ11 x7 x8 hx7 hx8)
      · refine sb_aload_n 0 d_Er_readTwoSided_48 rfl ?_
        refine g_Er_11 d_Er_readTwoSided_49 ?_
        refine sb_aload_n 0 d_Er_readTwoSided_52 rfl ?_
        refine g_Er_39 d_Er_readTwoSided_53 (fun c14 => ?_)
        refine sb_iconst d_Er_readTwoSided_56 ?_
        refine sb_isub d_Er_readTwoSided_57 ?_
        refine sb_chk (fun c15 => ?_)
        refine al_S_48 d_Er_readTwoSided_58 (fun _ c16 => ?_)
        refine sb_cNi vf_S_rank (c_S_rank γ11 (γ11 48 ((γ11 6 8) - 1)) c16) (fun X => X.E.2.2.2.2.2.2.2.1) (As := [vI (γ11 48 ((γ11 6 8) - 1))]) rfl rfl (Nat.le_of_ble_eq_true rfl) ⟨by decide, by decide⟩ d_Er_readTwoSided_59 (fun r17 γ18 hr17 => ?_)
        refine sb_iconst d_Er_readTwoSided_62 ?_
        refine sb_icmp_ne 91 hr17 (by decide) d_Er_readTwoSided_63 (by decide) (fun _ => ?_) (fun _ => ?_)
        · exact sb_lv [0, 1, 2] rfl (s_Er_readTwoSided_b91 γ18 x7 x8 hx7 hx8)
        · refine sb_aload_n 0 d_Er_readTwoSided_66 rfl ?_
          refine sb_iconst d_Er_readTwoSided_67 ?_
          refine sb_cVz vf_Er_reduce (c_Er_reduce γ18 1 (by decide)) rfl ml_Er_160 (As := [vI 1]) rfl rfl (Nat.le_of_ble_eq_true rfl) ⟨by decide, by decide⟩ d_Er_readTwoSided_68 (fun r19 γ20 hr19 => ?_)
          refine sb_if_eq 89 (z2i hr19) d_Er_readTwoSided_71 (by decide) (fun _ => ?_) (fun _ => ?_)
          · refine sb_iconst d_Er_readTwoSided_89 ?_
            exact sn_z rfl (by decide) d_Er_readTwoSided_90
          · refine sb_aload_n 0 d_Er_readTwoSided_74 rfl ?_
            refine g_Er_27 d_Er_readTwoSided_75 ?_
            refine sb_iconst d_Er_readTwoSided_78 ?_
            refine sb_cVz vf_Tk_fail (c_Tk_fail γ20 1 (by decide)) rfl ml_Er_105 (As := [vI 1]) rfl rfl (Nat.le_of_ble_eq_true rfl) ⟨by decide, by decide⟩ d_Er_readTwoSided_79 (fun r22 γ23 hr22 => ?_)
            refine sb_if_eq 89 (z2i hr22) d_Er_readTwoSided_82 (by decide) (fun _ => ?_) (fun _ => ?_)
            · refine sb_iconst d_Er_readTwoSided_89 ?_
              exact sn_z rfl (by decide) d_Er_readTwoSided_90
            · refine sb_iconst d_Er_readTwoSided_85 ?_
              refine sb_goto 90 d_Er_readTwoSided_86 (by decide) ?_
              exact sn_z rfl (by decide) d_Er_readTwoSided_90
  · refine sb_iconst d_Er_readTwoSided_34 ?_
    exact sn_z rfl (by decide) d_Er_readTwoSided_35
set_option maxHeartbeats 4000000 in
theorem s_Er_readTwoSided_b21 {Γ : Ctx} : ∀ (γ : St) (x24 : Int) (x25 : Int), i32 x24 → i32 x25 → SB Γ BS mt_Er_readTwoSided (RmN 8 289) 0 0 (KN Γ BS mt_Er_readTwoSided.2.2.2) 21 [(0, vR Γ 6), (1, vI x24), (2, vI x25)] [vR Γ 6] γ (f_Er_readTwoSided_b21 γ x24 x25) := by
  intro γ x24 x25 hx24 hx25
  unfold f_Er_readTwoSided_b21
  refine sb_iload_n 2 d_Er_readTwoSided_21 rfl ?_
  refine sb_iconst d_Er_readTwoSided_22 ?_
  refine sb_iadd d_Er_readTwoSided_23 ?_
  refine sb_chk (fun c26 => ?_)
  refine sb_goto 28 d_Er_readTwoSided_24 (by decide) ?_
  exact sb_lv [0, 1, 2] rfl (s_Er_readTwoSided_b28 γ x24 x25 (x25 + 1) hx24 hx25 c26)
set_option maxHeartbeats 4000000 in
theorem s_Er_readTwoSided_b10 {Γ : Ctx} : ∀ (γ : St) (x27 : Int) (x28 : Int) (x29 : Int), i32 x27 → i32 x28 → i32 x29 → SB Γ BS mt_Er_readTwoSided (RmN 8 289) 0 0 (KN Γ BS mt_Er_readTwoSided.2.2.2) 10 [(0, vR Γ 6), (1, vI x27), (2, vI x28)] [vI x29] γ (f_Er_readTwoSided_b10 γ x27 x28 x29) := by
  intro γ x27 x28 x29 hx27 hx28 hx29
  unfold f_Er_readTwoSided_b10
  refine sb_istore_n [(3, vI x29), (0, vR Γ 6), (1, vI x27), (2, vI x28)] d_Er_readTwoSided_10 (by decide) rfl ?_
  refine sb_aload_n 1 d_Er_readTwoSided_11 rfl ?_
  refine sb_iload_n 0 d_Er_readTwoSided_12 rfl ?_
  refine sb_if_ne 21 hx29 d_Er_readTwoSided_13 (by decide) (fun _ => ?_) (fun _ => ?_)
  · exact sb_lv [1, 2, 3] rfl (s_Er_readTwoSided_b21 γ x27 x28 hx27 hx28)
  · refine sb_iload_n 3 d_Er_readTwoSided_16 rfl ?_
    refine sb_iconst d_Er_readTwoSided_17 ?_
    refine sb_icmp_ne 27 hx28 (by decide) d_Er_readTwoSided_18 (by decide) (fun _ => ?_) (fun _ => ?_)
    · refine sb_iload_n 3 d_Er_readTwoSided_27 rfl ?_
      exact sb_lv [1, 2, 3] rfl (s_Er_readTwoSided_b28 γ x27 x28 x28 hx27 hx28 hx28)
    · exact sb_lv [1, 2, 3] rfl (s_Er_readTwoSided_b21 γ x27 x28 hx27 hx28)
set_option maxHeartbeats 4000000 in
theorem c_Er_readTwoSided {Γ : Ctx} (γ : St) (a0 : Int) (a1 : Int) (ha0 : i32 a0) (ha1 : i32 a1) : NC Γ BS y_Er_readTwoSided mt_Er_readTwoSided 8 289 [vR Γ 6, vI a0, vI a1] γ (f_Er_readTwoSided γ a0 a1) := by
  refine nc_of (by decide) rfl (Nat.le_of_ble_eq_true rfl) ?_
  show SB Γ BS mt_Er_readTwoSided (RmN 8 289) 0 0 (KN Γ BS mt_Er_readTwoSided.2.2.2) 0 [(0, vR Γ 6), (1, vI a0), (2, vI a1)] [] γ _
  unfold f_Er_readTwoSided
  refine sb_iload_n 2 d_Er_readTwoSided_0 rfl ?_
  refine sb_iconst d_Er_readTwoSided_1 ?_
  refine sb_icmp_gt 9 ha1 (by decide) d_Er_readTwoSided_2 (by decide) (fun _ => ?_) (fun _ => ?_)
  · refine sb_iconst d_Er_readTwoSided_9 ?_
    exact sb_lv [0, 1, 2] rfl (s_Er_readTwoSided_b10 γ a0 a1 0 ha0 ha1 (by decide))
  · refine sb_iconst d_Er_readTwoSided_5 ?_
    refine sb_goto 10 d_Er_readTwoSided_6 (by decide) ?_
    exact sb_lv [0, 1, 2] rfl (s_Er_readTwoSided_b10 γ a0 a1 1 ha0 ha1 (by decide))
theorem d_Er_goOnBehind_0 : decode b_Er_goOnBehind 0 = .ok (.aload_n 0, 1) := by decide +kernel
theorem d_Er_goOnBehind_1 : decode b_Er_goOnBehind 1 = .ok (.getfield 11, 3) := by decide +kernel
theorem d_Er_goOnBehind_4 : decode b_Er_goOnBehind 4 = .ok (.aload_n 0, 1) := by decide +kernel
theorem d_Er_goOnBehind_5 : decode b_Er_goOnBehind 5 = .ok (.getfield 39, 3) := by decide +kernel
theorem d_Er_goOnBehind_8 : decode b_Er_goOnBehind 8 = .ok (.iconst 1, 1) := by decide +kernel
theorem d_Er_goOnBehind_9 : decode b_Er_goOnBehind 9 = .ok (.isub, 1) := by decide +kernel
theorem d_Er_goOnBehind_10 : decode b_Er_goOnBehind 10 = .ok (.iload_n 1, 1) := by decide +kernel
theorem d_Er_goOnBehind_11 : decode b_Er_goOnBehind 11 = .ok (.iastore, 1) := by decide +kernel
theorem d_Er_goOnBehind_12 : decode b_Er_goOnBehind 12 = .ok (.aload_n 0, 1) := by decide +kernel
theorem d_Er_goOnBehind_13 : decode b_Er_goOnBehind 13 = .ok (.iconst 1, 1) := by decide +kernel
theorem d_Er_goOnBehind_14 : decode b_Er_goOnBehind 14 = .ok (.putfield 53, 3) := by decide +kernel
theorem d_Er_goOnBehind_17 : decode b_Er_goOnBehind 17 = .ok (.aload_n 0, 1) := by decide +kernel
theorem d_Er_goOnBehind_18 : decode b_Er_goOnBehind 18 = .ok (.iconst 1, 1) := by decide +kernel
theorem d_Er_goOnBehind_19 : decode b_Er_goOnBehind 19 = .ok (.putfield 56, 3) := by decide +kernel
theorem d_Er_goOnBehind_22 : decode b_Er_goOnBehind 22 = .ok (.aload_n 0, 1) := by decide +kernel
theorem d_Er_goOnBehind_23 : decode b_Er_goOnBehind 23 = .ok (.getfield 27, 3) := by decide +kernel
theorem d_Er_goOnBehind_26 : decode b_Er_goOnBehind 26 = .ok (.invokevirtual 98, 3) := by decide +kernel
theorem d_Er_goOnBehind_29 : decode b_Er_goOnBehind 29 = .ok (.iconst 1, 1) := by decide +kernel
theorem d_Er_goOnBehind_30 : decode b_Er_goOnBehind 30 = .ok (.ireturn, 1) := by decide +kernel
abbrev mt_Er_goOnBehind : MT := (R_Er, b_Er_goOnBehind, 2, some .boolean)
theorem vf_Er_goOnBehind : VF y_Er_goOnBehind mt_Er_goOnBehind 3 1 := ⟨im_Er_goOnBehind, se_Er_goOnBehind, in_Er, co_Er_goOnBehind, by decide +kernel, _, _, rfl⟩
def f_Er_goOnBehind (γ : St) (a0 : Int) : Option (Int × St) :=
  chk (i32 ((γ 6 8) - 1)) (chk (inb ((γ 6 8) - 1) 512) (ap (setA γ 48 ((γ 6 8) - 1) a0) fun γ4 =>
  ap (setA γ4 6 12 1) fun γ5 =>
  ap (setA γ5 6 13 1) fun γ6 =>
  bndN (f_Tk_step γ6) fun _ γ9 =>
  some (1, γ9)))
set_option maxHeartbeats 4000000 in
theorem c_Er_goOnBehind {Γ : Ctx} (γ : St) (a0 : Int) (ha0 : i32 a0) : NC Γ BS y_Er_goOnBehind mt_Er_goOnBehind 7 260 [vR Γ 6, vI a0] γ (f_Er_goOnBehind γ a0) := by
  refine nc_of (by decide) rfl (Nat.le_of_ble_eq_true rfl) ?_
  show SB Γ BS mt_Er_goOnBehind (RmN 7 260) 0 0 (KN Γ BS mt_Er_goOnBehind.2.2.2) 0 [(0, vR Γ 6), (1, vI a0)] [] γ _
  unfold f_Er_goOnBehind
  refine sb_aload_n 0 d_Er_goOnBehind_0 rfl ?_
  refine g_Er_11 d_Er_goOnBehind_1 ?_
  refine sb_aload_n 0 d_Er_goOnBehind_4 rfl ?_
  refine g_Er_39 d_Er_goOnBehind_5 (fun c2 => ?_)
  refine sb_iconst d_Er_goOnBehind_8 ?_
  refine sb_isub d_Er_goOnBehind_9 ?_
  refine sb_chk (fun c3 => ?_)
  refine sb_iload_n 1 d_Er_goOnBehind_10 rfl ?_
  refine as_S_48 ha0 d_Er_goOnBehind_11 (fun _ => ?_)
  refine sb_aps (fun γ4 => ?_)
  refine sb_aload_n 0 d_Er_goOnBehind_12 rfl ?_
  refine sb_iconst d_Er_goOnBehind_13 ?_
  refine p_Er_53 (by decide) d_Er_goOnBehind_14 ?_
  refine sb_aps (fun γ5 => ?_)
  refine sb_aload_n 0 d_Er_goOnBehind_17 rfl ?_
  refine sb_iconst d_Er_goOnBehind_18 ?_
  refine p_Er_56 (by decide) d_Er_goOnBehind_19 ?_
  refine sb_aps (fun γ6 => ?_)
  refine sb_aload_n 0 d_Er_goOnBehind_22 rfl ?_
  refine g_Er_27 d_Er_goOnBehind_23 ?_
  refine sb_cVv vf_Tk_step (c_Tk_step γ6  ) rfl ml_Er_98 (As := []) rfl rfl (Nat.le_of_ble_eq_true rfl) ⟨by decide, by decide⟩ d_Er_goOnBehind_26 (fun _ γ9 => ?_)
  refine sb_iconst d_Er_goOnBehind_29 ?_
  exact sn_z rfl (by decide) d_Er_goOnBehind_30
theorem d_Er_takeInput_0 : decode b_Er_takeInput 0 = .ok (.aload_n 0, 1) := by decide +kernel
theorem d_Er_takeInput_1 : decode b_Er_takeInput 1 = .ok (.dup, 1) := by decide +kernel
theorem d_Er_takeInput_2 : decode b_Er_takeInput 2 = .ok (.getfield 43, 3) := by decide +kernel
theorem d_Er_takeInput_5 : decode b_Er_takeInput 5 = .ok (.iconst 1, 1) := by decide +kernel
theorem d_Er_takeInput_6 : decode b_Er_takeInput 6 = .ok (.isub, 1) := by decide +kernel
theorem d_Er_takeInput_7 : decode b_Er_takeInput 7 = .ok (.putfield 43, 3) := by decide +kernel
theorem d_Er_takeInput_10 : decode b_Er_takeInput 10 = .ok (.aload_n 0, 1) := by decide +kernel
theorem d_Er_takeInput_11 : decode b_Er_takeInput 11 = .ok (.getfield 39, 3) := by decide +kernel
theorem d_Er_takeInput_14 : decode b_Er_takeInput 14 = .ok (.iconst 1, 1) := by decide +kernel
theorem d_Er_takeInput_15 : decode b_Er_takeInput 15 = .ok (.isub, 1) := by decide +kernel
theorem d_Er_takeInput_16 : decode b_Er_takeInput 16 = .ok (.istore_n 1, 1) := by decide +kernel
theorem d_Er_takeInput_17 : decode b_Er_takeInput 17 = .ok (.aload_n 0, 1) := by decide +kernel
theorem d_Er_takeInput_18 : decode b_Er_takeInput 18 = .ok (.getfield 18, 3) := by decide +kernel
theorem d_Er_takeInput_21 : decode b_Er_takeInput 21 = .ok (.iload_n 1, 1) := by decide +kernel
theorem d_Er_takeInput_22 : decode b_Er_takeInput 22 = .ok (.dup2, 1) := by decide +kernel
theorem d_Er_takeInput_23 : decode b_Er_takeInput 23 = .ok (.iaload, 1) := by decide +kernel
theorem d_Er_takeInput_24 : decode b_Er_takeInput 24 = .ok (.iconst 1, 1) := by decide +kernel
theorem d_Er_takeInput_25 : decode b_Er_takeInput 25 = .ok (.iadd, 1) := by decide +kernel
theorem d_Er_takeInput_26 : decode b_Er_takeInput 26 = .ok (.iastore, 1) := by decide +kernel
theorem d_Er_takeInput_27 : decode b_Er_takeInput 27 = .ok (.aload_n 0, 1) := by decide +kernel
theorem d_Er_takeInput_28 : decode b_Er_takeInput 28 = .ok (.getfield 21, 3) := by decide +kernel
theorem d_Er_takeInput_31 : decode b_Er_takeInput 31 = .ok (.iload_n 1, 1) := by decide +kernel
theorem d_Er_takeInput_32 : decode b_Er_takeInput 32 = .ok (.aload_n 0, 1) := by decide +kernel
theorem d_Er_takeInput_33 : decode b_Er_takeInput 33 = .ok (.getfield 21, 3) := by decide +kernel
theorem d_Er_takeInput_36 : decode b_Er_takeInput 36 = .ok (.iload_n 1, 1) := by decide +kernel
theorem d_Er_takeInput_37 : decode b_Er_takeInput 37 = .ok (.iaload, 1) := by decide +kernel
theorem d_Er_takeInput_38 : decode b_Er_takeInput 38 = .ok (.aload_n 0, 1) := by decide +kernel
theorem d_Er_takeInput_39 : decode b_Er_takeInput 39 = .ok (.getfield 24, 3) := by decide +kernel
theorem d_Er_takeInput_42 : decode b_Er_takeInput 42 = .ok (.aload_n 0, 1) := by decide +kernel
theorem d_Er_takeInput_43 : decode b_Er_takeInput 43 = .ok (.getfield 43, 3) := by decide +kernel
theorem d_Er_takeInput_46 : decode b_Er_takeInput 46 = .ok (.iaload, 1) := by decide +kernel
theorem d_Er_takeInput_47 : decode b_Er_takeInput 47 = .ok (.invokestatic 181, 3) := by decide +kernel
theorem d_Er_takeInput_50 : decode b_Er_takeInput 50 = .ok (.iastore, 1) := by decide +kernel
theorem d_Er_takeInput_51 : decode b_Er_takeInput 51 = .ok (.return_, 1) := by decide +kernel
abbrev mt_Er_takeInput : MT := (R_Er, b_Er_takeInput, 2, none)
theorem vf_Er_takeInput : VF y_Er_takeInput mt_Er_takeInput 3 0 := ⟨im_Er_takeInput, se_Er_takeInput, in_Er, co_Er_takeInput, by decide +kernel, _, _, rfl⟩
def f_Er_takeInput (γ : St) : Option (Int × St) :=
  chk (i32 ((γ 6 9) - 1)) (ap (setA γ 6 9 ((γ 6 9) - 1)) fun γ3 =>
  chk (i32 ((γ3 6 8) - 1)) (ap ((γ3 6 8) - 1) fun x6 =>
  chk (inb x6 512) (chk (i32 ((γ3 50 x6) + 1)) (chk (inb x6 512) (ap (setA γ3 50 x6 ((γ3 50 x6) + 1)) fun γ10 =>
  chk (inb x6 512) (chk (inb (γ10 6 9) 512) (chk (inb x6 512) (ap (setA γ10 51 x6 (max (γ10 51 x6) (γ10 52 (γ10 6 9)))) fun γ17 =>
  some (0, γ17)))))))))
set_option maxHeartbeats 4000000 in
theorem c_Er_takeInput {Γ : Ctx} (γ : St) : NC Γ BS y_Er_takeInput mt_Er_takeInput 6 240 [vR Γ 6] γ (f_Er_takeInput γ) := by
  refine nc_of (by decide) rfl (Nat.le_of_ble_eq_true rfl) ?_
  show SB Γ BS mt_Er_takeInput (RmN 6 240) 0 0 (KN Γ BS mt_Er_takeInput.2.2.2) 0 [(0, vR Γ 6)] [] γ _
  unfold f_Er_takeInput
  refine sb_aload_n 0 d_Er_takeInput_0 rfl ?_
  refine sb_dup d_Er_takeInput_1 rfl ?_
  refine g_Er_43 d_Er_takeInput_2 (fun c1 => ?_)
  refine sb_iconst d_Er_takeInput_5 ?_
  refine sb_isub d_Er_takeInput_6 ?_
  refine sb_chk (fun c2 => ?_)
  refine p_Er_43 c2 d_Er_takeInput_7 ?_
  refine sb_aps (fun γ3 => ?_)
  refine sb_aload_n 0 d_Er_takeInput_10 rfl ?_
  refine g_Er_39 d_Er_takeInput_11 (fun c4 => ?_)
  refine sb_iconst d_Er_takeInput_14 ?_
  refine sb_isub d_Er_takeInput_15 ?_
  refine sb_chk (fun c5 => ?_)
  refine sb_istore_n [(1, vI ((γ3 6 8) - 1)), (0, vR Γ 6)] d_Er_takeInput_16 (by decide) rfl ?_
  refine sb_nme (e := (γ3 6 8) - 1) (fun x6 => [(1, vI x6), (0, vR Γ 6)]) c5 (fun x6 hx6 => ?_)
  refine sb_aload_n 1 d_Er_takeInput_17 rfl ?_
  refine g_Er_18 d_Er_takeInput_18 ?_
  refine sb_iload_n 0 d_Er_takeInput_21 rfl ?_
  refine sb_dup2 d_Er_takeInput_22 rfl rfl ?_
  refine al_S_50 d_Er_takeInput_23 (fun _ c8 => ?_)
  refine sb_iconst d_Er_takeInput_24 ?_
  refine sb_iadd d_Er_takeInput_25 ?_
  refine sb_chk (fun c9 => ?_)
  refine as_S_50 c9 d_Er_takeInput_26 (fun _ => ?_)
  refine sb_aps (fun γ10 => ?_)
  refine sb_aload_n 1 d_Er_takeInput_27 rfl ?_
  refine g_Er_21 d_Er_takeInput_28 ?_
  refine sb_iload_n 0 d_Er_takeInput_31 rfl ?_
  refine sb_aload_n 1 d_Er_takeInput_32 rfl ?_
  refine g_Er_21 d_Er_takeInput_33 ?_
  refine sb_iload_n 0 d_Er_takeInput_36 rfl ?_
  refine al_S_51 d_Er_takeInput_37 (fun _ c13 => ?_)
  refine sb_aload_n 1 d_Er_takeInput_38 rfl ?_
  refine g_Er_24 d_Er_takeInput_39 ?_
  refine sb_aload_n 1 d_Er_takeInput_42 rfl ?_
  refine g_Er_43 d_Er_takeInput_43 (fun c15 => ?_)
  refine al_S_52 d_Er_takeInput_46 (fun _ c16 => ?_)
  refine sb_mmax c13 c16 ml_Er_181 sm_java_lang_Math_max in_java_lang_Math co_java_lang_Math_max ⟨by first | decide | (simp only [RmT, RmN]; omega), by first | exact Nat.le_of_ble_eq_true rfl | (simp [RmT, RmN, Value.category] <;> omega)⟩ d_Er_takeInput_47 ?_
  refine as_S_51 ((mm_b c13 c16).1) d_Er_takeInput_50 (fun _ => ?_)
  refine sb_aps (fun γ17 => ?_)
  exact sn_v rfl d_Er_takeInput_51
theorem d_Er_closeCall_0 : decode b_Er_closeCall 0 = .ok (.aload_n 0, 1) := by decide +kernel
theorem d_Er_closeCall_1 : decode b_Er_closeCall 1 = .ok (.dup, 1) := by decide +kernel
theorem d_Er_closeCall_2 : decode b_Er_closeCall 2 = .ok (.getfield 39, 3) := by decide +kernel
theorem d_Er_closeCall_5 : decode b_Er_closeCall 5 = .ok (.iconst 1, 1) := by decide +kernel
theorem d_Er_closeCall_6 : decode b_Er_closeCall 6 = .ok (.isub, 1) := by decide +kernel
theorem d_Er_closeCall_7 : decode b_Er_closeCall 7 = .ok (.putfield 39, 3) := by decide +kernel
theorem d_Er_closeCall_10 : decode b_Er_closeCall 10 = .ok (.aload_n 0, 1) := by decide +kernel
theorem d_Er_closeCall_11 : decode b_Er_closeCall 11 = .ok (.dup, 1) := by decide +kernel
theorem d_Er_closeCall_12 : decode b_Er_closeCall 12 = .ok (.getfield 46, 3) := by decide +kernel
theorem d_Er_closeCall_15 : decode b_Er_closeCall 15 = .ok (.iconst 1, 1) := by decide +kernel
theorem d_Er_closeCall_16 : decode b_Er_closeCall 16 = .ok (.isub, 1) := by decide +kernel
theorem d_Er_closeCall_17 : decode b_Er_closeCall 17 = .ok (.putfield 46, 3) := by decide +kernel
theorem d_Er_closeCall_20 : decode b_Er_closeCall 20 = .ok (.aload_n 0, 1) := by decide +kernel
theorem d_Er_closeCall_21 : decode b_Er_closeCall 21 = .ok (.getfield 35, 3) := by decide +kernel
theorem d_Er_closeCall_24 : decode b_Er_closeCall 24 = .ok (.bipush 43, 2) := by decide +kernel
theorem d_Er_closeCall_26 : decode b_Er_closeCall 26 = .ok (.aload_n 0, 1) := by decide +kernel
theorem d_Er_closeCall_27 : decode b_Er_closeCall 27 = .ok (.getfield 15, 3) := by decide +kernel
theorem d_Er_closeCall_30 : decode b_Er_closeCall 30 = .ok (.aload_n 0, 1) := by decide +kernel
theorem d_Er_closeCall_31 : decode b_Er_closeCall 31 = .ok (.getfield 39, 3) := by decide +kernel
theorem d_Er_closeCall_34 : decode b_Er_closeCall 34 = .ok (.iaload, 1) := by decide +kernel
theorem d_Er_closeCall_35 : decode b_Er_closeCall 35 = .ok (.aload_n 0, 1) := by decide +kernel
theorem d_Er_closeCall_36 : decode b_Er_closeCall 36 = .ok (.getfield 18, 3) := by decide +kernel
theorem d_Er_closeCall_39 : decode b_Er_closeCall 39 = .ok (.aload_n 0, 1) := by decide +kernel
theorem d_Er_closeCall_40 : decode b_Er_closeCall 40 = .ok (.getfield 39, 3) := by decide +kernel
theorem d_Er_closeCall_43 : decode b_Er_closeCall 43 = .ok (.iaload, 1) := by decide +kernel
theorem d_Er_closeCall_44 : decode b_Er_closeCall 44 = .ok (.invokevirtual 138, 3) := by decide +kernel
theorem d_Er_closeCall_47 : decode b_Er_closeCall 47 = .ok (.aload_n 0, 1) := by decide +kernel
theorem d_Er_closeCall_48 : decode b_Er_closeCall 48 = .ok (.getfield 24, 3) := by decide +kernel
theorem d_Er_closeCall_51 : decode b_Er_closeCall 51 = .ok (.aload_n 0, 1) := by decide +kernel
theorem d_Er_closeCall_52 : decode b_Er_closeCall 52 = .ok (.getfield 43, 3) := by decide +kernel
theorem d_Er_closeCall_55 : decode b_Er_closeCall 55 = .ok (.aload_n 0, 1) := by decide +kernel
theorem d_Er_closeCall_56 : decode b_Er_closeCall 56 = .ok (.getfield 21, 3) := by decide +kernel
theorem d_Er_closeCall_59 : decode b_Er_closeCall 59 = .ok (.aload_n 0, 1) := by decide +kernel
theorem d_Er_closeCall_60 : decode b_Er_closeCall 60 = .ok (.getfield 39, 3) := by decide +kernel
theorem d_Er_closeCall_63 : decode b_Er_closeCall 63 = .ok (.iaload, 1) := by decide +kernel
theorem d_Er_closeCall_64 : decode b_Er_closeCall 64 = .ok (.iconst 1, 1) := by decide +kernel
theorem d_Er_closeCall_65 : decode b_Er_closeCall 65 = .ok (.iadd, 1) := by decide +kernel
theorem d_Er_closeCall_66 : decode b_Er_closeCall 66 = .ok (.iastore, 1) := by decide +kernel
theorem d_Er_closeCall_67 : decode b_Er_closeCall 67 = .ok (.aload_n 0, 1) := by decide +kernel
theorem d_Er_closeCall_68 : decode b_Er_closeCall 68 = .ok (.dup, 1) := by decide +kernel
theorem d_Er_closeCall_69 : decode b_Er_closeCall 69 = .ok (.getfield 43, 3) := by decide +kernel
theorem d_Er_closeCall_72 : decode b_Er_closeCall 72 = .ok (.iconst 1, 1) := by decide +kernel
theorem d_Er_closeCall_73 : decode b_Er_closeCall 73 = .ok (.iadd, 1) := by decide +kernel
theorem d_Er_closeCall_74 : decode b_Er_closeCall 74 = .ok (.putfield 43, 3) := by decide +kernel
theorem d_Er_closeCall_77 : decode b_Er_closeCall 77 = .ok (.aload_n 0, 1) := by decide +kernel
theorem d_Er_closeCall_78 : decode b_Er_closeCall 78 = .ok (.getfield 27, 3) := by decide +kernel
theorem d_Er_closeCall_81 : decode b_Er_closeCall 81 = .ok (.invokevirtual 98, 3) := by decide +kernel
theorem d_Er_closeCall_84 : decode b_Er_closeCall 84 = .ok (.aload_n 0, 1) := by decide +kernel
theorem d_Er_closeCall_85 : decode b_Er_closeCall 85 = .ok (.getfield 21, 3) := by decide +kernel
theorem d_Er_closeCall_88 : decode b_Er_closeCall 88 = .ok (.aload_n 0, 1) := by decide +kernel
theorem d_Er_closeCall_89 : decode b_Er_closeCall 89 = .ok (.getfield 39, 3) := by decide +kernel
theorem d_Er_closeCall_92 : decode b_Er_closeCall 92 = .ok (.iaload, 1) := by decide +kernel
theorem d_Er_closeCall_93 : decode b_Er_closeCall 93 = .ok (.sipush 200, 3) := by decide +kernel
theorem d_Er_closeCall_96 : decode b_Er_closeCall 96 = .ok (.if_icmp .lt 14, 3) := by decide +kernel
theorem d_Er_closeCall_99 : decode b_Er_closeCall 99 = .ok (.aload_n 0, 1) := by decide +kernel
theorem d_Er_closeCall_100 : decode b_Er_closeCall 100 = .ok (.getfield 27, 3) := by decide +kernel
theorem d_Er_closeCall_103 : decode b_Er_closeCall 103 = .ok (.iconst 3, 1) := by decide +kernel
theorem d_Er_closeCall_104 : decode b_Er_closeCall 104 = .ok (.invokevirtual 105, 3) := by decide +kernel
theorem d_Er_closeCall_107 : decode b_Er_closeCall 107 = .ok (.ifCond .eq 7, 3) := by decide +kernel
theorem d_Er_closeCall_110 : decode b_Er_closeCall 110 = .ok (.iconst 1, 1) := by decide +kernel
theorem d_Er_closeCall_111 : decode b_Er_closeCall 111 = .ok (.goto 4, 3) := by decide +kernel
theorem d_Er_closeCall_114 : decode b_Er_closeCall 114 = .ok (.iconst 0, 1) := by decide +kernel
theorem d_Er_closeCall_115 : decode b_Er_closeCall 115 = .ok (.ireturn, 1) := by decide +kernel
abbrev mt_Er_closeCall : MT := (R_Er, b_Er_closeCall, 1, some .boolean)
theorem vf_Er_closeCall : VF y_Er_closeCall mt_Er_closeCall 3 0 := ⟨im_Er_closeCall, se_Er_closeCall, in_Er, co_Er_closeCall, by decide +kernel, _, _, rfl⟩
def f_Er_closeCall (γ : St) : Option (Int × St) :=
  chk (i32 ((γ 6 8) - 1)) (ap (setA γ 6 8 ((γ 6 8) - 1)) fun γ3 =>
  chk (i32 ((γ3 6 10) - 1)) (ap (setA γ3 6 10 ((γ3 6 10) - 1)) fun γ6 =>
  chk (inb (γ6 6 8) 512) (chk (inb (γ6 6 8) 512) (bndN (f_Cd_add γ6 43 (γ6 49 (γ6 6 8)) (γ6 50 (γ6 6 8))) fun _ γ15 =>
  chk (inb (γ15 6 8) 512) (chk (i32 ((γ15 51 (γ15 6 8)) + 1)) (chk (inb (γ15 6 9) 512) (ap (setA γ15 52 (γ15 6 9) ((γ15 51 (γ15 6 8)) + 1)) fun γ22 =>
  chk (i32 ((γ22 6 9) + 1)) (ap (setA γ22 6 9 ((γ22 6 9) + 1)) fun γ25 =>
  bndN (f_Tk_step γ25) fun _ γ28 =>
  chk (inb (γ28 6 8) 512) (if (γ28 51 (γ28 6 8)) < 200 then
  (some (1, γ28))
  else
  (bndN (f_Tk_fail γ28 3) fun r33 γ34 =>
  if r33 = 0 then
  (some (0, γ34))
  else
  (some (1, γ34))))))))))))
set_option maxHeartbeats 4000000 in
theorem c_Er_closeCall {Γ : Ctx} (γ : St) : NC Γ BS y_Er_closeCall mt_Er_closeCall 7 263 [vR Γ 6] γ (f_Er_closeCall γ) := by
  refine nc_of (by decide) rfl (Nat.le_of_ble_eq_true rfl) ?_
  show SB Γ BS mt_Er_closeCall (RmN 7 263) 0 0 (KN Γ BS mt_Er_closeCall.2.2.2) 0 [(0, vR Γ 6)] [] γ _
  unfold f_Er_closeCall
  refine sb_aload_n 0 d_Er_closeCall_0 rfl ?_
  refine sb_dup d_Er_closeCall_1 rfl ?_
  refine g_Er_39 d_Er_closeCall_2 (fun c1 => ?_)
  refine sb_iconst d_Er_closeCall_5 ?_
  refine sb_isub d_Er_closeCall_6 ?_
  refine sb_chk (fun c2 => ?_)
  refine p_Er_39 c2 d_Er_closeCall_7 ?_
  refine sb_aps (fun γ3 => ?_)
  refine sb_aload_n 0 d_Er_closeCall_10 rfl ?_
  refine sb_dup d_Er_closeCall_11 rfl ?_
  refine g_Er_46 d_Er_closeCall_12 (fun c4 => ?_)
  refine sb_iconst d_Er_closeCall_15 ?_
  refine sb_isub d_Er_closeCall_16 ?_
  refine sb_chk (fun c5 => ?_)
  refine p_Er_46 c5 d_Er_closeCall_17 ?_
  refine sb_aps (fun γ6 => ?_)
  refine sb_aload_n 0 d_Er_closeCall_20 rfl ?_
  refine g_Er_35 d_Er_closeCall_21 ?_
  refine sb_bipush d_Er_closeCall_24 (by decide) ?_
  refine sb_aload_n 0 d_Er_closeCall_26 rfl ?_
  refine g_Er_15 d_Er_closeCall_27 ?_
  refine sb_aload_n 0 d_Er_closeCall_30 rfl ?_
  refine g_Er_39 d_Er_closeCall_31 (fun c9 => ?_)
  refine al_S_49 d_Er_closeCall_34 (fun _ c10 => ?_)
  refine sb_aload_n 0 d_Er_closeCall_35 rfl ?_
  refine g_Er_18 d_Er_closeCall_36 ?_
  refine sb_aload_n 0 d_Er_closeCall_39 rfl ?_
  refine g_Er_39 d_Er_closeCall_40 (fun c12 => ?_)
  refine al_S_50 d_Er_closeCall_43 (fun _ c13 => ?_)
  refine sb_cVv vf_Cd_add (c_Cd_add γ6 43 (γ6 49 (γ6 6 8)) (γ6 50 (γ6 6 8)) (by decide) c10 c13) rfl ml_Er_138 (As := [vI 43, vI (γ6 49 (γ6 6 8)), vI (γ6 50 (γ6 6 8))]) rfl rfl (Nat.le_of_ble_eq_true rfl) ⟨by decide, by decide⟩ d_Er_closeCall_44 (fun _ γ15 => ?_)
  refine sb_aload_n 0 d_Er_closeCall_47 rfl ?_
  refine g_Er_24 d_Er_closeCall_48 ?_
  refine sb_aload_n 0 d_Er_closeCall_51 rfl ?_
  refine g_Er_43 d_Er_closeCall_52 (fun c17 => ?_)
  refine sb_aload_n 0 d_Er_closeCall_55 rfl ?_
  refine g_Er_21 d_Er_closeCall_56 ?_
  refine sb_aload_n 0 d_Er_closeCall_59 rfl ?_
  refine g_Er_39 d_Er_closeCall_60 (fun c19 => ?_)
  refine al_S_51 d_Er_closeCall_63 (fun _ c20 => ?_)
  refine sb_iconst d_Er_closeCall_64 ?_
  refine sb_iadd d_Er_closeCall_65 ?_
  refine sb_chk (fun c21 => ?_)
  refine as_S_52 c21 d_Er_closeCall_66 (fun _ => ?_)
  refine sb_aps (fun γ22 => ?_)
  refine sb_aload_n 0 d_Er_closeCall_67 rfl ?_
  refine sb_dup d_Er_closeCall_68 rfl ?_
  refine g_Er_43 d_Er_closeCall_69 (fun c23 => ?_)
  refine sb_iconst d_Er_closeCall_72 ?_
  refine sb_iadd d_Er_closeCall_73 ?_
  refine sb_chk (fun c24 => ?_)
  refine p_Er_43 c24 d_Er_closeCall_74 ?_
  refine sb_aps (fun γ25 => ?_)
  refine sb_aload_n 0 d_Er_closeCall_77 rfl ?_
  refine g_Er_27 d_Er_closeCall_78 ?_
  refine sb_cVv vf_Tk_step (c_Tk_step γ25  ) rfl ml_Er_98 (As := []) rfl rfl (Nat.le_of_ble_eq_true rfl) ⟨by decide, by decide⟩ d_Er_closeCall_81 (fun _ γ28 => ?_)
  refine sb_aload_n 0 d_Er_closeCall_84 rfl ?_
  refine g_Er_21 d_Er_closeCall_85 ?_
  refine sb_aload_n 0 d_Er_closeCall_88 rfl ?_
  refine g_Er_39 d_Er_closeCall_89 (fun c30 => ?_)
  refine al_S_51 d_Er_closeCall_92 (fun _ c31 => ?_)
  refine sb_sipush d_Er_closeCall_93 (by decide) ?_
  refine sb_icmp_lt 110 c31 (by decide) d_Er_closeCall_96 (by decide) (fun _ => ?_) (fun _ => ?_)
  · refine sb_iconst d_Er_closeCall_110 ?_
    refine sb_goto 115 d_Er_closeCall_111 (by decide) ?_
    exact sn_z rfl (by decide) d_Er_closeCall_115
  · refine sb_aload_n 0 d_Er_closeCall_99 rfl ?_
    refine g_Er_27 d_Er_closeCall_100 ?_
    refine sb_iconst d_Er_closeCall_103 ?_
    refine sb_cVz vf_Tk_fail (c_Tk_fail γ28 3 (by decide)) rfl ml_Er_105 (As := [vI 3]) rfl rfl (Nat.le_of_ble_eq_true rfl) ⟨by decide, by decide⟩ d_Er_closeCall_104 (fun r33 γ34 hr33 => ?_)
    refine sb_if_eq 114 (z2i hr33) d_Er_closeCall_107 (by decide) (fun _ => ?_) (fun _ => ?_)
    · refine sb_iconst d_Er_closeCall_114 ?_
      exact sn_z rfl (by decide) d_Er_closeCall_115
    · refine sb_iconst d_Er_closeCall_110 ?_
      refine sb_goto 115 d_Er_closeCall_111 (by decide) ?_
      exact sn_z rfl (by decide) d_Er_closeCall_115
theorem d_Er_readCloser_0 : decode b_Er_readCloser 0 = .ok (.aload_n 0, 1) := by decide +kernel
theorem d_Er_readCloser_1 : decode b_Er_readCloser 1 = .ok (.getfield 39, 3) := by decide +kernel
theorem d_Er_readCloser_4 : decode b_Er_readCloser 4 = .ok (.ifCond .le 17, 3) := by decide +kernel
theorem d_Er_readCloser_7 : decode b_Er_readCloser 7 = .ok (.aload_n 0, 1) := by decide +kernel
theorem d_Er_readCloser_8 : decode b_Er_readCloser 8 = .ok (.getfield 11, 3) := by decide +kernel
theorem d_Er_readCloser_11 : decode b_Er_readCloser 11 = .ok (.aload_n 0, 1) := by decide +kernel
theorem d_Er_readCloser_12 : decode b_Er_readCloser 12 = .ok (.getfield 39, 3) := by decide +kernel
theorem d_Er_readCloser_15 : decode b_Er_readCloser 15 = .ok (.iconst 1, 1) := by decide +kernel
theorem d_Er_readCloser_16 : decode b_Er_readCloser 16 = .ok (.isub, 1) := by decide +kernel
theorem d_Er_readCloser_17 : decode b_Er_readCloser 17 = .ok (.iaload, 1) := by decide +kernel
theorem d_Er_readCloser_18 : decode b_Er_readCloser 18 = .ok (.goto 4, 3) := by decide +kernel
theorem d_Er_readCloser_21 : decode b_Er_readCloser 21 = .ok (.iconst 0, 1) := by decide +kernel
theorem d_Er_readCloser_22 : decode b_Er_readCloser 22 = .ok (.istore_n 2, 1) := by decide +kernel
theorem d_Er_readCloser_23 : decode b_Er_readCloser 23 = .ok (.iload_n 2, 1) := by decide +kernel
theorem d_Er_readCloser_24 : decode b_Er_readCloser 24 = .ok (.ifCond .ne 23, 3) := by decide +kernel
theorem d_Er_readCloser_27 : decode b_Er_readCloser 27 = .ok (.iload_n 1, 1) := by decide +kernel
theorem d_Er_readCloser_28 : decode b_Er_readCloser 28 = .ok (.bipush 7, 2) := by decide +kernel
theorem d_Er_readCloser_30 : decode b_Er_readCloser 30 = .ok (.if_icmp .ne 17, 3) := by decide +kernel
theorem d_Er_readCloser_33 : decode b_Er_readCloser 33 = .ok (.aload_n 0, 1) := by decide +kernel
theorem d_Er_readCloser_34 : decode b_Er_readCloser 34 = .ok (.iconst 1, 1) := by decide +kernel
theorem d_Er_readCloser_35 : decode b_Er_readCloser 35 = .ok (.putfield 59, 3) := by decide +kernel
theorem d_Er_readCloser_38 : decode b_Er_readCloser 38 = .ok (.aload_n 0, 1) := by decide +kernel
theorem d_Er_readCloser_39 : decode b_Er_readCloser 39 = .ok (.getfield 27, 3) := by decide +kernel
theorem d_Er_readCloser_42 : decode b_Er_readCloser 42 = .ok (.invokevirtual 98, 3) := by decide +kernel
theorem d_Er_readCloser_45 : decode b_Er_readCloser 45 = .ok (.iconst 1, 1) := by decide +kernel
theorem d_Er_readCloser_46 : decode b_Er_readCloser 46 = .ok (.ireturn, 1) := by decide +kernel
theorem d_Er_readCloser_47 : decode b_Er_readCloser 47 = .ok (.iload_n 2, 1) := by decide +kernel
theorem d_Er_readCloser_48 : decode b_Er_readCloser 48 = .ok (.bipush 32, 2) := by decide +kernel
theorem d_Er_readCloser_50 : decode b_Er_readCloser 50 = .ok (.if_icmp .ne 9, 3) := by decide +kernel
theorem d_Er_readCloser_53 : decode b_Er_readCloser 53 = .ok (.iload_n 1, 1) := by decide +kernel
theorem d_Er_readCloser_54 : decode b_Er_readCloser 54 = .ok (.bipush 33, 2) := by decide +kernel
theorem d_Er_readCloser_56 : decode b_Er_readCloser 56 = .ok (.if_icmp .eq 15, 3) := by decide +kernel
theorem d_Er_readCloser_59 : decode b_Er_readCloser 59 = .ok (.iload_n 2, 1) := by decide +kernel
theorem d_Er_readCloser_60 : decode b_Er_readCloser 60 = .ok (.bipush 33, 2) := by decide +kernel
theorem d_Er_readCloser_62 : decode b_Er_readCloser 62 = .ok (.if_icmp .ne 15, 3) := by decide +kernel
theorem d_Er_readCloser_65 : decode b_Er_readCloser 65 = .ok (.iload_n 1, 1) := by decide +kernel
theorem d_Er_readCloser_66 : decode b_Er_readCloser 66 = .ok (.bipush 34, 2) := by decide +kernel
theorem d_Er_readCloser_68 : decode b_Er_readCloser 68 = .ok (.if_icmp .ne 9, 3) := by decide +kernel
theorem d_Er_readCloser_71 : decode b_Er_readCloser 71 = .ok (.aload_n 0, 1) := by decide +kernel
theorem d_Er_readCloser_72 : decode b_Er_readCloser 72 = .ok (.iload_n 1, 1) := by decide +kernel
theorem d_Er_readCloser_73 : decode b_Er_readCloser 73 = .ok (.invokevirtual 172, 3) := by decide +kernel
theorem d_Er_readCloser_76 : decode b_Er_readCloser 76 = .ok (.ireturn, 1) := by decide +kernel
theorem d_Er_readCloser_77 : decode b_Er_readCloser 77 = .ok (.iload_n 2, 1) := by decide +kernel
theorem d_Er_readCloser_78 : decode b_Er_readCloser 78 = .ok (.iconst 4, 1) := by decide +kernel
theorem d_Er_readCloser_79 : decode b_Er_readCloser 79 = .ok (.if_icmp .ne 37, 3) := by decide +kernel
theorem d_Er_readCloser_82 : decode b_Er_readCloser 82 = .ok (.iload_n 1, 1) := by decide +kernel
theorem d_Er_readCloser_83 : decode b_Er_readCloser 83 = .ok (.iconst 5, 1) := by decide +kernel
theorem d_Er_readCloser_84 : decode b_Er_readCloser 84 = .ok (.if_icmp .ne 32, 3) := by decide +kernel
theorem d_Er_readCloser_87 : decode b_Er_readCloser 87 = .ok (.aload_n 0, 1) := by decide +kernel
theorem d_Er_readCloser_88 : decode b_Er_readCloser 88 = .ok (.dup, 1) := by decide +kernel
theorem d_Er_readCloser_89 : decode b_Er_readCloser 89 = .ok (.getfield 39, 3) := by decide +kernel
theorem d_Er_readCloser_92 : decode b_Er_readCloser 92 = .ok (.iconst 1, 1) := by decide +kernel
theorem d_Er_readCloser_93 : decode b_Er_readCloser 93 = .ok (.isub, 1) := by decide +kernel
theorem d_Er_readCloser_94 : decode b_Er_readCloser 94 = .ok (.putfield 39, 3) := by decide +kernel
theorem d_Er_readCloser_97 : decode b_Er_readCloser 97 = .ok (.aload_n 0, 1) := by decide +kernel
theorem d_Er_readCloser_98 : decode b_Er_readCloser 98 = .ok (.dup, 1) := by decide +kernel
theorem d_Er_readCloser_99 : decode b_Er_readCloser 99 = .ok (.getfield 46, 3) := by decide +kernel
theorem d_Er_readCloser_102 : decode b_Er_readCloser 102 = .ok (.iconst 1, 1) := by decide +kernel
theorem d_Er_readCloser_103 : decode b_Er_readCloser 103 = .ok (.isub, 1) := by decide +kernel
theorem d_Er_readCloser_104 : decode b_Er_readCloser 104 = .ok (.putfield 46, 3) := by decide +kernel
theorem d_Er_readCloser_107 : decode b_Er_readCloser 107 = .ok (.aload_n 0, 1) := by decide +kernel
theorem d_Er_readCloser_108 : decode b_Er_readCloser 108 = .ok (.getfield 27, 3) := by decide +kernel
theorem d_Er_readCloser_111 : decode b_Er_readCloser 111 = .ok (.invokevirtual 98, 3) := by decide +kernel
theorem d_Er_readCloser_114 : decode b_Er_readCloser 114 = .ok (.iconst 1, 1) := by decide +kernel
theorem d_Er_readCloser_115 : decode b_Er_readCloser 115 = .ok (.ireturn, 1) := by decide +kernel
theorem d_Er_readCloser_116 : decode b_Er_readCloser 116 = .ok (.iload_n 2, 1) := by decide +kernel
theorem d_Er_readCloser_117 : decode b_Er_readCloser 117 = .ok (.bipush 43, 2) := by decide +kernel
theorem d_Er_readCloser_119 : decode b_Er_readCloser 119 = .ok (.if_icmp .ne 38, 3) := by decide +kernel
theorem d_Er_readCloser_122 : decode b_Er_readCloser 122 = .ok (.iload_n 1, 1) := by decide +kernel
theorem d_Er_readCloser_123 : decode b_Er_readCloser 123 = .ok (.bipush 8, 2) := by decide +kernel
theorem d_Er_readCloser_125 : decode b_Er_readCloser 125 = .ok (.if_icmp .eq 8, 3) := by decide +kernel
theorem d_Er_readCloser_128 : decode b_Er_readCloser 128 = .ok (.iload_n 1, 1) := by decide +kernel
theorem d_Er_readCloser_129 : decode b_Er_readCloser 129 = .ok (.iconst 5, 1) := by decide +kernel
theorem d_Er_readCloser_130 : decode b_Er_readCloser 130 = .ok (.if_icmp .ne 27, 3) := by decide +kernel
theorem d_Er_readCloser_133 : decode b_Er_readCloser 133 = .ok (.aload_n 0, 1) := by decide +kernel
theorem d_Er_readCloser_134 : decode b_Er_readCloser 134 = .ok (.invokevirtual 175, 3) := by decide +kernel
theorem d_Er_readCloser_137 : decode b_Er_readCloser 137 = .ok (.iload_n 1, 1) := by decide +kernel
theorem d_Er_readCloser_138 : decode b_Er_readCloser 138 = .ok (.bipush 8, 2) := by decide +kernel
theorem d_Er_readCloser_140 : decode b_Er_readCloser 140 = .ok (.if_icmp .ne 12, 3) := by decide +kernel
theorem d_Er_readCloser_143 : decode b_Er_readCloser 143 = .ok (.aload_n 0, 1) := by decide +kernel
theorem d_Er_readCloser_144 : decode b_Er_readCloser 144 = .ok (.bipush 43, 2) := by decide +kernel
theorem d_Er_readCloser_146 : decode b_Er_readCloser 146 = .ok (.invokevirtual 172, 3) := by decide +kernel
theorem d_Er_readCloser_149 : decode b_Er_readCloser 149 = .ok (.goto 7, 3) := by decide +kernel
theorem d_Er_readCloser_152 : decode b_Er_readCloser 152 = .ok (.aload_n 0, 1) := by decide +kernel
theorem d_Er_readCloser_153 : decode b_Er_readCloser 153 = .ok (.invokevirtual 178, 3) := by decide +kernel
theorem d_Er_readCloser_156 : decode b_Er_readCloser 156 = .ok (.ireturn, 1) := by decide +kernel
theorem d_Er_readCloser_157 : decode b_Er_readCloser 157 = .ok (.aload_n 0, 1) := by decide +kernel
theorem d_Er_readCloser_158 : decode b_Er_readCloser 158 = .ok (.getfield 27, 3) := by decide +kernel
theorem d_Er_readCloser_161 : decode b_Er_readCloser 161 = .ok (.iconst 1, 1) := by decide +kernel
theorem d_Er_readCloser_162 : decode b_Er_readCloser 162 = .ok (.invokevirtual 105, 3) := by decide +kernel
theorem d_Er_readCloser_165 : decode b_Er_readCloser 165 = .ok (.ireturn, 1) := by decide +kernel
abbrev mt_Er_readCloser : MT := (R_Er, b_Er_readCloser, 3, some .boolean)
theorem vf_Er_readCloser : VF y_Er_readCloser mt_Er_readCloser 3 1 := ⟨im_Er_readCloser, se_Er_readCloser, in_Er, co_Er_readCloser, by decide +kernel, _, _, rfl⟩
def f_Er_readCloser_b71 (γ : St) (x1 : Int) : Option (Int × St) :=
  bndN (f_Er_goOnBehind γ x1) fun r2 γ3 =>
  some (r2, γ3)
def f_Er_readCloser_b133 (γ : St) (x4 : Int) : Option (Int × St) :=
  bndN (f_Er_takeInput γ) fun _ γ6 =>
  if x4 ≠ 8 then
  (bndN (f_Er_closeCall γ6) fun r7 γ8 =>
  some (r7, γ8))
  else
  (bndN (f_Er_goOnBehind γ6 43) fun r9 γ10 =>
  some (r9, γ10))
def f_Er_readCloser_b157 (γ : St) : Option (Int × St) :=
  bndN (f_Tk_fail γ 1) fun r12 γ13 =>
  some (r12, γ13)
def f_Er_readCloser_b116 (γ : St) (x14 : Int) (x15 : Int) : Option (Int × St) :=
  if x15 ≠ 43 then
  (f_Er_readCloser_b157 γ )
  else
  (if x14 = 8 then
  (f_Er_readCloser_b133 γ x14)
  else
  (if x14 ≠ 5 then
  (f_Er_readCloser_b157 γ )
  else
  (f_Er_readCloser_b133 γ x14)))
def f_Er_readCloser_b77 (γ : St) (x16 : Int) (x17 : Int) : Option (Int × St) :=
  if x17 ≠ 4 then
  (f_Er_readCloser_b116 γ x16 x17)
  else
  (if x16 ≠ 5 then
  (f_Er_readCloser_b116 γ x16 x17)
  else
  (chk (i32 ((γ 6 8) - 1)) (ap (setA γ 6 8 ((γ 6 8) - 1)) fun γ20 =>
  chk (i32 ((γ20 6 10) - 1)) (ap (setA γ20 6 10 ((γ20 6 10) - 1)) fun γ23 =>
  bndN (f_Tk_step γ23) fun _ γ26 =>
  some (1, γ26)))))
def f_Er_readCloser_b59 (γ : St) (x27 : Int) (x28 : Int) : Option (Int × St) :=
  if x28 ≠ 33 then
  (f_Er_readCloser_b77 γ x27 x28)
  else
  (if x27 ≠ 34 then
  (f_Er_readCloser_b77 γ x27 x28)
  else
  (f_Er_readCloser_b71 γ x27))
def f_Er_readCloser_b47 (γ : St) (x29 : Int) (x30 : Int) : Option (Int × St) :=
  if x30 ≠ 32 then
  (f_Er_readCloser_b59 γ x29 x30)
  else
  (if x29 = 33 then
  (f_Er_readCloser_b71 γ x29)
  else
  (f_Er_readCloser_b59 γ x29 x30))
def f_Er_readCloser_b22 (γ : St) (x31 : Int) (x32 : Int) : Option (Int × St) :=
  if x32 ≠ 0 then
  (f_Er_readCloser_b47 γ x31 x32)
  else
  (if x31 ≠ 7 then
  (f_Er_readCloser_b47 γ x31 x32)
  else
  (ap (setA γ 6 14 1) fun γ33 =>
  bndN (f_Tk_step γ33) fun _ γ36 =>
  some (1, γ36)))
def f_Er_readCloser (γ : St) (a0 : Int) : Option (Int × St) :=
  if (γ 6 8) ≤ 0 then
  (f_Er_readCloser_b22 γ a0 0)
  else
  (chk (i32 ((γ 6 8) - 1)) (chk (inb ((γ 6 8) - 1) 512) (f_Er_readCloser_b22 γ a0 (γ 48 ((γ 6 8) - 1)))))
set_option maxHeartbeats 4000000 in
theorem s_Er_readCloser_b71 {Γ : Ctx} : ∀ (γ : St) (x1 : Int), i32 x1 → SB Γ BS mt_Er_readCloser (RmN 8 283) 0 0 (KN Γ BS mt_Er_readCloser.2.2.2) 71 [(0, vR Γ 6), (1, vI x1)] [] γ (f_Er_readCloser_b71 γ x1) := by
  intro γ x1 hx1
  unfold f_Er_readCloser_b71
  refine sb_aload_n 0 d_Er_readCloser_71 rfl ?_
  refine sb_iload_n 1 d_Er_readCloser_72 rfl ?_
  refine sb_cVz vf_Er_goOnBehind (c_Er_goOnBehind γ x1 hx1) rfl ml_Er_172 (As := [vI x1]) rfl rfl (Nat.le_of_ble_eq_true rfl) ⟨by decide, by decide⟩ d_Er_readCloser_73 (fun r2 γ3 hr2 => ?_)
  exact sn_z rfl hr2 d_Er_readCloser_76
set_option maxHeartbeats 4000000 in
theorem s_Er_readCloser_b133 {Γ : Ctx} : ∀ (γ : St) (x4 : Int), i32 x4 → SB Γ BS mt_Er_readCloser (RmN 8 283) 0 0 (KN Γ BS mt_Er_readCloser.2.2.2) 133 [(0, vR Γ 6), (1, vI x4)] [] γ (f_Er_readCloser_b133 γ x4) := by
  intro γ x4 hx4
  unfold f_Er_readCloser_b133
  refine sb_aload_n 0 d_Er_readCloser_133 rfl ?_
  refine sb_cVv vf_Er_takeInput (c_Er_takeInput γ  ) rfl ml_Er_175 (As := []) rfl rfl (Nat.le_of_ble_eq_true rfl) ⟨by decide, by decide⟩ d_Er_readCloser_134 (fun _ γ6 => ?_)
  refine sb_iload_n 1 d_Er_readCloser_137 rfl ?_
  refine sb_bipush d_Er_readCloser_138 (by decide) ?_
  refine sb_icmp_ne 152 hx4 (by decide) d_Er_readCloser_140 (by decide) (fun _ => ?_) (fun _ => ?_)
  · refine sb_aload_n 0 d_Er_readCloser_152 rfl ?_
    refine sb_cVz vf_Er_closeCall (c_Er_closeCall γ6  ) rfl ml_Er_178 (As := []) rfl rfl (Nat.le_of_ble_eq_true rfl) ⟨by decide, by decide⟩ d_Er_readCloser_153 (fun r7 γ8 hr7 => ?_)
    exact sn_z rfl hr7 d_Er_readCloser_156
  · refine sb_aload_n 0 d_Er_readCloser_143 rfl ?_
    refine sb_bipush d_Er_readCloser_144 (by decide) ?_
    refine sb_cVz vf_Er_goOnBehind (c_Er_goOnBehind γ6 43 (by decide)) rfl ml_Er_172 (As := [vI 43]) rfl rfl (Nat.le_of_ble_eq_true rfl) ⟨by decide, by decide⟩ d_Er_readCloser_146 (fun r9 γ10 hr9 => ?_)
    refine sb_goto 156 d_Er_readCloser_149 (by decide) ?_
    exact sn_z rfl hr9 d_Er_readCloser_156
set_option maxHeartbeats 4000000 in
theorem s_Er_readCloser_b157 {Γ : Ctx} : ∀ (γ : St), SB Γ BS mt_Er_readCloser (RmN 8 283) 0 0 (KN Γ BS mt_Er_readCloser.2.2.2) 157 [(0, vR Γ 6)] [] γ (f_Er_readCloser_b157 γ ) := by
  intro γ
  unfold f_Er_readCloser_b157
  refine sb_aload_n 0 d_Er_readCloser_157 rfl ?_
  refine g_Er_27 d_Er_readCloser_158 ?_
  refine sb_iconst d_Er_readCloser_161 ?_
  refine sb_cVz vf_Tk_fail (c_Tk_fail γ 1 (by decide)) rfl ml_Er_105 (As := [vI 1]) rfl rfl (Nat.le_of_ble_eq_true rfl) ⟨by decide, by decide⟩ d_Er_readCloser_162 (fun r12 γ13 hr12 => ?_)
  exact sn_z rfl hr12 d_Er_readCloser_165
set_option maxHeartbeats 4000000 in
theorem s_Er_readCloser_b116 {Γ : Ctx} : ∀ (γ : St) (x14 : Int) (x15 : Int), i32 x14 → i32 x15 → SB Γ BS mt_Er_readCloser (RmN 8 283) 0 0 (KN Γ BS mt_Er_readCloser.2.2.2) 116 [(0, vR Γ 6), (1, vI x14), (2, vI x15)] [] γ (f_Er_readCloser_b116 γ x14 x15) := by
  intro γ x14 x15 hx14 hx15
  unfold f_Er_readCloser_b116
  refine sb_iload_n 2 d_Er_readCloser_116 rfl ?_
  refine sb_bipush d_Er_readCloser_117 (by decide) ?_
  refine sb_icmp_ne 157 hx15 (by decide) d_Er_readCloser_119 (by decide) (fun _ => ?_) (fun _ => ?_)
  · exact sb_lv [0] rfl (s_Er_readCloser_b157 γ  )
  · refine sb_iload_n 1 d_Er_readCloser_122 rfl ?_
    refine sb_bipush d_Er_readCloser_123 (by decide) ?_
    refine sb_icmp_eq 133 hx14 (by decide) d_Er_readCloser_125 (by decide) (fun _ => ?_) (fun _ => ?_)
    · exact sb_lv [0, 1] rfl (s_Er_readCloser_b133 γ x14 hx14)
    · refine sb_iload_n 1 d_Er_readCloser_128 rfl ?_
      refine sb_iconst d_Er_readCloser_129 ?_
      refine sb_icmp_ne 157 hx14 (by decide) d_Er_readCloser_130 (by decide) (fun _ => ?_) (fun _ => ?_)
      · exact sb_lv [0] rfl (s_Er_readCloser_b157 γ  )
      · exact sb_lv [0, 1] rfl (s_Er_readCloser_b133 γ x14 hx14)
set_option maxHeartbeats 4000000 in
theorem s_Er_readCloser_b77 {Γ : Ctx} : ∀ (γ : St) (x16 : Int) (x17 : Int), i32 x16 → i32 x17 → SB Γ BS mt_Er_readCloser (RmN 8 283) 0 0 (KN Γ BS mt_Er_readCloser.2.2.2) 77 [(0, vR Γ 6), (1, vI x16), (2, vI x17)] [] γ (f_Er_readCloser_b77 γ x16 x17) := by
  intro γ x16 x17 hx16 hx17
  unfold f_Er_readCloser_b77
  refine sb_iload_n 2 d_Er_readCloser_77 rfl ?_
  refine sb_iconst d_Er_readCloser_78 ?_
  refine sb_icmp_ne 116 hx17 (by decide) d_Er_readCloser_79 (by decide) (fun _ => ?_) (fun _ => ?_)
  · exact sb_lv [0, 1, 2] rfl (s_Er_readCloser_b116 γ x16 x17 hx16 hx17)
  · refine sb_iload_n 1 d_Er_readCloser_82 rfl ?_
    refine sb_iconst d_Er_readCloser_83 ?_
    refine sb_icmp_ne 116 hx16 (by decide) d_Er_readCloser_84 (by decide) (fun _ => ?_) (fun _ => ?_)
    · exact sb_lv [0, 1, 2] rfl (s_Er_readCloser_b116 γ x16 x17 hx16 hx17)
    · refine sb_aload_n 0 d_Er_readCloser_87 rfl ?_
      refine sb_dup d_Er_readCloser_88 rfl ?_
      refine g_Er_39 d_Er_readCloser_89 (fun c18 => ?_)
      refine sb_iconst d_Er_readCloser_92 ?_
      refine sb_isub d_Er_readCloser_93 ?_
      refine sb_chk (fun c19 => ?_)
      refine p_Er_39 c19 d_Er_readCloser_94 ?_
      refine sb_aps (fun γ20 => ?_)
      refine sb_aload_n 0 d_Er_readCloser_97 rfl ?_
      refine sb_dup d_Er_readCloser_98 rfl ?_
      refine g_Er_46 d_Er_readCloser_99 (fun c21 => ?_)
      refine sb_iconst d_Er_readCloser_102 ?_
      refine sb_isub d_Er_readCloser_103 ?_
      refine sb_chk (fun c22 => ?_)
      refine p_Er_46 c22 d_Er_readCloser_104 ?_
      refine sb_aps (fun γ23 => ?_)
      refine sb_aload_n 0 d_Er_readCloser_107 rfl ?_
      refine g_Er_27 d_Er_readCloser_108 ?_
      refine sb_cVv vf_Tk_step (c_Tk_step γ23  ) rfl ml_Er_98 (As := []) rfl rfl (Nat.le_of_ble_eq_true rfl) ⟨by decide, by decide⟩ d_Er_readCloser_111 (fun _ γ26 => ?_)
      refine sb_iconst d_Er_readCloser_114 ?_
      exact sn_z rfl (by decide) d_Er_readCloser_115
set_option maxHeartbeats 4000000 in
theorem s_Er_readCloser_b59 {Γ : Ctx} : ∀ (γ : St) (x27 : Int) (x28 : Int), i32 x27 → i32 x28 → SB Γ BS mt_Er_readCloser (RmN 8 283) 0 0 (KN Γ BS mt_Er_readCloser.2.2.2) 59 [(0, vR Γ 6), (1, vI x27), (2, vI x28)] [] γ (f_Er_readCloser_b59 γ x27 x28) := by
  intro γ x27 x28 hx27 hx28
  unfold f_Er_readCloser_b59
  refine sb_iload_n 2 d_Er_readCloser_59 rfl ?_
  refine sb_bipush d_Er_readCloser_60 (by decide) ?_
  refine sb_icmp_ne 77 hx28 (by decide) d_Er_readCloser_62 (by decide) (fun _ => ?_) (fun _ => ?_)
  · exact sb_lv [0, 1, 2] rfl (s_Er_readCloser_b77 γ x27 x28 hx27 hx28)
  · refine sb_iload_n 1 d_Er_readCloser_65 rfl ?_
    refine sb_bipush d_Er_readCloser_66 (by decide) ?_
    refine sb_icmp_ne 77 hx27 (by decide) d_Er_readCloser_68 (by decide) (fun _ => ?_) (fun _ => ?_)
    · exact sb_lv [0, 1, 2] rfl (s_Er_readCloser_b77 γ x27 x28 hx27 hx28)
    · exact sb_lv [0, 1] rfl (s_Er_readCloser_b71 γ x27 hx27)
set_option maxHeartbeats 4000000 in
theorem s_Er_readCloser_b47 {Γ : Ctx} : ∀ (γ : St) (x29 : Int) (x30 : Int), i32 x29 → i32 x30 → SB Γ BS mt_Er_readCloser (RmN 8 283) 0 0 (KN Γ BS mt_Er_readCloser.2.2.2) 47 [(0, vR Γ 6), (1, vI x29), (2, vI x30)] [] γ (f_Er_readCloser_b47 γ x29 x30) := by
  intro γ x29 x30 hx29 hx30
  unfold f_Er_readCloser_b47
  refine sb_iload_n 2 d_Er_readCloser_47 rfl ?_
  refine sb_bipush d_Er_readCloser_48 (by decide) ?_
  refine sb_icmp_ne 59 hx30 (by decide) d_Er_readCloser_50 (by decide) (fun _ => ?_) (fun _ => ?_)
  · exact sb_lv [0, 1, 2] rfl (s_Er_readCloser_b59 γ x29 x30 hx29 hx30)
  · refine sb_iload_n 1 d_Er_readCloser_53 rfl ?_
    refine sb_bipush d_Er_readCloser_54 (by decide) ?_
    refine sb_icmp_eq 71 hx29 (by decide) d_Er_readCloser_56 (by decide) (fun _ => ?_) (fun _ => ?_)
    · exact sb_lv [0, 1] rfl (s_Er_readCloser_b71 γ x29 hx29)
    · exact sb_lv [0, 1, 2] rfl (s_Er_readCloser_b59 γ x29 x30 hx29 hx30)
set_option maxHeartbeats 4000000 in
theorem s_Er_readCloser_b22 {Γ : Ctx} : ∀ (γ : St) (x31 : Int) (x32 : Int), i32 x31 → i32 x32 → SB Γ BS mt_Er_readCloser (RmN 8 283) 0 0 (KN Γ BS mt_Er_readCloser.2.2.2) 22 [(0, vR Γ 6), (1, vI x31)] [vI x32] γ (f_Er_readCloser_b22 γ x31 x32) := by
  intro γ x31 x32 hx31 hx32
  unfold f_Er_readCloser_b22
  refine sb_istore_n [(2, vI x32), (0, vR Γ 6), (1, vI x31)] d_Er_readCloser_22 (by decide) rfl ?_
  refine sb_iload_n 0 d_Er_readCloser_23 rfl ?_
  refine sb_if_ne 47 hx32 d_Er_readCloser_24 (by decide) (fun _ => ?_) (fun _ => ?_)
  · exact sb_lv [1, 2, 0] rfl (s_Er_readCloser_b47 γ x31 x32 hx31 hx32)
  · refine sb_iload_n 2 d_Er_readCloser_27 rfl ?_
    refine sb_bipush d_Er_readCloser_28 (by decide) ?_
    refine sb_icmp_ne 47 hx31 (by decide) d_Er_readCloser_30 (by decide) (fun _ => ?_) (fun _ => ?_)
    · exact sb_lv [1, 2, 0] rfl (s_Er_readCloser_b47 γ x31 x32 hx31 hx32)
    · refine sb_aload_n 1 d_Er_readCloser_33 rfl ?_
      refine sb_iconst d_Er_readCloser_34 ?_
      refine p_Er_59 (by decide) d_Er_readCloser_35 ?_
      refine sb_aps (fun γ33 => ?_)
      refine sb_aload_n 1 d_Er_readCloser_38 rfl ?_
      refine g_Er_27 d_Er_readCloser_39 ?_
      refine sb_cVv vf_Tk_step (c_Tk_step γ33  ) rfl ml_Er_98 (As := []) rfl rfl (Nat.le_of_ble_eq_true rfl) ⟨by decide, by decide⟩ d_Er_readCloser_42 (fun _ γ36 => ?_)
      refine sb_iconst d_Er_readCloser_45 ?_
      exact sn_z rfl (by decide) d_Er_readCloser_46
set_option maxHeartbeats 4000000 in
theorem c_Er_readCloser {Γ : Ctx} (γ : St) (a0 : Int) (ha0 : i32 a0) : NC Γ BS y_Er_readCloser mt_Er_readCloser 8 283 [vR Γ 6, vI a0] γ (f_Er_readCloser γ a0) := by
  refine nc_of (by decide) rfl (Nat.le_of_ble_eq_true rfl) ?_
  show SB Γ BS mt_Er_readCloser (RmN 8 283) 0 0 (KN Γ BS mt_Er_readCloser.2.2.2) 0 [(0, vR Γ 6), (1, vI a0)] [] γ _
  unfold f_Er_readCloser
  refine sb_aload_n 0 d_Er_readCloser_0 rfl ?_
  refine g_Er_39 d_Er_readCloser_1 (fun c37 => ?_)
  refine sb_if_le 21 c37 d_Er_readCloser_4 (by decide) (fun _ => ?_) (fun _ => ?_)
  · refine sb_iconst d_Er_readCloser_21 ?_
    exact sb_lv [0, 1] rfl (s_Er_readCloser_b22 γ a0 0 ha0 (by decide))
  · refine sb_aload_n 0 d_Er_readCloser_7 rfl ?_
    refine g_Er_11 d_Er_readCloser_8 ?_
    refine sb_aload_n 0 d_Er_readCloser_11 rfl ?_
    refine g_Er_39 d_Er_readCloser_12 (fun c39 => ?_)
    refine sb_iconst d_Er_readCloser_15 ?_
    refine sb_isub d_Er_readCloser_16 ?_
    refine sb_chk (fun c40 => ?_)
    refine al_S_48 d_Er_readCloser_17 (fun _ c41 => ?_)
    refine sb_goto 22 d_Er_readCloser_18 (by decide) ?_
    exact sb_lv [0, 1] rfl (s_Er_readCloser_b22 γ a0 (γ 48 ((γ 6 8) - 1)) ha0 c41)
theorem d_Er_readOperator_0 : decode b_Er_readOperator 0 = .ok (.aload_n 0, 1) := by decide +kernel
theorem d_Er_readOperator_1 : decode b_Er_readOperator 1 = .ok (.getfield 27, 3) := by decide +kernel
theorem d_Er_readOperator_4 : decode b_Er_readOperator 4 = .ok (.invokevirtual 101, 3) := by decide +kernel
theorem d_Er_readOperator_7 : decode b_Er_readOperator 7 = .ok (.istore_n 1, 1) := by decide +kernel
theorem d_Er_readOperator_8 : decode b_Er_readOperator 8 = .ok (.aload_n 0, 1) := by decide +kernel
theorem d_Er_readOperator_9 : decode b_Er_readOperator 9 = .ok (.getfield 49, 3) := by decide +kernel
theorem d_Er_readOperator_12 : decode b_Er_readOperator 12 = .ok (.ifCond .eq 14, 3) := by decide +kernel
theorem d_Er_readOperator_15 : decode b_Er_readOperator 15 = .ok (.aload_n 0, 1) := by decide +kernel
theorem d_Er_readOperator_16 : decode b_Er_readOperator 16 = .ok (.getfield 39, 3) := by decide +kernel
theorem d_Er_readOperator_19 : decode b_Er_readOperator 19 = .ok (.ifCond .ne 7, 3) := by decide +kernel
theorem d_Er_readOperator_22 : decode b_Er_readOperator 22 = .ok (.iconst 1, 1) := by decide +kernel
theorem d_Er_readOperator_23 : decode b_Er_readOperator 23 = .ok (.goto 4, 3) := by decide +kernel
theorem d_Er_readOperator_26 : decode b_Er_readOperator 26 = .ok (.iconst 0, 1) := by decide +kernel
theorem d_Er_readOperator_27 : decode b_Er_readOperator 27 = .ok (.istore_n 2, 1) := by decide +kernel
theorem d_Er_readOperator_28 : decode b_Er_readOperator 28 = .ok (.iload_n 1, 1) := by decide +kernel
theorem d_Er_readOperator_29 : decode b_Er_readOperator 29 = .ok (.bipush 27, 2) := by decide +kernel
theorem d_Er_readOperator_31 : decode b_Er_readOperator 31 = .ok (.if_icmp .ne 12, 3) := by decide +kernel
theorem d_Er_readOperator_34 : decode b_Er_readOperator 34 = .ok (.iload_n 2, 1) := by decide +kernel
theorem d_Er_readOperator_35 : decode b_Er_readOperator 35 = .ok (.ifCond .ne 8, 3) := by decide +kernel
theorem d_Er_readOperator_38 : decode b_Er_readOperator 38 = .ok (.aload_n 0, 1) := by decide +kernel
theorem d_Er_readOperator_39 : decode b_Er_readOperator 39 = .ok (.invokevirtual 151, 3) := by decide +kernel
theorem d_Er_readOperator_42 : decode b_Er_readOperator 42 = .ok (.ireturn, 1) := by decide +kernel
theorem d_Er_readOperator_43 : decode b_Er_readOperator 43 = .ok (.iload_n 1, 1) := by decide +kernel
theorem d_Er_readOperator_44 : decode b_Er_readOperator 44 = .ok (.invokestatic 154, 3) := by decide +kernel
theorem d_Er_readOperator_47 : decode b_Er_readOperator 47 = .ok (.istore_n 3, 1) := by decide +kernel
theorem d_Er_readOperator_48 : decode b_Er_readOperator 48 = .ok (.iload_n 3, 1) := by decide +kernel
theorem d_Er_readOperator_49 : decode b_Er_readOperator 49 = .ok (.ifCond .le 26, 3) := by decide +kernel
theorem d_Er_readOperator_52 : decode b_Er_readOperator 52 = .ok (.iload_n 3, 1) := by decide +kernel
theorem d_Er_readOperator_53 : decode b_Er_readOperator 53 = .ok (.bipush 8, 2) := by decide +kernel
theorem d_Er_readOperator_55 : decode b_Er_readOperator 55 = .ok (.if_icmp .ge 20, 3) := by decide +kernel
theorem d_Er_readOperator_58 : decode b_Er_readOperator 58 = .ok (.iload_n 1, 1) := by decide +kernel
theorem d_Er_readOperator_59 : decode b_Er_readOperator 59 = .ok (.bipush 34, 2) := by decide +kernel
theorem d_Er_readOperator_61 : decode b_Er_readOperator 61 = .ok (.if_icmp .eq 14, 3) := by decide +kernel
theorem d_Er_readOperator_64 : decode b_Er_readOperator 64 = .ok (.iload_n 2, 1) := by decide +kernel
theorem d_Er_readOperator_65 : decode b_Er_readOperator 65 = .ok (.ifCond .ne 10, 3) := by decide +kernel
theorem d_Er_readOperator_68 : decode b_Er_readOperator 68 = .ok (.aload_n 0, 1) := by decide +kernel
theorem d_Er_readOperator_69 : decode b_Er_readOperator 69 = .ok (.iload_n 1, 1) := by decide +kernel
theorem d_Er_readOperator_70 : decode b_Er_readOperator 70 = .ok (.iload_n 3, 1) := by decide +kernel
theorem d_Er_readOperator_71 : decode b_Er_readOperator 71 = .ok (.invokevirtual 157, 3) := by decide +kernel
theorem d_Er_readOperator_74 : decode b_Er_readOperator 74 = .ok (.ireturn, 1) := by decide +kernel
theorem d_Er_readOperator_75 : decode b_Er_readOperator 75 = .ok (.aload_n 0, 1) := by decide +kernel
theorem d_Er_readOperator_76 : decode b_Er_readOperator 76 = .ok (.iconst 1, 1) := by decide +kernel
theorem d_Er_readOperator_77 : decode b_Er_readOperator 77 = .ok (.invokevirtual 160, 3) := by decide +kernel
theorem d_Er_readOperator_80 : decode b_Er_readOperator 80 = .ok (.ifCond .eq 15, 3) := by decide +kernel
theorem d_Er_readOperator_83 : decode b_Er_readOperator 83 = .ok (.aload_n 0, 1) := by decide +kernel
theorem d_Er_readOperator_84 : decode b_Er_readOperator 84 = .ok (.iload_n 1, 1) := by decide +kernel
theorem d_Er_readOperator_85 : decode b_Er_readOperator 85 = .ok (.invokevirtual 163, 3) := by decide +kernel
theorem d_Er_readOperator_88 : decode b_Er_readOperator 88 = .ok (.ifCond .eq 7, 3) := by decide +kernel
theorem d_Er_readOperator_91 : decode b_Er_readOperator 91 = .ok (.iconst 1, 1) := by decide +kernel
theorem d_Er_readOperator_92 : decode b_Er_readOperator 92 = .ok (.goto 4, 3) := by decide +kernel
theorem d_Er_readOperator_95 : decode b_Er_readOperator 95 = .ok (.iconst 0, 1) := by decide +kernel
theorem d_Er_readOperator_96 : decode b_Er_readOperator 96 = .ok (.ireturn, 1) := by decide +kernel
abbrev mt_Er_readOperator : MT := (R_Er, b_Er_readOperator, 4, some .boolean)
theorem vf_Er_readOperator : VF y_Er_readOperator mt_Er_readOperator 3 0 := ⟨im_Er_readOperator, se_Er_readOperator, in_Er, co_Er_readOperator, by decide +kernel, _, _, rfl⟩
def f_Er_readOperator_b75 (γ : St) (x1 : Int) : Option (Int × St) :=
  bndN (f_Er_reduce γ 1) fun r2 γ3 =>
  if r2 = 0 then
  (some (0, γ3))
  else
  (bndN (f_Er_readCloser γ3 x1) fun r4 γ5 =>
  if r4 = 0 then
  (some (0, γ5))
  else
  (some (1, γ5)))
def f_Er_readOperator_b43 (γ : St) (x6 : Int) (x7 : Int) : Option (Int × St) :=
  bndN (f_S_rank γ x6) fun r8 γ9 =>
  if r8 ≤ 0 then
  (f_Er_readOperator_b75 γ9 x6)
  else
  (if 8 ≤ r8 then
  (f_Er_readOperator_b75 γ9 x6)
  else
  (if x6 = 34 then
  (f_Er_readOperator_b75 γ9 x6)
  else
  (if x7 ≠ 0 then
  (f_Er_readOperator_b75 γ9 x6)
  else
  (bndN (f_Er_readTwoSided γ9 x6 r8) fun r10 γ11 =>
  some (r10, γ11)))))
def f_Er_readOperator_b27 (γ : St) (x12 : Int) (x13 : Int) : Option (Int × St) :=
  if x12 ≠ 27 then
  (f_Er_readOperator_b43 γ x12 x13)
  else
  (if x13 ≠ 0 then
  (f_Er_readOperator_b43 γ x12 x13)
  else
  (bndN (f_Er_readWhen γ) fun r14 γ15 =>
  some (r14, γ15)))
def f_Er_readOperator_b26 (γ : St) (x16 : Int) : Option (Int × St) :=
  f_Er_readOperator_b27 γ x16 0
def f_Er_readOperator (γ : St) : Option (Int × St) :=
  bndN (f_Tk_kindNow γ) fun r18 γ19 =>
  if (γ19 6 11) = 0 then
  (f_Er_readOperator_b26 γ19 r18)
  else
  (if (γ19 6 8) ≠ 0 then
  (f_Er_readOperator_b26 γ19 r18)
  else
  (f_Er_readOperator_b27 γ19 r18 1))
set_option maxHeartbeats 4000000 in
theorem s_Er_readOperator_b75 {Γ : Ctx} : ∀ (γ : St) (x1 : Int), i32 x1 → SB Γ BS mt_Er_readOperator (RmN 9 312) 0 0 (KN Γ BS mt_Er_readOperator.2.2.2) 75 [(0, vR Γ 6), (1, vI x1)] [] γ (f_Er_readOperator_b75 γ x1) := by
  intro γ x1 hx1
  unfold f_Er_readOperator_b75
  refine sb_aload_n 0 d_Er_readOperator_75 rfl ?_
  refine sb_iconst d_Er_readOperator_76 ?_
  refine sb_cVz vf_Er_reduce (c_Er_reduce γ 1 (by decide)) rfl ml_Er_160 (As := [vI 1]) rfl rfl (Nat.le_of_ble_eq_true rfl) ⟨by decide, by decide⟩ d_Er_readOperator_77 (fun r2 γ3 hr2 => ?_)
  refine sb_if_eq 95 (z2i hr2) d_Er_readOperator_80 (by decide) (fun _ => ?_) (fun _ => ?_)
  · refine sb_iconst d_Er_readOperator_95 ?_
    exact sn_z rfl (by decide) d_Er_readOperator_96
  · refine sb_aload_n 0 d_Er_readOperator_83 rfl ?_
    refine sb_iload_n 1 d_Er_readOperator_84 rfl ?_
    refine sb_cVz vf_Er_readCloser (c_Er_readCloser γ3 x1 hx1) rfl ml_Er_163 (As := [vI x1]) rfl rfl (Nat.le_of_ble_eq_true rfl) ⟨by decide, by decide⟩ d_Er_readOperator_85 (fun r4 γ5 hr4 => ?_)
    refine sb_if_eq 95 (z2i hr4) d_Er_readOperator_88 (by decide) (fun _ => ?_) (fun _ => ?_)
    · refine sb_iconst d_Er_readOperator_95 ?_
      exact sn_z rfl (by decide) d_Er_readOperator_96
    · refine sb_iconst d_Er_readOperator_91 ?_
      refine sb_goto 96 d_Er_readOperator_92 (by decide) ?_
      exact sn_z rfl (by decide) d_Er_readOperator_96
set_option maxHeartbeats 4000000 in
theorem s_Er_readOperator_b43 {Γ : Ctx} : ∀ (γ : St) (x6 : Int) (x7 : Int), i32 x6 → i32 x7 → SB Γ BS mt_Er_readOperator (RmN 9 312) 0 0 (KN Γ BS mt_Er_readOperator.2.2.2) 43 [(0, vR Γ 6), (1, vI x6), (2, vI x7)] [] γ (f_Er_readOperator_b43 γ x6 x7) := by
  intro γ x6 x7 hx6 hx7
  unfold f_Er_readOperator_b43
  refine sb_iload_n 1 d_Er_readOperator_43 rfl ?_
  refine sb_cNi vf_S_rank (c_S_rank γ x6 hx6) (fun X => X.E.2.2.2.2.2.2.2.1) (As := [vI x6]) rfl rfl (Nat.le_of_ble_eq_true rfl) ⟨by decide, by decide⟩ d_Er_readOperator_44 (fun r8 γ9 hr8 => ?_)
  refine sb_istore_n [(3, vI r8), (0, vR Γ 6), (1, vI x6), (2, vI x7)] d_Er_readOperator_47 (by decide) rfl ?_
  refine sb_iload_n 0 d_Er_readOperator_48 rfl ?_
  refine sb_if_le 75 hr8 d_Er_readOperator_49 (by decide) (fun _ => ?_) (fun _ => ?_)
  · exact sb_lv [1, 2] rfl (s_Er_readOperator_b75 γ9 x6 hx6)
  · refine sb_iload_n 0 d_Er_readOperator_52 rfl ?_
    refine sb_bipush d_Er_readOperator_53 (by decide) ?_
    refine sb_icmp_ge 75 hr8 (by decide) d_Er_readOperator_55 (by decide) (fun _ => ?_) (fun _ => ?_)
    · exact sb_lv [1, 2] rfl (s_Er_readOperator_b75 γ9 x6 hx6)
    · refine sb_iload_n 2 d_Er_readOperator_58 rfl ?_
      refine sb_bipush d_Er_readOperator_59 (by decide) ?_
      refine sb_icmp_eq 75 hx6 (by decide) d_Er_readOperator_61 (by decide) (fun _ => ?_) (fun _ => ?_)
      · exact sb_lv [1, 2] rfl (s_Er_readOperator_b75 γ9 x6 hx6)
      · refine sb_iload_n 3 d_Er_readOperator_64 rfl ?_
        refine sb_if_ne 75 hx7 d_Er_readOperator_65 (by decide) (fun _ => ?_) (fun _ => ?_)
        · exact sb_lv [1, 2] rfl (s_Er_readOperator_b75 γ9 x6 hx6)
        · refine sb_aload_n 1 d_Er_readOperator_68 rfl ?_
          refine sb_iload_n 2 d_Er_readOperator_69 rfl ?_
          refine sb_iload_n 0 d_Er_readOperator_70 rfl ?_
          refine sb_cVz vf_Er_readTwoSided (c_Er_readTwoSided γ9 x6 r8 hx6 hr8) rfl ml_Er_157 (As := [vI x6, vI r8]) rfl rfl (Nat.le_of_ble_eq_true rfl) ⟨by decide, by decide⟩ d_Er_readOperator_71 (fun r10 γ11 hr10 => ?_)
          exact sn_z rfl hr10 d_Er_readOperator_74
set_option maxHeartbeats 4000000 in
theorem s_Er_readOperator_b27 {Γ : Ctx} : ∀ (γ : St) (x12 : Int) (x13 : Int), i32 x12 → i32 x13 → SB Γ BS mt_Er_readOperator (RmN 9 312) 0 0 (KN Γ BS mt_Er_readOperator.2.2.2) 27 [(0, vR Γ 6), (1, vI x12)] [vI x13] γ (f_Er_readOperator_b27 γ x12 x13) := by
  intro γ x12 x13 hx12 hx13
  unfold f_Er_readOperator_b27
  refine sb_istore_n [(2, vI x13), (0, vR Γ 6), (1, vI x12)] d_Er_readOperator_27 (by decide) rfl ?_
  refine sb_iload_n 2 d_Er_readOperator_28 rfl ?_
  refine sb_bipush d_Er_readOperator_29 (by decide) ?_
  refine sb_icmp_ne 43 hx12 (by decide) d_Er_readOperator_31 (by decide) (fun _ => ?_) (fun _ => ?_)
  · exact sb_lv [1, 2, 0] rfl (s_Er_readOperator_b43 γ x12 x13 hx12 hx13)
  · refine sb_iload_n 0 d_Er_readOperator_34 rfl ?_
    refine sb_if_ne 43 hx13 d_Er_readOperator_35 (by decide) (fun _ => ?_) (fun _ => ?_)
    · exact sb_lv [1, 2, 0] rfl (s_Er_readOperator_b43 γ x12 x13 hx12 hx13)
    · refine sb_aload_n 1 d_Er_readOperator_38 rfl ?_
      refine sb_cVz vf_Er_readWhen (c_Er_readWhen γ  ) rfl ml_Er_151 (As := []) rfl rfl (Nat.le_of_ble_eq_true rfl) ⟨by decide, by decide⟩ d_Er_readOperator_39 (fun r14 γ15 hr14 => ?_)
      exact sn_z rfl hr14 d_Er_readOperator_42
set_option maxHeartbeats 4000000 in
theorem s_Er_readOperator_b26 {Γ : Ctx} : ∀ (γ : St) (x16 : Int), i32 x16 → SB Γ BS mt_Er_readOperator (RmN 9 312) 0 0 (KN Γ BS mt_Er_readOperator.2.2.2) 26 [(0, vR Γ 6), (1, vI x16)] [] γ (f_Er_readOperator_b26 γ x16) := by
  intro γ x16 hx16
  unfold f_Er_readOperator_b26
  refine sb_iconst d_Er_readOperator_26 ?_
  exact sb_lv [0, 1] rfl (s_Er_readOperator_b27 γ x16 0 hx16 (by decide))
set_option maxHeartbeats 4000000 in
theorem c_Er_readOperator {Γ : Ctx} (γ : St) : NC Γ BS y_Er_readOperator mt_Er_readOperator 9 312 [vR Γ 6] γ (f_Er_readOperator γ) := by
  refine nc_of (by decide) rfl (Nat.le_of_ble_eq_true rfl) ?_
  show SB Γ BS mt_Er_readOperator (RmN 9 312) 0 0 (KN Γ BS mt_Er_readOperator.2.2.2) 0 [(0, vR Γ 6)] [] γ _
  unfold f_Er_readOperator
  refine sb_aload_n 0 d_Er_readOperator_0 rfl ?_
  refine g_Er_27 d_Er_readOperator_1 ?_
  refine sb_cVi vf_Tk_kindNow (c_Tk_kindNow γ  ) rfl ml_Er_101 (As := []) rfl rfl (Nat.le_of_ble_eq_true rfl) ⟨by decide, by decide⟩ d_Er_readOperator_4 (fun r18 γ19 hr18 => ?_)
  refine sb_istore_n [(1, vI r18), (0, vR Γ 6)] d_Er_readOperator_7 (by decide) rfl ?_
  refine sb_aload_n 1 d_Er_readOperator_8 rfl ?_
  refine g_Er_49 d_Er_readOperator_9 (fun c20 => ?_)
  refine sb_if_eq 26 c20 d_Er_readOperator_12 (by decide) (fun _ => ?_) (fun _ => ?_)
  · exact sb_lv [1, 0] rfl (s_Er_readOperator_b26 γ19 r18 hr18)
  · refine sb_aload_n 1 d_Er_readOperator_15 rfl ?_
    refine g_Er_39 d_Er_readOperator_16 (fun c21 => ?_)
    refine sb_if_ne 26 c21 d_Er_readOperator_19 (by decide) (fun _ => ?_) (fun _ => ?_)
    · exact sb_lv [1, 0] rfl (s_Er_readOperator_b26 γ19 r18 hr18)
    · refine sb_iconst d_Er_readOperator_22 ?_
      refine sb_goto 27 d_Er_readOperator_23 (by decide) ?_
      exact sb_lv [1, 0] rfl (s_Er_readOperator_b27 γ19 r18 1 hr18 (by decide))
theorem d_Er_readRightSide_0 : decode b_Er_readRightSide 0 = .ok (.aload_n 0, 1) := by decide +kernel
theorem d_Er_readRightSide_1 : decode b_Er_readRightSide 1 = .ok (.iconst 0, 1) := by decide +kernel
theorem d_Er_readRightSide_2 : decode b_Er_readRightSide 2 = .ok (.putfield 39, 3) := by decide +kernel
theorem d_Er_readRightSide_5 : decode b_Er_readRightSide 5 = .ok (.aload_n 0, 1) := by decide +kernel
theorem d_Er_readRightSide_6 : decode b_Er_readRightSide 6 = .ok (.iconst 0, 1) := by decide +kernel
theorem d_Er_readRightSide_7 : decode b_Er_readRightSide 7 = .ok (.putfield 43, 3) := by decide +kernel
theorem d_Er_readRightSide_10 : decode b_Er_readRightSide 10 = .ok (.aload_n 0, 1) := by decide +kernel
theorem d_Er_readRightSide_11 : decode b_Er_readRightSide 11 = .ok (.iconst 0, 1) := by decide +kernel
theorem d_Er_readRightSide_12 : decode b_Er_readRightSide 12 = .ok (.putfield 46, 3) := by decide +kernel
theorem d_Er_readRightSide_15 : decode b_Er_readRightSide 15 = .ok (.aload_n 0, 1) := by decide +kernel
theorem d_Er_readRightSide_16 : decode b_Er_readRightSide 16 = .ok (.iload_n 1, 1) := by decide +kernel
theorem d_Er_readRightSide_17 : decode b_Er_readRightSide 17 = .ok (.putfield 49, 3) := by decide +kernel
theorem d_Er_readRightSide_20 : decode b_Er_readRightSide 20 = .ok (.aload_n 0, 1) := by decide +kernel
theorem d_Er_readRightSide_21 : decode b_Er_readRightSide 21 = .ok (.iconst 1, 1) := by decide +kernel
theorem d_Er_readRightSide_22 : decode b_Er_readRightSide 22 = .ok (.putfield 53, 3) := by decide +kernel
theorem d_Er_readRightSide_25 : decode b_Er_readRightSide 25 = .ok (.aload_n 0, 1) := by decide +kernel
theorem d_Er_readRightSide_26 : decode b_Er_readRightSide 26 = .ok (.iconst 1, 1) := by decide +kernel
theorem d_Er_readRightSide_27 : decode b_Er_readRightSide 27 = .ok (.putfield 56, 3) := by decide +kernel
theorem d_Er_readRightSide_30 : decode b_Er_readRightSide 30 = .ok (.aload_n 0, 1) := by decide +kernel
theorem d_Er_readRightSide_31 : decode b_Er_readRightSide 31 = .ok (.iconst 0, 1) := by decide +kernel
theorem d_Er_readRightSide_32 : decode b_Er_readRightSide 32 = .ok (.putfield 59, 3) := by decide +kernel
theorem d_Er_readRightSide_35 : decode b_Er_readRightSide 35 = .ok (.aload_n 0, 1) := by decide +kernel
theorem d_Er_readRightSide_36 : decode b_Er_readRightSide 36 = .ok (.getfield 49, 3) := by decide +kernel
theorem d_Er_readRightSide_39 : decode b_Er_readRightSide 39 = .ok (.ifCond .eq 10, 3) := by decide +kernel
theorem d_Er_readRightSide_42 : decode b_Er_readRightSide 42 = .ok (.aload_n 0, 1) := by decide +kernel
theorem d_Er_readRightSide_43 : decode b_Er_readRightSide 43 = .ok (.invokevirtual 62, 3) := by decide +kernel
theorem d_Er_readRightSide_46 : decode b_Er_readRightSide 46 = .ok (.ifCond .eq 7, 3) := by decide +kernel
theorem d_Er_readRightSide_49 : decode b_Er_readRightSide 49 = .ok (.iconst 1, 1) := by decide +kernel
theorem d_Er_readRightSide_50 : decode b_Er_readRightSide 50 = .ok (.goto 4, 3) := by decide +kernel
theorem d_Er_readRightSide_53 : decode b_Er_readRightSide 53 = .ok (.iconst 0, 1) := by decide +kernel
theorem d_Er_readRightSide_54 : decode b_Er_readRightSide 54 = .ok (.istore_n 2, 1) := by decide +kernel
theorem d_Er_readRightSide_55 : decode b_Er_readRightSide 55 = .ok (.iconst 0, 1) := by decide +kernel
theorem d_Er_readRightSide_56 : decode b_Er_readRightSide 56 = .ok (.istore_n 3, 1) := by decide +kernel
theorem d_Er_readRightSide_57 : decode b_Er_readRightSide 57 = .ok (.iload_n 2, 1) := by decide +kernel
theorem d_Er_readRightSide_58 : decode b_Er_readRightSide 58 = .ok (.ifCond .eq 46, 3) := by decide +kernel
theorem d_Er_readRightSide_61 : decode b_Er_readRightSide 61 = .ok (.aload_n 0, 1) := by decide +kernel
theorem d_Er_readRightSide_62 : decode b_Er_readRightSide 62 = .ok (.getfield 59, 3) := by decide +kernel
theorem d_Er_readRightSide_65 : decode b_Er_readRightSide 65 = .ok (.ifCond .ne 39, 3) := by decide +kernel
theorem d_Er_readRightSide_68 : decode b_Er_readRightSide 68 = .ok (.iload_n 3, 1) := by decide +kernel
theorem d_Er_readRightSide_69 : decode b_Er_readRightSide 69 = .ok (.aload_n 0, 1) := by decide +kernel
theorem d_Er_readRightSide_70 : decode b_Er_readRightSide 70 = .ok (.getfield 27, 3) := by decide +kernel
theorem d_Er_readRightSide_73 : decode b_Er_readRightSide 73 = .ok (.getfield 66, 3) := by decide +kernel
theorem d_Er_readRightSide_76 : decode b_Er_readRightSide 76 = .ok (.if_icmp .ge 28, 3) := by decide +kernel
theorem d_Er_readRightSide_79 : decode b_Er_readRightSide 79 = .ok (.aload_n 0, 1) := by decide +kernel
theorem d_Er_readRightSide_80 : decode b_Er_readRightSide 80 = .ok (.getfield 53, 3) := by decide +kernel
theorem d_Er_readRightSide_83 : decode b_Er_readRightSide 83 = .ok (.ifCond .eq 10, 3) := by decide +kernel
theorem d_Er_readRightSide_86 : decode b_Er_readRightSide 86 = .ok (.aload_n 0, 1) := by decide +kernel
theorem d_Er_readRightSide_87 : decode b_Er_readRightSide 87 = .ok (.invokevirtual 71, 3) := by decide +kernel
theorem d_Er_readRightSide_90 : decode b_Er_readRightSide 90 = .ok (.goto 7, 3) := by decide +kernel
theorem d_Er_readRightSide_93 : decode b_Er_readRightSide 93 = .ok (.aload_n 0, 1) := by decide +kernel
theorem d_Er_readRightSide_94 : decode b_Er_readRightSide 94 = .ok (.invokevirtual 74, 3) := by decide +kernel
theorem d_Er_readRightSide_97 : decode b_Er_readRightSide 97 = .ok (.istore_n 2, 1) := by decide +kernel
theorem d_Er_readRightSide_98 : decode b_Er_readRightSide 98 = .ok (.iinc 3 1, 3) := by decide +kernel
theorem d_Er_readRightSide_101 : decode b_Er_readRightSide 101 = .ok (.goto (-44), 3) := by decide +kernel
theorem d_Er_readRightSide_104 : decode b_Er_readRightSide 104 = .ok (.iload_n 2, 1) := by decide +kernel
theorem d_Er_readRightSide_105 : decode b_Er_readRightSide 105 = .ok (.ireturn, 1) := by decide +kernel
abbrev mt_Er_readRightSide : MT := (R_Er, b_Er_readRightSide, 4, some .boolean)
theorem vf_Er_readRightSide : VF y_Er_readRightSide mt_Er_readRightSide 3 1 := ⟨im_Er_readRightSide, se_Er_readRightSide, in_Er, co_Er_readRightSide, by decide +kernel, _, _, rfl⟩
def f_Er_readRightSide_b97 (k57 : St → Int → Int → Option (Int × St)) (γ : St) (x1 : Int) (x2 : Int) : Option (Int × St) :=
  chk (i32 (x1 + 1)) (k57 γ x2 (x1 + 1))
def f_Er_readRightSide_L57 : Nat → St → Int → Int → Option (Int × St)
  | 0, _, _, _ => none
  | n + 1, γ, x6, x7 =>
  if x6 = 0 then
  (chk (x6 = 0 ∨ x6 = 1) (some (x6, γ)))
  else
  (if (γ 6 14) ≠ 0 then
  (chk (x6 = 0 ∨ x6 = 1) (some (x6, γ)))
  else
  (if (γ 1 5) ≤ x7 then
  (chk (x6 = 0 ∨ x6 = 1) (some (x6, γ)))
  else
  (if (γ 6 12) = 0 then
  (bndN (f_Er_readOperator γ) fun r15 γ16 =>
  f_Er_readRightSide_b97 (f_Er_readRightSide_L57 n) γ16 x7 r15)
  else
  (bndN (f_Er_readOperand γ) fun r17 γ18 =>
  f_Er_readRightSide_b97 (f_Er_readRightSide_L57 n) γ18 x7 r17))))
def f_Er_readRightSide_b54 (γ : St) (x19 : Int) : Option (Int × St) :=
  f_Er_readRightSide_L57  FU γ x19 0
def f_Er_readRightSide_b49 (γ : St) : Option (Int × St) :=
  f_Er_readRightSide_b54 γ 1
def f_Er_readRightSide (γ : St) (a0 : Int) : Option (Int × St) :=
  ap (setA γ 6 8 0) fun γ20 =>
  ap (setA γ20 6 9 0) fun γ21 =>
  ap (setA γ21 6 10 0) fun γ22 =>
  chk (a0 = 0 ∨ a0 = 1) (ap (setA γ22 6 11 a0) fun γ24 =>
  ap (setA γ24 6 12 1) fun γ25 =>
  ap (setA γ25 6 13 1) fun γ26 =>
  ap (setA γ26 6 14 0) fun γ27 =>
  if (γ27 6 11) = 0 then
  (f_Er_readRightSide_b49 γ27 )
  else
  (bndN (f_Er_readCalled γ27) fun r29 γ30 =>
  if r29 = 0 then
  (f_Er_readRightSide_b54 γ30 0)
  else
  (f_Er_readRightSide_b49 γ30 )))
set_option maxHeartbeats 4000000 in
theorem s_Er_readRightSide_b97 {Γ : Ctx} {k57 : St → Int → Int → Option (Int × St)} (hk57 : ∀ (γ : St) (x4 : Int) (x5 : Int), i32 x4 → i32 x5 → SB Γ BS mt_Er_readRightSide (RmN 10 335) 0 0 (KN Γ BS mt_Er_readRightSide.2.2.2) 57 [(0, vR Γ 6), (2, vI x4), (3, vI x5)] [] γ (k57 γ x4 x5)) : ∀ (γ : St) (x1 : Int) (x2 : Int), i32 x1 → i32 x2 → SB Γ BS mt_Er_readRightSide (RmN 10 335) 0 0 (KN Γ BS mt_Er_readRightSide.2.2.2) 97 [(0, vR Γ 6), (3, vI x1)] [vI x2] γ (f_Er_readRightSide_b97 k57 γ x1 x2) := by
  intro γ x1 x2 hx1 hx2
  unfold f_Er_readRightSide_b97
  refine sb_istore_n [(2, vI x2), (0, vR Γ 6), (3, vI x1)] d_Er_readRightSide_97 (by decide) rfl ?_
  refine sb_iinc 2 [(3, vI (x1 + 1)), (2, vI x2), (0, vR Γ 6)] d_Er_readRightSide_98 rfl (by decide) rfl ?_
  refine sb_chk (fun c3 => ?_)
  refine sb_goto 57 d_Er_readRightSide_101 (by decide) ?_
  exact sb_lv [2, 1, 0] rfl (hk57 γ x2 (x1 + 1) hx2 c3)
set_option maxHeartbeats 4000000 in
theorem s_Er_readRightSide_L57 {Γ : Ctx} : ∀ (n : Nat) (γ : St) (x6 : Int) (x7 : Int), i32 x6 → i32 x7 → SB Γ BS mt_Er_readRightSide (RmN 10 335) 0 0 (KN Γ BS mt_Er_readRightSide.2.2.2) 57 [(0, vR Γ 6), (2, vI x6), (3, vI x7)] [] γ (f_Er_readRightSide_L57 n γ x6 x7) := by
  intro n
  induction n with
  | zero => intros; exact sb_none
  | succ n ih =>
    intro γ x6 x7 hx6 hx7
    unfold f_Er_readRightSide_L57
    refine sb_iload_n 1 d_Er_readRightSide_57 rfl ?_
    refine sb_if_eq 104 hx6 d_Er_readRightSide_58 (by decide) (fun _ => ?_) (fun _ => ?_)
    · refine sb_iload_n 1 d_Er_readRightSide_104 rfl ?_
      refine sb_chk (fun c8 => ?_)
      exact sn_z rfl c8 d_Er_readRightSide_105
    · refine sb_aload_n 0 d_Er_readRightSide_61 rfl ?_
      refine g_Er_59 d_Er_readRightSide_62 (fun c9 => ?_)
      refine sb_if_ne 104 c9 d_Er_readRightSide_65 (by decide) (fun _ => ?_) (fun _ => ?_)
      · refine sb_iload_n 1 d_Er_readRightSide_104 rfl ?_
        refine sb_chk (fun c10 => ?_)
        exact sn_z rfl c10 d_Er_readRightSide_105
      · refine sb_iload_n 2 d_Er_readRightSide_68 rfl ?_
        refine sb_aload_n 0 d_Er_readRightSide_69 rfl ?_
        refine g_Er_27 d_Er_readRightSide_70 ?_
        refine g_Er_66 d_Er_readRightSide_73 (fun c12 => ?_)
        refine sb_icmp_ge 104 hx7 c12 d_Er_readRightSide_76 (by decide) (fun _ => ?_) (fun _ => ?_)
        · refine sb_iload_n 1 d_Er_readRightSide_104 rfl ?_
          refine sb_chk (fun c13 => ?_)
          exact sn_z rfl c13 d_Er_readRightSide_105
        · refine sb_aload_n 0 d_Er_readRightSide_79 rfl ?_
          refine g_Er_53 d_Er_readRightSide_80 (fun c14 => ?_)
          refine sb_if_eq 93 c14 d_Er_readRightSide_83 (by decide) (fun _ => ?_) (fun _ => ?_)
          · refine sb_aload_n 0 d_Er_readRightSide_93 rfl ?_
            refine sb_cVz vf_Er_readOperator (c_Er_readOperator γ  ) rfl ml_Er_74 (As := []) rfl rfl (Nat.le_of_ble_eq_true rfl) ⟨by decide, by decide⟩ d_Er_readRightSide_94 (fun r15 γ16 hr15 => ?_)
            exact sb_lv [0, 2] rfl (s_Er_readRightSide_b97 ih γ16 x7 r15 hx7 (z2i hr15))
          · refine sb_aload_n 0 d_Er_readRightSide_86 rfl ?_
            refine sb_cVz vf_Er_readOperand (c_Er_readOperand γ  ) rfl ml_Er_71 (As := []) rfl rfl (Nat.le_of_ble_eq_true rfl) ⟨by decide, by decide⟩ d_Er_readRightSide_87 (fun r17 γ18 hr17 => ?_)
            refine sb_goto 97 d_Er_readRightSide_90 (by decide) ?_
            exact sb_lv [0, 2] rfl (s_Er_readRightSide_b97 ih γ18 x7 r17 hx7 (z2i hr17))
set_option maxHeartbeats 4000000 in
theorem s_Er_readRightSide_b54 {Γ : Ctx} : ∀ (γ : St) (x19 : Int), i32 x19 → SB Γ BS mt_Er_readRightSide (RmN 10 335) 0 0 (KN Γ BS mt_Er_readRightSide.2.2.2) 54 [(0, vR Γ 6)] [vI x19] γ (f_Er_readRightSide_b54 γ x19) := by
  intro γ x19 hx19
  unfold f_Er_readRightSide_b54
  refine sb_istore_n [(2, vI x19), (0, vR Γ 6)] d_Er_readRightSide_54 (by decide) rfl ?_
  refine sb_iconst d_Er_readRightSide_55 ?_
  refine sb_istore_n [(3, vI 0), (2, vI x19), (0, vR Γ 6)] d_Er_readRightSide_56 (by decide) rfl ?_
  exact sb_lv [2, 1, 0] rfl (s_Er_readRightSide_L57  FU γ x19 0 hx19 (by decide))
set_option maxHeartbeats 4000000 in
theorem s_Er_readRightSide_b49 {Γ : Ctx} : ∀ (γ : St), SB Γ BS mt_Er_readRightSide (RmN 10 335) 0 0 (KN Γ BS mt_Er_readRightSide.2.2.2) 49 [(0, vR Γ 6)] [] γ (f_Er_readRightSide_b49 γ ) := by
  intro γ
  unfold f_Er_readRightSide_b49
  refine sb_iconst d_Er_readRightSide_49 ?_
  refine sb_goto 54 d_Er_readRightSide_50 (by decide) ?_
  exact sb_lv [0] rfl (s_Er_readRightSide_b54 γ 1 (by decide))
set_option maxHeartbeats 4000000 in
theorem c_Er_readRightSide {Γ : Ctx} (γ : St) (a0 : Int) (ha0 : i32 a0) : NC Γ BS y_Er_readRightSide mt_Er_readRightSide 10 335 [vR Γ 6, vI a0] γ (f_Er_readRightSide γ a0) := by
  refine nc_of (by decide) rfl (Nat.le_of_ble_eq_true rfl) ?_
  show SB Γ BS mt_Er_readRightSide (RmN 10 335) 0 0 (KN Γ BS mt_Er_readRightSide.2.2.2) 0 [(0, vR Γ 6), (1, vI a0)] [] γ _
  unfold f_Er_readRightSide
  refine sb_aload_n 0 d_Er_readRightSide_0 rfl ?_
  refine sb_iconst d_Er_readRightSide_1 ?_
  refine p_Er_39 (by decide) d_Er_readRightSide_2 ?_
  refine sb_aps (fun γ20 => ?_)
  refine sb_aload_n 0 d_Er_readRightSide_5 rfl ?_
  refine sb_iconst d_Er_readRightSide_6 ?_
  refine p_Er_43 (by decide) d_Er_readRightSide_7 ?_
  refine sb_aps (fun γ21 => ?_)
  refine sb_aload_n 0 d_Er_readRightSide_10 rfl ?_
  refine sb_iconst d_Er_readRightSide_11 ?_
  refine p_Er_46 (by decide) d_Er_readRightSide_12 ?_
  refine sb_aps (fun γ22 => ?_)
  refine sb_aload_n 0 d_Er_readRightSide_15 rfl ?_
  refine sb_iload_n 1 d_Er_readRightSide_16 rfl ?_
  refine sb_chk (fun c23 => ?_)
  refine p_Er_49 c23 d_Er_readRightSide_17 ?_
  refine sb_aps (fun γ24 => ?_)
  refine sb_aload_n 0 d_Er_readRightSide_20 rfl ?_
  refine sb_iconst d_Er_readRightSide_21 ?_
  refine p_Er_53 (by decide) d_Er_readRightSide_22 ?_
  refine sb_aps (fun γ25 => ?_)
  refine sb_aload_n 0 d_Er_readRightSide_25 rfl ?_
  refine sb_iconst d_Er_readRightSide_26 ?_
  refine p_Er_56 (by decide) d_Er_readRightSide_27 ?_
  refine sb_aps (fun γ26 => ?_)
  refine sb_aload_n 0 d_Er_readRightSide_30 rfl ?_
  refine sb_iconst d_Er_readRightSide_31 ?_
  refine p_Er_59 (by decide) d_Er_readRightSide_32 ?_
  refine sb_aps (fun γ27 => ?_)
  refine sb_aload_n 0 d_Er_readRightSide_35 rfl ?_
  refine g_Er_49 d_Er_readRightSide_36 (fun c28 => ?_)
  refine sb_if_eq 49 c28 d_Er_readRightSide_39 (by decide) (fun _ => ?_) (fun _ => ?_)
  · exact sb_lv [0] rfl (s_Er_readRightSide_b49 γ27  )
  · refine sb_aload_n 0 d_Er_readRightSide_42 rfl ?_
    refine sb_cVz vf_Er_readCalled (c_Er_readCalled γ27  ) rfl ml_Er_62 (As := []) rfl rfl (Nat.le_of_ble_eq_true rfl) ⟨by decide, by decide⟩ d_Er_readRightSide_43 (fun r29 γ30 hr29 => ?_)
    refine sb_if_eq 53 (z2i hr29) d_Er_readRightSide_46 (by decide) (fun _ => ?_) (fun _ => ?_)
    · refine sb_iconst d_Er_readRightSide_53 ?_
      exact sb_lv [0] rfl (s_Er_readRightSide_b54 γ30 0 (by decide))
    · exact sb_lv [0] rfl (s_Er_readRightSide_b49 γ30  )
theorem d_Cd_closeEquation_0 : decode b_Cd_closeEquation 0 = .ok (.aload_n 0, 1) := by decide +kernel
theorem d_Cd_closeEquation_1 : decode b_Cd_closeEquation 1 = .ok (.getfield 31, 3) := by decide +kernel
theorem d_Cd_closeEquation_4 : decode b_Cd_closeEquation 4 = .ok (.aload_n 0, 1) := by decide +kernel
theorem d_Cd_closeEquation_5 : decode b_Cd_closeEquation 5 = .ok (.getfield 48, 3) := by decide +kernel
theorem d_Cd_closeEquation_8 : decode b_Cd_closeEquation 8 = .ok (.aload_n 0, 1) := by decide +kernel
theorem d_Cd_closeEquation_9 : decode b_Cd_closeEquation 9 = .ok (.getfield 44, 3) := by decide +kernel
theorem d_Cd_closeEquation_12 : decode b_Cd_closeEquation 12 = .ok (.iastore, 1) := by decide +kernel
theorem d_Cd_closeEquation_13 : decode b_Cd_closeEquation 13 = .ok (.aload_n 0, 1) := by decide +kernel
theorem d_Cd_closeEquation_14 : decode b_Cd_closeEquation 14 = .ok (.dup, 1) := by decide +kernel
theorem d_Cd_closeEquation_15 : decode b_Cd_closeEquation 15 = .ok (.getfield 48, 3) := by decide +kernel
theorem d_Cd_closeEquation_18 : decode b_Cd_closeEquation 18 = .ok (.iconst 1, 1) := by decide +kernel
theorem d_Cd_closeEquation_19 : decode b_Cd_closeEquation 19 = .ok (.iadd, 1) := by decide +kernel
theorem d_Cd_closeEquation_20 : decode b_Cd_closeEquation 20 = .ok (.putfield 48, 3) := by decide +kernel
theorem d_Cd_closeEquation_23 : decode b_Cd_closeEquation 23 = .ok (.return_, 1) := by decide +kernel
abbrev mt_Cd_closeEquation : MT := (R_Cd, b_Cd_closeEquation, 1, none)
theorem vf_Cd_closeEquation : VF y_Cd_closeEquation mt_Cd_closeEquation 2 0 := ⟨im_Cd_closeEquation, se_Cd_closeEquation, in_Cd, co_Cd_closeEquation, by decide +kernel, _, _, rfl⟩
def f_Cd_closeEquation (γ : St) : Option (Int × St) :=
  chk (inb (γ 4 10) 16385) (ap (setA γ 44 (γ 4 10) (γ 4 4)) fun γ4 =>
  chk (i32 ((γ4 4 10) + 1)) (ap (setA γ4 4 10 ((γ4 4 10) + 1)) fun γ7 =>
  some (0, γ7)))
set_option maxHeartbeats 4000000 in
theorem c_Cd_closeEquation {Γ : Ctx} (γ : St) : NC Γ BS y_Cd_closeEquation mt_Cd_closeEquation 6 240 [vR Γ 4] γ (f_Cd_closeEquation γ) := by
  refine nc_of (by decide) rfl (Nat.le_of_ble_eq_true rfl) ?_
  show SB Γ BS mt_Cd_closeEquation (RmN 6 240) 0 0 (KN Γ BS mt_Cd_closeEquation.2.2.2) 0 [(0, vR Γ 4)] [] γ _
  unfold f_Cd_closeEquation
  refine sb_aload_n 0 d_Cd_closeEquation_0 rfl ?_
  refine g_Cd_31 d_Cd_closeEquation_1 ?_
  refine sb_aload_n 0 d_Cd_closeEquation_4 rfl ?_
  refine g_Cd_48 d_Cd_closeEquation_5 (fun c2 => ?_)
  refine sb_aload_n 0 d_Cd_closeEquation_8 rfl ?_
  refine g_Cd_44 d_Cd_closeEquation_9 (fun c3 => ?_)
  refine as_S_44 c3 d_Cd_closeEquation_12 (fun _ => ?_)
  refine sb_aps (fun γ4 => ?_)
  refine sb_aload_n 0 d_Cd_closeEquation_13 rfl ?_
  refine sb_dup d_Cd_closeEquation_14 rfl ?_
  refine g_Cd_48 d_Cd_closeEquation_15 (fun c5 => ?_)
  refine sb_iconst d_Cd_closeEquation_18 ?_
  refine sb_iadd d_Cd_closeEquation_19 ?_
  refine sb_chk (fun c6 => ?_)
  refine p_Cd_48 c6 d_Cd_closeEquation_20 ?_
  refine sb_aps (fun γ7 => ?_)
  exact sn_v rfl d_Cd_closeEquation_23
theorem d_Nd_close_0 : decode b_Nd_close 0 = .ok (.aload_n 0, 1) := by decide +kernel
theorem d_Nd_close_1 : decode b_Nd_close 1 = .ok (.getfield 54, 3) := by decide +kernel
theorem d_Nd_close_4 : decode b_Nd_close 4 = .ok (.istore_n 2, 1) := by decide +kernel
theorem d_Nd_close_5 : decode b_Nd_close 5 = .ok (.aload_n 0, 1) := by decide +kernel
theorem d_Nd_close_6 : decode b_Nd_close 6 = .ok (.getfield 30, 3) := by decide +kernel
theorem d_Nd_close_9 : decode b_Nd_close 9 = .ok (.iload_n 2, 1) := by decide +kernel
theorem d_Nd_close_10 : decode b_Nd_close 10 = .ok (.aload_n 1, 1) := by decide +kernel
theorem d_Nd_close_11 : decode b_Nd_close 11 = .ok (.getfield 61, 3) := by decide +kernel
theorem d_Nd_close_14 : decode b_Nd_close 14 = .ok (.aload_n 0, 1) := by decide +kernel
theorem d_Nd_close_15 : decode b_Nd_close 15 = .ok (.getfield 27, 3) := by decide +kernel
theorem d_Nd_close_18 : decode b_Nd_close 18 = .ok (.iload_n 2, 1) := by decide +kernel
theorem d_Nd_close_19 : decode b_Nd_close 19 = .ok (.iaload, 1) := by decide +kernel
theorem d_Nd_close_20 : decode b_Nd_close 20 = .ok (.isub, 1) := by decide +kernel
theorem d_Nd_close_21 : decode b_Nd_close 21 = .ok (.iastore, 1) := by decide +kernel
theorem d_Nd_close_22 : decode b_Nd_close 22 = .ok (.aload_n 1, 1) := by decide +kernel
theorem d_Nd_close_23 : decode b_Nd_close 23 = .ok (.getfield 65, 3) := by decide +kernel
theorem d_Nd_close_26 : decode b_Nd_close 26 = .ok (.aload_n 0, 1) := by decide +kernel
theorem d_Nd_close_27 : decode b_Nd_close 27 = .ok (.getfield 27, 3) := by decide +kernel
theorem d_Nd_close_30 : decode b_Nd_close 30 = .ok (.iload_n 2, 1) := by decide +kernel
theorem d_Nd_close_31 : decode b_Nd_close 31 = .ok (.iaload, 1) := by decide +kernel
theorem d_Nd_close_32 : decode b_Nd_close 32 = .ok (.iaload, 1) := by decide +kernel
theorem d_Nd_close_33 : decode b_Nd_close 33 = .ok (.istore_n 3, 1) := by decide +kernel
theorem d_Nd_close_34 : decode b_Nd_close 34 = .ok (.aload_n 1, 1) := by decide +kernel
theorem d_Nd_close_35 : decode b_Nd_close 35 = .ok (.getfield 68, 3) := by decide +kernel
theorem d_Nd_close_38 : decode b_Nd_close 38 = .ok (.iload_n 3, 1) := by decide +kernel
theorem d_Nd_close_39 : decode b_Nd_close 39 = .ok (.isub, 1) := by decide +kernel
theorem d_Nd_close_40 : decode b_Nd_close 40 = .ok (.aload_n 0, 1) := by decide +kernel
theorem d_Nd_close_41 : decode b_Nd_close 41 = .ok (.getfield 30, 3) := by decide +kernel
theorem d_Nd_close_44 : decode b_Nd_close 44 = .ok (.iload_n 2, 1) := by decide +kernel
theorem d_Nd_close_45 : decode b_Nd_close 45 = .ok (.iaload, 1) := by decide +kernel
theorem d_Nd_close_46 : decode b_Nd_close 46 = .ok (.iadd, 1) := by decide +kernel
theorem d_Nd_close_47 : decode b_Nd_close 47 = .ok (.istore 4, 2) := by decide +kernel
theorem d_Nd_close_49 : decode b_Nd_close 49 = .ok (.aload_n 0, 1) := by decide +kernel
theorem d_Nd_close_50 : decode b_Nd_close 50 = .ok (.getfield 24, 3) := by decide +kernel
theorem d_Nd_close_53 : decode b_Nd_close 53 = .ok (.iload_n 2, 1) := by decide +kernel
theorem d_Nd_close_54 : decode b_Nd_close 54 = .ok (.iaload, 1) := by decide +kernel
theorem d_Nd_close_55 : decode b_Nd_close 55 = .ok (.istore 5, 2) := by decide +kernel
theorem d_Nd_close_57 : decode b_Nd_close 57 = .ok (.iload_n 3, 1) := by decide +kernel
theorem d_Nd_close_58 : decode b_Nd_close 58 = .ok (.istore 6, 2) := by decide +kernel
theorem d_Nd_close_60 : decode b_Nd_close 60 = .ok (.iload 6, 2) := by decide +kernel
theorem d_Nd_close_62 : decode b_Nd_close 62 = .ok (.aload_n 1, 1) := by decide +kernel
theorem d_Nd_close_63 : decode b_Nd_close 63 = .ok (.getfield 68, 3) := by decide +kernel
theorem d_Nd_close_66 : decode b_Nd_close 66 = .ok (.if_icmp .ge 64, 3) := by decide +kernel
theorem d_Nd_close_69 : decode b_Nd_close 69 = .ok (.aload_n 1, 1) := by decide +kernel
theorem d_Nd_close_70 : decode b_Nd_close 70 = .ok (.getfield 70, 3) := by decide +kernel
theorem d_Nd_close_73 : decode b_Nd_close 73 = .ok (.iload 6, 2) := by decide +kernel
theorem d_Nd_close_75 : decode b_Nd_close 75 = .ok (.iaload, 1) := by decide +kernel
theorem d_Nd_close_76 : decode b_Nd_close 76 = .ok (.bipush 43, 2) := by decide +kernel
theorem d_Nd_close_78 : decode b_Nd_close 78 = .ok (.if_icmp .ne 46, 3) := by decide +kernel
theorem d_Nd_close_81 : decode b_Nd_close 81 = .ok (.aload_n 1, 1) := by decide +kernel
theorem d_Nd_close_82 : decode b_Nd_close 82 = .ok (.getfield 73, 3) := by decide +kernel
theorem d_Nd_close_85 : decode b_Nd_close 85 = .ok (.iload 6, 2) := by decide +kernel
theorem d_Nd_close_87 : decode b_Nd_close 87 = .ok (.iaload, 1) := by decide +kernel
theorem d_Nd_close_88 : decode b_Nd_close 88 = .ok (.istore 7, 2) := by decide +kernel
theorem d_Nd_close_90 : decode b_Nd_close 90 = .ok (.ldc 76, 2) := by decide +kernel
theorem d_Nd_close_92 : decode b_Nd_close 92 = .ok (.iload 4, 2) := by decide +kernel
theorem d_Nd_close_94 : decode b_Nd_close 94 = .ok (.aload_n 0, 1) := by decide +kernel
theorem d_Nd_close_95 : decode b_Nd_close 95 = .ok (.getfield 33, 3) := by decide +kernel
theorem d_Nd_close_98 : decode b_Nd_close 98 = .ok (.iload 7, 2) := by decide +kernel
theorem d_Nd_close_100 : decode b_Nd_close 100 = .ok (.iaload, 1) := by decide +kernel
theorem d_Nd_close_101 : decode b_Nd_close 101 = .ok (.iadd, 1) := by decide +kernel
theorem d_Nd_close_102 : decode b_Nd_close 102 = .ok (.invokestatic 77, 3) := by decide +kernel
theorem d_Nd_close_105 : decode b_Nd_close 105 = .ok (.istore 4, 2) := by decide +kernel
theorem d_Nd_close_107 : decode b_Nd_close 107 = .ok (.ldc 76, 2) := by decide +kernel
theorem d_Nd_close_109 : decode b_Nd_close 109 = .ok (.iload 5, 2) := by decide +kernel
theorem d_Nd_close_111 : decode b_Nd_close 111 = .ok (.aload_n 0, 1) := by decide +kernel
theorem d_Nd_close_112 : decode b_Nd_close 112 = .ok (.getfield 36, 3) := by decide +kernel
theorem d_Nd_close_115 : decode b_Nd_close 115 = .ok (.iload 7, 2) := by decide +kernel
theorem d_Nd_close_117 : decode b_Nd_close 117 = .ok (.iaload, 1) := by decide +kernel
theorem d_Nd_close_118 : decode b_Nd_close 118 = .ok (.iadd, 1) := by decide +kernel
theorem d_Nd_close_119 : decode b_Nd_close 119 = .ok (.invokestatic 77, 3) := by decide +kernel
theorem d_Nd_close_122 : decode b_Nd_close 122 = .ok (.istore 5, 2) := by decide +kernel
theorem d_Nd_close_124 : decode b_Nd_close 124 = .ok (.iinc 6 1, 3) := by decide +kernel
theorem d_Nd_close_127 : decode b_Nd_close 127 = .ok (.goto (-67), 3) := by decide +kernel
theorem d_Nd_close_130 : decode b_Nd_close 130 = .ok (.aload_n 0, 1) := by decide +kernel
theorem d_Nd_close_131 : decode b_Nd_close 131 = .ok (.getfield 33, 3) := by decide +kernel
theorem d_Nd_close_134 : decode b_Nd_close 134 = .ok (.iload_n 2, 1) := by decide +kernel
theorem d_Nd_close_135 : decode b_Nd_close 135 = .ok (.iload 4, 2) := by decide +kernel
theorem d_Nd_close_137 : decode b_Nd_close 137 = .ok (.iastore, 1) := by decide +kernel
theorem d_Nd_close_138 : decode b_Nd_close 138 = .ok (.aload_n 0, 1) := by decide +kernel
theorem d_Nd_close_139 : decode b_Nd_close 139 = .ok (.getfield 36, 3) := by decide +kernel
theorem d_Nd_close_142 : decode b_Nd_close 142 = .ok (.iload_n 2, 1) := by decide +kernel
theorem d_Nd_close_143 : decode b_Nd_close 143 = .ok (.iload 5, 2) := by decide +kernel
theorem d_Nd_close_145 : decode b_Nd_close 145 = .ok (.iastore, 1) := by decide +kernel
theorem d_Nd_close_146 : decode b_Nd_close 146 = .ok (.aload_n 0, 1) := by decide +kernel
theorem d_Nd_close_147 : decode b_Nd_close 147 = .ok (.dup, 1) := by decide +kernel
theorem d_Nd_close_148 : decode b_Nd_close 148 = .ok (.getfield 54, 3) := by decide +kernel
theorem d_Nd_close_151 : decode b_Nd_close 151 = .ok (.iconst 1, 1) := by decide +kernel
theorem d_Nd_close_152 : decode b_Nd_close 152 = .ok (.iadd, 1) := by decide +kernel
theorem d_Nd_close_153 : decode b_Nd_close 153 = .ok (.putfield 54, 3) := by decide +kernel
theorem d_Nd_close_156 : decode b_Nd_close 156 = .ok (.return_, 1) := by decide +kernel
abbrev mt_Nd_close : MT := (R_Nd, b_Nd_close, 8, none)
theorem vf_Nd_close : VF y_Nd_close mt_Nd_close 6 1 := ⟨im_Nd_close, se_Nd_close, in_Nd, co_Nd_close, by decide +kernel, _, _, rfl⟩
def f_Nd_close_b130 (γ : St) (x1 : Int) (x2 : Int) (x3 : Int) : Option (Int × St) :=
  chk (inb x1 59) (ap (setA γ 31 x1 x2) fun γ5 =>
  chk (inb x1 59) (ap (setA γ5 32 x1 x3) fun γ7 =>
  chk (i32 ((γ7 3 9) + 1)) (ap (setA γ7 3 9 ((γ7 3 9) + 1)) fun γ10 =>
  some (0, γ10))))
def f_Nd_close_b124 (k60 : St → Int → Int → Int → Int → Option (Int × St)) (e130 : St → Int → Int → Int → Option (Int × St)) (γ : St) (x11 : Int) (x12 : Int) (x13 : Int) (x14 : Int) : Option (Int × St) :=
  chk (i32 (x14 + 1)) (k60 γ x11 x12 x13 (x14 + 1))
def f_Nd_close_L60 (e130 : St → Int → Int → Int → Option (Int × St)) : Nat → St → Int → Int → Int → Int → Option (Int × St)
  | 0, _, _, _, _, _ => none
  | n + 1, γ, x23, x24, x25, x26 =>
  if (γ 4 4) ≤ x26 then
  (e130 γ x23 x24 x25)
  else
  (chk (inb x26 65537) (if (γ 38 x26) ≠ 43 then
  (f_Nd_close_b124 (f_Nd_close_L60 e130 n) e130 γ x23 x24 x25 x26)
  else
  (chk (inb x26 65537) (ap (γ 39 x26) fun x32 =>
  chk (inb x32 59) (chk (i32 (x24 + (γ 31 x32))) (ap (min 1000000 (x24 + (γ 31 x32))) fun x36 =>
  chk (inb x32 59) (chk (i32 (x25 + (γ 32 x32))) (ap (min 1000000 (x25 + (γ 32 x32))) fun x40 =>
  f_Nd_close_b124 (f_Nd_close_L60 e130 n) e130 γ x23 x36 x40 x26))))))))
def f_Nd_close (γ : St) : Option (Int × St) :=
  ap (γ 3 9) fun x45 =>
  chk (inb x45 59) (chk (i32 ((γ 4 10) - (γ 29 x45))) (chk (inb x45 59) (ap (setA γ 30 x45 ((γ 4 10) - (γ 29 x45))) fun γ51 =>
  chk (inb x45 59) (chk (inb (γ51 29 x45) 16385) (ap (γ51 43 (γ51 29 x45)) fun x56 =>
  chk (i32 ((γ51 4 4) - x56)) (chk (inb x45 59) (chk (i32 (((γ51 4 4) - x56) + (γ51 30 x45))) (ap (((γ51 4 4) - x56) + (γ51 30 x45)) fun x62 =>
  chk (inb x45 59) (ap (γ51 28 x45) fun x65 =>
  f_Nd_close_L60 (f_Nd_close_b130) FU γ51 x45 x62 x65 x56)))))))))
set_option maxHeartbeats 4000000 in
theorem s_Nd_close_b130 {Γ : Ctx} : ∀ (γ : St) (x1 : Int) (x2 : Int) (x3 : Int), i32 x1 → i32 x2 → i32 x3 → SB Γ BS mt_Nd_close (RmN 6 240) 0 0 (KN Γ BS mt_Nd_close.2.2.2) 130 [(0, vR Γ 3), (2, vI x1), (4, vI x2), (5, vI x3)] [] γ (f_Nd_close_b130 γ x1 x2 x3) := by
  intro γ x1 x2 x3 hx1 hx2 hx3
  unfold f_Nd_close_b130
  refine sb_aload_n 0 d_Nd_close_130 rfl ?_
  refine g_Nd_33 d_Nd_close_131 ?_
  refine sb_iload_n 1 d_Nd_close_134 rfl ?_
  refine sb_iload 2 d_Nd_close_135 rfl ?_
  refine as_S_31 hx2 d_Nd_close_137 (fun _ => ?_)
  refine sb_aps (fun γ5 => ?_)
  refine sb_aload_n 0 d_Nd_close_138 rfl ?_
  refine g_Nd_36 d_Nd_close_139 ?_
  refine sb_iload_n 1 d_Nd_close_142 rfl ?_
  refine sb_iload 3 d_Nd_close_143 rfl ?_
  refine as_S_32 hx3 d_Nd_close_145 (fun _ => ?_)
  refine sb_aps (fun γ7 => ?_)
  refine sb_aload_n 0 d_Nd_close_146 rfl ?_
  refine sb_dup d_Nd_close_147 rfl ?_
  refine g_Nd_54 d_Nd_close_148 (fun c8 => ?_)
  refine sb_iconst d_Nd_close_151 ?_
  refine sb_iadd d_Nd_close_152 ?_
  refine sb_chk (fun c9 => ?_)
  refine p_Nd_54 c9 d_Nd_close_153 ?_
  refine sb_aps (fun γ10 => ?_)
  exact sn_v rfl d_Nd_close_156
set_option maxHeartbeats 4000000 in
theorem s_Nd_close_b124 {Γ : Ctx} {k60 : St → Int → Int → Int → Int → Option (Int × St)} {e130 : St → Int → Int → Int → Option (Int × St)} (hk60 : ∀ (γ : St) (x16 : Int) (x17 : Int) (x18 : Int) (x19 : Int), i32 x16 → i32 x17 → i32 x18 → i32 x19 → SB Γ BS mt_Nd_close (RmN 6 240) 0 0 (KN Γ BS mt_Nd_close.2.2.2) 60 [(0, vR Γ 3), (1, vR Γ 4), (2, vI x16), (4, vI x17), (5, vI x18), (6, vI x19)] [] γ (k60 γ x16 x17 x18 x19)) (he130 : ∀ (γ : St) (x20 : Int) (x21 : Int) (x22 : Int), i32 x20 → i32 x21 → i32 x22 → SB Γ BS mt_Nd_close (RmN 6 240) 0 0 (KN Γ BS mt_Nd_close.2.2.2) 130 [(0, vR Γ 3), (2, vI x20), (4, vI x21), (5, vI x22)] [] γ (e130 γ x20 x21 x22)) : ∀ (γ : St) (x11 : Int) (x12 : Int) (x13 : Int) (x14 : Int), i32 x11 → i32 x12 → i32 x13 → i32 x14 → SB Γ BS mt_Nd_close (RmN 6 240) 0 0 (KN Γ BS mt_Nd_close.2.2.2) 124 [(0, vR Γ 3), (1, vR Γ 4), (2, vI x11), (4, vI x12), (5, vI x13), (6, vI x14)] [] γ (f_Nd_close_b124 k60 e130 γ x11 x12 x13 x14) := by
  intro γ x11 x12 x13 x14 hx11 hx12 hx13 hx14
  unfold f_Nd_close_b124
  refine sb_iinc 5 [(6, vI (x14 + 1)), (0, vR Γ 3), (1, vR Γ 4), (2, vI x11), (4, vI x12), (5, vI x13)] d_Nd_close_124 rfl (by decide) rfl ?_
  refine sb_chk (fun c15 => ?_)
  refine sb_goto 60 d_Nd_close_127 (by decide) ?_
  exact sb_lv [1, 2, 3, 4, 5, 0] rfl (hk60 γ x11 x12 x13 (x14 + 1) hx11 hx12 hx13 c15)
set_option maxHeartbeats 4000000 in
theorem s_Nd_close_L60 {Γ : Ctx} {e130 : St → Int → Int → Int → Option (Int × St)} (he130 : ∀ (γ : St) (x41 : Int) (x42 : Int) (x43 : Int), i32 x41 → i32 x42 → i32 x43 → SB Γ BS mt_Nd_close (RmN 6 240) 0 0 (KN Γ BS mt_Nd_close.2.2.2) 130 [(0, vR Γ 3), (2, vI x41), (4, vI x42), (5, vI x43)] [] γ (e130 γ x41 x42 x43)) : ∀ (n : Nat) (γ : St) (x23 : Int) (x24 : Int) (x25 : Int) (x26 : Int), i32 x23 → i32 x24 → i32 x25 → i32 x26 → SB Γ BS mt_Nd_close (RmN 6 240) 0 0 (KN Γ BS mt_Nd_close.2.2.2) 60 [(0, vR Γ 3), (1, vR Γ 4), (2, vI x23), (4, vI x24), (5, vI x25), (6, vI x26)] [] γ (f_Nd_close_L60 e130 n γ x23 x24 x25 x26) := by
  intro n
  induction n with
  | zero => intros; exact sb_none
  | succ n ih =>
    intro γ x23 x24 x25 x26 hx23 hx24 hx25 hx26
    unfold f_Nd_close_L60
    refine sb_iload 5 d_Nd_close_60 rfl ?_
    refine sb_aload_n 1 d_Nd_close_62 rfl ?_
    refine g_Nd_68 d_Nd_close_63 (fun c27 => ?_)
    refine sb_icmp_ge 130 hx26 c27 d_Nd_close_66 (by decide) (fun _ => ?_) (fun _ => ?_)
    · exact sb_lv [0, 2, 3, 4] rfl (he130 γ x23 x24 x25 hx23 hx24 hx25)
    · refine sb_aload_n 1 d_Nd_close_69 rfl ?_
      refine g_Nd_70 d_Nd_close_70 ?_
      refine sb_iload 5 d_Nd_close_73 rfl ?_
      refine al_S_38 d_Nd_close_75 (fun _ c29 => ?_)
      refine sb_bipush d_Nd_close_76 (by decide) ?_
      refine sb_icmp_ne 124 c29 (by decide) d_Nd_close_78 (by decide) (fun _ => ?_) (fun _ => ?_)
      · exact sb_lv [0, 1, 2, 3, 4, 5] rfl (s_Nd_close_b124 ih he130 γ x23 x24 x25 x26 hx23 hx24 hx25 hx26)
      · refine sb_aload_n 1 d_Nd_close_81 rfl ?_
        refine g_Nd_73 d_Nd_close_82 ?_
        refine sb_iload 5 d_Nd_close_85 rfl ?_
        refine al_S_39 d_Nd_close_87 (fun _ c31 => ?_)
        refine sb_istore [(7, vI (γ 39 x26)), (0, vR Γ 3), (1, vR Γ 4), (2, vI x23), (4, vI x24), (5, vI x25), (6, vI x26)] d_Nd_close_88 (by decide) rfl ?_
        refine sb_nme (e := γ 39 x26) (fun x32 => [(7, vI x32), (0, vR Γ 3), (1, vR Γ 4), (2, vI x23), (4, vI x24), (5, vI x25), (6, vI x26)]) c31 (fun x32 hx32 => ?_)
        refine sb_ldc 1000000 (by decide) ct_Nd_76 d_Nd_close_90 ?_
        refine sb_iload 4 d_Nd_close_92 rfl ?_
        refine sb_aload_n 1 d_Nd_close_94 rfl ?_
        refine g_Nd_33 d_Nd_close_95 ?_
        refine sb_iload 0 d_Nd_close_98 rfl ?_
        refine al_S_31 d_Nd_close_100 (fun _ c34 => ?_)
        refine sb_iadd d_Nd_close_101 ?_
        refine sb_chk (fun c35 => ?_)
        refine sb_mmin (by decide) c35 ml_Nd_77 sm_java_lang_Math_min in_java_lang_Math co_java_lang_Math_min ⟨by first | decide | (simp only [RmT, RmN]; omega), by first | exact Nat.le_of_ble_eq_true rfl | (simp [RmT, RmN, Value.category] <;> omega)⟩ d_Nd_close_102 ?_
        refine sb_istore [(4, vI (min 1000000 (x24 + (γ 31 x32)))), (7, vI x32), (0, vR Γ 3), (1, vR Γ 4), (2, vI x23), (5, vI x25), (6, vI x26)] d_Nd_close_105 (by decide) rfl ?_
        refine sb_nme (e := min 1000000 (x24 + (γ 31 x32))) (fun x36 => [(4, vI x36), (7, vI x32), (0, vR Γ 3), (1, vR Γ 4), (2, vI x23), (5, vI x25), (6, vI x26)]) ((mm_b (by decide) c35).2) (fun x36 hx36 => ?_)
        refine sb_ldc 1000000 (by decide) ct_Nd_76 d_Nd_close_107 ?_
        refine sb_iload 5 d_Nd_close_109 rfl ?_
        refine sb_aload_n 2 d_Nd_close_111 rfl ?_
        refine g_Nd_36 d_Nd_close_112 ?_
        refine sb_iload 1 d_Nd_close_115 rfl ?_
        refine al_S_32 d_Nd_close_117 (fun _ c38 => ?_)
        refine sb_iadd d_Nd_close_118 ?_
        refine sb_chk (fun c39 => ?_)
        refine sb_mmin (by decide) c39 ml_Nd_77 sm_java_lang_Math_min in_java_lang_Math co_java_lang_Math_min ⟨by first | decide | (simp only [RmT, RmN]; omega), by first | exact Nat.le_of_ble_eq_true rfl | (simp [RmT, RmN, Value.category] <;> omega)⟩ d_Nd_close_119 ?_
        refine sb_istore [(5, vI (min 1000000 (x25 + (γ 32 x32)))), (4, vI x36), (7, vI x32), (0, vR Γ 3), (1, vR Γ 4), (2, vI x23), (6, vI x26)] d_Nd_close_122 (by decide) rfl ?_
        refine sb_nme (e := min 1000000 (x25 + (γ 32 x32))) (fun x40 => [(5, vI x40), (4, vI x36), (7, vI x32), (0, vR Γ 3), (1, vR Γ 4), (2, vI x23), (6, vI x26)]) ((mm_b (by decide) c39).2) (fun x40 hx40 => ?_)
        exact sb_lv [3, 4, 5, 1, 0, 6] rfl (s_Nd_close_b124 ih he130 γ x23 x36 x40 x26 hx23 hx36 hx40 hx26)
set_option maxHeartbeats 4000000 in
theorem c_Nd_close {Γ : Ctx} (γ : St) : NC Γ BS y_Nd_close mt_Nd_close 6 240 [vR Γ 3, vR Γ 4] γ (f_Nd_close γ) := by
  refine nc_of (by decide) rfl (Nat.le_of_ble_eq_true rfl) ?_
  show SB Γ BS mt_Nd_close (RmN 6 240) 0 0 (KN Γ BS mt_Nd_close.2.2.2) 0 [(0, vR Γ 3), (1, vR Γ 4)] [] γ _
  unfold f_Nd_close
  refine sb_aload_n 0 d_Nd_close_0 rfl ?_
  refine g_Nd_54 d_Nd_close_1 (fun c44 => ?_)
  refine sb_istore_n [(2, vI (γ 3 9)), (0, vR Γ 3), (1, vR Γ 4)] d_Nd_close_4 (by decide) rfl ?_
  refine sb_nme (e := γ 3 9) (fun x45 => [(2, vI x45), (0, vR Γ 3), (1, vR Γ 4)]) c44 (fun x45 hx45 => ?_)
  refine sb_aload_n 1 d_Nd_close_5 rfl ?_
  refine g_Nd_30 d_Nd_close_6 ?_
  refine sb_iload_n 0 d_Nd_close_9 rfl ?_
  refine sb_aload_n 2 d_Nd_close_10 rfl ?_
  refine g_Nd_61 d_Nd_close_11 (fun c47 => ?_)
  refine sb_aload_n 1 d_Nd_close_14 rfl ?_
  refine g_Nd_27 d_Nd_close_15 ?_
  refine sb_iload_n 0 d_Nd_close_18 rfl ?_
  refine al_S_29 d_Nd_close_19 (fun _ c49 => ?_)
  refine sb_isub d_Nd_close_20 ?_
  refine sb_chk (fun c50 => ?_)
  refine as_S_30 c50 d_Nd_close_21 (fun _ => ?_)
  refine sb_aps (fun γ51 => ?_)
  refine sb_aload_n 2 d_Nd_close_22 rfl ?_
  refine g_Nd_65 d_Nd_close_23 ?_
  refine sb_aload_n 1 d_Nd_close_26 rfl ?_
  refine g_Nd_27 d_Nd_close_27 ?_
  refine sb_iload_n 0 d_Nd_close_30 rfl ?_
  refine al_S_29 d_Nd_close_31 (fun _ c54 => ?_)
  refine al_S_43 d_Nd_close_32 (fun _ c55 => ?_)
  refine sb_istore_n [(3, vI (γ51 43 (γ51 29 x45))), (2, vI x45), (0, vR Γ 3), (1, vR Γ 4)] d_Nd_close_33 (by decide) rfl ?_
  refine sb_nme (e := γ51 43 (γ51 29 x45)) (fun x56 => [(3, vI x56), (2, vI x45), (0, vR Γ 3), (1, vR Γ 4)]) c55 (fun x56 hx56 => ?_)
  refine sb_aload_n 3 d_Nd_close_34 rfl ?_
  refine g_Nd_68 d_Nd_close_35 (fun c57 => ?_)
  refine sb_iload_n 0 d_Nd_close_38 rfl ?_
  refine sb_isub d_Nd_close_39 ?_
  refine sb_chk (fun c58 => ?_)
  refine sb_aload_n 2 d_Nd_close_40 rfl ?_
  refine g_Nd_30 d_Nd_close_41 ?_
  refine sb_iload_n 1 d_Nd_close_44 rfl ?_
  refine al_S_30 d_Nd_close_45 (fun _ c60 => ?_)
  refine sb_iadd d_Nd_close_46 ?_
  refine sb_chk (fun c61 => ?_)
  refine sb_istore [(4, vI (((γ51 4 4) - x56) + (γ51 30 x45))), (3, vI x56), (2, vI x45), (0, vR Γ 3), (1, vR Γ 4)] d_Nd_close_47 (by decide) rfl ?_
  refine sb_nme (e := ((γ51 4 4) - x56) + (γ51 30 x45)) (fun x62 => [(4, vI x62), (3, vI x56), (2, vI x45), (0, vR Γ 3), (1, vR Γ 4)]) c61 (fun x62 hx62 => ?_)
  refine sb_aload_n 3 d_Nd_close_49 rfl ?_
  refine g_Nd_24 d_Nd_close_50 ?_
  refine sb_iload_n 2 d_Nd_close_53 rfl ?_
  refine al_S_28 d_Nd_close_54 (fun _ c64 => ?_)
  refine sb_istore [(5, vI (γ51 28 x45)), (4, vI x62), (3, vI x56), (2, vI x45), (0, vR Γ 3), (1, vR Γ 4)] d_Nd_close_55 (by decide) rfl ?_
  refine sb_nme (e := γ51 28 x45) (fun x65 => [(5, vI x65), (4, vI x62), (3, vI x56), (2, vI x45), (0, vR Γ 3), (1, vR Γ 4)]) c64 (fun x65 hx65 => ?_)
  refine sb_iload_n 2 d_Nd_close_57 rfl ?_
  refine sb_istore [(6, vI x56), (5, vI x65), (4, vI x62), (3, vI x56), (2, vI x45), (0, vR Γ 3), (1, vR Γ 4)] d_Nd_close_58 (by decide) rfl ?_
  exact sb_lv [5, 6, 4, 2, 1, 0] rfl (s_Nd_close_L60 (s_Nd_close_b130) FU γ51 x45 x62 x65 x56 hx45 hx62 hx65 hx56)
theorem d_Nd_role_0 : decode b_Nd_role 0 = .ok (.iload_n 2, 1) := by decide +kernel
theorem d_Nd_role_1 : decode b_Nd_role 1 = .ok (.aload_n 0, 1) := by decide +kernel
theorem d_Nd_role_2 : decode b_Nd_role 2 = .ok (.getfield 18, 3) := by decide +kernel
theorem d_Nd_role_5 : decode b_Nd_role 5 = .ok (.iload_n 1, 1) := by decide +kernel
theorem d_Nd_role_6 : decode b_Nd_role 6 = .ok (.iaload, 1) := by decide +kernel
theorem d_Nd_role_7 : decode b_Nd_role 7 = .ok (.if_icmp .ge 7, 3) := by decide +kernel
theorem d_Nd_role_10 : decode b_Nd_role 10 = .ok (.iconst 0, 1) := by decide +kernel
theorem d_Nd_role_11 : decode b_Nd_role 11 = .ok (.goto 25, 3) := by decide +kernel
theorem d_Nd_role_14 : decode b_Nd_role 14 = .ok (.iload_n 2, 1) := by decide +kernel
theorem d_Nd_role_15 : decode b_Nd_role 15 = .ok (.aload_n 0, 1) := by decide +kernel
theorem d_Nd_role_16 : decode b_Nd_role 16 = .ok (.getfield 18, 3) := by decide +kernel
theorem d_Nd_role_19 : decode b_Nd_role 19 = .ok (.iload_n 1, 1) := by decide +kernel
theorem d_Nd_role_20 : decode b_Nd_role 20 = .ok (.iaload, 1) := by decide +kernel
theorem d_Nd_role_21 : decode b_Nd_role 21 = .ok (.aload_n 0, 1) := by decide +kernel
theorem d_Nd_role_22 : decode b_Nd_role 22 = .ok (.getfield 21, 3) := by decide +kernel
theorem d_Nd_role_25 : decode b_Nd_role 25 = .ok (.iload_n 1, 1) := by decide +kernel
theorem d_Nd_role_26 : decode b_Nd_role 26 = .ok (.iaload, 1) := by decide +kernel
theorem d_Nd_role_27 : decode b_Nd_role 27 = .ok (.iadd, 1) := by decide +kernel
theorem d_Nd_role_28 : decode b_Nd_role 28 = .ok (.if_icmp .ge 7, 3) := by decide +kernel
theorem d_Nd_role_31 : decode b_Nd_role 31 = .ok (.iconst 1, 1) := by decide +kernel
theorem d_Nd_role_32 : decode b_Nd_role 32 = .ok (.goto 4, 3) := by decide +kernel
theorem d_Nd_role_35 : decode b_Nd_role 35 = .ok (.iconst 2, 1) := by decide +kernel
theorem d_Nd_role_36 : decode b_Nd_role 36 = .ok (.ireturn, 1) := by decide +kernel
abbrev mt_Nd_role : MT := (R_Nd, b_Nd_role, 3, some .int)
theorem vf_Nd_role : VF y_Nd_role mt_Nd_role 6 2 := ⟨im_Nd_role, se_Nd_role, in_Nd, co_Nd_role, by decide +kernel, _, _, rfl⟩
def f_Nd_role (γ : St) (a0 : Int) (a1 : Int) : Option (Int × St) :=
  chk (inb a0 59) (if (γ 26 a0) ≤ a1 then
  (chk (inb a0 59) (chk (inb a0 59) (chk (i32 ((γ 26 a0) + (γ 27 a0))) (if ((γ 26 a0) + (γ 27 a0)) ≤ a1 then
  (some (2, γ))
  else
  (some (1, γ))))))
  else
  (some (0, γ)))
set_option maxHeartbeats 4000000 in
theorem c_Nd_role {Γ : Ctx} (γ : St) (a0 : Int) (a1 : Int) (ha0 : i32 a0) (ha1 : i32 a1) : NC Γ BS y_Nd_role mt_Nd_role 6 240 [vR Γ 3, vI a0, vI a1] γ (f_Nd_role γ a0 a1) := by
  refine nc_of (by decide) rfl (Nat.le_of_ble_eq_true rfl) ?_
  show SB Γ BS mt_Nd_role (RmN 6 240) 0 0 (KN Γ BS mt_Nd_role.2.2.2) 0 [(0, vR Γ 3), (1, vI a0), (2, vI a1)] [] γ _
  unfold f_Nd_role
  refine sb_iload_n 2 d_Nd_role_0 rfl ?_
  refine sb_aload_n 0 d_Nd_role_1 rfl ?_
  refine g_Nd_18 d_Nd_role_2 ?_
  refine sb_iload_n 1 d_Nd_role_5 rfl ?_
  refine al_S_26 d_Nd_role_6 (fun _ c2 => ?_)
  refine sb_icmp_ge 14 ha1 c2 d_Nd_role_7 (by decide) (fun _ => ?_) (fun _ => ?_)
  · refine sb_iload_n 2 d_Nd_role_14 rfl ?_
    refine sb_aload_n 0 d_Nd_role_15 rfl ?_
    refine g_Nd_18 d_Nd_role_16 ?_
    refine sb_iload_n 1 d_Nd_role_19 rfl ?_
    refine al_S_26 d_Nd_role_20 (fun _ c4 => ?_)
    refine sb_aload_n 0 d_Nd_role_21 rfl ?_
    refine g_Nd_21 d_Nd_role_22 ?_
    refine sb_iload_n 1 d_Nd_role_25 rfl ?_
    refine al_S_27 d_Nd_role_26 (fun _ c6 => ?_)
    refine sb_iadd d_Nd_role_27 ?_
    refine sb_chk (fun c7 => ?_)
    refine sb_icmp_ge 35 ha1 c7 d_Nd_role_28 (by decide) (fun _ => ?_) (fun _ => ?_)
    · refine sb_iconst d_Nd_role_35 ?_
      exact sn_i rfl (by decide) d_Nd_role_36
    · refine sb_iconst d_Nd_role_31 ?_
      refine sb_goto 36 d_Nd_role_32 (by decide) ?_
      exact sn_i rfl (by decide) d_Nd_role_36
  · refine sb_iconst d_Nd_role_10 ?_
    refine sb_goto 36 d_Nd_role_11 (by decide) ?_
    exact sn_i rfl (by decide) d_Nd_role_36
