/-! the class as functions: words and tokens -/
theorem d_Wd_isAt_0 : decode b_Wd_isAt 0 = .ok (.aload_n 0, 1) := by decide +kernel
theorem d_Wd_isAt_1 : decode b_Wd_isAt 1 = .ok (.getfield 15, 3) := by decide +kernel
theorem d_Wd_isAt_4 : decode b_Wd_isAt 4 = .ok (.iload_n 1, 1) := by decide +kernel
theorem d_Wd_isAt_5 : decode b_Wd_isAt 5 = .ok (.iaload, 1) := by decide +kernel
theorem d_Wd_isAt_6 : decode b_Wd_isAt 6 = .ok (.istore_n 3, 1) := by decide +kernel
theorem d_Wd_isAt_7 : decode b_Wd_isAt 7 = .ok (.iconst 0, 1) := by decide +kernel
theorem d_Wd_isAt_8 : decode b_Wd_isAt 8 = .ok (.istore 4, 2) := by decide +kernel
theorem d_Wd_isAt_10 : decode b_Wd_isAt 10 = .ok (.iload 4, 2) := by decide +kernel
theorem d_Wd_isAt_12 : decode b_Wd_isAt 12 = .ok (.aload_n 0, 1) := by decide +kernel
theorem d_Wd_isAt_13 : decode b_Wd_isAt 13 = .ok (.getfield 18, 3) := by decide +kernel
theorem d_Wd_isAt_16 : decode b_Wd_isAt 16 = .ok (.iload_n 1, 1) := by decide +kernel
theorem d_Wd_isAt_17 : decode b_Wd_isAt 17 = .ok (.iaload, 1) := by decide +kernel
theorem d_Wd_isAt_18 : decode b_Wd_isAt 18 = .ok (.if_icmp .ge 32, 3) := by decide +kernel
theorem d_Wd_isAt_21 : decode b_Wd_isAt 21 = .ok (.aload_n 0, 1) := by decide +kernel
theorem d_Wd_isAt_22 : decode b_Wd_isAt 22 = .ok (.getfield 33, 3) := by decide +kernel
theorem d_Wd_isAt_25 : decode b_Wd_isAt 25 = .ok (.iload_n 3, 1) := by decide +kernel
theorem d_Wd_isAt_26 : decode b_Wd_isAt 26 = .ok (.iload 4, 2) := by decide +kernel
theorem d_Wd_isAt_28 : decode b_Wd_isAt 28 = .ok (.iadd, 1) := by decide +kernel
theorem d_Wd_isAt_29 : decode b_Wd_isAt 29 = .ok (.baload, 1) := by decide +kernel
theorem d_Wd_isAt_30 : decode b_Wd_isAt 30 = .ok (.aload_n 0, 1) := by decide +kernel
theorem d_Wd_isAt_31 : decode b_Wd_isAt 31 = .ok (.getfield 33, 3) := by decide +kernel
theorem d_Wd_isAt_34 : decode b_Wd_isAt 34 = .ok (.iload_n 2, 1) := by decide +kernel
theorem d_Wd_isAt_35 : decode b_Wd_isAt 35 = .ok (.iload 4, 2) := by decide +kernel
theorem d_Wd_isAt_37 : decode b_Wd_isAt 37 = .ok (.iadd, 1) := by decide +kernel
theorem d_Wd_isAt_38 : decode b_Wd_isAt 38 = .ok (.baload, 1) := by decide +kernel
theorem d_Wd_isAt_39 : decode b_Wd_isAt 39 = .ok (.if_icmp .eq 5, 3) := by decide +kernel
theorem d_Wd_isAt_42 : decode b_Wd_isAt 42 = .ok (.iconst 0, 1) := by decide +kernel
theorem d_Wd_isAt_43 : decode b_Wd_isAt 43 = .ok (.ireturn, 1) := by decide +kernel
theorem d_Wd_isAt_44 : decode b_Wd_isAt 44 = .ok (.iinc 4 1, 3) := by decide +kernel
theorem d_Wd_isAt_47 : decode b_Wd_isAt 47 = .ok (.goto (-37), 3) := by decide +kernel
theorem d_Wd_isAt_50 : decode b_Wd_isAt 50 = .ok (.iconst 1, 1) := by decide +kernel
theorem d_Wd_isAt_51 : decode b_Wd_isAt 51 = .ok (.ireturn, 1) := by decide +kernel
abbrev mt_Wd_isAt : MT := (R_Wd, b_Wd_isAt, 5, some .boolean)
theorem vf_Wd_isAt : VF y_Wd_isAt mt_Wd_isAt 11 2 := ⟨im_Wd_isAt, se_Wd_isAt, in_Wd, co_Wd_isAt, by decide +kernel, _, _, rfl⟩
def f_Wd_isAt_L10 : Nat → St → Int → Int → Int → Int → Option (Int × St)
  | 0, _, _, _, _, _ => none
  | n + 1, γ, x1, x2, x3, x4 =>
  chk (inb x1 5923) (if (γ 19 x1) ≤ x4 then
  (some (1, γ))
  else
  (chk (i32 (x3 + x4)) (chk (inb (x3 + x4) 65638) (chk (i32 (x2 + x4)) (chk (inb (x2 + x4) 65638) (if (γ 13 (x3 + x4)) = (γ 13 (x2 + x4)) then
  (chk (i32 (x4 + 1)) ((f_Wd_isAt_L10 n) γ x1 x2 x3 (x4 + 1)))
  else
  (some (0, γ))))))))
def f_Wd_isAt (γ : St) (a0 : Int) (a1 : Int) : Option (Int × St) :=
  chk (inb a0 5923) (ap (γ 18 a0) fun x16 =>
  f_Wd_isAt_L10  FU γ a0 a1 x16 0)
set_option maxHeartbeats 4000000 in
theorem s_Wd_isAt_L10 {Γ : Ctx} : ∀ (n : Nat) (γ : St) (x1 : Int) (x2 : Int) (x3 : Int) (x4 : Int), i32 x1 → i32 x2 → i32 x3 → i32 x4 → SB Γ BS mt_Wd_isAt (RmN 6 240) 0 0 (KN Γ BS mt_Wd_isAt.2.2.2) 10 [(0, vR Γ 2), (1, vI x1), (2, vI x2), (3, vI x3), (4, vI x4)] [] γ (f_Wd_isAt_L10 n γ x1 x2 x3 x4) := by
  intro n
  induction n with
  | zero => intros; exact sb_none
  | succ n ih =>
    intro γ x1 x2 x3 x4 hx1 hx2 hx3 hx4
    unfold f_Wd_isAt_L10
    refine sb_iload 4 d_Wd_isAt_10 rfl ?_
    refine sb_aload_n 0 d_Wd_isAt_12 rfl ?_
    refine g_Wd_18 d_Wd_isAt_13 ?_
    refine sb_iload_n 1 d_Wd_isAt_16 rfl ?_
    refine al_S_19 d_Wd_isAt_17 (fun _ c6 => ?_)
    refine sb_icmp_ge 50 hx4 c6 d_Wd_isAt_18 (by decide) (fun _ => ?_) (fun _ => ?_)
    · refine sb_iconst d_Wd_isAt_50 ?_
      exact sn_z rfl (by decide) d_Wd_isAt_51
    · refine sb_aload_n 0 d_Wd_isAt_21 rfl ?_
      refine g_Wd_33 d_Wd_isAt_22 ?_
      refine sb_iload_n 3 d_Wd_isAt_25 rfl ?_
      refine sb_iload 4 d_Wd_isAt_26 rfl ?_
      refine sb_iadd d_Wd_isAt_28 ?_
      refine sb_chk (fun c8 => ?_)
      refine al_S_13 d_Wd_isAt_29 (fun _ c9 => ?_)
      refine sb_aload_n 0 d_Wd_isAt_30 rfl ?_
      refine g_Wd_33 d_Wd_isAt_31 ?_
      refine sb_iload_n 2 d_Wd_isAt_34 rfl ?_
      refine sb_iload 4 d_Wd_isAt_35 rfl ?_
      refine sb_iadd d_Wd_isAt_37 ?_
      refine sb_chk (fun c11 => ?_)
      refine al_S_13 d_Wd_isAt_38 (fun _ c12 => ?_)
      refine sb_icmp_eq 44 c9 c12 d_Wd_isAt_39 (by decide) (fun _ => ?_) (fun _ => ?_)
      · refine sb_iinc 4 [(4, vI (x4 + 1)), (0, vR Γ 2), (1, vI x1), (2, vI x2), (3, vI x3)] d_Wd_isAt_44 rfl (by decide) rfl ?_
        refine sb_chk (fun c13 => ?_)
        refine sb_goto 10 d_Wd_isAt_47 (by decide) ?_
        exact sb_lv [1, 2, 3, 4, 0] rfl (ih γ x1 x2 x3 (x4 + 1) hx1 hx2 hx3 c13)
      · refine sb_iconst d_Wd_isAt_42 ?_
        exact sn_z rfl (by decide) d_Wd_isAt_43
set_option maxHeartbeats 4000000 in
theorem c_Wd_isAt {Γ : Ctx} (γ : St) (a0 : Int) (a1 : Int) (ha0 : i32 a0) (ha1 : i32 a1) : NC Γ BS y_Wd_isAt mt_Wd_isAt 6 240 [vR Γ 2, vI a0, vI a1] γ (f_Wd_isAt γ a0 a1) := by
  refine nc_of (by decide) rfl (Nat.le_of_ble_eq_true rfl) ?_
  show SB Γ BS mt_Wd_isAt (RmN 6 240) 0 0 (KN Γ BS mt_Wd_isAt.2.2.2) 0 [(0, vR Γ 2), (1, vI a0), (2, vI a1)] [] γ _
  unfold f_Wd_isAt
  refine sb_aload_n 0 d_Wd_isAt_0 rfl ?_
  refine g_Wd_15 d_Wd_isAt_1 ?_
  refine sb_iload_n 1 d_Wd_isAt_4 rfl ?_
  refine al_S_18 d_Wd_isAt_5 (fun _ c15 => ?_)
  refine sb_istore_n [(3, vI (γ 18 a0)), (0, vR Γ 2), (1, vI a0), (2, vI a1)] d_Wd_isAt_6 (by decide) rfl ?_
  refine sb_nme (e := γ 18 a0) (fun x16 => [(3, vI x16), (0, vR Γ 2), (1, vI a0), (2, vI a1)]) c15 (fun x16 hx16 => ?_)
  refine sb_iconst d_Wd_isAt_7 ?_
  refine sb_istore [(4, vI 0), (3, vI x16), (0, vR Γ 2), (1, vI a0), (2, vI a1)] d_Wd_isAt_8 (by decide) rfl ?_
  exact sb_lv [2, 3, 4, 1, 0] rfl (s_Wd_isAt_L10  FU γ a0 a1 x16 0 ha0 ha1 hx16 (by decide))
theorem d_Wd_add_0 : decode b_Wd_add 0 = .ok (.aload_n 0, 1) := by decide +kernel
theorem d_Wd_add_1 : decode b_Wd_add 1 = .ok (.dup, 1) := by decide +kernel
theorem d_Wd_add_2 : decode b_Wd_add 2 = .ok (.getfield 43, 3) := by decide +kernel
theorem d_Wd_add_5 : decode b_Wd_add 5 = .ok (.dup_x1, 1) := by decide +kernel
theorem d_Wd_add_6 : decode b_Wd_add 6 = .ok (.iconst 1, 1) := by decide +kernel
theorem d_Wd_add_7 : decode b_Wd_add 7 = .ok (.iadd, 1) := by decide +kernel
theorem d_Wd_add_8 : decode b_Wd_add 8 = .ok (.putfield 43, 3) := by decide +kernel
theorem d_Wd_add_11 : decode b_Wd_add 11 = .ok (.istore 4, 2) := by decide +kernel
theorem d_Wd_add_13 : decode b_Wd_add 13 = .ok (.aload_n 0, 1) := by decide +kernel
theorem d_Wd_add_14 : decode b_Wd_add 14 = .ok (.getfield 15, 3) := by decide +kernel
theorem d_Wd_add_17 : decode b_Wd_add 17 = .ok (.iload 4, 2) := by decide +kernel
theorem d_Wd_add_19 : decode b_Wd_add 19 = .ok (.iload_n 1, 1) := by decide +kernel
theorem d_Wd_add_20 : decode b_Wd_add 20 = .ok (.iastore, 1) := by decide +kernel
theorem d_Wd_add_21 : decode b_Wd_add 21 = .ok (.aload_n 0, 1) := by decide +kernel
theorem d_Wd_add_22 : decode b_Wd_add 22 = .ok (.getfield 18, 3) := by decide +kernel
theorem d_Wd_add_25 : decode b_Wd_add 25 = .ok (.iload 4, 2) := by decide +kernel
theorem d_Wd_add_27 : decode b_Wd_add 27 = .ok (.iload_n 2, 1) := by decide +kernel
theorem d_Wd_add_28 : decode b_Wd_add 28 = .ok (.iastore, 1) := by decide +kernel
theorem d_Wd_add_29 : decode b_Wd_add 29 = .ok (.aload_n 0, 1) := by decide +kernel
theorem d_Wd_add_30 : decode b_Wd_add 30 = .ok (.getfield 21, 3) := by decide +kernel
theorem d_Wd_add_33 : decode b_Wd_add 33 = .ok (.iload 4, 2) := by decide +kernel
theorem d_Wd_add_35 : decode b_Wd_add 35 = .ok (.aload_n 0, 1) := by decide +kernel
theorem d_Wd_add_36 : decode b_Wd_add 36 = .ok (.getfield 11, 3) := by decide +kernel
theorem d_Wd_add_39 : decode b_Wd_add 39 = .ok (.iload_n 3, 1) := by decide +kernel
theorem d_Wd_add_40 : decode b_Wd_add 40 = .ok (.iaload, 1) := by decide +kernel
theorem d_Wd_add_41 : decode b_Wd_add 41 = .ok (.iastore, 1) := by decide +kernel
theorem d_Wd_add_42 : decode b_Wd_add 42 = .ok (.aload_n 0, 1) := by decide +kernel
theorem d_Wd_add_43 : decode b_Wd_add 43 = .ok (.getfield 11, 3) := by decide +kernel
theorem d_Wd_add_46 : decode b_Wd_add 46 = .ok (.iload_n 3, 1) := by decide +kernel
theorem d_Wd_add_47 : decode b_Wd_add 47 = .ok (.iload 4, 2) := by decide +kernel
theorem d_Wd_add_49 : decode b_Wd_add 49 = .ok (.iastore, 1) := by decide +kernel
theorem d_Wd_add_50 : decode b_Wd_add 50 = .ok (.aload_n 0, 1) := by decide +kernel
theorem d_Wd_add_51 : decode b_Wd_add 51 = .ok (.getfield 24, 3) := by decide +kernel
theorem d_Wd_add_54 : decode b_Wd_add 54 = .ok (.iload 4, 2) := by decide +kernel
theorem d_Wd_add_56 : decode b_Wd_add 56 = .ok (.iconst (-1), 1) := by decide +kernel
theorem d_Wd_add_57 : decode b_Wd_add 57 = .ok (.iastore, 1) := by decide +kernel
theorem d_Wd_add_58 : decode b_Wd_add 58 = .ok (.aload_n 0, 1) := by decide +kernel
theorem d_Wd_add_59 : decode b_Wd_add 59 = .ok (.getfield 27, 3) := by decide +kernel
theorem d_Wd_add_62 : decode b_Wd_add 62 = .ok (.iload 4, 2) := by decide +kernel
theorem d_Wd_add_64 : decode b_Wd_add 64 = .ok (.iconst 0, 1) := by decide +kernel
theorem d_Wd_add_65 : decode b_Wd_add 65 = .ok (.iastore, 1) := by decide +kernel
theorem d_Wd_add_66 : decode b_Wd_add 66 = .ok (.aload_n 0, 1) := by decide +kernel
theorem d_Wd_add_67 : decode b_Wd_add 67 = .ok (.getfield 30, 3) := by decide +kernel
theorem d_Wd_add_70 : decode b_Wd_add 70 = .ok (.iload 4, 2) := by decide +kernel
theorem d_Wd_add_72 : decode b_Wd_add 72 = .ok (.iconst 0, 1) := by decide +kernel
theorem d_Wd_add_73 : decode b_Wd_add 73 = .ok (.iastore, 1) := by decide +kernel
theorem d_Wd_add_74 : decode b_Wd_add 74 = .ok (.iload 4, 2) := by decide +kernel
theorem d_Wd_add_76 : decode b_Wd_add 76 = .ok (.ireturn, 1) := by decide +kernel
abbrev mt_Wd_add : MT := (R_Wd, b_Wd_add, 5, some .int)
theorem vf_Wd_add : VF y_Wd_add mt_Wd_add 11 3 := ⟨im_Wd_add, se_Wd_add, in_Wd, co_Wd_add, by decide +kernel, _, _, rfl⟩
def f_Wd_add (γ : St) (a0 : Int) (a1 : Int) (a2 : Int) : Option (Int × St) :=
  chk (i32 ((γ 2 8) + 1)) (ap (setA γ 2 8 ((γ 2 8) + 1)) fun γ3 =>
  ap (γ 2 8) fun x4 =>
  chk (inb x4 5923) (ap (setA γ3 18 x4 a0) fun γ6 =>
  chk (inb x4 5923) (ap (setA γ6 19 x4 a1) fun γ8 =>
  chk (inb a2 512) (chk (inb x4 5923) (ap (setA γ8 20 x4 (γ8 17 a2)) fun γ12 =>
  chk (inb a2 512) (ap (setA γ12 17 a2 x4) fun γ14 =>
  chk (inb x4 5923) (ap (setA γ14 21 x4 (-1)) fun γ16 =>
  chk (inb x4 5923) (ap (setA γ16 22 x4 0) fun γ18 =>
  chk (inb x4 5923) (ap (setA γ18 23 x4 0) fun γ20 =>
  some (x4, γ20))))))))))
set_option maxHeartbeats 4000000 in
theorem c_Wd_add {Γ : Ctx} (γ : St) (a0 : Int) (a1 : Int) (a2 : Int) (ha0 : i32 a0) (ha1 : i32 a1) (ha2 : i32 a2) : NC Γ BS y_Wd_add mt_Wd_add 6 240 [vR Γ 2, vI a0, vI a1, vI a2] γ (f_Wd_add γ a0 a1 a2) := by
  refine nc_of (by decide) rfl (Nat.le_of_ble_eq_true rfl) ?_
  show SB Γ BS mt_Wd_add (RmN 6 240) 0 0 (KN Γ BS mt_Wd_add.2.2.2) 0 [(0, vR Γ 2), (1, vI a0), (2, vI a1), (3, vI a2)] [] γ _
  unfold f_Wd_add
  refine sb_aload_n 0 d_Wd_add_0 rfl ?_
  refine sb_dup d_Wd_add_1 rfl ?_
  refine g_Wd_43 d_Wd_add_2 (fun c1 => ?_)
  refine sb_dup_x1 d_Wd_add_5 rfl rfl ?_
  refine sb_iconst d_Wd_add_6 ?_
  refine sb_iadd d_Wd_add_7 ?_
  refine sb_chk (fun c2 => ?_)
  refine p_Wd_43 c2 d_Wd_add_8 ?_
  refine sb_aps (fun γ3 => ?_)
  refine sb_istore [(4, vI (γ 2 8)), (0, vR Γ 2), (1, vI a0), (2, vI a1), (3, vI a2)] d_Wd_add_11 (by decide) rfl ?_
  refine sb_nme (e := γ 2 8) (fun x4 => [(4, vI x4), (0, vR Γ 2), (1, vI a0), (2, vI a1), (3, vI a2)]) c1 (fun x4 hx4 => ?_)
  refine sb_aload_n 1 d_Wd_add_13 rfl ?_
  refine g_Wd_15 d_Wd_add_14 ?_
  refine sb_iload 0 d_Wd_add_17 rfl ?_
  refine sb_iload_n 2 d_Wd_add_19 rfl ?_
  refine as_S_18 ha0 d_Wd_add_20 (fun _ => ?_)
  refine sb_aps (fun γ6 => ?_)
  refine sb_aload_n 1 d_Wd_add_21 rfl ?_
  refine g_Wd_18 d_Wd_add_22 ?_
  refine sb_iload 0 d_Wd_add_25 rfl ?_
  refine sb_iload_n 3 d_Wd_add_27 rfl ?_
  refine as_S_19 ha1 d_Wd_add_28 (fun _ => ?_)
  refine sb_aps (fun γ8 => ?_)
  refine sb_aload_n 1 d_Wd_add_29 rfl ?_
  refine g_Wd_21 d_Wd_add_30 ?_
  refine sb_iload 0 d_Wd_add_33 rfl ?_
  refine sb_aload_n 1 d_Wd_add_35 rfl ?_
  refine g_Wd_11 d_Wd_add_36 ?_
  refine sb_iload_n 4 d_Wd_add_39 rfl ?_
  refine al_S_17 d_Wd_add_40 (fun _ c11 => ?_)
  refine as_S_20 c11 d_Wd_add_41 (fun _ => ?_)
  refine sb_aps (fun γ12 => ?_)
  refine sb_aload_n 1 d_Wd_add_42 rfl ?_
  refine g_Wd_11 d_Wd_add_43 ?_
  refine sb_iload_n 4 d_Wd_add_46 rfl ?_
  refine sb_iload 0 d_Wd_add_47 rfl ?_
  refine as_S_17 hx4 d_Wd_add_49 (fun _ => ?_)
  refine sb_aps (fun γ14 => ?_)
  refine sb_aload_n 1 d_Wd_add_50 rfl ?_
  refine g_Wd_24 d_Wd_add_51 ?_
  refine sb_iload 0 d_Wd_add_54 rfl ?_
  refine sb_iconst d_Wd_add_56 ?_
  refine as_S_21 (by decide) d_Wd_add_57 (fun _ => ?_)
  refine sb_aps (fun γ16 => ?_)
  refine sb_aload_n 1 d_Wd_add_58 rfl ?_
  refine g_Wd_27 d_Wd_add_59 ?_
  refine sb_iload 0 d_Wd_add_62 rfl ?_
  refine sb_iconst d_Wd_add_64 ?_
  refine as_S_22 (by decide) d_Wd_add_65 (fun _ => ?_)
  refine sb_aps (fun γ18 => ?_)
  refine sb_aload_n 1 d_Wd_add_66 rfl ?_
  refine g_Wd_30 d_Wd_add_67 ?_
  refine sb_iload 0 d_Wd_add_70 rfl ?_
  refine sb_iconst d_Wd_add_72 ?_
  refine as_S_23 (by decide) d_Wd_add_73 (fun _ => ?_)
  refine sb_aps (fun γ20 => ?_)
  refine sb_iload 0 d_Wd_add_74 rfl ?_
  exact sn_i rfl hx4 d_Wd_add_76
theorem d_Wd_find_0 : decode b_Wd_find 0 = .ok (.iconst 0, 1) := by decide +kernel
theorem d_Wd_find_1 : decode b_Wd_find 1 = .ok (.istore_n 3, 1) := by decide +kernel
theorem d_Wd_find_2 : decode b_Wd_find 2 = .ok (.iconst 0, 1) := by decide +kernel
theorem d_Wd_find_3 : decode b_Wd_find 3 = .ok (.istore 4, 2) := by decide +kernel
theorem d_Wd_find_5 : decode b_Wd_find 5 = .ok (.iload 4, 2) := by decide +kernel
theorem d_Wd_find_7 : decode b_Wd_find 7 = .ok (.iload_n 2, 1) := by decide +kernel
theorem d_Wd_find_8 : decode b_Wd_find 8 = .ok (.if_icmp .ge 24, 3) := by decide +kernel
theorem d_Wd_find_11 : decode b_Wd_find 11 = .ok (.iload_n 3, 1) := by decide +kernel
theorem d_Wd_find_12 : decode b_Wd_find 12 = .ok (.bipush 31, 2) := by decide +kernel
theorem d_Wd_find_14 : decode b_Wd_find 14 = .ok (.imul, 1) := by decide +kernel
theorem d_Wd_find_15 : decode b_Wd_find 15 = .ok (.aload_n 0, 1) := by decide +kernel
theorem d_Wd_find_16 : decode b_Wd_find 16 = .ok (.getfield 33, 3) := by decide +kernel
theorem d_Wd_find_19 : decode b_Wd_find 19 = .ok (.iload_n 1, 1) := by decide +kernel
theorem d_Wd_find_20 : decode b_Wd_find 20 = .ok (.iload 4, 2) := by decide +kernel
theorem d_Wd_find_22 : decode b_Wd_find 22 = .ok (.iadd, 1) := by decide +kernel
theorem d_Wd_find_23 : decode b_Wd_find 23 = .ok (.baload, 1) := by decide +kernel
theorem d_Wd_find_24 : decode b_Wd_find 24 = .ok (.iadd, 1) := by decide +kernel
theorem d_Wd_find_25 : decode b_Wd_find 25 = .ok (.istore_n 3, 1) := by decide +kernel
theorem d_Wd_find_26 : decode b_Wd_find 26 = .ok (.iinc 4 1, 3) := by decide +kernel
theorem d_Wd_find_29 : decode b_Wd_find 29 = .ok (.goto (-24), 3) := by decide +kernel
theorem d_Wd_find_32 : decode b_Wd_find 32 = .ok (.iload_n 3, 1) := by decide +kernel
theorem d_Wd_find_33 : decode b_Wd_find 33 = .ok (.sipush 511, 3) := by decide +kernel
theorem d_Wd_find_36 : decode b_Wd_find 36 = .ok (.iand, 1) := by decide +kernel
theorem d_Wd_find_37 : decode b_Wd_find 37 = .ok (.istore 4, 2) := by decide +kernel
theorem d_Wd_find_39 : decode b_Wd_find 39 = .ok (.aload_n 0, 1) := by decide +kernel
theorem d_Wd_find_40 : decode b_Wd_find 40 = .ok (.getfield 11, 3) := by decide +kernel
theorem d_Wd_find_43 : decode b_Wd_find 43 = .ok (.iload 4, 2) := by decide +kernel
theorem d_Wd_find_45 : decode b_Wd_find 45 = .ok (.iaload, 1) := by decide +kernel
theorem d_Wd_find_46 : decode b_Wd_find 46 = .ok (.istore 5, 2) := by decide +kernel
theorem d_Wd_find_48 : decode b_Wd_find 48 = .ok (.iconst 0, 1) := by decide +kernel
theorem d_Wd_find_49 : decode b_Wd_find 49 = .ok (.istore 6, 2) := by decide +kernel
theorem d_Wd_find_51 : decode b_Wd_find 51 = .ok (.iload 6, 2) := by decide +kernel
theorem d_Wd_find_53 : decode b_Wd_find 53 = .ok (.aload_n 0, 1) := by decide +kernel
theorem d_Wd_find_54 : decode b_Wd_find 54 = .ok (.getfield 43, 3) := by decide +kernel
theorem d_Wd_find_57 : decode b_Wd_find 57 = .ok (.if_icmp .ge 47, 3) := by decide +kernel
theorem d_Wd_find_60 : decode b_Wd_find 60 = .ok (.iload 5, 2) := by decide +kernel
theorem d_Wd_find_62 : decode b_Wd_find 62 = .ok (.ifCond .lt 42, 3) := by decide +kernel
theorem d_Wd_find_65 : decode b_Wd_find 65 = .ok (.aload_n 0, 1) := by decide +kernel
theorem d_Wd_find_66 : decode b_Wd_find 66 = .ok (.getfield 18, 3) := by decide +kernel
theorem d_Wd_find_69 : decode b_Wd_find 69 = .ok (.iload 5, 2) := by decide +kernel
theorem d_Wd_find_71 : decode b_Wd_find 71 = .ok (.iaload, 1) := by decide +kernel
theorem d_Wd_find_72 : decode b_Wd_find 72 = .ok (.iload_n 2, 1) := by decide +kernel
theorem d_Wd_find_73 : decode b_Wd_find 73 = .ok (.if_icmp .ne 16, 3) := by decide +kernel
theorem d_Wd_find_76 : decode b_Wd_find 76 = .ok (.aload_n 0, 1) := by decide +kernel
theorem d_Wd_find_77 : decode b_Wd_find 77 = .ok (.iload 5, 2) := by decide +kernel
theorem d_Wd_find_79 : decode b_Wd_find 79 = .ok (.iload_n 1, 1) := by decide +kernel
theorem d_Wd_find_80 : decode b_Wd_find 80 = .ok (.invokevirtual 52, 3) := by decide +kernel
theorem d_Wd_find_83 : decode b_Wd_find 83 = .ok (.ifCond .eq 6, 3) := by decide +kernel
theorem d_Wd_find_86 : decode b_Wd_find 86 = .ok (.iload 5, 2) := by decide +kernel
theorem d_Wd_find_88 : decode b_Wd_find 88 = .ok (.ireturn, 1) := by decide +kernel
theorem d_Wd_find_89 : decode b_Wd_find 89 = .ok (.aload_n 0, 1) := by decide +kernel
theorem d_Wd_find_90 : decode b_Wd_find 90 = .ok (.getfield 21, 3) := by decide +kernel
theorem d_Wd_find_93 : decode b_Wd_find 93 = .ok (.iload 5, 2) := by decide +kernel
theorem d_Wd_find_95 : decode b_Wd_find 95 = .ok (.iaload, 1) := by decide +kernel
theorem d_Wd_find_96 : decode b_Wd_find 96 = .ok (.istore 5, 2) := by decide +kernel
theorem d_Wd_find_98 : decode b_Wd_find 98 = .ok (.iinc 6 1, 3) := by decide +kernel
theorem d_Wd_find_101 : decode b_Wd_find 101 = .ok (.goto (-50), 3) := by decide +kernel
theorem d_Wd_find_104 : decode b_Wd_find 104 = .ok (.aload_n 0, 1) := by decide +kernel
theorem d_Wd_find_105 : decode b_Wd_find 105 = .ok (.getfield 43, 3) := by decide +kernel
theorem d_Wd_find_108 : decode b_Wd_find 108 = .ok (.sipush 5923, 3) := by decide +kernel
theorem d_Wd_find_111 : decode b_Wd_find 111 = .ok (.if_icmp .ge 14, 3) := by decide +kernel
theorem d_Wd_find_114 : decode b_Wd_find 114 = .ok (.aload_n 0, 1) := by decide +kernel
theorem d_Wd_find_115 : decode b_Wd_find 115 = .ok (.iload_n 1, 1) := by decide +kernel
theorem d_Wd_find_116 : decode b_Wd_find 116 = .ok (.iload_n 2, 1) := by decide +kernel
theorem d_Wd_find_117 : decode b_Wd_find 117 = .ok (.iload 4, 2) := by decide +kernel
theorem d_Wd_find_119 : decode b_Wd_find 119 = .ok (.invokevirtual 56, 3) := by decide +kernel
theorem d_Wd_find_122 : decode b_Wd_find 122 = .ok (.goto 4, 3) := by decide +kernel
theorem d_Wd_find_125 : decode b_Wd_find 125 = .ok (.iconst (-1), 1) := by decide +kernel
theorem d_Wd_find_126 : decode b_Wd_find 126 = .ok (.ireturn, 1) := by decide +kernel
abbrev mt_Wd_find : MT := (R_Wd, b_Wd_find, 7, some .int)
theorem vf_Wd_find : VF y_Wd_find mt_Wd_find 11 2 := ⟨im_Wd_find, se_Wd_find, in_Wd, co_Wd_find, by decide +kernel, _, _, rfl⟩
def f_Wd_find_b104 (γ : St) (x1 : Int) (x2 : Int) (x3 : Int) : Option (Int × St) :=
  if 5923 ≤ (γ 2 8) then
  (some ((-1), γ))
  else
  (bndN (f_Wd_add γ x1 x2 x3) fun r5 γ6 =>
  some (r5, γ6))
def f_Wd_find_b89 (k51 : St → Int → Int → Int → Int → Int → Option (Int × St)) (e104 : St → Int → Int → Int → Option (Int × St)) (γ : St) (x7 : Int) (x8 : Int) (x9 : Int) (x10 : Int) (x11 : Int) : Option (Int × St) :=
  chk (inb x10 5923) (ap (γ 20 x10) fun x14 =>
  chk (i32 (x11 + 1)) (k51 γ x7 x8 x9 x14 (x11 + 1)))
def f_Wd_find_L51 (e104 : St → Int → Int → Int → Option (Int × St)) : Nat → St → Int → Int → Int → Int → Int → Option (Int × St)
  | 0, _, _, _, _, _, _ => none
  | n + 1, γ, x24, x25, x26, x27, x28 =>
  if (γ 2 8) ≤ x28 then
  (e104 γ x24 x25 x26)
  else
  (if x27 < 0 then
  (e104 γ x24 x25 x26)
  else
  (chk (inb x27 5923) (if (γ 19 x27) ≠ x25 then
  (f_Wd_find_b89 (f_Wd_find_L51 e104 n) e104 γ x24 x25 x26 x27 x28)
  else
  (bndN (f_Wd_isAt γ x27 x24) fun r32 γ33 =>
  if r32 = 0 then
  (f_Wd_find_b89 (f_Wd_find_L51 e104 n) e104 γ33 x24 x25 x26 x27 x28)
  else
  (some (x27, γ33))))))
def f_Wd_find_b32 (γ : St) (x37 : Int) (x38 : Int) (x39 : Int) : Option (Int × St) :=
  ap (iand x39 511) fun x40 =>
  chk (inb x40 512) (ap (γ 17 x40) fun x43 =>
  f_Wd_find_L51 (f_Wd_find_b104) FU γ x37 x38 x40 x43 0)
def f_Wd_find_L5 (e32 : St → Int → Int → Int → Option (Int × St)) : Nat → St → Int → Int → Int → Int → Option (Int × St)
  | 0, _, _, _, _, _ => none
  | n + 1, γ, x44, x45, x46, x47 =>
  if x45 ≤ x47 then
  (e32 γ x44 x45 x46)
  else
  (chk (i32 (x44 + x47)) (chk (inb (x44 + x47) 65638) (ap (wr ((wr (x46 * 31)) + (γ 13 (x44 + x47)))) fun x51 =>
  chk (i32 (x47 + 1)) ((f_Wd_find_L5 e32 n) γ x44 x45 x51 (x47 + 1)))))
def f_Wd_find (γ : St) (a0 : Int) (a1 : Int) : Option (Int × St) :=
  f_Wd_find_L5 (f_Wd_find_b32) FU γ a0 a1 0 0
set_option maxHeartbeats 4000000 in
theorem s_Wd_find_b104 {Γ : Ctx} : ∀ (γ : St) (x1 : Int) (x2 : Int) (x3 : Int), i32 x1 → i32 x2 → i32 x3 → SB Γ BS mt_Wd_find (RmN 7 264) 0 0 (KN Γ BS mt_Wd_find.2.2.2) 104 [(0, vR Γ 2), (1, vI x1), (2, vI x2), (4, vI x3)] [] γ (f_Wd_find_b104 γ x1 x2 x3) := by
  intro γ x1 x2 x3 hx1 hx2 hx3
  unfold f_Wd_find_b104
  refine sb_aload_n 0 d_Wd_find_104 rfl ?_
  refine g_Wd_43 d_Wd_find_105 (fun c4 => ?_)
  refine sb_sipush d_Wd_find_108 (by decide) ?_
  refine sb_icmp_ge 125 c4 (by decide) d_Wd_find_111 (by decide) (fun _ => ?_) (fun _ => ?_)
  · refine sb_iconst d_Wd_find_125 ?_
    exact sn_i rfl (by decide) d_Wd_find_126
  · refine sb_aload_n 0 d_Wd_find_114 rfl ?_
    refine sb_iload_n 1 d_Wd_find_115 rfl ?_
    refine sb_iload_n 2 d_Wd_find_116 rfl ?_
    refine sb_iload 3 d_Wd_find_117 rfl ?_
    refine sb_cVi vf_Wd_add (c_Wd_add γ x1 x2 x3 hx1 hx2 hx3) rfl ml_Wd_56 (As := [vI x1, vI x2, vI x3]) rfl rfl (Nat.le_of_ble_eq_true rfl) ⟨by decide, by decide⟩ d_Wd_find_119 (fun r5 γ6 hr5 => ?_)
    refine sb_goto 126 d_Wd_find_122 (by decide) ?_
    exact sn_i rfl hr5 d_Wd_find_126
set_option maxHeartbeats 4000000 in
theorem s_Wd_find_b89 {Γ : Ctx} {k51 : St → Int → Int → Int → Int → Int → Option (Int × St)} {e104 : St → Int → Int → Int → Option (Int × St)} (hk51 : ∀ (γ : St) (x16 : Int) (x17 : Int) (x18 : Int) (x19 : Int) (x20 : Int), i32 x16 → i32 x17 → i32 x18 → i32 x19 → i32 x20 → SB Γ BS mt_Wd_find (RmN 7 264) 0 0 (KN Γ BS mt_Wd_find.2.2.2) 51 [(0, vR Γ 2), (1, vI x16), (2, vI x17), (4, vI x18), (5, vI x19), (6, vI x20)] [] γ (k51 γ x16 x17 x18 x19 x20)) (he104 : ∀ (γ : St) (x21 : Int) (x22 : Int) (x23 : Int), i32 x21 → i32 x22 → i32 x23 → SB Γ BS mt_Wd_find (RmN 7 264) 0 0 (KN Γ BS mt_Wd_find.2.2.2) 104 [(0, vR Γ 2), (1, vI x21), (2, vI x22), (4, vI x23)] [] γ (e104 γ x21 x22 x23)) : ∀ (γ : St) (x7 : Int) (x8 : Int) (x9 : Int) (x10 : Int) (x11 : Int), i32 x7 → i32 x8 → i32 x9 → i32 x10 → i32 x11 → SB Γ BS mt_Wd_find (RmN 7 264) 0 0 (KN Γ BS mt_Wd_find.2.2.2) 89 [(0, vR Γ 2), (1, vI x7), (2, vI x8), (4, vI x9), (5, vI x10), (6, vI x11)] [] γ (f_Wd_find_b89 k51 e104 γ x7 x8 x9 x10 x11) := by
  intro γ x7 x8 x9 x10 x11 hx7 hx8 hx9 hx10 hx11
  unfold f_Wd_find_b89
  refine sb_aload_n 0 d_Wd_find_89 rfl ?_
  refine g_Wd_21 d_Wd_find_90 ?_
  refine sb_iload 4 d_Wd_find_93 rfl ?_
  refine al_S_20 d_Wd_find_95 (fun _ c13 => ?_)
  refine sb_istore [(5, vI (γ 20 x10)), (0, vR Γ 2), (1, vI x7), (2, vI x8), (4, vI x9), (6, vI x11)] d_Wd_find_96 (by decide) rfl ?_
  refine sb_nme (e := γ 20 x10) (fun x14 => [(5, vI x14), (0, vR Γ 2), (1, vI x7), (2, vI x8), (4, vI x9), (6, vI x11)]) c13 (fun x14 hx14 => ?_)
  refine sb_iinc 5 [(6, vI (x11 + 1)), (5, vI x14), (0, vR Γ 2), (1, vI x7), (2, vI x8), (4, vI x9)] d_Wd_find_98 rfl (by decide) rfl ?_
  refine sb_chk (fun c15 => ?_)
  refine sb_goto 51 d_Wd_find_101 (by decide) ?_
  exact sb_lv [2, 3, 4, 5, 1, 0] rfl (hk51 γ x7 x8 x9 x14 (x11 + 1) hx7 hx8 hx9 hx14 c15)
set_option maxHeartbeats 4000000 in
theorem s_Wd_find_L51 {Γ : Ctx} {e104 : St → Int → Int → Int → Option (Int × St)} (he104 : ∀ (γ : St) (x34 : Int) (x35 : Int) (x36 : Int), i32 x34 → i32 x35 → i32 x36 → SB Γ BS mt_Wd_find (RmN 7 264) 0 0 (KN Γ BS mt_Wd_find.2.2.2) 104 [(0, vR Γ 2), (1, vI x34), (2, vI x35), (4, vI x36)] [] γ (e104 γ x34 x35 x36)) : ∀ (n : Nat) (γ : St) (x24 : Int) (x25 : Int) (x26 : Int) (x27 : Int) (x28 : Int), i32 x24 → i32 x25 → i32 x26 → i32 x27 → i32 x28 → SB Γ BS mt_Wd_find (RmN 7 264) 0 0 (KN Γ BS mt_Wd_find.2.2.2) 51 [(0, vR Γ 2), (1, vI x24), (2, vI x25), (4, vI x26), (5, vI x27), (6, vI x28)] [] γ (f_Wd_find_L51 e104 n γ x24 x25 x26 x27 x28) := by
  intro n
  induction n with
  | zero => intros; exact sb_none
  | succ n ih =>
    intro γ x24 x25 x26 x27 x28 hx24 hx25 hx26 hx27 hx28
    unfold f_Wd_find_L51
    refine sb_iload 5 d_Wd_find_51 rfl ?_
    refine sb_aload_n 0 d_Wd_find_53 rfl ?_
    refine g_Wd_43 d_Wd_find_54 (fun c29 => ?_)
    refine sb_icmp_ge 104 hx28 c29 d_Wd_find_57 (by decide) (fun _ => ?_) (fun _ => ?_)
    · exact sb_lv [0, 1, 2, 3] rfl (he104 γ x24 x25 x26 hx24 hx25 hx26)
    · refine sb_iload 4 d_Wd_find_60 rfl ?_
      refine sb_if_lt 104 hx27 d_Wd_find_62 (by decide) (fun _ => ?_) (fun _ => ?_)
      · exact sb_lv [0, 1, 2, 3] rfl (he104 γ x24 x25 x26 hx24 hx25 hx26)
      · refine sb_aload_n 0 d_Wd_find_65 rfl ?_
        refine g_Wd_18 d_Wd_find_66 ?_
        refine sb_iload 4 d_Wd_find_69 rfl ?_
        refine al_S_19 d_Wd_find_71 (fun _ c31 => ?_)
        refine sb_iload_n 2 d_Wd_find_72 rfl ?_
        refine sb_icmp_ne 89 c31 hx25 d_Wd_find_73 (by decide) (fun _ => ?_) (fun _ => ?_)
        · exact sb_lv [0, 1, 2, 3, 4, 5] rfl (s_Wd_find_b89 ih he104 γ x24 x25 x26 x27 x28 hx24 hx25 hx26 hx27 hx28)
        · refine sb_aload_n 0 d_Wd_find_76 rfl ?_
          refine sb_iload 4 d_Wd_find_77 rfl ?_
          refine sb_iload_n 1 d_Wd_find_79 rfl ?_
          refine sb_cVz vf_Wd_isAt (c_Wd_isAt γ x27 x24 hx27 hx24) rfl ml_Wd_52 (As := [vI x27, vI x24]) rfl rfl (Nat.le_of_ble_eq_true rfl) ⟨by decide, by decide⟩ d_Wd_find_80 (fun r32 γ33 hr32 => ?_)
          refine sb_if_eq 89 (z2i hr32) d_Wd_find_83 (by decide) (fun _ => ?_) (fun _ => ?_)
          · exact sb_lv [0, 1, 2, 3, 4, 5] rfl (s_Wd_find_b89 ih he104 γ33 x24 x25 x26 x27 x28 hx24 hx25 hx26 hx27 hx28)
          · refine sb_iload 4 d_Wd_find_86 rfl ?_
            exact sn_i rfl hx27 d_Wd_find_88
set_option maxHeartbeats 4000000 in
theorem s_Wd_find_b32 {Γ : Ctx} : ∀ (γ : St) (x37 : Int) (x38 : Int) (x39 : Int), i32 x37 → i32 x38 → i32 x39 → SB Γ BS mt_Wd_find (RmN 7 264) 0 0 (KN Γ BS mt_Wd_find.2.2.2) 32 [(0, vR Γ 2), (1, vI x37), (2, vI x38), (3, vI x39)] [] γ (f_Wd_find_b32 γ x37 x38 x39) := by
  intro γ x37 x38 x39 hx37 hx38 hx39
  unfold f_Wd_find_b32
  refine sb_iload_n 3 d_Wd_find_32 rfl ?_
  refine sb_sipush d_Wd_find_33 (by decide) ?_
  refine sb_iand d_Wd_find_36 ?_
  refine sb_istore [(4, vI (iand x39 511)), (0, vR Γ 2), (1, vI x37), (2, vI x38), (3, vI x39)] d_Wd_find_37 (by decide) rfl ?_
  refine sb_nme (e := iand x39 511) (fun x40 => [(4, vI x40), (0, vR Γ 2), (1, vI x37), (2, vI x38), (3, vI x39)]) (iand_b _ _) (fun x40 hx40 => ?_)
  refine sb_aload_n 1 d_Wd_find_39 rfl ?_
  refine g_Wd_11 d_Wd_find_40 ?_
  refine sb_iload 0 d_Wd_find_43 rfl ?_
  refine al_S_17 d_Wd_find_45 (fun _ c42 => ?_)
  refine sb_istore [(5, vI (γ 17 x40)), (4, vI x40), (0, vR Γ 2), (1, vI x37), (2, vI x38), (3, vI x39)] d_Wd_find_46 (by decide) rfl ?_
  refine sb_nme (e := γ 17 x40) (fun x43 => [(5, vI x43), (4, vI x40), (0, vR Γ 2), (1, vI x37), (2, vI x38), (3, vI x39)]) c42 (fun x43 hx43 => ?_)
  refine sb_iconst d_Wd_find_48 ?_
  refine sb_istore [(6, vI 0), (5, vI x43), (4, vI x40), (0, vR Γ 2), (1, vI x37), (2, vI x38), (3, vI x39)] d_Wd_find_49 (by decide) rfl ?_
  exact sb_lv [3, 4, 5, 2, 1, 0] rfl (s_Wd_find_L51 (s_Wd_find_b104) FU γ x37 x38 x40 x43 0 hx37 hx38 hx40 hx43 (by decide))
set_option maxHeartbeats 4000000 in
theorem s_Wd_find_L5 {Γ : Ctx} {e32 : St → Int → Int → Int → Option (Int × St)} (he32 : ∀ (γ : St) (x53 : Int) (x54 : Int) (x55 : Int), i32 x53 → i32 x54 → i32 x55 → SB Γ BS mt_Wd_find (RmN 7 264) 0 0 (KN Γ BS mt_Wd_find.2.2.2) 32 [(0, vR Γ 2), (1, vI x53), (2, vI x54), (3, vI x55)] [] γ (e32 γ x53 x54 x55)) : ∀ (n : Nat) (γ : St) (x44 : Int) (x45 : Int) (x46 : Int) (x47 : Int), i32 x44 → i32 x45 → i32 x46 → i32 x47 → SB Γ BS mt_Wd_find (RmN 7 264) 0 0 (KN Γ BS mt_Wd_find.2.2.2) 5 [(0, vR Γ 2), (1, vI x44), (2, vI x45), (3, vI x46), (4, vI x47)] [] γ (f_Wd_find_L5 e32 n γ x44 x45 x46 x47) := by
  intro n
  induction n with
  | zero => intros; exact sb_none
  | succ n ih =>
    intro γ x44 x45 x46 x47 hx44 hx45 hx46 hx47
    unfold f_Wd_find_L5
    refine sb_iload 4 d_Wd_find_5 rfl ?_
    refine sb_iload_n 2 d_Wd_find_7 rfl ?_
    refine sb_icmp_ge 32 hx47 hx45 d_Wd_find_8 (by decide) (fun _ => ?_) (fun _ => ?_)
    · exact sb_lv [0, 1, 2, 3] rfl (he32 γ x44 x45 x46 hx44 hx45 hx46)
    · refine sb_iload_n 3 d_Wd_find_11 rfl ?_
      refine sb_bipush d_Wd_find_12 (by decide) ?_
      refine sb_imul d_Wd_find_14 ?_
      refine sb_wr ?_
      refine sb_aload_n 0 d_Wd_find_15 rfl ?_
      refine g_Wd_33 d_Wd_find_16 ?_
      refine sb_iload_n 1 d_Wd_find_19 rfl ?_
      refine sb_iload 4 d_Wd_find_20 rfl ?_
      refine sb_iadd d_Wd_find_22 ?_
      refine sb_chk (fun c49 => ?_)
      refine al_S_13 d_Wd_find_23 (fun _ c50 => ?_)
      refine sb_iadd d_Wd_find_24 ?_
      refine sb_wr ?_
      refine sb_istore_n [(3, vI (wr ((wr (x46 * 31)) + (γ 13 (x44 + x47))))), (0, vR Γ 2), (1, vI x44), (2, vI x45), (4, vI x47)] d_Wd_find_25 (by decide) rfl ?_
      refine sb_nme (e := wr ((wr (x46 * 31)) + (γ 13 (x44 + x47)))) (fun x51 => [(3, vI x51), (0, vR Γ 2), (1, vI x44), (2, vI x45), (4, vI x47)]) (wr_b _) (fun x51 hx51 => ?_)
      refine sb_iinc 4 [(4, vI (x47 + 1)), (3, vI x51), (0, vR Γ 2), (1, vI x44), (2, vI x45)] d_Wd_find_26 rfl (by decide) rfl ?_
      refine sb_chk (fun c52 => ?_)
      refine sb_goto 5 d_Wd_find_29 (by decide) ?_
      exact sb_lv [2, 3, 4, 1, 0] rfl (ih γ x44 x45 x51 (x47 + 1) hx44 hx45 hx51 c52)
set_option maxHeartbeats 4000000 in
theorem c_Wd_find {Γ : Ctx} (γ : St) (a0 : Int) (a1 : Int) (ha0 : i32 a0) (ha1 : i32 a1) : NC Γ BS y_Wd_find mt_Wd_find 7 264 [vR Γ 2, vI a0, vI a1] γ (f_Wd_find γ a0 a1) := by
  refine nc_of (by decide) rfl (Nat.le_of_ble_eq_true rfl) ?_
  show SB Γ BS mt_Wd_find (RmN 7 264) 0 0 (KN Γ BS mt_Wd_find.2.2.2) 0 [(0, vR Γ 2), (1, vI a0), (2, vI a1)] [] γ _
  unfold f_Wd_find
  refine sb_iconst d_Wd_find_0 ?_
  refine sb_istore_n [(3, vI 0), (0, vR Γ 2), (1, vI a0), (2, vI a1)] d_Wd_find_1 (by decide) rfl ?_
  refine sb_iconst d_Wd_find_2 ?_
  refine sb_istore [(4, vI 0), (3, vI 0), (0, vR Γ 2), (1, vI a0), (2, vI a1)] d_Wd_find_3 (by decide) rfl ?_
  exact sb_lv [2, 3, 4, 1, 0] rfl (s_Wd_find_L5 (s_Wd_find_b32) FU γ a0 a1 0 0 ha0 ha1 (by decide) (by decide))
theorem d_Wd_begin_0 : decode b_Wd_begin 0 = .ok (.aload_n 0, 1) := by decide +kernel
theorem d_Wd_begin_1 : decode b_Wd_begin 1 = .ok (.getfield 11, 3) := by decide +kernel
theorem d_Wd_begin_4 : decode b_Wd_begin 4 = .ok (.iconst (-1), 1) := by decide +kernel
theorem d_Wd_begin_5 : decode b_Wd_begin 5 = .ok (.invokestatic 37, 3) := by decide +kernel
theorem d_Wd_begin_8 : decode b_Wd_begin 8 = .ok (.aload_n 0, 1) := by decide +kernel
theorem d_Wd_begin_9 : decode b_Wd_begin 9 = .ok (.iconst 0, 1) := by decide +kernel
theorem d_Wd_begin_10 : decode b_Wd_begin 10 = .ok (.putfield 43, 3) := by decide +kernel
theorem d_Wd_begin_13 : decode b_Wd_begin 13 = .ok (.ldc 47, 2) := by decide +kernel
theorem d_Wd_begin_15 : decode b_Wd_begin 15 = .ok (.istore_n 1, 1) := by decide +kernel
theorem d_Wd_begin_16 : decode b_Wd_begin 16 = .ok (.ldc 47, 2) := by decide +kernel
theorem d_Wd_begin_18 : decode b_Wd_begin 18 = .ok (.istore_n 2, 1) := by decide +kernel
theorem d_Wd_begin_19 : decode b_Wd_begin 19 = .ok (.iload_n 2, 1) := by decide +kernel
theorem d_Wd_begin_20 : decode b_Wd_begin 20 = .ok (.aload_n 0, 1) := by decide +kernel
theorem d_Wd_begin_21 : decode b_Wd_begin 21 = .ok (.getfield 33, 3) := by decide +kernel
theorem d_Wd_begin_24 : decode b_Wd_begin 24 = .ok (.arraylength, 1) := by decide +kernel
theorem d_Wd_begin_25 : decode b_Wd_begin 25 = .ok (.if_icmp .ge 33, 3) := by decide +kernel
theorem d_Wd_begin_28 : decode b_Wd_begin 28 = .ok (.aload_n 0, 1) := by decide +kernel
theorem d_Wd_begin_29 : decode b_Wd_begin 29 = .ok (.getfield 33, 3) := by decide +kernel
theorem d_Wd_begin_32 : decode b_Wd_begin 32 = .ok (.iload_n 2, 1) := by decide +kernel
theorem d_Wd_begin_33 : decode b_Wd_begin 33 = .ok (.baload, 1) := by decide +kernel
theorem d_Wd_begin_34 : decode b_Wd_begin 34 = .ok (.bipush 32, 2) := by decide +kernel
theorem d_Wd_begin_36 : decode b_Wd_begin 36 = .ok (.if_icmp .ne 16, 3) := by decide +kernel
theorem d_Wd_begin_39 : decode b_Wd_begin 39 = .ok (.aload_n 0, 1) := by decide +kernel
theorem d_Wd_begin_40 : decode b_Wd_begin 40 = .ok (.iload_n 1, 1) := by decide +kernel
theorem d_Wd_begin_41 : decode b_Wd_begin 41 = .ok (.iload_n 2, 1) := by decide +kernel
theorem d_Wd_begin_42 : decode b_Wd_begin 42 = .ok (.iload_n 1, 1) := by decide +kernel
theorem d_Wd_begin_43 : decode b_Wd_begin 43 = .ok (.isub, 1) := by decide +kernel
theorem d_Wd_begin_44 : decode b_Wd_begin 44 = .ok (.invokevirtual 48, 3) := by decide +kernel
theorem d_Wd_begin_47 : decode b_Wd_begin 47 = .ok (.pop, 1) := by decide +kernel
theorem d_Wd_begin_48 : decode b_Wd_begin 48 = .ok (.iload_n 2, 1) := by decide +kernel
theorem d_Wd_begin_49 : decode b_Wd_begin 49 = .ok (.iconst 1, 1) := by decide +kernel
theorem d_Wd_begin_50 : decode b_Wd_begin 50 = .ok (.iadd, 1) := by decide +kernel
theorem d_Wd_begin_51 : decode b_Wd_begin 51 = .ok (.istore_n 1, 1) := by decide +kernel
theorem d_Wd_begin_52 : decode b_Wd_begin 52 = .ok (.iinc 2 1, 3) := by decide +kernel
theorem d_Wd_begin_55 : decode b_Wd_begin 55 = .ok (.goto (-36), 3) := by decide +kernel
theorem d_Wd_begin_58 : decode b_Wd_begin 58 = .ok (.return_, 1) := by decide +kernel
abbrev mt_Wd_begin : MT := (R_Wd, b_Wd_begin, 3, none)
theorem vf_Wd_begin : VF y_Wd_begin mt_Wd_begin 11 0 := ⟨im_Wd_begin, se_Wd_begin, in_Wd, co_Wd_begin, by decide +kernel, _, _, rfl⟩
def f_Wd_begin_b52 (k19 : St → Int → Int → Option (Int × St)) (γ : St) (x1 : Int) (x2 : Int) : Option (Int × St) :=
  chk (i32 (x2 + 1)) (k19 γ x1 (x2 + 1))
def f_Wd_begin_L19 : Nat → St → Int → Int → Option (Int × St)
  | 0, _, _, _ => none
  | n + 1, γ, x6, x7 =>
  if 65638 ≤ x7 then
  (some (0, γ))
  else
  (chk (inb x7 65638) (if (γ 13 x7) ≠ 32 then
  (f_Wd_begin_b52 (f_Wd_begin_L19 n) γ x6 x7)
  else
  (chk (i32 (x7 - x6)) (bndN (f_Wd_find γ x6 (x7 - x6)) fun r12 γ13 =>
  chk (i32 (x7 + 1)) (ap (x7 + 1) fun x15 =>
  f_Wd_begin_b52 (f_Wd_begin_L19 n) γ13 x15 x7)))))
def f_Wd_begin (γ : St) : Option (Int × St) :=
  ap (flA γ 17 0 512 (-1)) fun γ17 =>
  ap (setA γ17 2 8 0) fun γ18 =>
  f_Wd_begin_L19  FU γ18 65536 65536
set_option maxHeartbeats 4000000 in
theorem s_Wd_begin_b52 {Γ : Ctx} {k19 : St → Int → Int → Option (Int × St)} (hk19 : ∀ (γ : St) (x4 : Int) (x5 : Int), i32 x4 → i32 x5 → SB Γ BS mt_Wd_begin (RmN 8 290) 0 0 (KN Γ BS mt_Wd_begin.2.2.2) 19 [(0, vR Γ 2), (1, vI x4), (2, vI x5)] [] γ (k19 γ x4 x5)) : ∀ (γ : St) (x1 : Int) (x2 : Int), i32 x1 → i32 x2 → SB Γ BS mt_Wd_begin (RmN 8 290) 0 0 (KN Γ BS mt_Wd_begin.2.2.2) 52 [(0, vR Γ 2), (1, vI x1), (2, vI x2)] [] γ (f_Wd_begin_b52 k19 γ x1 x2) := by
  intro γ x1 x2 hx1 hx2
  unfold f_Wd_begin_b52
  refine sb_iinc 2 [(2, vI (x2 + 1)), (0, vR Γ 2), (1, vI x1)] d_Wd_begin_52 rfl (by decide) rfl ?_
  refine sb_chk (fun c3 => ?_)
  refine sb_goto 19 d_Wd_begin_55 (by decide) ?_
  exact sb_lv [1, 2, 0] rfl (hk19 γ x1 (x2 + 1) hx1 c3)
set_option maxHeartbeats 4000000 in
theorem s_Wd_begin_L19 {Γ : Ctx} : ∀ (n : Nat) (γ : St) (x6 : Int) (x7 : Int), i32 x6 → i32 x7 → SB Γ BS mt_Wd_begin (RmN 8 290) 0 0 (KN Γ BS mt_Wd_begin.2.2.2) 19 [(0, vR Γ 2), (1, vI x6), (2, vI x7)] [] γ (f_Wd_begin_L19 n γ x6 x7) := by
  intro n
  induction n with
  | zero => intros; exact sb_none
  | succ n ih =>
    intro γ x6 x7 hx6 hx7
    unfold f_Wd_begin_L19
    refine sb_iload_n 2 d_Wd_begin_19 rfl ?_
    refine sb_aload_n 0 d_Wd_begin_20 rfl ?_
    refine g_Wd_33 d_Wd_begin_21 ?_
    refine sb_alen 65638 rfl (by decide) rfl d_Wd_begin_24 ?_
    refine sb_icmp_ge 58 hx7 (by decide) d_Wd_begin_25 (by decide) (fun _ => ?_) (fun _ => ?_)
    · exact sn_v rfl d_Wd_begin_58
    · refine sb_aload_n 0 d_Wd_begin_28 rfl ?_
      refine g_Wd_33 d_Wd_begin_29 ?_
      refine sb_iload_n 2 d_Wd_begin_32 rfl ?_
      refine al_S_13 d_Wd_begin_33 (fun _ c10 => ?_)
      refine sb_bipush d_Wd_begin_34 (by decide) ?_
      refine sb_icmp_ne 52 c10 (by decide) d_Wd_begin_36 (by decide) (fun _ => ?_) (fun _ => ?_)
      · exact sb_lv [0, 1, 2] rfl (s_Wd_begin_b52 ih γ x6 x7 hx6 hx7)
      · refine sb_aload_n 0 d_Wd_begin_39 rfl ?_
        refine sb_iload_n 1 d_Wd_begin_40 rfl ?_
        refine sb_iload_n 2 d_Wd_begin_41 rfl ?_
        refine sb_iload_n 1 d_Wd_begin_42 rfl ?_
        refine sb_isub d_Wd_begin_43 ?_
        refine sb_chk (fun c11 => ?_)
        refine sb_cVi vf_Wd_find (c_Wd_find γ x6 (x7 - x6) hx6 c11) rfl ml_Wd_48 (As := [vI x6, vI (x7 - x6)]) rfl rfl (Nat.le_of_ble_eq_true rfl) ⟨by decide, by decide⟩ d_Wd_begin_44 (fun r12 γ13 hr12 => ?_)
        refine sb_pop d_Wd_begin_47 rfl ?_
        refine sb_iload_n 2 d_Wd_begin_48 rfl ?_
        refine sb_iconst d_Wd_begin_49 ?_
        refine sb_iadd d_Wd_begin_50 ?_
        refine sb_chk (fun c14 => ?_)
        refine sb_istore_n [(1, vI (x7 + 1)), (0, vR Γ 2), (2, vI x7)] d_Wd_begin_51 (by decide) rfl ?_
        refine sb_nme (e := x7 + 1) (fun x15 => [(1, vI x15), (0, vR Γ 2), (2, vI x7)]) c14 (fun x15 hx15 => ?_)
        exact sb_lv [1, 0, 2] rfl (s_Wd_begin_b52 ih γ13 x15 x7 hx15 hx7)
set_option maxHeartbeats 4000000 in
theorem c_Wd_begin {Γ : Ctx} (γ : St) : NC Γ BS y_Wd_begin mt_Wd_begin 8 290 [vR Γ 2] γ (f_Wd_begin γ) := by
  refine nc_of (by decide) rfl (Nat.le_of_ble_eq_true rfl) ?_
  show SB Γ BS mt_Wd_begin (RmN 8 290) 0 0 (KN Γ BS mt_Wd_begin.2.2.2) 0 [(0, vR Γ 2)] [] γ _
  unfold f_Wd_begin
  refine sb_aload_n 0 d_Wd_begin_0 rfl ?_
  refine g_Wd_11 d_Wd_begin_1 ?_
  refine sb_iconst d_Wd_begin_4 ?_
  refine sb_fill0 rfl rfl (by decide) (by decide) ml_Wd_37 (Nat.le_of_ble_eq_true rfl) ⟨by decide, by decide⟩ d_Wd_begin_5 (fun γ17 => ?_)
  refine sb_aload_n 0 d_Wd_begin_8 rfl ?_
  refine sb_iconst d_Wd_begin_9 ?_
  refine p_Wd_43 (by decide) d_Wd_begin_10 ?_
  refine sb_aps (fun γ18 => ?_)
  refine sb_ldc 65536 (by decide) ct_Wd_47 d_Wd_begin_13 ?_
  refine sb_istore_n [(1, vI 65536), (0, vR Γ 2)] d_Wd_begin_15 (by decide) rfl ?_
  refine sb_ldc 65536 (by decide) ct_Wd_47 d_Wd_begin_16 ?_
  refine sb_istore_n [(2, vI 65536), (1, vI 65536), (0, vR Γ 2)] d_Wd_begin_18 (by decide) rfl ?_
  exact sb_lv [2, 1, 0] rfl (s_Wd_begin_L19  FU γ18 65536 65536 (by decide) (by decide))
theorem d_Tk_isLetter_0 : decode b_Tk_isLetter 0 = .ok (.iload_n 0, 1) := by decide +kernel
theorem d_Tk_isLetter_1 : decode b_Tk_isLetter 1 = .ok (.bipush 97, 2) := by decide +kernel
theorem d_Tk_isLetter_3 : decode b_Tk_isLetter 3 = .ok (.if_icmp .lt 9, 3) := by decide +kernel
theorem d_Tk_isLetter_6 : decode b_Tk_isLetter 6 = .ok (.iload_n 0, 1) := by decide +kernel
theorem d_Tk_isLetter_7 : decode b_Tk_isLetter 7 = .ok (.bipush 122, 2) := by decide +kernel
theorem d_Tk_isLetter_9 : decode b_Tk_isLetter 9 = .ok (.if_icmp .le 15, 3) := by decide +kernel
theorem d_Tk_isLetter_12 : decode b_Tk_isLetter 12 = .ok (.iload_n 0, 1) := by decide +kernel
theorem d_Tk_isLetter_13 : decode b_Tk_isLetter 13 = .ok (.bipush 65, 2) := by decide +kernel
theorem d_Tk_isLetter_15 : decode b_Tk_isLetter 15 = .ok (.if_icmp .lt 13, 3) := by decide +kernel
theorem d_Tk_isLetter_18 : decode b_Tk_isLetter 18 = .ok (.iload_n 0, 1) := by decide +kernel
theorem d_Tk_isLetter_19 : decode b_Tk_isLetter 19 = .ok (.bipush 90, 2) := by decide +kernel
theorem d_Tk_isLetter_21 : decode b_Tk_isLetter 21 = .ok (.if_icmp .gt 7, 3) := by decide +kernel
theorem d_Tk_isLetter_24 : decode b_Tk_isLetter 24 = .ok (.iconst 1, 1) := by decide +kernel
theorem d_Tk_isLetter_25 : decode b_Tk_isLetter 25 = .ok (.goto 4, 3) := by decide +kernel
theorem d_Tk_isLetter_28 : decode b_Tk_isLetter 28 = .ok (.iconst 0, 1) := by decide +kernel
theorem d_Tk_isLetter_29 : decode b_Tk_isLetter 29 = .ok (.ireturn, 1) := by decide +kernel
abbrev mt_Tk_isLetter : MT := (R_Tk, b_Tk_isLetter, 1, some .boolean)
theorem vf_Tk_isLetter : SF y_Tk_isLetter mt_Tk_isLetter 1 := ⟨sm_Tk_isLetter, in_Tk, co_Tk_isLetter, by decide +kernel⟩
def f_Tk_isLetter_b12 (γ : St) (x1 : Int) : Option (Int × St) :=
  if x1 < 65 then
  (some (0, γ))
  else
  (if 90 < x1 then
  (some (0, γ))
  else
  (some (1, γ)))
def f_Tk_isLetter (γ : St) (a0 : Int) : Option (Int × St) :=
  if a0 < 97 then
  (f_Tk_isLetter_b12 γ a0)
  else
  (if a0 ≤ 122 then
  (some (1, γ))
  else
  (f_Tk_isLetter_b12 γ a0))
set_option maxHeartbeats 4000000 in
theorem s_Tk_isLetter_b12 {Γ : Ctx} : ∀ (γ : St) (x1 : Int), i32 x1 → SB Γ BS mt_Tk_isLetter (RmN 6 240) 0 0 (KN Γ BS mt_Tk_isLetter.2.2.2) 12 [(0, vI x1)] [] γ (f_Tk_isLetter_b12 γ x1) := by
  intro γ x1 hx1
  unfold f_Tk_isLetter_b12
  refine sb_iload_n 0 d_Tk_isLetter_12 rfl ?_
  refine sb_bipush d_Tk_isLetter_13 (by decide) ?_
  refine sb_icmp_lt 28 hx1 (by decide) d_Tk_isLetter_15 (by decide) (fun _ => ?_) (fun _ => ?_)
  · refine sb_iconst d_Tk_isLetter_28 ?_
    exact sn_z rfl (by decide) d_Tk_isLetter_29
  · refine sb_iload_n 0 d_Tk_isLetter_18 rfl ?_
    refine sb_bipush d_Tk_isLetter_19 (by decide) ?_
    refine sb_icmp_gt 28 hx1 (by decide) d_Tk_isLetter_21 (by decide) (fun _ => ?_) (fun _ => ?_)
    · refine sb_iconst d_Tk_isLetter_28 ?_
      exact sn_z rfl (by decide) d_Tk_isLetter_29
    · refine sb_iconst d_Tk_isLetter_24 ?_
      refine sb_goto 29 d_Tk_isLetter_25 (by decide) ?_
      exact sn_z rfl (by decide) d_Tk_isLetter_29
set_option maxHeartbeats 4000000 in
theorem c_Tk_isLetter {Γ : Ctx} (γ : St) (a0 : Int) (ha0 : i32 a0) : NC Γ BS y_Tk_isLetter mt_Tk_isLetter 6 240 [vI a0] γ (f_Tk_isLetter γ a0) := by
  refine nc_of (by decide) rfl (Nat.le_of_ble_eq_true rfl) ?_
  show SB Γ BS mt_Tk_isLetter (RmN 6 240) 0 0 (KN Γ BS mt_Tk_isLetter.2.2.2) 0 [(0, vI a0)] [] γ _
  unfold f_Tk_isLetter
  refine sb_iload_n 0 d_Tk_isLetter_0 rfl ?_
  refine sb_bipush d_Tk_isLetter_1 (by decide) ?_
  refine sb_icmp_lt 12 ha0 (by decide) d_Tk_isLetter_3 (by decide) (fun _ => ?_) (fun _ => ?_)
  · exact sb_lv [0] rfl (s_Tk_isLetter_b12 γ a0 ha0)
  · refine sb_iload_n 0 d_Tk_isLetter_6 rfl ?_
    refine sb_bipush d_Tk_isLetter_7 (by decide) ?_
    refine sb_icmp_le 24 ha0 (by decide) d_Tk_isLetter_9 (by decide) (fun _ => ?_) (fun _ => ?_)
    · refine sb_iconst d_Tk_isLetter_24 ?_
      refine sb_goto 29 d_Tk_isLetter_25 (by decide) ?_
      exact sn_z rfl (by decide) d_Tk_isLetter_29
    · exact sb_lv [0] rfl (s_Tk_isLetter_b12 γ a0 ha0)
theorem d_Tk_isDigit_0 : decode b_Tk_isDigit 0 = .ok (.iload_n 0, 1) := by decide +kernel
theorem d_Tk_isDigit_1 : decode b_Tk_isDigit 1 = .ok (.bipush 48, 2) := by decide +kernel
theorem d_Tk_isDigit_3 : decode b_Tk_isDigit 3 = .ok (.if_icmp .lt 13, 3) := by decide +kernel
theorem d_Tk_isDigit_6 : decode b_Tk_isDigit 6 = .ok (.iload_n 0, 1) := by decide +kernel
theorem d_Tk_isDigit_7 : decode b_Tk_isDigit 7 = .ok (.bipush 57, 2) := by decide +kernel
theorem d_Tk_isDigit_9 : decode b_Tk_isDigit 9 = .ok (.if_icmp .gt 7, 3) := by decide +kernel
theorem d_Tk_isDigit_12 : decode b_Tk_isDigit 12 = .ok (.iconst 1, 1) := by decide +kernel
theorem d_Tk_isDigit_13 : decode b_Tk_isDigit 13 = .ok (.goto 4, 3) := by decide +kernel
theorem d_Tk_isDigit_16 : decode b_Tk_isDigit 16 = .ok (.iconst 0, 1) := by decide +kernel
theorem d_Tk_isDigit_17 : decode b_Tk_isDigit 17 = .ok (.ireturn, 1) := by decide +kernel
abbrev mt_Tk_isDigit : MT := (R_Tk, b_Tk_isDigit, 1, some .boolean)
theorem vf_Tk_isDigit : SF y_Tk_isDigit mt_Tk_isDigit 1 := ⟨sm_Tk_isDigit, in_Tk, co_Tk_isDigit, by decide +kernel⟩
def f_Tk_isDigit (γ : St) (a0 : Int) : Option (Int × St) :=
  if a0 < 48 then
  (some (0, γ))
  else
  (if 57 < a0 then
  (some (0, γ))
  else
  (some (1, γ)))
set_option maxHeartbeats 4000000 in
theorem c_Tk_isDigit {Γ : Ctx} (γ : St) (a0 : Int) (ha0 : i32 a0) : NC Γ BS y_Tk_isDigit mt_Tk_isDigit 6 240 [vI a0] γ (f_Tk_isDigit γ a0) := by
  refine nc_of (by decide) rfl (Nat.le_of_ble_eq_true rfl) ?_
  show SB Γ BS mt_Tk_isDigit (RmN 6 240) 0 0 (KN Γ BS mt_Tk_isDigit.2.2.2) 0 [(0, vI a0)] [] γ _
  unfold f_Tk_isDigit
  refine sb_iload_n 0 d_Tk_isDigit_0 rfl ?_
  refine sb_bipush d_Tk_isDigit_1 (by decide) ?_
  refine sb_icmp_lt 16 ha0 (by decide) d_Tk_isDigit_3 (by decide) (fun _ => ?_) (fun _ => ?_)
  · refine sb_iconst d_Tk_isDigit_16 ?_
    exact sn_z rfl (by decide) d_Tk_isDigit_17
  · refine sb_iload_n 0 d_Tk_isDigit_6 rfl ?_
    refine sb_bipush d_Tk_isDigit_7 (by decide) ?_
    refine sb_icmp_gt 16 ha0 (by decide) d_Tk_isDigit_9 (by decide) (fun _ => ?_) (fun _ => ?_)
    · refine sb_iconst d_Tk_isDigit_16 ?_
      exact sn_z rfl (by decide) d_Tk_isDigit_17
    · refine sb_iconst d_Tk_isDigit_12 ?_
      refine sb_goto 17 d_Tk_isDigit_13 (by decide) ?_
      exact sn_z rfl (by decide) d_Tk_isDigit_17
theorem d_Tk_add_0 : decode b_Tk_add 0 = .ok (.aload_n 0, 1) := by decide +kernel
theorem d_Tk_add_1 : decode b_Tk_add 1 = .ok (.getfield 10, 3) := by decide +kernel
theorem d_Tk_add_4 : decode b_Tk_add 4 = .ok (.aload_n 0, 1) := by decide +kernel
theorem d_Tk_add_5 : decode b_Tk_add 5 = .ok (.getfield 38, 3) := by decide +kernel
theorem d_Tk_add_8 : decode b_Tk_add 8 = .ok (.iload_n 1, 1) := by decide +kernel
theorem d_Tk_add_9 : decode b_Tk_add 9 = .ok (.iastore, 1) := by decide +kernel
theorem d_Tk_add_10 : decode b_Tk_add 10 = .ok (.aload_n 0, 1) := by decide +kernel
theorem d_Tk_add_11 : decode b_Tk_add 11 = .ok (.getfield 16, 3) := by decide +kernel
theorem d_Tk_add_14 : decode b_Tk_add 14 = .ok (.aload_n 0, 1) := by decide +kernel
theorem d_Tk_add_15 : decode b_Tk_add 15 = .ok (.getfield 38, 3) := by decide +kernel
theorem d_Tk_add_18 : decode b_Tk_add 18 = .ok (.iload_n 2, 1) := by decide +kernel
theorem d_Tk_add_19 : decode b_Tk_add 19 = .ok (.iastore, 1) := by decide +kernel
theorem d_Tk_add_20 : decode b_Tk_add 20 = .ok (.aload_n 0, 1) := by decide +kernel
theorem d_Tk_add_21 : decode b_Tk_add 21 = .ok (.getfield 19, 3) := by decide +kernel
theorem d_Tk_add_24 : decode b_Tk_add 24 = .ok (.aload_n 0, 1) := by decide +kernel
theorem d_Tk_add_25 : decode b_Tk_add 25 = .ok (.getfield 38, 3) := by decide +kernel
theorem d_Tk_add_28 : decode b_Tk_add 28 = .ok (.iload_n 3, 1) := by decide +kernel
theorem d_Tk_add_29 : decode b_Tk_add 29 = .ok (.iastore, 1) := by decide +kernel
theorem d_Tk_add_30 : decode b_Tk_add 30 = .ok (.aload_n 0, 1) := by decide +kernel
theorem d_Tk_add_31 : decode b_Tk_add 31 = .ok (.dup, 1) := by decide +kernel
theorem d_Tk_add_32 : decode b_Tk_add 32 = .ok (.getfield 38, 3) := by decide +kernel
theorem d_Tk_add_35 : decode b_Tk_add 35 = .ok (.iconst 1, 1) := by decide +kernel
theorem d_Tk_add_36 : decode b_Tk_add 36 = .ok (.iadd, 1) := by decide +kernel
theorem d_Tk_add_37 : decode b_Tk_add 37 = .ok (.putfield 38, 3) := by decide +kernel
theorem d_Tk_add_40 : decode b_Tk_add 40 = .ok (.return_, 1) := by decide +kernel
abbrev mt_Tk_add : MT := (R_Tk, b_Tk_add, 4, none)
theorem vf_Tk_add : VF y_Tk_add mt_Tk_add 10 3 := ⟨im_Tk_add, se_Tk_add, in_Tk, co_Tk_add, by decide +kernel, _, _, rfl⟩
def f_Tk_add (γ : St) (a0 : Int) (a1 : Int) (a2 : Int) : Option (Int × St) :=
  chk (inb (γ 1 5) 65537) (ap (setA γ 14 (γ 1 5) a0) fun γ3 =>
  chk (inb (γ3 1 5) 65537) (ap (setA γ3 15 (γ3 1 5) a1) fun γ6 =>
  chk (inb (γ6 1 5) 65537) (ap (setA γ6 16 (γ6 1 5) a2) fun γ9 =>
  chk (i32 ((γ9 1 5) + 1)) (ap (setA γ9 1 5 ((γ9 1 5) + 1)) fun γ12 =>
  some (0, γ12)))))
set_option maxHeartbeats 4000000 in
theorem c_Tk_add {Γ : Ctx} (γ : St) (a0 : Int) (a1 : Int) (a2 : Int) (ha0 : i32 a0) (ha1 : i32 a1) (ha2 : i32 a2) : NC Γ BS y_Tk_add mt_Tk_add 6 240 [vR Γ 1, vI a0, vI a1, vI a2] γ (f_Tk_add γ a0 a1 a2) := by
  refine nc_of (by decide) rfl (Nat.le_of_ble_eq_true rfl) ?_
  show SB Γ BS mt_Tk_add (RmN 6 240) 0 0 (KN Γ BS mt_Tk_add.2.2.2) 0 [(0, vR Γ 1), (1, vI a0), (2, vI a1), (3, vI a2)] [] γ _
  unfold f_Tk_add
  refine sb_aload_n 0 d_Tk_add_0 rfl ?_
  refine g_Tk_10 d_Tk_add_1 ?_
  refine sb_aload_n 0 d_Tk_add_4 rfl ?_
  refine g_Tk_38 d_Tk_add_5 (fun c2 => ?_)
  refine sb_iload_n 1 d_Tk_add_8 rfl ?_
  refine as_S_14 ha0 d_Tk_add_9 (fun _ => ?_)
  refine sb_aps (fun γ3 => ?_)
  refine sb_aload_n 0 d_Tk_add_10 rfl ?_
  refine g_Tk_16 d_Tk_add_11 ?_
  refine sb_aload_n 0 d_Tk_add_14 rfl ?_
  refine g_Tk_38 d_Tk_add_15 (fun c5 => ?_)
  refine sb_iload_n 2 d_Tk_add_18 rfl ?_
  refine as_S_15 ha1 d_Tk_add_19 (fun _ => ?_)
  refine sb_aps (fun γ6 => ?_)
  refine sb_aload_n 0 d_Tk_add_20 rfl ?_
  refine g_Tk_19 d_Tk_add_21 ?_
  refine sb_aload_n 0 d_Tk_add_24 rfl ?_
  refine g_Tk_38 d_Tk_add_25 (fun c8 => ?_)
  refine sb_iload_n 3 d_Tk_add_28 rfl ?_
  refine as_S_16 ha2 d_Tk_add_29 (fun _ => ?_)
  refine sb_aps (fun γ9 => ?_)
  refine sb_aload_n 0 d_Tk_add_30 rfl ?_
  refine sb_dup d_Tk_add_31 rfl ?_
  refine g_Tk_38 d_Tk_add_32 (fun c10 => ?_)
  refine sb_iconst d_Tk_add_35 ?_
  refine sb_iadd d_Tk_add_36 ?_
  refine sb_chk (fun c11 => ?_)
  refine p_Tk_38 c11 d_Tk_add_37 ?_
  refine sb_aps (fun γ12 => ?_)
  exact sn_v rfl d_Tk_add_40
theorem d_Tk_addBad_0 : decode b_Tk_addBad 0 = .ok (.aload_n 0, 1) := by decide +kernel
theorem d_Tk_addBad_1 : decode b_Tk_addBad 1 = .ok (.iconst 1, 1) := by decide +kernel
theorem d_Tk_addBad_2 : decode b_Tk_addBad 2 = .ok (.iload_n 1, 1) := by decide +kernel
theorem d_Tk_addBad_3 : decode b_Tk_addBad 3 = .ok (.iconst 0, 1) := by decide +kernel
theorem d_Tk_addBad_4 : decode b_Tk_addBad 4 = .ok (.invokevirtual 55, 3) := by decide +kernel
theorem d_Tk_addBad_7 : decode b_Tk_addBad 7 = .ok (.iload_n 2, 1) := by decide +kernel
theorem d_Tk_addBad_8 : decode b_Tk_addBad 8 = .ok (.ireturn, 1) := by decide +kernel
abbrev mt_Tk_addBad : MT := (R_Tk, b_Tk_addBad, 3, some .int)
theorem vf_Tk_addBad : VF y_Tk_addBad mt_Tk_addBad 10 2 := ⟨im_Tk_addBad, se_Tk_addBad, in_Tk, co_Tk_addBad, by decide +kernel, _, _, rfl⟩
def f_Tk_addBad (γ : St) (a0 : Int) (a1 : Int) : Option (Int × St) :=
  bndN (f_Tk_add γ 1 a0 0) fun _ γ2 =>
  some (a1, γ2)
set_option maxHeartbeats 4000000 in
theorem c_Tk_addBad {Γ : Ctx} (γ : St) (a0 : Int) (a1 : Int) (ha0 : i32 a0) (ha1 : i32 a1) : NC Γ BS y_Tk_addBad mt_Tk_addBad 7 263 [vR Γ 1, vI a0, vI a1] γ (f_Tk_addBad γ a0 a1) := by
  refine nc_of (by decide) rfl (Nat.le_of_ble_eq_true rfl) ?_
  show SB Γ BS mt_Tk_addBad (RmN 7 263) 0 0 (KN Γ BS mt_Tk_addBad.2.2.2) 0 [(0, vR Γ 1), (1, vI a0), (2, vI a1)] [] γ _
  unfold f_Tk_addBad
  refine sb_aload_n 0 d_Tk_addBad_0 rfl ?_
  refine sb_iconst d_Tk_addBad_1 ?_
  refine sb_iload_n 1 d_Tk_addBad_2 rfl ?_
  refine sb_iconst d_Tk_addBad_3 ?_
  refine sb_cVv vf_Tk_add (c_Tk_add γ 1 a0 0 (by decide) ha0 (by decide)) rfl ml_Tk_55 (As := [vI 1, vI a0, vI 0]) rfl rfl (Nat.le_of_ble_eq_true rfl) ⟨by decide, by decide⟩ d_Tk_addBad_4 (fun _ γ2 => ?_)
  refine sb_iload_n 2 d_Tk_addBad_7 rfl ?_
  exact sn_i rfl ha1 d_Tk_addBad_8
theorem d_Tk_scanWord_0 : decode b_Tk_scanWord 0 = .ok (.iload_n 1, 1) := by decide +kernel
theorem d_Tk_scanWord_1 : decode b_Tk_scanWord 1 = .ok (.istore_n 3, 1) := by decide +kernel
theorem d_Tk_scanWord_2 : decode b_Tk_scanWord 2 = .ok (.iload_n 3, 1) := by decide +kernel
theorem d_Tk_scanWord_3 : decode b_Tk_scanWord 3 = .ok (.iload_n 2, 1) := by decide +kernel
theorem d_Tk_scanWord_4 : decode b_Tk_scanWord 4 = .ok (.if_icmp .ge 44, 3) := by decide +kernel
theorem d_Tk_scanWord_7 : decode b_Tk_scanWord 7 = .ok (.aload_n 0, 1) := by decide +kernel
theorem d_Tk_scanWord_8 : decode b_Tk_scanWord 8 = .ok (.getfield 22, 3) := by decide +kernel
theorem d_Tk_scanWord_11 : decode b_Tk_scanWord 11 = .ok (.iload_n 3, 1) := by decide +kernel
theorem d_Tk_scanWord_12 : decode b_Tk_scanWord 12 = .ok (.baload, 1) := by decide +kernel
theorem d_Tk_scanWord_13 : decode b_Tk_scanWord 13 = .ok (.invokestatic 66, 3) := by decide +kernel
theorem d_Tk_scanWord_16 : decode b_Tk_scanWord 16 = .ok (.ifCond .ne 26, 3) := by decide +kernel
theorem d_Tk_scanWord_19 : decode b_Tk_scanWord 19 = .ok (.aload_n 0, 1) := by decide +kernel
theorem d_Tk_scanWord_20 : decode b_Tk_scanWord 20 = .ok (.getfield 22, 3) := by decide +kernel
theorem d_Tk_scanWord_23 : decode b_Tk_scanWord 23 = .ok (.iload_n 3, 1) := by decide +kernel
theorem d_Tk_scanWord_24 : decode b_Tk_scanWord 24 = .ok (.baload, 1) := by decide +kernel
theorem d_Tk_scanWord_25 : decode b_Tk_scanWord 25 = .ok (.invokestatic 72, 3) := by decide +kernel
theorem d_Tk_scanWord_28 : decode b_Tk_scanWord 28 = .ok (.ifCond .ne 14, 3) := by decide +kernel
theorem d_Tk_scanWord_31 : decode b_Tk_scanWord 31 = .ok (.aload_n 0, 1) := by decide +kernel
theorem d_Tk_scanWord_32 : decode b_Tk_scanWord 32 = .ok (.getfield 22, 3) := by decide +kernel
theorem d_Tk_scanWord_35 : decode b_Tk_scanWord 35 = .ok (.iload_n 3, 1) := by decide +kernel
theorem d_Tk_scanWord_36 : decode b_Tk_scanWord 36 = .ok (.baload, 1) := by decide +kernel
theorem d_Tk_scanWord_37 : decode b_Tk_scanWord 37 = .ok (.bipush 95, 2) := by decide +kernel
theorem d_Tk_scanWord_39 : decode b_Tk_scanWord 39 = .ok (.if_icmp .ne 9, 3) := by decide +kernel
theorem d_Tk_scanWord_42 : decode b_Tk_scanWord 42 = .ok (.iinc 3 1, 3) := by decide +kernel
theorem d_Tk_scanWord_45 : decode b_Tk_scanWord 45 = .ok (.goto (-43), 3) := by decide +kernel
theorem d_Tk_scanWord_48 : decode b_Tk_scanWord 48 = .ok (.iload_n 3, 1) := by decide +kernel
theorem d_Tk_scanWord_49 : decode b_Tk_scanWord 49 = .ok (.iload_n 1, 1) := by decide +kernel
theorem d_Tk_scanWord_50 : decode b_Tk_scanWord 50 = .ok (.isub, 1) := by decide +kernel
theorem d_Tk_scanWord_51 : decode b_Tk_scanWord 51 = .ok (.bipush 31, 2) := by decide +kernel
theorem d_Tk_scanWord_53 : decode b_Tk_scanWord 53 = .ok (.if_icmp .le 7, 3) := by decide +kernel
theorem d_Tk_scanWord_56 : decode b_Tk_scanWord 56 = .ok (.iconst (-1), 1) := by decide +kernel
theorem d_Tk_scanWord_57 : decode b_Tk_scanWord 57 = .ok (.goto 14, 3) := by decide +kernel
theorem d_Tk_scanWord_60 : decode b_Tk_scanWord 60 = .ok (.aload_n 0, 1) := by decide +kernel
theorem d_Tk_scanWord_61 : decode b_Tk_scanWord 61 = .ok (.getfield 31, 3) := by decide +kernel
theorem d_Tk_scanWord_64 : decode b_Tk_scanWord 64 = .ok (.iload_n 1, 1) := by decide +kernel
theorem d_Tk_scanWord_65 : decode b_Tk_scanWord 65 = .ok (.iload_n 3, 1) := by decide +kernel
theorem d_Tk_scanWord_66 : decode b_Tk_scanWord 66 = .ok (.iload_n 1, 1) := by decide +kernel
theorem d_Tk_scanWord_67 : decode b_Tk_scanWord 67 = .ok (.isub, 1) := by decide +kernel
theorem d_Tk_scanWord_68 : decode b_Tk_scanWord 68 = .ok (.invokevirtual 85, 3) := by decide +kernel
theorem d_Tk_scanWord_71 : decode b_Tk_scanWord 71 = .ok (.istore 4, 2) := by decide +kernel
theorem d_Tk_scanWord_73 : decode b_Tk_scanWord 73 = .ok (.iload 4, 2) := by decide +kernel
theorem d_Tk_scanWord_75 : decode b_Tk_scanWord 75 = .ok (.ifCond .ge 10, 3) := by decide +kernel
theorem d_Tk_scanWord_78 : decode b_Tk_scanWord 78 = .ok (.aload_n 0, 1) := by decide +kernel
theorem d_Tk_scanWord_79 : decode b_Tk_scanWord 79 = .ok (.iload_n 1, 1) := by decide +kernel
theorem d_Tk_scanWord_80 : decode b_Tk_scanWord 80 = .ok (.iload_n 2, 1) := by decide +kernel
theorem d_Tk_scanWord_81 : decode b_Tk_scanWord 81 = .ok (.invokevirtual 88, 3) := by decide +kernel
theorem d_Tk_scanWord_84 : decode b_Tk_scanWord 84 = .ok (.ireturn, 1) := by decide +kernel
theorem d_Tk_scanWord_85 : decode b_Tk_scanWord 85 = .ok (.aload_n 0, 1) := by decide +kernel
theorem d_Tk_scanWord_86 : decode b_Tk_scanWord 86 = .ok (.iload 4, 2) := by decide +kernel
theorem d_Tk_scanWord_88 : decode b_Tk_scanWord 88 = .ok (.bipush 22, 2) := by decide +kernel
theorem d_Tk_scanWord_90 : decode b_Tk_scanWord 90 = .ok (.if_icmp .ge 11, 3) := by decide +kernel
theorem d_Tk_scanWord_93 : decode b_Tk_scanWord 93 = .ok (.bipush 20, 2) := by decide +kernel
theorem d_Tk_scanWord_95 : decode b_Tk_scanWord 95 = .ok (.iload 4, 2) := by decide +kernel
theorem d_Tk_scanWord_97 : decode b_Tk_scanWord 97 = .ok (.iadd, 1) := by decide +kernel
theorem d_Tk_scanWord_98 : decode b_Tk_scanWord 98 = .ok (.goto 4, 3) := by decide +kernel
theorem d_Tk_scanWord_101 : decode b_Tk_scanWord 101 = .ok (.iconst 2, 1) := by decide +kernel
theorem d_Tk_scanWord_102 : decode b_Tk_scanWord 102 = .ok (.iload_n 1, 1) := by decide +kernel
theorem d_Tk_scanWord_103 : decode b_Tk_scanWord 103 = .ok (.iload 4, 2) := by decide +kernel
theorem d_Tk_scanWord_105 : decode b_Tk_scanWord 105 = .ok (.invokevirtual 55, 3) := by decide +kernel
theorem d_Tk_scanWord_108 : decode b_Tk_scanWord 108 = .ok (.iload_n 3, 1) := by decide +kernel
theorem d_Tk_scanWord_109 : decode b_Tk_scanWord 109 = .ok (.ireturn, 1) := by decide +kernel
abbrev mt_Tk_scanWord : MT := (R_Tk, b_Tk_scanWord, 5, some .int)
theorem vf_Tk_scanWord : VF y_Tk_scanWord mt_Tk_scanWord 10 2 := ⟨im_Tk_scanWord, se_Tk_scanWord, in_Tk, co_Tk_scanWord, by decide +kernel, _, _, rfl⟩
def f_Tk_scanWord_b102 (γ : St) (x1 : Int) (x2 : Int) (x3 : Int) (x4 : Int) : Option (Int × St) :=
  bndN (f_Tk_add γ x4 x1 x3) fun _ γ6 =>
  some (x2, γ6)
def f_Tk_scanWord_b71 (γ : St) (x7 : Int) (x8 : Int) (x9 : Int) (x10 : Int) : Option (Int × St) :=
  if 0 ≤ x10 then
  (if 22 ≤ x10 then
  (f_Tk_scanWord_b102 γ x7 x9 x10 2)
  else
  (chk (i32 (20 + x10)) (f_Tk_scanWord_b102 γ x7 x9 x10 (20 + x10))))
  else
  (bndN (f_Tk_addBad γ x7 x8) fun r12 γ13 =>
  some (r12, γ13))
def f_Tk_scanWord_b48 (γ : St) (x14 : Int) (x15 : Int) (x16 : Int) : Option (Int × St) :=
  chk (i32 (x16 - x14)) (if (x16 - x14) ≤ 31 then
  (chk (i32 (x16 - x14)) (bndN (f_Wd_find γ x14 (x16 - x14)) fun r20 γ21 =>
  f_Tk_scanWord_b71 γ21 x14 x15 x16 r20))
  else
  (f_Tk_scanWord_b71 γ x14 x15 x16 (-1)))
def f_Tk_scanWord_b42 (k2 : St → Int → Int → Int → Option (Int × St)) (e48 : St → Int → Int → Int → Option (Int × St)) (γ : St) (x22 : Int) (x23 : Int) (x24 : Int) : Option (Int × St) :=
  chk (i32 (x24 + 1)) (k2 γ x22 x23 (x24 + 1))
def f_Tk_scanWord_L2 (e48 : St → Int → Int → Int → Option (Int × St)) : Nat → St → Int → Int → Int → Option (Int × St)
  | 0, _, _, _, _ => none
  | n + 1, γ, x32, x33, x34 =>
  if x33 ≤ x34 then
  (e48 γ x32 x33 x34)
  else
  (chk (inb x34 65638) (bndN (f_Tk_isLetter γ (γ 13 x34)) fun r37 γ38 =>
  if r37 ≠ 0 then
  (f_Tk_scanWord_b42 (f_Tk_scanWord_L2 e48 n) e48 γ38 x32 x33 x34)
  else
  (chk (inb x34 65638) (bndN (f_Tk_isDigit γ38 (γ38 13 x34)) fun r41 γ42 =>
  if r41 ≠ 0 then
  (f_Tk_scanWord_b42 (f_Tk_scanWord_L2 e48 n) e48 γ42 x32 x33 x34)
  else
  (chk (inb x34 65638) (if (γ42 13 x34) ≠ 95 then
  (e48 γ42 x32 x33 x34)
  else
  (f_Tk_scanWord_b42 (f_Tk_scanWord_L2 e48 n) e48 γ42 x32 x33 x34)))))))
def f_Tk_scanWord (γ : St) (a0 : Int) (a1 : Int) : Option (Int × St) :=
  f_Tk_scanWord_L2 (f_Tk_scanWord_b48) FU γ a0 a1 a0
set_option maxHeartbeats 4000000 in
theorem s_Tk_scanWord_b102 {Γ : Ctx} : ∀ (γ : St) (x1 : Int) (x2 : Int) (x3 : Int) (x4 : Int), i32 x1 → i32 x2 → i32 x3 → i32 x4 → SB Γ BS mt_Tk_scanWord (RmN 8 290) 0 0 (KN Γ BS mt_Tk_scanWord.2.2.2) 102 [(0, vR Γ 1), (1, vI x1), (3, vI x2), (4, vI x3)] [vI x4, vR Γ 1] γ (f_Tk_scanWord_b102 γ x1 x2 x3 x4) := by
  intro γ x1 x2 x3 x4 hx1 hx2 hx3 hx4
  unfold f_Tk_scanWord_b102
  refine sb_iload_n 1 d_Tk_scanWord_102 rfl ?_
  refine sb_iload 3 d_Tk_scanWord_103 rfl ?_
  refine sb_cVv vf_Tk_add (c_Tk_add γ x4 x1 x3 hx4 hx1 hx3) rfl ml_Tk_55 (As := [vI x4, vI x1, vI x3]) rfl rfl (Nat.le_of_ble_eq_true rfl) ⟨by decide, by decide⟩ d_Tk_scanWord_105 (fun _ γ6 => ?_)
  refine sb_iload_n 2 d_Tk_scanWord_108 rfl ?_
  exact sn_i rfl hx2 d_Tk_scanWord_109
set_option maxHeartbeats 4000000 in
theorem s_Tk_scanWord_b71 {Γ : Ctx} : ∀ (γ : St) (x7 : Int) (x8 : Int) (x9 : Int) (x10 : Int), i32 x7 → i32 x8 → i32 x9 → i32 x10 → SB Γ BS mt_Tk_scanWord (RmN 8 290) 0 0 (KN Γ BS mt_Tk_scanWord.2.2.2) 71 [(0, vR Γ 1), (1, vI x7), (2, vI x8), (3, vI x9)] [vI x10] γ (f_Tk_scanWord_b71 γ x7 x8 x9 x10) := by
  intro γ x7 x8 x9 x10 hx7 hx8 hx9 hx10
  unfold f_Tk_scanWord_b71
  refine sb_istore [(4, vI x10), (0, vR Γ 1), (1, vI x7), (2, vI x8), (3, vI x9)] d_Tk_scanWord_71 (by decide) rfl ?_
  refine sb_iload 0 d_Tk_scanWord_73 rfl ?_
  refine sb_if_ge 85 hx10 d_Tk_scanWord_75 (by decide) (fun _ => ?_) (fun _ => ?_)
  · refine sb_aload_n 1 d_Tk_scanWord_85 rfl ?_
    refine sb_iload 0 d_Tk_scanWord_86 rfl ?_
    refine sb_bipush d_Tk_scanWord_88 (by decide) ?_
    refine sb_icmp_ge 101 hx10 (by decide) d_Tk_scanWord_90 (by decide) (fun _ => ?_) (fun _ => ?_)
    · refine sb_iconst d_Tk_scanWord_101 ?_
      exact sb_lv [1, 2, 4, 0] rfl (s_Tk_scanWord_b102 γ x7 x9 x10 2 hx7 hx9 hx10 (by decide))
    · refine sb_bipush d_Tk_scanWord_93 (by decide) ?_
      refine sb_iload 0 d_Tk_scanWord_95 rfl ?_
      refine sb_iadd d_Tk_scanWord_97 ?_
      refine sb_chk (fun c11 => ?_)
      refine sb_goto 102 d_Tk_scanWord_98 (by decide) ?_
      exact sb_lv [1, 2, 4, 0] rfl (s_Tk_scanWord_b102 γ x7 x9 x10 (20 + x10) hx7 hx9 hx10 c11)
  · refine sb_aload_n 1 d_Tk_scanWord_78 rfl ?_
    refine sb_iload_n 2 d_Tk_scanWord_79 rfl ?_
    refine sb_iload_n 3 d_Tk_scanWord_80 rfl ?_
    refine sb_cVi vf_Tk_addBad (c_Tk_addBad γ x7 x8 hx7 hx8) rfl ml_Tk_88 (As := [vI x7, vI x8]) rfl rfl (Nat.le_of_ble_eq_true rfl) ⟨by decide, by decide⟩ d_Tk_scanWord_81 (fun r12 γ13 hr12 => ?_)
    exact sn_i rfl hr12 d_Tk_scanWord_84
set_option maxHeartbeats 4000000 in
theorem s_Tk_scanWord_b48 {Γ : Ctx} : ∀ (γ : St) (x14 : Int) (x15 : Int) (x16 : Int), i32 x14 → i32 x15 → i32 x16 → SB Γ BS mt_Tk_scanWord (RmN 8 290) 0 0 (KN Γ BS mt_Tk_scanWord.2.2.2) 48 [(0, vR Γ 1), (1, vI x14), (2, vI x15), (3, vI x16)] [] γ (f_Tk_scanWord_b48 γ x14 x15 x16) := by
  intro γ x14 x15 x16 hx14 hx15 hx16
  unfold f_Tk_scanWord_b48
  refine sb_iload_n 3 d_Tk_scanWord_48 rfl ?_
  refine sb_iload_n 1 d_Tk_scanWord_49 rfl ?_
  refine sb_isub d_Tk_scanWord_50 ?_
  refine sb_chk (fun c17 => ?_)
  refine sb_bipush d_Tk_scanWord_51 (by decide) ?_
  refine sb_icmp_le 60 c17 (by decide) d_Tk_scanWord_53 (by decide) (fun _ => ?_) (fun _ => ?_)
  · refine sb_aload_n 0 d_Tk_scanWord_60 rfl ?_
    refine g_Tk_31 d_Tk_scanWord_61 ?_
    refine sb_iload_n 1 d_Tk_scanWord_64 rfl ?_
    refine sb_iload_n 3 d_Tk_scanWord_65 rfl ?_
    refine sb_iload_n 1 d_Tk_scanWord_66 rfl ?_
    refine sb_isub d_Tk_scanWord_67 ?_
    refine sb_chk (fun c19 => ?_)
    refine sb_cVi vf_Wd_find (c_Wd_find γ x14 (x16 - x14) hx14 c19) rfl ml_Tk_85 (As := [vI x14, vI (x16 - x14)]) rfl rfl (Nat.le_of_ble_eq_true rfl) ⟨by decide, by decide⟩ d_Tk_scanWord_68 (fun r20 γ21 hr20 => ?_)
    exact sb_lv [0, 1, 2, 3] rfl (s_Tk_scanWord_b71 γ21 x14 x15 x16 r20 hx14 hx15 hx16 hr20)
  · refine sb_iconst d_Tk_scanWord_56 ?_
    refine sb_goto 71 d_Tk_scanWord_57 (by decide) ?_
    exact sb_lv [0, 1, 2, 3] rfl (s_Tk_scanWord_b71 γ x14 x15 x16 (-1) hx14 hx15 hx16 (by decide))
set_option maxHeartbeats 4000000 in
theorem s_Tk_scanWord_b42 {Γ : Ctx} {k2 : St → Int → Int → Int → Option (Int × St)} {e48 : St → Int → Int → Int → Option (Int × St)} (hk2 : ∀ (γ : St) (x26 : Int) (x27 : Int) (x28 : Int), i32 x26 → i32 x27 → i32 x28 → SB Γ BS mt_Tk_scanWord (RmN 8 290) 0 0 (KN Γ BS mt_Tk_scanWord.2.2.2) 2 [(0, vR Γ 1), (1, vI x26), (2, vI x27), (3, vI x28)] [] γ (k2 γ x26 x27 x28)) (he48 : ∀ (γ : St) (x29 : Int) (x30 : Int) (x31 : Int), i32 x29 → i32 x30 → i32 x31 → SB Γ BS mt_Tk_scanWord (RmN 8 290) 0 0 (KN Γ BS mt_Tk_scanWord.2.2.2) 48 [(0, vR Γ 1), (1, vI x29), (2, vI x30), (3, vI x31)] [] γ (e48 γ x29 x30 x31)) : ∀ (γ : St) (x22 : Int) (x23 : Int) (x24 : Int), i32 x22 → i32 x23 → i32 x24 → SB Γ BS mt_Tk_scanWord (RmN 8 290) 0 0 (KN Γ BS mt_Tk_scanWord.2.2.2) 42 [(0, vR Γ 1), (1, vI x22), (2, vI x23), (3, vI x24)] [] γ (f_Tk_scanWord_b42 k2 e48 γ x22 x23 x24) := by
  intro γ x22 x23 x24 hx22 hx23 hx24
  unfold f_Tk_scanWord_b42
  refine sb_iinc 3 [(3, vI (x24 + 1)), (0, vR Γ 1), (1, vI x22), (2, vI x23)] d_Tk_scanWord_42 rfl (by decide) rfl ?_
  refine sb_chk (fun c25 => ?_)
  refine sb_goto 2 d_Tk_scanWord_45 (by decide) ?_
  exact sb_lv [1, 2, 3, 0] rfl (hk2 γ x22 x23 (x24 + 1) hx22 hx23 c25)
set_option maxHeartbeats 4000000 in
theorem s_Tk_scanWord_L2 {Γ : Ctx} {e48 : St → Int → Int → Int → Option (Int × St)} (he48 : ∀ (γ : St) (x45 : Int) (x46 : Int) (x47 : Int), i32 x45 → i32 x46 → i32 x47 → SB Γ BS mt_Tk_scanWord (RmN 8 290) 0 0 (KN Γ BS mt_Tk_scanWord.2.2.2) 48 [(0, vR Γ 1), (1, vI x45), (2, vI x46), (3, vI x47)] [] γ (e48 γ x45 x46 x47)) : ∀ (n : Nat) (γ : St) (x32 : Int) (x33 : Int) (x34 : Int), i32 x32 → i32 x33 → i32 x34 → SB Γ BS mt_Tk_scanWord (RmN 8 290) 0 0 (KN Γ BS mt_Tk_scanWord.2.2.2) 2 [(0, vR Γ 1), (1, vI x32), (2, vI x33), (3, vI x34)] [] γ (f_Tk_scanWord_L2 e48 n γ x32 x33 x34) := by
  intro n
  induction n with
  | zero => intros; exact sb_none
  | succ n ih =>
    intro γ x32 x33 x34 hx32 hx33 hx34
    unfold f_Tk_scanWord_L2
    refine sb_iload_n 3 d_Tk_scanWord_2 rfl ?_
    refine sb_iload_n 2 d_Tk_scanWord_3 rfl ?_
    refine sb_icmp_ge 48 hx34 hx33 d_Tk_scanWord_4 (by decide) (fun _ => ?_) (fun _ => ?_)
    · exact sb_lv [0, 1, 2, 3] rfl (he48 γ x32 x33 x34 hx32 hx33 hx34)
    · refine sb_aload_n 0 d_Tk_scanWord_7 rfl ?_
      refine g_Tk_22 d_Tk_scanWord_8 ?_
      refine sb_iload_n 3 d_Tk_scanWord_11 rfl ?_
      refine al_S_13 d_Tk_scanWord_12 (fun _ c36 => ?_)
      refine sb_cSz vf_Tk_isLetter rfl (c_Tk_isLetter γ (γ 13 x34) c36) ml_Tk_66 (As := [vI (γ 13 x34)]) rfl rfl (Nat.le_of_ble_eq_true rfl) ⟨by decide, by decide⟩ d_Tk_scanWord_13 (fun r37 γ38 hr37 => ?_)
      refine sb_if_ne 42 (z2i hr37) d_Tk_scanWord_16 (by decide) (fun _ => ?_) (fun _ => ?_)
      · exact sb_lv [0, 1, 2, 3] rfl (s_Tk_scanWord_b42 ih he48 γ38 x32 x33 x34 hx32 hx33 hx34)
      · refine sb_aload_n 0 d_Tk_scanWord_19 rfl ?_
        refine g_Tk_22 d_Tk_scanWord_20 ?_
        refine sb_iload_n 3 d_Tk_scanWord_23 rfl ?_
        refine al_S_13 d_Tk_scanWord_24 (fun _ c40 => ?_)
        refine sb_cSz vf_Tk_isDigit rfl (c_Tk_isDigit γ38 (γ38 13 x34) c40) ml_Tk_72 (As := [vI (γ38 13 x34)]) rfl rfl (Nat.le_of_ble_eq_true rfl) ⟨by decide, by decide⟩ d_Tk_scanWord_25 (fun r41 γ42 hr41 => ?_)
        refine sb_if_ne 42 (z2i hr41) d_Tk_scanWord_28 (by decide) (fun _ => ?_) (fun _ => ?_)
        · exact sb_lv [0, 1, 2, 3] rfl (s_Tk_scanWord_b42 ih he48 γ42 x32 x33 x34 hx32 hx33 hx34)
        · refine sb_aload_n 0 d_Tk_scanWord_31 rfl ?_
          refine g_Tk_22 d_Tk_scanWord_32 ?_
          refine sb_iload_n 3 d_Tk_scanWord_35 rfl ?_
          refine al_S_13 d_Tk_scanWord_36 (fun _ c44 => ?_)
          refine sb_bipush d_Tk_scanWord_37 (by decide) ?_
          refine sb_icmp_ne 48 c44 (by decide) d_Tk_scanWord_39 (by decide) (fun _ => ?_) (fun _ => ?_)
          · exact sb_lv [0, 1, 2, 3] rfl (he48 γ42 x32 x33 x34 hx32 hx33 hx34)
          · exact sb_lv [0, 1, 2, 3] rfl (s_Tk_scanWord_b42 ih he48 γ42 x32 x33 x34 hx32 hx33 hx34)
set_option maxHeartbeats 4000000 in
theorem c_Tk_scanWord {Γ : Ctx} (γ : St) (a0 : Int) (a1 : Int) (ha0 : i32 a0) (ha1 : i32 a1) : NC Γ BS y_Tk_scanWord mt_Tk_scanWord 8 290 [vR Γ 1, vI a0, vI a1] γ (f_Tk_scanWord γ a0 a1) := by
  refine nc_of (by decide) rfl (Nat.le_of_ble_eq_true rfl) ?_
  show SB Γ BS mt_Tk_scanWord (RmN 8 290) 0 0 (KN Γ BS mt_Tk_scanWord.2.2.2) 0 [(0, vR Γ 1), (1, vI a0), (2, vI a1)] [] γ _
  unfold f_Tk_scanWord
  refine sb_iload_n 1 d_Tk_scanWord_0 rfl ?_
  refine sb_istore_n [(3, vI a0), (0, vR Γ 1), (1, vI a0), (2, vI a1)] d_Tk_scanWord_1 (by decide) rfl ?_
  exact sb_lv [1, 2, 3, 0] rfl (s_Tk_scanWord_L2 (s_Tk_scanWord_b48) FU γ a0 a1 a0 ha0 ha1 ha0)
theorem d_Tk_scanNumber_0 : decode b_Tk_scanNumber 0 = .ok (.iload_n 1, 1) := by decide +kernel
theorem d_Tk_scanNumber_1 : decode b_Tk_scanNumber 1 = .ok (.istore_n 3, 1) := by decide +kernel
theorem d_Tk_scanNumber_2 : decode b_Tk_scanNumber 2 = .ok (.iconst 0, 1) := by decide +kernel
theorem d_Tk_scanNumber_3 : decode b_Tk_scanNumber 3 = .ok (.istore 4, 2) := by decide +kernel
theorem d_Tk_scanNumber_5 : decode b_Tk_scanNumber 5 = .ok (.iload_n 3, 1) := by decide +kernel
theorem d_Tk_scanNumber_6 : decode b_Tk_scanNumber 6 = .ok (.iload_n 2, 1) := by decide +kernel
theorem d_Tk_scanNumber_7 : decode b_Tk_scanNumber 7 = .ok (.if_icmp .ge 38, 3) := by decide +kernel
theorem d_Tk_scanNumber_10 : decode b_Tk_scanNumber 10 = .ok (.aload_n 0, 1) := by decide +kernel
theorem d_Tk_scanNumber_11 : decode b_Tk_scanNumber 11 = .ok (.getfield 22, 3) := by decide +kernel
theorem d_Tk_scanNumber_14 : decode b_Tk_scanNumber 14 = .ok (.iload_n 3, 1) := by decide +kernel
theorem d_Tk_scanNumber_15 : decode b_Tk_scanNumber 15 = .ok (.baload, 1) := by decide +kernel
theorem d_Tk_scanNumber_16 : decode b_Tk_scanNumber 16 = .ok (.invokestatic 72, 3) := by decide +kernel
theorem d_Tk_scanNumber_19 : decode b_Tk_scanNumber 19 = .ok (.ifCond .eq 26, 3) := by decide +kernel
theorem d_Tk_scanNumber_22 : decode b_Tk_scanNumber 22 = .ok (.iload 4, 2) := by decide +kernel
theorem d_Tk_scanNumber_24 : decode b_Tk_scanNumber 24 = .ok (.bipush 10, 2) := by decide +kernel
theorem d_Tk_scanNumber_26 : decode b_Tk_scanNumber 26 = .ok (.imul, 1) := by decide +kernel
theorem d_Tk_scanNumber_27 : decode b_Tk_scanNumber 27 = .ok (.aload_n 0, 1) := by decide +kernel
theorem d_Tk_scanNumber_28 : decode b_Tk_scanNumber 28 = .ok (.getfield 22, 3) := by decide +kernel
theorem d_Tk_scanNumber_31 : decode b_Tk_scanNumber 31 = .ok (.iload_n 3, 1) := by decide +kernel
theorem d_Tk_scanNumber_32 : decode b_Tk_scanNumber 32 = .ok (.baload, 1) := by decide +kernel
theorem d_Tk_scanNumber_33 : decode b_Tk_scanNumber 33 = .ok (.iadd, 1) := by decide +kernel
theorem d_Tk_scanNumber_34 : decode b_Tk_scanNumber 34 = .ok (.bipush 48, 2) := by decide +kernel
theorem d_Tk_scanNumber_36 : decode b_Tk_scanNumber 36 = .ok (.isub, 1) := by decide +kernel
theorem d_Tk_scanNumber_37 : decode b_Tk_scanNumber 37 = .ok (.istore 4, 2) := by decide +kernel
theorem d_Tk_scanNumber_39 : decode b_Tk_scanNumber 39 = .ok (.iinc 3 1, 3) := by decide +kernel
theorem d_Tk_scanNumber_42 : decode b_Tk_scanNumber 42 = .ok (.goto (-37), 3) := by decide +kernel
theorem d_Tk_scanNumber_45 : decode b_Tk_scanNumber 45 = .ok (.iload_n 3, 1) := by decide +kernel
theorem d_Tk_scanNumber_46 : decode b_Tk_scanNumber 46 = .ok (.iload_n 1, 1) := by decide +kernel
theorem d_Tk_scanNumber_47 : decode b_Tk_scanNumber 47 = .ok (.isub, 1) := by decide +kernel
theorem d_Tk_scanNumber_48 : decode b_Tk_scanNumber 48 = .ok (.bipush 9, 2) := by decide +kernel
theorem d_Tk_scanNumber_50 : decode b_Tk_scanNumber 50 = .ok (.if_icmp .le 10, 3) := by decide +kernel
theorem d_Tk_scanNumber_53 : decode b_Tk_scanNumber 53 = .ok (.aload_n 0, 1) := by decide +kernel
theorem d_Tk_scanNumber_54 : decode b_Tk_scanNumber 54 = .ok (.iload_n 1, 1) := by decide +kernel
theorem d_Tk_scanNumber_55 : decode b_Tk_scanNumber 55 = .ok (.iload_n 2, 1) := by decide +kernel
theorem d_Tk_scanNumber_56 : decode b_Tk_scanNumber 56 = .ok (.invokevirtual 88, 3) := by decide +kernel
theorem d_Tk_scanNumber_59 : decode b_Tk_scanNumber 59 = .ok (.ireturn, 1) := by decide +kernel
theorem d_Tk_scanNumber_60 : decode b_Tk_scanNumber 60 = .ok (.aload_n 0, 1) := by decide +kernel
theorem d_Tk_scanNumber_61 : decode b_Tk_scanNumber 61 = .ok (.iconst 3, 1) := by decide +kernel
theorem d_Tk_scanNumber_62 : decode b_Tk_scanNumber 62 = .ok (.iload_n 1, 1) := by decide +kernel
theorem d_Tk_scanNumber_63 : decode b_Tk_scanNumber 63 = .ok (.iload 4, 2) := by decide +kernel
theorem d_Tk_scanNumber_65 : decode b_Tk_scanNumber 65 = .ok (.invokevirtual 55, 3) := by decide +kernel
theorem d_Tk_scanNumber_68 : decode b_Tk_scanNumber 68 = .ok (.iload_n 3, 1) := by decide +kernel
theorem d_Tk_scanNumber_69 : decode b_Tk_scanNumber 69 = .ok (.ireturn, 1) := by decide +kernel
abbrev mt_Tk_scanNumber : MT := (R_Tk, b_Tk_scanNumber, 5, some .int)
theorem vf_Tk_scanNumber : VF y_Tk_scanNumber mt_Tk_scanNumber 10 2 := ⟨im_Tk_scanNumber, se_Tk_scanNumber, in_Tk, co_Tk_scanNumber, by decide +kernel, _, _, rfl⟩
def f_Tk_scanNumber_b45 (γ : St) (x1 : Int) (x2 : Int) (x3 : Int) (x4 : Int) : Option (Int × St) :=
  chk (i32 (x3 - x1)) (if (x3 - x1) ≤ 9 then
  (bndN (f_Tk_add γ 3 x1 x4) fun _ γ7 =>
  some (x3, γ7))
  else
  (bndN (f_Tk_addBad γ x1 x2) fun r8 γ9 =>
  some (r8, γ9)))
def f_Tk_scanNumber_L5 (e45 : St → Int → Int → Int → Int → Option (Int × St)) : Nat → St → Int → Int → Int → Int → Option (Int × St)
  | 0, _, _, _, _, _ => none
  | n + 1, γ, x10, x11, x12, x13 =>
  if x11 ≤ x12 then
  (e45 γ x10 x11 x12 x13)
  else
  (chk (inb x12 65638) (bndN (f_Tk_isDigit γ (γ 13 x12)) fun r16 γ17 =>
  if r16 = 0 then
  (e45 γ17 x10 x11 x12 x13)
  else
  (chk (inb x12 65638) (ap (wr ((wr ((wr (x13 * 10)) + (γ17 13 x12))) - 48)) fun x20 =>
  chk (i32 (x12 + 1)) ((f_Tk_scanNumber_L5 e45 n) γ17 x10 x11 (x12 + 1) x20)))))
def f_Tk_scanNumber (γ : St) (a0 : Int) (a1 : Int) : Option (Int × St) :=
  f_Tk_scanNumber_L5 (f_Tk_scanNumber_b45) FU γ a0 a1 a0 0
set_option maxHeartbeats 4000000 in
theorem s_Tk_scanNumber_b45 {Γ : Ctx} : ∀ (γ : St) (x1 : Int) (x2 : Int) (x3 : Int) (x4 : Int), i32 x1 → i32 x2 → i32 x3 → i32 x4 → SB Γ BS mt_Tk_scanNumber (RmN 8 285) 0 0 (KN Γ BS mt_Tk_scanNumber.2.2.2) 45 [(0, vR Γ 1), (1, vI x1), (2, vI x2), (3, vI x3), (4, vI x4)] [] γ (f_Tk_scanNumber_b45 γ x1 x2 x3 x4) := by
  intro γ x1 x2 x3 x4 hx1 hx2 hx3 hx4
  unfold f_Tk_scanNumber_b45
  refine sb_iload_n 3 d_Tk_scanNumber_45 rfl ?_
  refine sb_iload_n 1 d_Tk_scanNumber_46 rfl ?_
  refine sb_isub d_Tk_scanNumber_47 ?_
  refine sb_chk (fun c5 => ?_)
  refine sb_bipush d_Tk_scanNumber_48 (by decide) ?_
  refine sb_icmp_le 60 c5 (by decide) d_Tk_scanNumber_50 (by decide) (fun _ => ?_) (fun _ => ?_)
  · refine sb_aload_n 0 d_Tk_scanNumber_60 rfl ?_
    refine sb_iconst d_Tk_scanNumber_61 ?_
    refine sb_iload_n 1 d_Tk_scanNumber_62 rfl ?_
    refine sb_iload 4 d_Tk_scanNumber_63 rfl ?_
    refine sb_cVv vf_Tk_add (c_Tk_add γ 3 x1 x4 (by decide) hx1 hx4) rfl ml_Tk_55 (As := [vI 3, vI x1, vI x4]) rfl rfl (Nat.le_of_ble_eq_true rfl) ⟨by decide, by decide⟩ d_Tk_scanNumber_65 (fun _ γ7 => ?_)
    refine sb_iload_n 3 d_Tk_scanNumber_68 rfl ?_
    exact sn_i rfl hx3 d_Tk_scanNumber_69
  · refine sb_aload_n 0 d_Tk_scanNumber_53 rfl ?_
    refine sb_iload_n 1 d_Tk_scanNumber_54 rfl ?_
    refine sb_iload_n 2 d_Tk_scanNumber_55 rfl ?_
    refine sb_cVi vf_Tk_addBad (c_Tk_addBad γ x1 x2 hx1 hx2) rfl ml_Tk_88 (As := [vI x1, vI x2]) rfl rfl (Nat.le_of_ble_eq_true rfl) ⟨by decide, by decide⟩ d_Tk_scanNumber_56 (fun r8 γ9 hr8 => ?_)
    exact sn_i rfl hr8 d_Tk_scanNumber_59
set_option maxHeartbeats 4000000 in
theorem s_Tk_scanNumber_L5 {Γ : Ctx} {e45 : St → Int → Int → Int → Int → Option (Int × St)} (he45 : ∀ (γ : St) (x22 : Int) (x23 : Int) (x24 : Int) (x25 : Int), i32 x22 → i32 x23 → i32 x24 → i32 x25 → SB Γ BS mt_Tk_scanNumber (RmN 8 285) 0 0 (KN Γ BS mt_Tk_scanNumber.2.2.2) 45 [(0, vR Γ 1), (1, vI x22), (2, vI x23), (3, vI x24), (4, vI x25)] [] γ (e45 γ x22 x23 x24 x25)) : ∀ (n : Nat) (γ : St) (x10 : Int) (x11 : Int) (x12 : Int) (x13 : Int), i32 x10 → i32 x11 → i32 x12 → i32 x13 → SB Γ BS mt_Tk_scanNumber (RmN 8 285) 0 0 (KN Γ BS mt_Tk_scanNumber.2.2.2) 5 [(0, vR Γ 1), (1, vI x10), (2, vI x11), (3, vI x12), (4, vI x13)] [] γ (f_Tk_scanNumber_L5 e45 n γ x10 x11 x12 x13) := by
  intro n
  induction n with
  | zero => intros; exact sb_none
  | succ n ih =>
    intro γ x10 x11 x12 x13 hx10 hx11 hx12 hx13
    unfold f_Tk_scanNumber_L5
    refine sb_iload_n 3 d_Tk_scanNumber_5 rfl ?_
    refine sb_iload_n 2 d_Tk_scanNumber_6 rfl ?_
    refine sb_icmp_ge 45 hx12 hx11 d_Tk_scanNumber_7 (by decide) (fun _ => ?_) (fun _ => ?_)
    · exact sb_lv [0, 1, 2, 3, 4] rfl (he45 γ x10 x11 x12 x13 hx10 hx11 hx12 hx13)
    · refine sb_aload_n 0 d_Tk_scanNumber_10 rfl ?_
      refine g_Tk_22 d_Tk_scanNumber_11 ?_
      refine sb_iload_n 3 d_Tk_scanNumber_14 rfl ?_
      refine al_S_13 d_Tk_scanNumber_15 (fun _ c15 => ?_)
      refine sb_cSz vf_Tk_isDigit rfl (c_Tk_isDigit γ (γ 13 x12) c15) ml_Tk_72 (As := [vI (γ 13 x12)]) rfl rfl (Nat.le_of_ble_eq_true rfl) ⟨by decide, by decide⟩ d_Tk_scanNumber_16 (fun r16 γ17 hr16 => ?_)
      refine sb_if_eq 45 (z2i hr16) d_Tk_scanNumber_19 (by decide) (fun _ => ?_) (fun _ => ?_)
      · exact sb_lv [0, 1, 2, 3, 4] rfl (he45 γ17 x10 x11 x12 x13 hx10 hx11 hx12 hx13)
      · refine sb_iload 4 d_Tk_scanNumber_22 rfl ?_
        refine sb_bipush d_Tk_scanNumber_24 (by decide) ?_
        refine sb_imul d_Tk_scanNumber_26 ?_
        refine sb_wr ?_
        refine sb_aload_n 0 d_Tk_scanNumber_27 rfl ?_
        refine g_Tk_22 d_Tk_scanNumber_28 ?_
        refine sb_iload_n 3 d_Tk_scanNumber_31 rfl ?_
        refine al_S_13 d_Tk_scanNumber_32 (fun _ c19 => ?_)
        refine sb_iadd d_Tk_scanNumber_33 ?_
        refine sb_wr ?_
        refine sb_bipush d_Tk_scanNumber_34 (by decide) ?_
        refine sb_isub d_Tk_scanNumber_36 ?_
        refine sb_wr ?_
        refine sb_istore [(4, vI (wr ((wr ((wr (x13 * 10)) + (γ17 13 x12))) - 48))), (0, vR Γ 1), (1, vI x10), (2, vI x11), (3, vI x12)] d_Tk_scanNumber_37 (by decide) rfl ?_
        refine sb_nme (e := wr ((wr ((wr (x13 * 10)) + (γ17 13 x12))) - 48)) (fun x20 => [(4, vI x20), (0, vR Γ 1), (1, vI x10), (2, vI x11), (3, vI x12)]) (wr_b _) (fun x20 hx20 => ?_)
        refine sb_iinc 4 [(3, vI (x12 + 1)), (4, vI x20), (0, vR Γ 1), (1, vI x10), (2, vI x11)] d_Tk_scanNumber_39 rfl (by decide) rfl ?_
        refine sb_chk (fun c21 => ?_)
        refine sb_goto 5 d_Tk_scanNumber_42 (by decide) ?_
        exact sb_lv [2, 3, 4, 0, 1] rfl (ih γ17 x10 x11 (x12 + 1) x20 hx10 hx11 c21 hx20)
set_option maxHeartbeats 4000000 in
theorem c_Tk_scanNumber {Γ : Ctx} (γ : St) (a0 : Int) (a1 : Int) (ha0 : i32 a0) (ha1 : i32 a1) : NC Γ BS y_Tk_scanNumber mt_Tk_scanNumber 8 285 [vR Γ 1, vI a0, vI a1] γ (f_Tk_scanNumber γ a0 a1) := by
  refine nc_of (by decide) rfl (Nat.le_of_ble_eq_true rfl) ?_
  show SB Γ BS mt_Tk_scanNumber (RmN 8 285) 0 0 (KN Γ BS mt_Tk_scanNumber.2.2.2) 0 [(0, vR Γ 1), (1, vI a0), (2, vI a1)] [] γ _
  unfold f_Tk_scanNumber
  refine sb_iload_n 1 d_Tk_scanNumber_0 rfl ?_
  refine sb_istore_n [(3, vI a0), (0, vR Γ 1), (1, vI a0), (2, vI a1)] d_Tk_scanNumber_1 (by decide) rfl ?_
  refine sb_iconst d_Tk_scanNumber_2 ?_
  refine sb_istore [(4, vI 0), (3, vI a0), (0, vR Γ 1), (1, vI a0), (2, vI a1)] d_Tk_scanNumber_3 (by decide) rfl ?_
  exact sb_lv [2, 3, 4, 1, 0] rfl (s_Tk_scanNumber_L5 (s_Tk_scanNumber_b45) FU γ a0 a1 a0 0 ha0 ha1 ha0 (by decide))
theorem d_Tk_lineEnd_0 : decode b_Tk_lineEnd 0 = .ok (.iload_n 1, 1) := by decide +kernel
theorem d_Tk_lineEnd_1 : decode b_Tk_lineEnd 1 = .ok (.istore_n 3, 1) := by decide +kernel
theorem d_Tk_lineEnd_2 : decode b_Tk_lineEnd 2 = .ok (.iload_n 3, 1) := by decide +kernel
theorem d_Tk_lineEnd_3 : decode b_Tk_lineEnd 3 = .ok (.iload_n 2, 1) := by decide +kernel
theorem d_Tk_lineEnd_4 : decode b_Tk_lineEnd 4 = .ok (.if_icmp .ge 20, 3) := by decide +kernel
theorem d_Tk_lineEnd_7 : decode b_Tk_lineEnd 7 = .ok (.aload_n 0, 1) := by decide +kernel
theorem d_Tk_lineEnd_8 : decode b_Tk_lineEnd 8 = .ok (.getfield 22, 3) := by decide +kernel
theorem d_Tk_lineEnd_11 : decode b_Tk_lineEnd 11 = .ok (.iload_n 3, 1) := by decide +kernel
theorem d_Tk_lineEnd_12 : decode b_Tk_lineEnd 12 = .ok (.baload, 1) := by decide +kernel
theorem d_Tk_lineEnd_13 : decode b_Tk_lineEnd 13 = .ok (.bipush 10, 2) := by decide +kernel
theorem d_Tk_lineEnd_15 : decode b_Tk_lineEnd 15 = .ok (.if_icmp .eq 9, 3) := by decide +kernel
theorem d_Tk_lineEnd_18 : decode b_Tk_lineEnd 18 = .ok (.iinc 3 1, 3) := by decide +kernel
theorem d_Tk_lineEnd_21 : decode b_Tk_lineEnd 21 = .ok (.goto (-19), 3) := by decide +kernel
theorem d_Tk_lineEnd_24 : decode b_Tk_lineEnd 24 = .ok (.iload_n 3, 1) := by decide +kernel
theorem d_Tk_lineEnd_25 : decode b_Tk_lineEnd 25 = .ok (.ireturn, 1) := by decide +kernel
abbrev mt_Tk_lineEnd : MT := (R_Tk, b_Tk_lineEnd, 4, some .int)
theorem vf_Tk_lineEnd : VF y_Tk_lineEnd mt_Tk_lineEnd 10 2 := ⟨im_Tk_lineEnd, se_Tk_lineEnd, in_Tk, co_Tk_lineEnd, by decide +kernel, _, _, rfl⟩
def f_Tk_lineEnd_L2 : Nat → St → Int → Int → Option (Int × St)
  | 0, _, _, _ => none
  | n + 1, γ, x1, x2 =>
  if x1 ≤ x2 then
  (some (x2, γ))
  else
  (chk (inb x2 65638) (if (γ 13 x2) = 10 then
  (some (x2, γ))
  else
  (chk (i32 (x2 + 1)) ((f_Tk_lineEnd_L2 n) γ x1 (x2 + 1)))))
def f_Tk_lineEnd (γ : St) (a0 : Int) (a1 : Int) : Option (Int × St) :=
  f_Tk_lineEnd_L2  FU γ a1 a0
set_option maxHeartbeats 4000000 in
theorem s_Tk_lineEnd_L2 {Γ : Ctx} : ∀ (n : Nat) (γ : St) (x1 : Int) (x2 : Int), i32 x1 → i32 x2 → SB Γ BS mt_Tk_lineEnd (RmN 6 240) 0 0 (KN Γ BS mt_Tk_lineEnd.2.2.2) 2 [(0, vR Γ 1), (2, vI x1), (3, vI x2)] [] γ (f_Tk_lineEnd_L2 n γ x1 x2) := by
  intro n
  induction n with
  | zero => intros; exact sb_none
  | succ n ih =>
    intro γ x1 x2 hx1 hx2
    unfold f_Tk_lineEnd_L2
    refine sb_iload_n 2 d_Tk_lineEnd_2 rfl ?_
    refine sb_iload_n 1 d_Tk_lineEnd_3 rfl ?_
    refine sb_icmp_ge 24 hx2 hx1 d_Tk_lineEnd_4 (by decide) (fun _ => ?_) (fun _ => ?_)
    · refine sb_iload_n 2 d_Tk_lineEnd_24 rfl ?_
      exact sn_i rfl hx2 d_Tk_lineEnd_25
    · refine sb_aload_n 0 d_Tk_lineEnd_7 rfl ?_
      refine g_Tk_22 d_Tk_lineEnd_8 ?_
      refine sb_iload_n 2 d_Tk_lineEnd_11 rfl ?_
      refine al_S_13 d_Tk_lineEnd_12 (fun _ c4 => ?_)
      refine sb_bipush d_Tk_lineEnd_13 (by decide) ?_
      refine sb_icmp_eq 24 c4 (by decide) d_Tk_lineEnd_15 (by decide) (fun _ => ?_) (fun _ => ?_)
      · refine sb_iload_n 2 d_Tk_lineEnd_24 rfl ?_
        exact sn_i rfl hx2 d_Tk_lineEnd_25
      · refine sb_iinc 2 [(3, vI (x2 + 1)), (0, vR Γ 1), (2, vI x1)] d_Tk_lineEnd_18 rfl (by decide) rfl ?_
        refine sb_chk (fun c5 => ?_)
        refine sb_goto 2 d_Tk_lineEnd_21 (by decide) ?_
        exact sb_lv [1, 2, 0] rfl (ih γ x1 (x2 + 1) hx1 c5)
set_option maxHeartbeats 4000000 in
theorem c_Tk_lineEnd {Γ : Ctx} (γ : St) (a0 : Int) (a1 : Int) (ha0 : i32 a0) (ha1 : i32 a1) : NC Γ BS y_Tk_lineEnd mt_Tk_lineEnd 6 240 [vR Γ 1, vI a0, vI a1] γ (f_Tk_lineEnd γ a0 a1) := by
  refine nc_of (by decide) rfl (Nat.le_of_ble_eq_true rfl) ?_
  show SB Γ BS mt_Tk_lineEnd (RmN 6 240) 0 0 (KN Γ BS mt_Tk_lineEnd.2.2.2) 0 [(0, vR Γ 1), (1, vI a0), (2, vI a1)] [] γ _
  unfold f_Tk_lineEnd
  refine sb_iload_n 1 d_Tk_lineEnd_0 rfl ?_
  refine sb_istore_n [(3, vI a0), (0, vR Γ 1), (1, vI a0), (2, vI a1)] d_Tk_lineEnd_1 (by decide) rfl ?_
  exact sb_lv [1, 3, 0] rfl (s_Tk_lineEnd_L2  FU γ a1 a0 ha1 ha0)
theorem d_Tk_signOfTwo_0 : decode b_Tk_signOfTwo 0 = .ok (.iload_n 1, 1) := by decide +kernel
theorem d_Tk_signOfTwo_1 : decode b_Tk_signOfTwo 1 = .ok (.bipush 62, 2) := by decide +kernel
theorem d_Tk_signOfTwo_3 : decode b_Tk_signOfTwo 3 = .ok (.if_icmp .ne 38, 3) := by decide +kernel
theorem d_Tk_signOfTwo_6 : decode b_Tk_signOfTwo 6 = .ok (.iload_n 0, 1) := by decide +kernel
theorem d_Tk_signOfTwo_7 : decode b_Tk_signOfTwo 7 = .ok (.bipush 60, 2) := by decide +kernel
theorem d_Tk_signOfTwo_9 : decode b_Tk_signOfTwo 9 = .ok (.if_icmp .ne 8, 3) := by decide +kernel
theorem d_Tk_signOfTwo_12 : decode b_Tk_signOfTwo 12 = .ok (.bipush 10, 2) := by decide +kernel
theorem d_Tk_signOfTwo_14 : decode b_Tk_signOfTwo 14 = .ok (.goto 26, 3) := by decide +kernel
theorem d_Tk_signOfTwo_17 : decode b_Tk_signOfTwo 17 = .ok (.iload_n 0, 1) := by decide +kernel
theorem d_Tk_signOfTwo_18 : decode b_Tk_signOfTwo 18 = .ok (.bipush 45, 2) := by decide +kernel
theorem d_Tk_signOfTwo_20 : decode b_Tk_signOfTwo 20 = .ok (.if_icmp .ne 8, 3) := by decide +kernel
theorem d_Tk_signOfTwo_23 : decode b_Tk_signOfTwo 23 = .ok (.bipush 18, 2) := by decide +kernel
theorem d_Tk_signOfTwo_25 : decode b_Tk_signOfTwo 25 = .ok (.goto 15, 3) := by decide +kernel
theorem d_Tk_signOfTwo_28 : decode b_Tk_signOfTwo 28 = .ok (.iload_n 0, 1) := by decide +kernel
theorem d_Tk_signOfTwo_29 : decode b_Tk_signOfTwo 29 = .ok (.bipush 61, 2) := by decide +kernel
theorem d_Tk_signOfTwo_31 : decode b_Tk_signOfTwo 31 = .ok (.if_icmp .ne 8, 3) := by decide +kernel
theorem d_Tk_signOfTwo_34 : decode b_Tk_signOfTwo 34 = .ok (.bipush 19, 2) := by decide +kernel
theorem d_Tk_signOfTwo_36 : decode b_Tk_signOfTwo 36 = .ok (.goto 4, 3) := by decide +kernel
theorem d_Tk_signOfTwo_39 : decode b_Tk_signOfTwo 39 = .ok (.iconst 1, 1) := by decide +kernel
theorem d_Tk_signOfTwo_40 : decode b_Tk_signOfTwo 40 = .ok (.ireturn, 1) := by decide +kernel
theorem d_Tk_signOfTwo_41 : decode b_Tk_signOfTwo 41 = .ok (.iload_n 1, 1) := by decide +kernel
theorem d_Tk_signOfTwo_42 : decode b_Tk_signOfTwo 42 = .ok (.bipush 61, 2) := by decide +kernel
theorem d_Tk_signOfTwo_44 : decode b_Tk_signOfTwo 44 = .ok (.if_icmp .ne 27, 3) := by decide +kernel
theorem d_Tk_signOfTwo_47 : decode b_Tk_signOfTwo 47 = .ok (.iload_n 0, 1) := by decide +kernel
theorem d_Tk_signOfTwo_48 : decode b_Tk_signOfTwo 48 = .ok (.bipush 60, 2) := by decide +kernel
theorem d_Tk_signOfTwo_50 : decode b_Tk_signOfTwo 50 = .ok (.if_icmp .ne 8, 3) := by decide +kernel
theorem d_Tk_signOfTwo_53 : decode b_Tk_signOfTwo 53 = .ok (.bipush 12, 2) := by decide +kernel
theorem d_Tk_signOfTwo_55 : decode b_Tk_signOfTwo 55 = .ok (.goto 15, 3) := by decide +kernel
theorem d_Tk_signOfTwo_58 : decode b_Tk_signOfTwo 58 = .ok (.iload_n 0, 1) := by decide +kernel
theorem d_Tk_signOfTwo_59 : decode b_Tk_signOfTwo 59 = .ok (.bipush 62, 2) := by decide +kernel
theorem d_Tk_signOfTwo_61 : decode b_Tk_signOfTwo 61 = .ok (.if_icmp .ne 8, 3) := by decide +kernel
theorem d_Tk_signOfTwo_64 : decode b_Tk_signOfTwo 64 = .ok (.bipush 14, 2) := by decide +kernel
theorem d_Tk_signOfTwo_66 : decode b_Tk_signOfTwo 66 = .ok (.goto 4, 3) := by decide +kernel
theorem d_Tk_signOfTwo_69 : decode b_Tk_signOfTwo 69 = .ok (.iconst 1, 1) := by decide +kernel
theorem d_Tk_signOfTwo_70 : decode b_Tk_signOfTwo 70 = .ok (.ireturn, 1) := by decide +kernel
theorem d_Tk_signOfTwo_71 : decode b_Tk_signOfTwo 71 = .ok (.iconst 1, 1) := by decide +kernel
theorem d_Tk_signOfTwo_72 : decode b_Tk_signOfTwo 72 = .ok (.ireturn, 1) := by decide +kernel
abbrev mt_Tk_signOfTwo : MT := (R_Tk, b_Tk_signOfTwo, 2, some .int)
theorem vf_Tk_signOfTwo : SF y_Tk_signOfTwo mt_Tk_signOfTwo 2 := ⟨sm_Tk_signOfTwo, in_Tk, co_Tk_signOfTwo, by decide +kernel⟩
def f_Tk_signOfTwo (γ : St) (a0 : Int) (a1 : Int) : Option (Int × St) :=
  if a1 ≠ 62 then
  (if a1 ≠ 61 then
  (some (1, γ))
  else
  (if a0 ≠ 60 then
  (if a0 ≠ 62 then
  (some (1, γ))
  else
  (some (14, γ)))
  else
  (some (12, γ))))
  else
  (if a0 ≠ 60 then
  (if a0 ≠ 45 then
  (if a0 ≠ 61 then
  (some (1, γ))
  else
  (some (19, γ)))
  else
  (some (18, γ)))
  else
  (some (10, γ)))
set_option maxHeartbeats 4000000 in
theorem c_Tk_signOfTwo {Γ : Ctx} (γ : St) (a0 : Int) (a1 : Int) (ha0 : i32 a0) (ha1 : i32 a1) : NC Γ BS y_Tk_signOfTwo mt_Tk_signOfTwo 6 240 [vI a0, vI a1] γ (f_Tk_signOfTwo γ a0 a1) := by
  refine nc_of (by decide) rfl (Nat.le_of_ble_eq_true rfl) ?_
  show SB Γ BS mt_Tk_signOfTwo (RmN 6 240) 0 0 (KN Γ BS mt_Tk_signOfTwo.2.2.2) 0 [(0, vI a0), (1, vI a1)] [] γ _
  unfold f_Tk_signOfTwo
  refine sb_iload_n 1 d_Tk_signOfTwo_0 rfl ?_
  refine sb_bipush d_Tk_signOfTwo_1 (by decide) ?_
  refine sb_icmp_ne 41 ha1 (by decide) d_Tk_signOfTwo_3 (by decide) (fun _ => ?_) (fun _ => ?_)
  · refine sb_iload_n 1 d_Tk_signOfTwo_41 rfl ?_
    refine sb_bipush d_Tk_signOfTwo_42 (by decide) ?_
    refine sb_icmp_ne 71 ha1 (by decide) d_Tk_signOfTwo_44 (by decide) (fun _ => ?_) (fun _ => ?_)
    · refine sb_iconst d_Tk_signOfTwo_71 ?_
      exact sn_i rfl (by decide) d_Tk_signOfTwo_72
    · refine sb_iload_n 0 d_Tk_signOfTwo_47 rfl ?_
      refine sb_bipush d_Tk_signOfTwo_48 (by decide) ?_
      refine sb_icmp_ne 58 ha0 (by decide) d_Tk_signOfTwo_50 (by decide) (fun _ => ?_) (fun _ => ?_)
      · refine sb_iload_n 0 d_Tk_signOfTwo_58 rfl ?_
        refine sb_bipush d_Tk_signOfTwo_59 (by decide) ?_
        refine sb_icmp_ne 69 ha0 (by decide) d_Tk_signOfTwo_61 (by decide) (fun _ => ?_) (fun _ => ?_)
        · refine sb_iconst d_Tk_signOfTwo_69 ?_
          exact sn_i rfl (by decide) d_Tk_signOfTwo_70
        · refine sb_bipush d_Tk_signOfTwo_64 (by decide) ?_
          refine sb_goto 70 d_Tk_signOfTwo_66 (by decide) ?_
          exact sn_i rfl (by decide) d_Tk_signOfTwo_70
      · refine sb_bipush d_Tk_signOfTwo_53 (by decide) ?_
        refine sb_goto 70 d_Tk_signOfTwo_55 (by decide) ?_
        exact sn_i rfl (by decide) d_Tk_signOfTwo_70
  · refine sb_iload_n 0 d_Tk_signOfTwo_6 rfl ?_
    refine sb_bipush d_Tk_signOfTwo_7 (by decide) ?_
    refine sb_icmp_ne 17 ha0 (by decide) d_Tk_signOfTwo_9 (by decide) (fun _ => ?_) (fun _ => ?_)
    · refine sb_iload_n 0 d_Tk_signOfTwo_17 rfl ?_
      refine sb_bipush d_Tk_signOfTwo_18 (by decide) ?_
      refine sb_icmp_ne 28 ha0 (by decide) d_Tk_signOfTwo_20 (by decide) (fun _ => ?_) (fun _ => ?_)
      · refine sb_iload_n 0 d_Tk_signOfTwo_28 rfl ?_
        refine sb_bipush d_Tk_signOfTwo_29 (by decide) ?_
        refine sb_icmp_ne 39 ha0 (by decide) d_Tk_signOfTwo_31 (by decide) (fun _ => ?_) (fun _ => ?_)
        · refine sb_iconst d_Tk_signOfTwo_39 ?_
          exact sn_i rfl (by decide) d_Tk_signOfTwo_40
        · refine sb_bipush d_Tk_signOfTwo_34 (by decide) ?_
          refine sb_goto 40 d_Tk_signOfTwo_36 (by decide) ?_
          exact sn_i rfl (by decide) d_Tk_signOfTwo_40
      · refine sb_bipush d_Tk_signOfTwo_23 (by decide) ?_
        refine sb_goto 40 d_Tk_signOfTwo_25 (by decide) ?_
        exact sn_i rfl (by decide) d_Tk_signOfTwo_40
    · refine sb_bipush d_Tk_signOfTwo_12 (by decide) ?_
      refine sb_goto 40 d_Tk_signOfTwo_14 (by decide) ?_
      exact sn_i rfl (by decide) d_Tk_signOfTwo_40
theorem d_Tk_signOfOne_0 : decode b_Tk_signOfOne 0 = .ok (.iload_n 0, 1) := by decide +kernel
theorem d_Tk_signOfOne_1 : decode b_Tk_signOfOne 1 = .ok (.tableswitch 138 40 62 #[107, 109, 135, 129, 117, 132, 138, 138, 138, 138, 138, 138, 138, 138, 138, 138, 138, 138, 111, 114, 123, 120, 126], 107) := by decide +kernel
theorem d_Tk_signOfOne_108 : decode b_Tk_signOfOne 108 = .ok (.iconst 4, 1) := by decide +kernel
theorem d_Tk_signOfOne_109 : decode b_Tk_signOfOne 109 = .ok (.ireturn, 1) := by decide +kernel
theorem d_Tk_signOfOne_110 : decode b_Tk_signOfOne 110 = .ok (.iconst 5, 1) := by decide +kernel
theorem d_Tk_signOfOne_111 : decode b_Tk_signOfOne 111 = .ok (.ireturn, 1) := by decide +kernel
theorem d_Tk_signOfOne_112 : decode b_Tk_signOfOne 112 = .ok (.bipush 6, 2) := by decide +kernel
theorem d_Tk_signOfOne_114 : decode b_Tk_signOfOne 114 = .ok (.ireturn, 1) := by decide +kernel
theorem d_Tk_signOfOne_115 : decode b_Tk_signOfOne 115 = .ok (.bipush 7, 2) := by decide +kernel
theorem d_Tk_signOfOne_117 : decode b_Tk_signOfOne 117 = .ok (.ireturn, 1) := by decide +kernel
theorem d_Tk_signOfOne_118 : decode b_Tk_signOfOne 118 = .ok (.bipush 8, 2) := by decide +kernel
theorem d_Tk_signOfOne_120 : decode b_Tk_signOfOne 120 = .ok (.ireturn, 1) := by decide +kernel
theorem d_Tk_signOfOne_121 : decode b_Tk_signOfOne 121 = .ok (.bipush 9, 2) := by decide +kernel
theorem d_Tk_signOfOne_123 : decode b_Tk_signOfOne 123 = .ok (.ireturn, 1) := by decide +kernel
theorem d_Tk_signOfOne_124 : decode b_Tk_signOfOne 124 = .ok (.bipush 11, 2) := by decide +kernel
theorem d_Tk_signOfOne_126 : decode b_Tk_signOfOne 126 = .ok (.ireturn, 1) := by decide +kernel
theorem d_Tk_signOfOne_127 : decode b_Tk_signOfOne 127 = .ok (.bipush 13, 2) := by decide +kernel
theorem d_Tk_signOfOne_129 : decode b_Tk_signOfOne 129 = .ok (.ireturn, 1) := by decide +kernel
theorem d_Tk_signOfOne_130 : decode b_Tk_signOfOne 130 = .ok (.bipush 15, 2) := by decide +kernel
theorem d_Tk_signOfOne_132 : decode b_Tk_signOfOne 132 = .ok (.ireturn, 1) := by decide +kernel
theorem d_Tk_signOfOne_133 : decode b_Tk_signOfOne 133 = .ok (.bipush 16, 2) := by decide +kernel
theorem d_Tk_signOfOne_135 : decode b_Tk_signOfOne 135 = .ok (.ireturn, 1) := by decide +kernel
theorem d_Tk_signOfOne_136 : decode b_Tk_signOfOne 136 = .ok (.bipush 17, 2) := by decide +kernel
theorem d_Tk_signOfOne_138 : decode b_Tk_signOfOne 138 = .ok (.ireturn, 1) := by decide +kernel
theorem d_Tk_signOfOne_139 : decode b_Tk_signOfOne 139 = .ok (.iconst 1, 1) := by decide +kernel
theorem d_Tk_signOfOne_140 : decode b_Tk_signOfOne 140 = .ok (.ireturn, 1) := by decide +kernel
abbrev mt_Tk_signOfOne : MT := (R_Tk, b_Tk_signOfOne, 1, some .int)
theorem vf_Tk_signOfOne : SF y_Tk_signOfOne mt_Tk_signOfOne 1 := ⟨sm_Tk_signOfOne, in_Tk, co_Tk_signOfOne, by decide +kernel⟩
def f_Tk_signOfOne (γ : St) (a0 : Int) : Option (Int × St) :=
  if a0 = 40 then
  (some (4, γ))
  else if a0 = 41 then
  (some (5, γ))
  else if a0 = 42 then
  (some (17, γ))
  else if a0 = 43 then
  (some (15, γ))
  else if a0 = 44 then
  (some (8, γ))
  else if a0 = 45 then
  (some (16, γ))
  else if a0 = 58 then
  (some (6, γ))
  else if a0 = 59 then
  (some (7, γ))
  else if a0 = 60 then
  (some (11, γ))
  else if a0 = 61 then
  (some (9, γ))
  else if a0 = 62 then
  (some (13, γ))
  else (some (1, γ))
set_option maxHeartbeats 4000000 in
theorem c_Tk_signOfOne {Γ : Ctx} (γ : St) (a0 : Int) (ha0 : i32 a0) : NC Γ BS y_Tk_signOfOne mt_Tk_signOfOne 6 240 [vI a0] γ (f_Tk_signOfOne γ a0) := by
  refine nc_of (by decide) rfl (Nat.le_of_ble_eq_true rfl) ?_
  show SB Γ BS mt_Tk_signOfOne (RmN 6 240) 0 0 (KN Γ BS mt_Tk_signOfOne.2.2.2) 0 [(0, vI a0)] [] γ _
  unfold f_Tk_signOfOne
  refine sb_iload_n 0 d_Tk_signOfOne_0 rfl ?_
  refine sb_tc (off := 107) 40 108 ha0 d_Tk_signOfOne_1 (by decide) (by decide) (fun _ => ?_) (fun n1 => ?_)
  · refine sb_iconst d_Tk_signOfOne_108 ?_
    exact sn_i rfl (by decide) d_Tk_signOfOne_109
  refine sb_tc (off := 109) 41 110 ha0 d_Tk_signOfOne_1 (by decide) (by decide) (fun _ => ?_) (fun n2 => ?_)
  · refine sb_iconst d_Tk_signOfOne_110 ?_
    exact sn_i rfl (by decide) d_Tk_signOfOne_111
  refine sb_tc (off := 135) 42 136 ha0 d_Tk_signOfOne_1 (by decide) (by decide) (fun _ => ?_) (fun n3 => ?_)
  · refine sb_bipush d_Tk_signOfOne_136 (by decide) ?_
    exact sn_i rfl (by decide) d_Tk_signOfOne_138
  refine sb_tc (off := 129) 43 130 ha0 d_Tk_signOfOne_1 (by decide) (by decide) (fun _ => ?_) (fun n4 => ?_)
  · refine sb_bipush d_Tk_signOfOne_130 (by decide) ?_
    exact sn_i rfl (by decide) d_Tk_signOfOne_132
  refine sb_tc (off := 117) 44 118 ha0 d_Tk_signOfOne_1 (by decide) (by decide) (fun _ => ?_) (fun n5 => ?_)
  · refine sb_bipush d_Tk_signOfOne_118 (by decide) ?_
    exact sn_i rfl (by decide) d_Tk_signOfOne_120
  refine sb_tc (off := 132) 45 133 ha0 d_Tk_signOfOne_1 (by decide) (by decide) (fun _ => ?_) (fun n6 => ?_)
  · refine sb_bipush d_Tk_signOfOne_133 (by decide) ?_
    exact sn_i rfl (by decide) d_Tk_signOfOne_135
  refine sb_tc (off := 111) 58 112 ha0 d_Tk_signOfOne_1 (by decide) (by decide) (fun _ => ?_) (fun n7 => ?_)
  · refine sb_bipush d_Tk_signOfOne_112 (by decide) ?_
    exact sn_i rfl (by decide) d_Tk_signOfOne_114
  refine sb_tc (off := 114) 59 115 ha0 d_Tk_signOfOne_1 (by decide) (by decide) (fun _ => ?_) (fun n8 => ?_)
  · refine sb_bipush d_Tk_signOfOne_115 (by decide) ?_
    exact sn_i rfl (by decide) d_Tk_signOfOne_117
  refine sb_tc (off := 123) 60 124 ha0 d_Tk_signOfOne_1 (by decide) (by decide) (fun _ => ?_) (fun n9 => ?_)
  · refine sb_bipush d_Tk_signOfOne_124 (by decide) ?_
    exact sn_i rfl (by decide) d_Tk_signOfOne_126
  refine sb_tc (off := 120) 61 121 ha0 d_Tk_signOfOne_1 (by decide) (by decide) (fun _ => ?_) (fun n10 => ?_)
  · refine sb_bipush d_Tk_signOfOne_121 (by decide) ?_
    exact sn_i rfl (by decide) d_Tk_signOfOne_123
  refine sb_tc (off := 126) 62 127 ha0 d_Tk_signOfOne_1 (by decide) (by decide) (fun _ => ?_) (fun n11 => ?_)
  · refine sb_bipush d_Tk_signOfOne_127 (by decide) ?_
    exact sn_i rfl (by decide) d_Tk_signOfOne_129
  refine sb_tg (off := 138) 46 139 ha0 d_Tk_signOfOne_1 (by decide) (by decide) (fun _ => ?_) (fun n12 => ?_)
  · refine sb_iconst d_Tk_signOfOne_139 ?_
    exact sn_i rfl (by decide) d_Tk_signOfOne_140
  refine sb_tg (off := 138) 47 139 ha0 d_Tk_signOfOne_1 (by decide) (by decide) (fun _ => ?_) (fun n13 => ?_)
  · refine sb_iconst d_Tk_signOfOne_139 ?_
    exact sn_i rfl (by decide) d_Tk_signOfOne_140
  refine sb_tg (off := 138) 48 139 ha0 d_Tk_signOfOne_1 (by decide) (by decide) (fun _ => ?_) (fun n14 => ?_)
  · refine sb_iconst d_Tk_signOfOne_139 ?_
    exact sn_i rfl (by decide) d_Tk_signOfOne_140
  refine sb_tg (off := 138) 49 139 ha0 d_Tk_signOfOne_1 (by decide) (by decide) (fun _ => ?_) (fun n15 => ?_)
  · refine sb_iconst d_Tk_signOfOne_139 ?_
    exact sn_i rfl (by decide) d_Tk_signOfOne_140
  refine sb_tg (off := 138) 50 139 ha0 d_Tk_signOfOne_1 (by decide) (by decide) (fun _ => ?_) (fun n16 => ?_)
  · refine sb_iconst d_Tk_signOfOne_139 ?_
    exact sn_i rfl (by decide) d_Tk_signOfOne_140
  refine sb_tg (off := 138) 51 139 ha0 d_Tk_signOfOne_1 (by decide) (by decide) (fun _ => ?_) (fun n17 => ?_)
  · refine sb_iconst d_Tk_signOfOne_139 ?_
    exact sn_i rfl (by decide) d_Tk_signOfOne_140
  refine sb_tg (off := 138) 52 139 ha0 d_Tk_signOfOne_1 (by decide) (by decide) (fun _ => ?_) (fun n18 => ?_)
  · refine sb_iconst d_Tk_signOfOne_139 ?_
    exact sn_i rfl (by decide) d_Tk_signOfOne_140
  refine sb_tg (off := 138) 53 139 ha0 d_Tk_signOfOne_1 (by decide) (by decide) (fun _ => ?_) (fun n19 => ?_)
  · refine sb_iconst d_Tk_signOfOne_139 ?_
    exact sn_i rfl (by decide) d_Tk_signOfOne_140
  refine sb_tg (off := 138) 54 139 ha0 d_Tk_signOfOne_1 (by decide) (by decide) (fun _ => ?_) (fun n20 => ?_)
  · refine sb_iconst d_Tk_signOfOne_139 ?_
    exact sn_i rfl (by decide) d_Tk_signOfOne_140
  refine sb_tg (off := 138) 55 139 ha0 d_Tk_signOfOne_1 (by decide) (by decide) (fun _ => ?_) (fun n21 => ?_)
  · refine sb_iconst d_Tk_signOfOne_139 ?_
    exact sn_i rfl (by decide) d_Tk_signOfOne_140
  refine sb_tg (off := 138) 56 139 ha0 d_Tk_signOfOne_1 (by decide) (by decide) (fun _ => ?_) (fun n22 => ?_)
  · refine sb_iconst d_Tk_signOfOne_139 ?_
    exact sn_i rfl (by decide) d_Tk_signOfOne_140
  refine sb_tg (off := 138) 57 139 ha0 d_Tk_signOfOne_1 (by decide) (by decide) (fun _ => ?_) (fun n23 => ?_)
  · refine sb_iconst d_Tk_signOfOne_139 ?_
    exact sn_i rfl (by decide) d_Tk_signOfOne_140
  refine sb_td 139 ha0 d_Tk_signOfOne_1 (by omega) (by decide) ?_
  refine sb_iconst d_Tk_signOfOne_139 ?_
  exact sn_i rfl (by decide) d_Tk_signOfOne_140
theorem d_Tk_scanSign_0 : decode b_Tk_scanSign 0 = .ok (.iload_n 1, 1) := by decide +kernel
theorem d_Tk_scanSign_1 : decode b_Tk_scanSign 1 = .ok (.iload_n 2, 1) := by decide +kernel
theorem d_Tk_scanSign_2 : decode b_Tk_scanSign 2 = .ok (.invokestatic 91, 3) := by decide +kernel
theorem d_Tk_scanSign_5 : decode b_Tk_scanSign 5 = .ok (.istore 5, 2) := by decide +kernel
theorem d_Tk_scanSign_7 : decode b_Tk_scanSign 7 = .ok (.iload 5, 2) := by decide +kernel
theorem d_Tk_scanSign_9 : decode b_Tk_scanSign 9 = .ok (.iconst 1, 1) := by decide +kernel
theorem d_Tk_scanSign_10 : decode b_Tk_scanSign 10 = .ok (.if_icmp .eq 15, 3) := by decide +kernel
theorem d_Tk_scanSign_13 : decode b_Tk_scanSign 13 = .ok (.aload_n 0, 1) := by decide +kernel
theorem d_Tk_scanSign_14 : decode b_Tk_scanSign 14 = .ok (.iload 5, 2) := by decide +kernel
theorem d_Tk_scanSign_16 : decode b_Tk_scanSign 16 = .ok (.iload_n 3, 1) := by decide +kernel
theorem d_Tk_scanSign_17 : decode b_Tk_scanSign 17 = .ok (.iconst 0, 1) := by decide +kernel
theorem d_Tk_scanSign_18 : decode b_Tk_scanSign 18 = .ok (.invokevirtual 55, 3) := by decide +kernel
theorem d_Tk_scanSign_21 : decode b_Tk_scanSign 21 = .ok (.iload_n 3, 1) := by decide +kernel
theorem d_Tk_scanSign_22 : decode b_Tk_scanSign 22 = .ok (.iconst 2, 1) := by decide +kernel
theorem d_Tk_scanSign_23 : decode b_Tk_scanSign 23 = .ok (.iadd, 1) := by decide +kernel
theorem d_Tk_scanSign_24 : decode b_Tk_scanSign 24 = .ok (.ireturn, 1) := by decide +kernel
theorem d_Tk_scanSign_25 : decode b_Tk_scanSign 25 = .ok (.iload_n 1, 1) := by decide +kernel
theorem d_Tk_scanSign_26 : decode b_Tk_scanSign 26 = .ok (.invokestatic 94, 3) := by decide +kernel
theorem d_Tk_scanSign_29 : decode b_Tk_scanSign 29 = .ok (.istore 6, 2) := by decide +kernel
theorem d_Tk_scanSign_31 : decode b_Tk_scanSign 31 = .ok (.iload 6, 2) := by decide +kernel
theorem d_Tk_scanSign_33 : decode b_Tk_scanSign 33 = .ok (.iconst 1, 1) := by decide +kernel
theorem d_Tk_scanSign_34 : decode b_Tk_scanSign 34 = .ok (.if_icmp .ne 11, 3) := by decide +kernel
theorem d_Tk_scanSign_37 : decode b_Tk_scanSign 37 = .ok (.aload_n 0, 1) := by decide +kernel
theorem d_Tk_scanSign_38 : decode b_Tk_scanSign 38 = .ok (.iload_n 3, 1) := by decide +kernel
theorem d_Tk_scanSign_39 : decode b_Tk_scanSign 39 = .ok (.iload 4, 2) := by decide +kernel
theorem d_Tk_scanSign_41 : decode b_Tk_scanSign 41 = .ok (.invokevirtual 88, 3) := by decide +kernel
theorem d_Tk_scanSign_44 : decode b_Tk_scanSign 44 = .ok (.ireturn, 1) := by decide +kernel
theorem d_Tk_scanSign_45 : decode b_Tk_scanSign 45 = .ok (.aload_n 0, 1) := by decide +kernel
theorem d_Tk_scanSign_46 : decode b_Tk_scanSign 46 = .ok (.iload 6, 2) := by decide +kernel
theorem d_Tk_scanSign_48 : decode b_Tk_scanSign 48 = .ok (.iload_n 3, 1) := by decide +kernel
theorem d_Tk_scanSign_49 : decode b_Tk_scanSign 49 = .ok (.iconst 0, 1) := by decide +kernel
theorem d_Tk_scanSign_50 : decode b_Tk_scanSign 50 = .ok (.invokevirtual 55, 3) := by decide +kernel
theorem d_Tk_scanSign_53 : decode b_Tk_scanSign 53 = .ok (.iload_n 3, 1) := by decide +kernel
theorem d_Tk_scanSign_54 : decode b_Tk_scanSign 54 = .ok (.iconst 1, 1) := by decide +kernel
theorem d_Tk_scanSign_55 : decode b_Tk_scanSign 55 = .ok (.iadd, 1) := by decide +kernel
theorem d_Tk_scanSign_56 : decode b_Tk_scanSign 56 = .ok (.ireturn, 1) := by decide +kernel
abbrev mt_Tk_scanSign : MT := (R_Tk, b_Tk_scanSign, 7, some .int)
theorem vf_Tk_scanSign : VF y_Tk_scanSign mt_Tk_scanSign 10 4 := ⟨im_Tk_scanSign, se_Tk_scanSign, in_Tk, co_Tk_scanSign, by decide +kernel, _, _, rfl⟩
def f_Tk_scanSign (γ : St) (a0 : Int) (a1 : Int) (a2 : Int) (a3 : Int) : Option (Int × St) :=
  bndN (f_Tk_signOfTwo γ a0 a1) fun r1 γ2 =>
  if r1 = 1 then
  (bndN (f_Tk_signOfOne γ2 a0) fun r3 γ4 =>
  if r3 ≠ 1 then
  (bndN (f_Tk_add γ4 r3 a2 0) fun _ γ6 =>
  chk (i32 (a2 + 1)) (some (a2 + 1, γ6)))
  else
  (bndN (f_Tk_addBad γ4 a2 a3) fun r8 γ9 =>
  some (r8, γ9)))
  else
  (bndN (f_Tk_add γ2 r1 a2 0) fun _ γ11 =>
  chk (i32 (a2 + 2)) (some (a2 + 2, γ11)))
set_option maxHeartbeats 4000000 in
theorem c_Tk_scanSign {Γ : Ctx} (γ : St) (a0 : Int) (a1 : Int) (a2 : Int) (a3 : Int) (ha0 : i32 a0) (ha1 : i32 a1) (ha2 : i32 a2) (ha3 : i32 a3) : NC Γ BS y_Tk_scanSign mt_Tk_scanSign 8 285 [vR Γ 1, vI a0, vI a1, vI a2, vI a3] γ (f_Tk_scanSign γ a0 a1 a2 a3) := by
  refine nc_of (by decide) rfl (Nat.le_of_ble_eq_true rfl) ?_
  show SB Γ BS mt_Tk_scanSign (RmN 8 285) 0 0 (KN Γ BS mt_Tk_scanSign.2.2.2) 0 [(0, vR Γ 1), (1, vI a0), (2, vI a1), (3, vI a2), (4, vI a3)] [] γ _
  unfold f_Tk_scanSign
  refine sb_iload_n 1 d_Tk_scanSign_0 rfl ?_
  refine sb_iload_n 2 d_Tk_scanSign_1 rfl ?_
  refine sb_cSi vf_Tk_signOfTwo rfl (c_Tk_signOfTwo γ a0 a1 ha0 ha1) ml_Tk_91 (As := [vI a0, vI a1]) rfl rfl (Nat.le_of_ble_eq_true rfl) ⟨by decide, by decide⟩ d_Tk_scanSign_2 (fun r1 γ2 hr1 => ?_)
  refine sb_istore [(5, vI r1), (0, vR Γ 1), (1, vI a0), (2, vI a1), (3, vI a2), (4, vI a3)] d_Tk_scanSign_5 (by decide) rfl ?_
  refine sb_iload 0 d_Tk_scanSign_7 rfl ?_
  refine sb_iconst d_Tk_scanSign_9 ?_
  refine sb_icmp_eq 25 hr1 (by decide) d_Tk_scanSign_10 (by decide) (fun _ => ?_) (fun _ => ?_)
  · refine sb_iload_n 2 d_Tk_scanSign_25 rfl ?_
    refine sb_cSi vf_Tk_signOfOne rfl (c_Tk_signOfOne γ2 a0 ha0) ml_Tk_94 (As := [vI a0]) rfl rfl (Nat.le_of_ble_eq_true rfl) ⟨by decide, by decide⟩ d_Tk_scanSign_26 (fun r3 γ4 hr3 => ?_)
    refine sb_istore [(6, vI r3), (5, vI r1), (0, vR Γ 1), (1, vI a0), (2, vI a1), (3, vI a2), (4, vI a3)] d_Tk_scanSign_29 (by decide) rfl ?_
    refine sb_iload 0 d_Tk_scanSign_31 rfl ?_
    refine sb_iconst d_Tk_scanSign_33 ?_
    refine sb_icmp_ne 45 hr3 (by decide) d_Tk_scanSign_34 (by decide) (fun _ => ?_) (fun _ => ?_)
    · refine sb_aload_n 2 d_Tk_scanSign_45 rfl ?_
      refine sb_iload 0 d_Tk_scanSign_46 rfl ?_
      refine sb_iload_n 5 d_Tk_scanSign_48 rfl ?_
      refine sb_iconst d_Tk_scanSign_49 ?_
      refine sb_cVv vf_Tk_add (c_Tk_add γ4 r3 a2 0 hr3 ha2 (by decide)) rfl ml_Tk_55 (As := [vI r3, vI a2, vI 0]) rfl rfl (Nat.le_of_ble_eq_true rfl) ⟨by decide, by decide⟩ d_Tk_scanSign_50 (fun _ γ6 => ?_)
      refine sb_iload_n 5 d_Tk_scanSign_53 rfl ?_
      refine sb_iconst d_Tk_scanSign_54 ?_
      refine sb_iadd d_Tk_scanSign_55 ?_
      refine sb_chk (fun c7 => ?_)
      exact sn_i rfl c7 d_Tk_scanSign_56
    · refine sb_aload_n 2 d_Tk_scanSign_37 rfl ?_
      refine sb_iload_n 5 d_Tk_scanSign_38 rfl ?_
      refine sb_iload 6 d_Tk_scanSign_39 rfl ?_
      refine sb_cVi vf_Tk_addBad (c_Tk_addBad γ4 a2 a3 ha2 ha3) rfl ml_Tk_88 (As := [vI a2, vI a3]) rfl rfl (Nat.le_of_ble_eq_true rfl) ⟨by decide, by decide⟩ d_Tk_scanSign_41 (fun r8 γ9 hr8 => ?_)
      exact sn_i rfl hr8 d_Tk_scanSign_44
  · refine sb_aload_n 1 d_Tk_scanSign_13 rfl ?_
    refine sb_iload 0 d_Tk_scanSign_14 rfl ?_
    refine sb_iload_n 4 d_Tk_scanSign_16 rfl ?_
    refine sb_iconst d_Tk_scanSign_17 ?_
    refine sb_cVv vf_Tk_add (c_Tk_add γ2 r1 a2 0 hr1 ha2 (by decide)) rfl ml_Tk_55 (As := [vI r1, vI a2, vI 0]) rfl rfl (Nat.le_of_ble_eq_true rfl) ⟨by decide, by decide⟩ d_Tk_scanSign_18 (fun _ γ11 => ?_)
    refine sb_iload_n 4 d_Tk_scanSign_21 rfl ?_
    refine sb_iconst d_Tk_scanSign_22 ?_
    refine sb_iadd d_Tk_scanSign_23 ?_
    refine sb_chk (fun c12 => ?_)
    exact sn_i rfl c12 d_Tk_scanSign_24
theorem d_Tk_scanAt_0 : decode b_Tk_scanAt 0 = .ok (.aload_n 0, 1) := by decide +kernel
theorem d_Tk_scanAt_1 : decode b_Tk_scanAt 1 = .ok (.getfield 22, 3) := by decide +kernel
theorem d_Tk_scanAt_4 : decode b_Tk_scanAt 4 = .ok (.iload_n 1, 1) := by decide +kernel
theorem d_Tk_scanAt_5 : decode b_Tk_scanAt 5 = .ok (.baload, 1) := by decide +kernel
theorem d_Tk_scanAt_6 : decode b_Tk_scanAt 6 = .ok (.istore_n 3, 1) := by decide +kernel
theorem d_Tk_scanAt_7 : decode b_Tk_scanAt 7 = .ok (.iload_n 1, 1) := by decide +kernel
theorem d_Tk_scanAt_8 : decode b_Tk_scanAt 8 = .ok (.iconst 1, 1) := by decide +kernel
theorem d_Tk_scanAt_9 : decode b_Tk_scanAt 9 = .ok (.iadd, 1) := by decide +kernel
theorem d_Tk_scanAt_10 : decode b_Tk_scanAt 10 = .ok (.iload_n 2, 1) := by decide +kernel
theorem d_Tk_scanAt_11 : decode b_Tk_scanAt 11 = .ok (.if_icmp .ge 14, 3) := by decide +kernel
theorem d_Tk_scanAt_14 : decode b_Tk_scanAt 14 = .ok (.aload_n 0, 1) := by decide +kernel
theorem d_Tk_scanAt_15 : decode b_Tk_scanAt 15 = .ok (.getfield 22, 3) := by decide +kernel
theorem d_Tk_scanAt_18 : decode b_Tk_scanAt 18 = .ok (.iload_n 1, 1) := by decide +kernel
theorem d_Tk_scanAt_19 : decode b_Tk_scanAt 19 = .ok (.iconst 1, 1) := by decide +kernel
theorem d_Tk_scanAt_20 : decode b_Tk_scanAt 20 = .ok (.iadd, 1) := by decide +kernel
theorem d_Tk_scanAt_21 : decode b_Tk_scanAt 21 = .ok (.baload, 1) := by decide +kernel
theorem d_Tk_scanAt_22 : decode b_Tk_scanAt 22 = .ok (.goto 4, 3) := by decide +kernel
theorem d_Tk_scanAt_25 : decode b_Tk_scanAt 25 = .ok (.iconst 0, 1) := by decide +kernel
theorem d_Tk_scanAt_26 : decode b_Tk_scanAt 26 = .ok (.istore 4, 2) := by decide +kernel
theorem d_Tk_scanAt_28 : decode b_Tk_scanAt 28 = .ok (.iload_n 3, 1) := by decide +kernel
theorem d_Tk_scanAt_29 : decode b_Tk_scanAt 29 = .ok (.bipush 32, 2) := by decide +kernel
theorem d_Tk_scanAt_31 : decode b_Tk_scanAt 31 = .ok (.if_icmp .eq 21, 3) := by decide +kernel
theorem d_Tk_scanAt_34 : decode b_Tk_scanAt 34 = .ok (.iload_n 3, 1) := by decide +kernel
theorem d_Tk_scanAt_35 : decode b_Tk_scanAt 35 = .ok (.bipush 9, 2) := by decide +kernel
theorem d_Tk_scanAt_37 : decode b_Tk_scanAt 37 = .ok (.if_icmp .eq 15, 3) := by decide +kernel
theorem d_Tk_scanAt_40 : decode b_Tk_scanAt 40 = .ok (.iload_n 3, 1) := by decide +kernel
theorem d_Tk_scanAt_41 : decode b_Tk_scanAt 41 = .ok (.bipush 10, 2) := by decide +kernel
theorem d_Tk_scanAt_43 : decode b_Tk_scanAt 43 = .ok (.if_icmp .eq 9, 3) := by decide +kernel
theorem d_Tk_scanAt_46 : decode b_Tk_scanAt 46 = .ok (.iload_n 3, 1) := by decide +kernel
theorem d_Tk_scanAt_47 : decode b_Tk_scanAt 47 = .ok (.bipush 13, 2) := by decide +kernel
theorem d_Tk_scanAt_49 : decode b_Tk_scanAt 49 = .ok (.if_icmp .ne 7, 3) := by decide +kernel
theorem d_Tk_scanAt_52 : decode b_Tk_scanAt 52 = .ok (.iload_n 1, 1) := by decide +kernel
theorem d_Tk_scanAt_53 : decode b_Tk_scanAt 53 = .ok (.iconst 1, 1) := by decide +kernel
theorem d_Tk_scanAt_54 : decode b_Tk_scanAt 54 = .ok (.iadd, 1) := by decide +kernel
theorem d_Tk_scanAt_55 : decode b_Tk_scanAt 55 = .ok (.ireturn, 1) := by decide +kernel
theorem d_Tk_scanAt_56 : decode b_Tk_scanAt 56 = .ok (.iload_n 3, 1) := by decide +kernel
theorem d_Tk_scanAt_57 : decode b_Tk_scanAt 57 = .ok (.invokestatic 66, 3) := by decide +kernel
theorem d_Tk_scanAt_60 : decode b_Tk_scanAt 60 = .ok (.ifCond .eq 10, 3) := by decide +kernel
theorem d_Tk_scanAt_63 : decode b_Tk_scanAt 63 = .ok (.aload_n 0, 1) := by decide +kernel
theorem d_Tk_scanAt_64 : decode b_Tk_scanAt 64 = .ok (.iload_n 1, 1) := by decide +kernel
theorem d_Tk_scanAt_65 : decode b_Tk_scanAt 65 = .ok (.iload_n 2, 1) := by decide +kernel
theorem d_Tk_scanAt_66 : decode b_Tk_scanAt 66 = .ok (.invokevirtual 69, 3) := by decide +kernel
theorem d_Tk_scanAt_69 : decode b_Tk_scanAt 69 = .ok (.ireturn, 1) := by decide +kernel
theorem d_Tk_scanAt_70 : decode b_Tk_scanAt 70 = .ok (.iload_n 3, 1) := by decide +kernel
theorem d_Tk_scanAt_71 : decode b_Tk_scanAt 71 = .ok (.invokestatic 72, 3) := by decide +kernel
theorem d_Tk_scanAt_74 : decode b_Tk_scanAt 74 = .ok (.ifCond .eq 10, 3) := by decide +kernel
theorem d_Tk_scanAt_77 : decode b_Tk_scanAt 77 = .ok (.aload_n 0, 1) := by decide +kernel
theorem d_Tk_scanAt_78 : decode b_Tk_scanAt 78 = .ok (.iload_n 1, 1) := by decide +kernel
theorem d_Tk_scanAt_79 : decode b_Tk_scanAt 79 = .ok (.iload_n 2, 1) := by decide +kernel
theorem d_Tk_scanAt_80 : decode b_Tk_scanAt 80 = .ok (.invokevirtual 75, 3) := by decide +kernel
theorem d_Tk_scanAt_83 : decode b_Tk_scanAt 83 = .ok (.ireturn, 1) := by decide +kernel
theorem d_Tk_scanAt_84 : decode b_Tk_scanAt 84 = .ok (.iload_n 3, 1) := by decide +kernel
theorem d_Tk_scanAt_85 : decode b_Tk_scanAt 85 = .ok (.bipush 45, 2) := by decide +kernel
theorem d_Tk_scanAt_87 : decode b_Tk_scanAt 87 = .ok (.if_icmp .ne 17, 3) := by decide +kernel
theorem d_Tk_scanAt_90 : decode b_Tk_scanAt 90 = .ok (.iload 4, 2) := by decide +kernel
theorem d_Tk_scanAt_92 : decode b_Tk_scanAt 92 = .ok (.bipush 45, 2) := by decide +kernel
theorem d_Tk_scanAt_94 : decode b_Tk_scanAt 94 = .ok (.if_icmp .ne 10, 3) := by decide +kernel
theorem d_Tk_scanAt_97 : decode b_Tk_scanAt 97 = .ok (.aload_n 0, 1) := by decide +kernel
theorem d_Tk_scanAt_98 : decode b_Tk_scanAt 98 = .ok (.iload_n 1, 1) := by decide +kernel
theorem d_Tk_scanAt_99 : decode b_Tk_scanAt 99 = .ok (.iload_n 2, 1) := by decide +kernel
theorem d_Tk_scanAt_100 : decode b_Tk_scanAt 100 = .ok (.invokevirtual 78, 3) := by decide +kernel
theorem d_Tk_scanAt_103 : decode b_Tk_scanAt 103 = .ok (.ireturn, 1) := by decide +kernel
theorem d_Tk_scanAt_104 : decode b_Tk_scanAt 104 = .ok (.aload_n 0, 1) := by decide +kernel
theorem d_Tk_scanAt_105 : decode b_Tk_scanAt 105 = .ok (.iload_n 3, 1) := by decide +kernel
theorem d_Tk_scanAt_106 : decode b_Tk_scanAt 106 = .ok (.iload 4, 2) := by decide +kernel
theorem d_Tk_scanAt_108 : decode b_Tk_scanAt 108 = .ok (.iload_n 1, 1) := by decide +kernel
theorem d_Tk_scanAt_109 : decode b_Tk_scanAt 109 = .ok (.iload_n 2, 1) := by decide +kernel
theorem d_Tk_scanAt_110 : decode b_Tk_scanAt 110 = .ok (.invokevirtual 81, 3) := by decide +kernel
theorem d_Tk_scanAt_113 : decode b_Tk_scanAt 113 = .ok (.ireturn, 1) := by decide +kernel
abbrev mt_Tk_scanAt : MT := (R_Tk, b_Tk_scanAt, 5, some .int)
theorem vf_Tk_scanAt : VF y_Tk_scanAt mt_Tk_scanAt 10 2 := ⟨im_Tk_scanAt, se_Tk_scanAt, in_Tk, co_Tk_scanAt, by decide +kernel, _, _, rfl⟩
def f_Tk_scanAt_b104 (γ : St) (x1 : Int) (x2 : Int) (x3 : Int) (x4 : Int) : Option (Int × St) :=
  bndN (f_Tk_scanSign γ x3 x4 x1 x2) fun r5 γ6 =>
  some (r5, γ6)
def f_Tk_scanAt_b26 (γ : St) (x7 : Int) (x8 : Int) (x9 : Int) (x10 : Int) : Option (Int × St) :=
  if x9 = 32 then
  (chk (i32 (x7 + 1)) (some (x7 + 1, γ)))
  else
  (if x9 = 9 then
  (chk (i32 (x7 + 1)) (some (x7 + 1, γ)))
  else
  (if x9 = 10 then
  (chk (i32 (x7 + 1)) (some (x7 + 1, γ)))
  else
  (if x9 ≠ 13 then
  (bndN (f_Tk_isLetter γ x9) fun r14 γ15 =>
  if r14 = 0 then
  (bndN (f_Tk_isDigit γ15 x9) fun r16 γ17 =>
  if r16 = 0 then
  (if x9 ≠ 45 then
  (f_Tk_scanAt_b104 γ17 x7 x8 x9 x10)
  else
  (if x10 ≠ 45 then
  (f_Tk_scanAt_b104 γ17 x7 x8 x9 x10)
  else
  (bndN (f_Tk_lineEnd γ17 x7 x8) fun r18 γ19 =>
  some (r18, γ19))))
  else
  (bndN (f_Tk_scanNumber γ17 x7 x8) fun r20 γ21 =>
  some (r20, γ21)))
  else
  (bndN (f_Tk_scanWord γ15 x7 x8) fun r22 γ23 =>
  some (r22, γ23)))
  else
  (chk (i32 (x7 + 1)) (some (x7 + 1, γ))))))
def f_Tk_scanAt (γ : St) (a0 : Int) (a1 : Int) : Option (Int × St) :=
  chk (inb a0 65638) (ap (γ 13 a0) fun x27 =>
  chk (i32 (a0 + 1)) (if a1 ≤ (a0 + 1) then
  (f_Tk_scanAt_b26 γ a0 a1 x27 0)
  else
  (chk (i32 (a0 + 1)) (chk (inb (a0 + 1) 65638) (f_Tk_scanAt_b26 γ a0 a1 x27 (γ 13 (a0 + 1)))))))
set_option maxHeartbeats 4000000 in
theorem s_Tk_scanAt_b104 {Γ : Ctx} : ∀ (γ : St) (x1 : Int) (x2 : Int) (x3 : Int) (x4 : Int), i32 x1 → i32 x2 → i32 x3 → i32 x4 → SB Γ BS mt_Tk_scanAt (RmN 9 314) 0 0 (KN Γ BS mt_Tk_scanAt.2.2.2) 104 [(0, vR Γ 1), (1, vI x1), (2, vI x2), (3, vI x3), (4, vI x4)] [] γ (f_Tk_scanAt_b104 γ x1 x2 x3 x4) := by
  intro γ x1 x2 x3 x4 hx1 hx2 hx3 hx4
  unfold f_Tk_scanAt_b104
  refine sb_aload_n 0 d_Tk_scanAt_104 rfl ?_
  refine sb_iload_n 3 d_Tk_scanAt_105 rfl ?_
  refine sb_iload 4 d_Tk_scanAt_106 rfl ?_
  refine sb_iload_n 1 d_Tk_scanAt_108 rfl ?_
  refine sb_iload_n 2 d_Tk_scanAt_109 rfl ?_
  refine sb_cVi vf_Tk_scanSign (c_Tk_scanSign γ x3 x4 x1 x2 hx3 hx4 hx1 hx2) rfl ml_Tk_81 (As := [vI x3, vI x4, vI x1, vI x2]) rfl rfl (Nat.le_of_ble_eq_true rfl) ⟨by decide, by decide⟩ d_Tk_scanAt_110 (fun r5 γ6 hr5 => ?_)
  exact sn_i rfl hr5 d_Tk_scanAt_113
set_option maxHeartbeats 4000000 in
theorem s_Tk_scanAt_b26 {Γ : Ctx} : ∀ (γ : St) (x7 : Int) (x8 : Int) (x9 : Int) (x10 : Int), i32 x7 → i32 x8 → i32 x9 → i32 x10 → SB Γ BS mt_Tk_scanAt (RmN 9 314) 0 0 (KN Γ BS mt_Tk_scanAt.2.2.2) 26 [(0, vR Γ 1), (1, vI x7), (2, vI x8), (3, vI x9)] [vI x10] γ (f_Tk_scanAt_b26 γ x7 x8 x9 x10) := by
  intro γ x7 x8 x9 x10 hx7 hx8 hx9 hx10
  unfold f_Tk_scanAt_b26
  refine sb_istore [(4, vI x10), (0, vR Γ 1), (1, vI x7), (2, vI x8), (3, vI x9)] d_Tk_scanAt_26 (by decide) rfl ?_
  refine sb_iload_n 4 d_Tk_scanAt_28 rfl ?_
  refine sb_bipush d_Tk_scanAt_29 (by decide) ?_
  refine sb_icmp_eq 52 hx9 (by decide) d_Tk_scanAt_31 (by decide) (fun _ => ?_) (fun _ => ?_)
  · refine sb_iload_n 2 d_Tk_scanAt_52 rfl ?_
    refine sb_iconst d_Tk_scanAt_53 ?_
    refine sb_iadd d_Tk_scanAt_54 ?_
    refine sb_chk (fun c11 => ?_)
    exact sn_i rfl c11 d_Tk_scanAt_55
  · refine sb_iload_n 4 d_Tk_scanAt_34 rfl ?_
    refine sb_bipush d_Tk_scanAt_35 (by decide) ?_
    refine sb_icmp_eq 52 hx9 (by decide) d_Tk_scanAt_37 (by decide) (fun _ => ?_) (fun _ => ?_)
    · refine sb_iload_n 2 d_Tk_scanAt_52 rfl ?_
      refine sb_iconst d_Tk_scanAt_53 ?_
      refine sb_iadd d_Tk_scanAt_54 ?_
      refine sb_chk (fun c12 => ?_)
      exact sn_i rfl c12 d_Tk_scanAt_55
    · refine sb_iload_n 4 d_Tk_scanAt_40 rfl ?_
      refine sb_bipush d_Tk_scanAt_41 (by decide) ?_
      refine sb_icmp_eq 52 hx9 (by decide) d_Tk_scanAt_43 (by decide) (fun _ => ?_) (fun _ => ?_)
      · refine sb_iload_n 2 d_Tk_scanAt_52 rfl ?_
        refine sb_iconst d_Tk_scanAt_53 ?_
        refine sb_iadd d_Tk_scanAt_54 ?_
        refine sb_chk (fun c13 => ?_)
        exact sn_i rfl c13 d_Tk_scanAt_55
      · refine sb_iload_n 4 d_Tk_scanAt_46 rfl ?_
        refine sb_bipush d_Tk_scanAt_47 (by decide) ?_
        refine sb_icmp_ne 56 hx9 (by decide) d_Tk_scanAt_49 (by decide) (fun _ => ?_) (fun _ => ?_)
        · refine sb_iload_n 4 d_Tk_scanAt_56 rfl ?_
          refine sb_cSz vf_Tk_isLetter rfl (c_Tk_isLetter γ x9 hx9) ml_Tk_66 (As := [vI x9]) rfl rfl (Nat.le_of_ble_eq_true rfl) ⟨by decide, by decide⟩ d_Tk_scanAt_57 (fun r14 γ15 hr14 => ?_)
          refine sb_if_eq 70 (z2i hr14) d_Tk_scanAt_60 (by decide) (fun _ => ?_) (fun _ => ?_)
          · refine sb_iload_n 4 d_Tk_scanAt_70 rfl ?_
            refine sb_cSz vf_Tk_isDigit rfl (c_Tk_isDigit γ15 x9 hx9) ml_Tk_72 (As := [vI x9]) rfl rfl (Nat.le_of_ble_eq_true rfl) ⟨by decide, by decide⟩ d_Tk_scanAt_71 (fun r16 γ17 hr16 => ?_)
            refine sb_if_eq 84 (z2i hr16) d_Tk_scanAt_74 (by decide) (fun _ => ?_) (fun _ => ?_)
            · refine sb_iload_n 4 d_Tk_scanAt_84 rfl ?_
              refine sb_bipush d_Tk_scanAt_85 (by decide) ?_
              refine sb_icmp_ne 104 hx9 (by decide) d_Tk_scanAt_87 (by decide) (fun _ => ?_) (fun _ => ?_)
              · exact sb_lv [1, 2, 3, 4, 0] rfl (s_Tk_scanAt_b104 γ17 x7 x8 x9 x10 hx7 hx8 hx9 hx10)
              · refine sb_iload 0 d_Tk_scanAt_90 rfl ?_
                refine sb_bipush d_Tk_scanAt_92 (by decide) ?_
                refine sb_icmp_ne 104 hx10 (by decide) d_Tk_scanAt_94 (by decide) (fun _ => ?_) (fun _ => ?_)
                · exact sb_lv [1, 2, 3, 4, 0] rfl (s_Tk_scanAt_b104 γ17 x7 x8 x9 x10 hx7 hx8 hx9 hx10)
                · refine sb_aload_n 1 d_Tk_scanAt_97 rfl ?_
                  refine sb_iload_n 2 d_Tk_scanAt_98 rfl ?_
                  refine sb_iload_n 3 d_Tk_scanAt_99 rfl ?_
                  refine sb_cVi vf_Tk_lineEnd (c_Tk_lineEnd γ17 x7 x8 hx7 hx8) rfl ml_Tk_78 (As := [vI x7, vI x8]) rfl rfl (Nat.le_of_ble_eq_true rfl) ⟨by decide, by decide⟩ d_Tk_scanAt_100 (fun r18 γ19 hr18 => ?_)
                  exact sn_i rfl hr18 d_Tk_scanAt_103
            · refine sb_aload_n 1 d_Tk_scanAt_77 rfl ?_
              refine sb_iload_n 2 d_Tk_scanAt_78 rfl ?_
              refine sb_iload_n 3 d_Tk_scanAt_79 rfl ?_
              refine sb_cVi vf_Tk_scanNumber (c_Tk_scanNumber γ17 x7 x8 hx7 hx8) rfl ml_Tk_75 (As := [vI x7, vI x8]) rfl rfl (Nat.le_of_ble_eq_true rfl) ⟨by decide, by decide⟩ d_Tk_scanAt_80 (fun r20 γ21 hr20 => ?_)
              exact sn_i rfl hr20 d_Tk_scanAt_83
          · refine sb_aload_n 1 d_Tk_scanAt_63 rfl ?_
            refine sb_iload_n 2 d_Tk_scanAt_64 rfl ?_
            refine sb_iload_n 3 d_Tk_scanAt_65 rfl ?_
            refine sb_cVi vf_Tk_scanWord (c_Tk_scanWord γ15 x7 x8 hx7 hx8) rfl ml_Tk_69 (As := [vI x7, vI x8]) rfl rfl (Nat.le_of_ble_eq_true rfl) ⟨by decide, by decide⟩ d_Tk_scanAt_66 (fun r22 γ23 hr22 => ?_)
            exact sn_i rfl hr22 d_Tk_scanAt_69
        · refine sb_iload_n 2 d_Tk_scanAt_52 rfl ?_
          refine sb_iconst d_Tk_scanAt_53 ?_
          refine sb_iadd d_Tk_scanAt_54 ?_
          refine sb_chk (fun c24 => ?_)
          exact sn_i rfl c24 d_Tk_scanAt_55
set_option maxHeartbeats 4000000 in
theorem c_Tk_scanAt {Γ : Ctx} (γ : St) (a0 : Int) (a1 : Int) (ha0 : i32 a0) (ha1 : i32 a1) : NC Γ BS y_Tk_scanAt mt_Tk_scanAt 9 314 [vR Γ 1, vI a0, vI a1] γ (f_Tk_scanAt γ a0 a1) := by
  refine nc_of (by decide) rfl (Nat.le_of_ble_eq_true rfl) ?_
  show SB Γ BS mt_Tk_scanAt (RmN 9 314) 0 0 (KN Γ BS mt_Tk_scanAt.2.2.2) 0 [(0, vR Γ 1), (1, vI a0), (2, vI a1)] [] γ _
  unfold f_Tk_scanAt
  refine sb_aload_n 0 d_Tk_scanAt_0 rfl ?_
  refine g_Tk_22 d_Tk_scanAt_1 ?_
  refine sb_iload_n 1 d_Tk_scanAt_4 rfl ?_
  refine al_S_13 d_Tk_scanAt_5 (fun _ c26 => ?_)
  refine sb_istore_n [(3, vI (γ 13 a0)), (0, vR Γ 1), (1, vI a0), (2, vI a1)] d_Tk_scanAt_6 (by decide) rfl ?_
  refine sb_nme (e := γ 13 a0) (fun x27 => [(3, vI x27), (0, vR Γ 1), (1, vI a0), (2, vI a1)]) c26 (fun x27 hx27 => ?_)
  refine sb_iload_n 2 d_Tk_scanAt_7 rfl ?_
  refine sb_iconst d_Tk_scanAt_8 ?_
  refine sb_iadd d_Tk_scanAt_9 ?_
  refine sb_chk (fun c28 => ?_)
  refine sb_iload_n 3 d_Tk_scanAt_10 rfl ?_
  refine sb_icmp_ge 25 c28 ha1 d_Tk_scanAt_11 (by decide) (fun _ => ?_) (fun _ => ?_)
  · refine sb_iconst d_Tk_scanAt_25 ?_
    exact sb_lv [1, 2, 3, 0] rfl (s_Tk_scanAt_b26 γ a0 a1 x27 0 ha0 ha1 hx27 (by decide))
  · refine sb_aload_n 1 d_Tk_scanAt_14 rfl ?_
    refine g_Tk_22 d_Tk_scanAt_15 ?_
    refine sb_iload_n 2 d_Tk_scanAt_18 rfl ?_
    refine sb_iconst d_Tk_scanAt_19 ?_
    refine sb_iadd d_Tk_scanAt_20 ?_
    refine sb_chk (fun c30 => ?_)
    refine al_S_13 d_Tk_scanAt_21 (fun _ c31 => ?_)
    refine sb_goto 26 d_Tk_scanAt_22 (by decide) ?_
    exact sb_lv [1, 2, 3, 0] rfl (s_Tk_scanAt_b26 γ a0 a1 x27 (γ 13 (a0 + 1)) ha0 ha1 hx27 c31)
theorem d_Tk_scan_0 : decode b_Tk_scan 0 = .ok (.aload_n 0, 1) := by decide +kernel
theorem d_Tk_scan_1 : decode b_Tk_scan 1 = .ok (.getfield 31, 3) := by decide +kernel
theorem d_Tk_scan_4 : decode b_Tk_scan 4 = .ok (.invokevirtual 35, 3) := by decide +kernel
theorem d_Tk_scan_7 : decode b_Tk_scan 7 = .ok (.aload_n 0, 1) := by decide +kernel
theorem d_Tk_scan_8 : decode b_Tk_scan 8 = .ok (.iconst 0, 1) := by decide +kernel
theorem d_Tk_scan_9 : decode b_Tk_scan 9 = .ok (.putfield 38, 3) := by decide +kernel
theorem d_Tk_scan_12 : decode b_Tk_scan 12 = .ok (.aload_n 0, 1) := by decide +kernel
theorem d_Tk_scan_13 : decode b_Tk_scan 13 = .ok (.iconst 0, 1) := by decide +kernel
theorem d_Tk_scan_14 : decode b_Tk_scan 14 = .ok (.putfield 42, 3) := by decide +kernel
theorem d_Tk_scan_17 : decode b_Tk_scan 17 = .ok (.aload_n 0, 1) := by decide +kernel
theorem d_Tk_scan_18 : decode b_Tk_scan 18 = .ok (.iconst 0, 1) := by decide +kernel
theorem d_Tk_scan_19 : decode b_Tk_scan 19 = .ok (.putfield 45, 3) := by decide +kernel
theorem d_Tk_scan_22 : decode b_Tk_scan 22 = .ok (.aload_n 0, 1) := by decide +kernel
theorem d_Tk_scan_23 : decode b_Tk_scan 23 = .ok (.iconst 0, 1) := by decide +kernel
theorem d_Tk_scan_24 : decode b_Tk_scan 24 = .ok (.putfield 48, 3) := by decide +kernel
theorem d_Tk_scan_27 : decode b_Tk_scan 27 = .ok (.iconst 0, 1) := by decide +kernel
theorem d_Tk_scan_28 : decode b_Tk_scan 28 = .ok (.istore_n 2, 1) := by decide +kernel
theorem d_Tk_scan_29 : decode b_Tk_scan 29 = .ok (.iconst 0, 1) := by decide +kernel
theorem d_Tk_scan_30 : decode b_Tk_scan 30 = .ok (.istore_n 3, 1) := by decide +kernel
theorem d_Tk_scan_31 : decode b_Tk_scan 31 = .ok (.iload_n 3, 1) := by decide +kernel
theorem d_Tk_scan_32 : decode b_Tk_scan 32 = .ok (.iload_n 1, 1) := by decide +kernel
theorem d_Tk_scan_33 : decode b_Tk_scan 33 = .ok (.if_icmp .ge 21, 3) := by decide +kernel
theorem d_Tk_scan_36 : decode b_Tk_scan 36 = .ok (.iload_n 2, 1) := by decide +kernel
theorem d_Tk_scan_37 : decode b_Tk_scan 37 = .ok (.iload_n 1, 1) := by decide +kernel
theorem d_Tk_scan_38 : decode b_Tk_scan 38 = .ok (.if_icmp .ge 16, 3) := by decide +kernel
theorem d_Tk_scan_41 : decode b_Tk_scan 41 = .ok (.aload_n 0, 1) := by decide +kernel
theorem d_Tk_scan_42 : decode b_Tk_scan 42 = .ok (.iload_n 2, 1) := by decide +kernel
theorem d_Tk_scan_43 : decode b_Tk_scan 43 = .ok (.iload_n 1, 1) := by decide +kernel
theorem d_Tk_scan_44 : decode b_Tk_scan 44 = .ok (.invokevirtual 51, 3) := by decide +kernel
theorem d_Tk_scan_47 : decode b_Tk_scan 47 = .ok (.istore_n 2, 1) := by decide +kernel
theorem d_Tk_scan_48 : decode b_Tk_scan 48 = .ok (.iinc 3 1, 3) := by decide +kernel
theorem d_Tk_scan_51 : decode b_Tk_scan 51 = .ok (.goto (-20), 3) := by decide +kernel
theorem d_Tk_scan_54 : decode b_Tk_scan 54 = .ok (.aload_n 0, 1) := by decide +kernel
theorem d_Tk_scan_55 : decode b_Tk_scan 55 = .ok (.iconst 0, 1) := by decide +kernel
theorem d_Tk_scan_56 : decode b_Tk_scan 56 = .ok (.iload_n 1, 1) := by decide +kernel
theorem d_Tk_scan_57 : decode b_Tk_scan 57 = .ok (.iconst 0, 1) := by decide +kernel
theorem d_Tk_scan_58 : decode b_Tk_scan 58 = .ok (.invokevirtual 55, 3) := by decide +kernel
theorem d_Tk_scan_61 : decode b_Tk_scan 61 = .ok (.return_, 1) := by decide +kernel
abbrev mt_Tk_scan : MT := (R_Tk, b_Tk_scan, 4, none)
theorem vf_Tk_scan : VF y_Tk_scan mt_Tk_scan 10 1 := ⟨im_Tk_scan, se_Tk_scan, in_Tk, co_Tk_scan, by decide +kernel, _, _, rfl⟩
def f_Tk_scan_b54 (γ : St) (x1 : Int) : Option (Int × St) :=
  bndN (f_Tk_add γ 0 x1 0) fun _ γ3 =>
  some (0, γ3)
def f_Tk_scan_L31 (e54 : St → Int → Option (Int × St)) : Nat → St → Int → Int → Int → Option (Int × St)
  | 0, _, _, _, _ => none
  | n + 1, γ, x4, x5, x6 =>
  if x4 ≤ x6 then
  (e54 γ x4)
  else
  (if x4 ≤ x5 then
  (e54 γ x4)
  else
  (bndN (f_Tk_scanAt γ x5 x4) fun r7 γ8 =>
  chk (i32 (x6 + 1)) ((f_Tk_scan_L31 e54 n) γ8 x4 r7 (x6 + 1))))
def f_Tk_scan (γ : St) (a0 : Int) : Option (Int × St) :=
  bndN (f_Wd_begin γ) fun _ γ13 =>
  ap (setA γ13 1 5 0) fun γ14 =>
  ap (setA γ14 1 6 0) fun γ15 =>
  ap (setA γ15 1 7 0) fun γ16 =>
  ap (setA γ16 1 8 0) fun γ17 =>
  f_Tk_scan_L31 (f_Tk_scan_b54) FU γ17 a0 0 0
set_option maxHeartbeats 4000000 in
theorem s_Tk_scan_b54 {Γ : Ctx} : ∀ (γ : St) (x1 : Int), i32 x1 → SB Γ BS mt_Tk_scan (RmN 10 338) 0 0 (KN Γ BS mt_Tk_scan.2.2.2) 54 [(0, vR Γ 1), (1, vI x1)] [] γ (f_Tk_scan_b54 γ x1) := by
  intro γ x1 hx1
  unfold f_Tk_scan_b54
  refine sb_aload_n 0 d_Tk_scan_54 rfl ?_
  refine sb_iconst d_Tk_scan_55 ?_
  refine sb_iload_n 1 d_Tk_scan_56 rfl ?_
  refine sb_iconst d_Tk_scan_57 ?_
  refine sb_cVv vf_Tk_add (c_Tk_add γ 0 x1 0 (by decide) hx1 (by decide)) rfl ml_Tk_55 (As := [vI 0, vI x1, vI 0]) rfl rfl (Nat.le_of_ble_eq_true rfl) ⟨by decide, by decide⟩ d_Tk_scan_58 (fun _ γ3 => ?_)
  exact sn_v rfl d_Tk_scan_61
set_option maxHeartbeats 4000000 in
theorem s_Tk_scan_L31 {Γ : Ctx} {e54 : St → Int → Option (Int × St)} (he54 : ∀ (γ : St) (x10 : Int), i32 x10 → SB Γ BS mt_Tk_scan (RmN 10 338) 0 0 (KN Γ BS mt_Tk_scan.2.2.2) 54 [(0, vR Γ 1), (1, vI x10)] [] γ (e54 γ x10)) : ∀ (n : Nat) (γ : St) (x4 : Int) (x5 : Int) (x6 : Int), i32 x4 → i32 x5 → i32 x6 → SB Γ BS mt_Tk_scan (RmN 10 338) 0 0 (KN Γ BS mt_Tk_scan.2.2.2) 31 [(0, vR Γ 1), (1, vI x4), (2, vI x5), (3, vI x6)] [] γ (f_Tk_scan_L31 e54 n γ x4 x5 x6) := by
  intro n
  induction n with
  | zero => intros; exact sb_none
  | succ n ih =>
    intro γ x4 x5 x6 hx4 hx5 hx6
    unfold f_Tk_scan_L31
    refine sb_iload_n 3 d_Tk_scan_31 rfl ?_
    refine sb_iload_n 1 d_Tk_scan_32 rfl ?_
    refine sb_icmp_ge 54 hx6 hx4 d_Tk_scan_33 (by decide) (fun _ => ?_) (fun _ => ?_)
    · exact sb_lv [0, 1] rfl (he54 γ x4 hx4)
    · refine sb_iload_n 2 d_Tk_scan_36 rfl ?_
      refine sb_iload_n 1 d_Tk_scan_37 rfl ?_
      refine sb_icmp_ge 54 hx5 hx4 d_Tk_scan_38 (by decide) (fun _ => ?_) (fun _ => ?_)
      · exact sb_lv [0, 1] rfl (he54 γ x4 hx4)
      · refine sb_aload_n 0 d_Tk_scan_41 rfl ?_
        refine sb_iload_n 2 d_Tk_scan_42 rfl ?_
        refine sb_iload_n 1 d_Tk_scan_43 rfl ?_
        refine sb_cVi vf_Tk_scanAt (c_Tk_scanAt γ x5 x4 hx5 hx4) rfl ml_Tk_51 (As := [vI x5, vI x4]) rfl rfl (Nat.le_of_ble_eq_true rfl) ⟨by decide, by decide⟩ d_Tk_scan_44 (fun r7 γ8 hr7 => ?_)
        refine sb_istore_n [(2, vI r7), (0, vR Γ 1), (1, vI x4), (3, vI x6)] d_Tk_scan_47 (by decide) rfl ?_
        refine sb_iinc 3 [(3, vI (x6 + 1)), (2, vI r7), (0, vR Γ 1), (1, vI x4)] d_Tk_scan_48 rfl (by decide) rfl ?_
        refine sb_chk (fun c9 => ?_)
        refine sb_goto 31 d_Tk_scan_51 (by decide) ?_
        exact sb_lv [2, 3, 1, 0] rfl (ih γ8 x4 r7 (x6 + 1) hx4 hr7 c9)
set_option maxHeartbeats 4000000 in
theorem c_Tk_scan {Γ : Ctx} (γ : St) (a0 : Int) (ha0 : i32 a0) : NC Γ BS y_Tk_scan mt_Tk_scan 10 338 [vR Γ 1, vI a0] γ (f_Tk_scan γ a0) := by
  refine nc_of (by decide) rfl (Nat.le_of_ble_eq_true rfl) ?_
  show SB Γ BS mt_Tk_scan (RmN 10 338) 0 0 (KN Γ BS mt_Tk_scan.2.2.2) 0 [(0, vR Γ 1), (1, vI a0)] [] γ _
  unfold f_Tk_scan
  refine sb_aload_n 0 d_Tk_scan_0 rfl ?_
  refine g_Tk_31 d_Tk_scan_1 ?_
  refine sb_cVv vf_Wd_begin (c_Wd_begin γ  ) rfl ml_Tk_35 (As := []) rfl rfl (Nat.le_of_ble_eq_true rfl) ⟨by decide, by decide⟩ d_Tk_scan_4 (fun _ γ13 => ?_)
  refine sb_aload_n 0 d_Tk_scan_7 rfl ?_
  refine sb_iconst d_Tk_scan_8 ?_
  refine p_Tk_38 (by decide) d_Tk_scan_9 ?_
  refine sb_aps (fun γ14 => ?_)
  refine sb_aload_n 0 d_Tk_scan_12 rfl ?_
  refine sb_iconst d_Tk_scan_13 ?_
  refine p_Tk_42 (by decide) d_Tk_scan_14 ?_
  refine sb_aps (fun γ15 => ?_)
  refine sb_aload_n 0 d_Tk_scan_17 rfl ?_
  refine sb_iconst d_Tk_scan_18 ?_
  refine p_Tk_45 (by decide) d_Tk_scan_19 ?_
  refine sb_aps (fun γ16 => ?_)
  refine sb_aload_n 0 d_Tk_scan_22 rfl ?_
  refine sb_iconst d_Tk_scan_23 ?_
  refine p_Tk_48 (by decide) d_Tk_scan_24 ?_
  refine sb_aps (fun γ17 => ?_)
  refine sb_iconst d_Tk_scan_27 ?_
  refine sb_istore_n [(2, vI 0), (0, vR Γ 1), (1, vI a0)] d_Tk_scan_28 (by decide) rfl ?_
  refine sb_iconst d_Tk_scan_29 ?_
  refine sb_istore_n [(3, vI 0), (2, vI 0), (0, vR Γ 1), (1, vI a0)] d_Tk_scan_30 (by decide) rfl ?_
  exact sb_lv [2, 3, 1, 0] rfl (s_Tk_scan_L31 (s_Tk_scan_b54) FU γ17 a0 0 0 ha0 (by decide) (by decide))
theorem d_Tk_kindNow_0 : decode b_Tk_kindNow 0 = .ok (.aload_n 0, 1) := by decide +kernel
theorem d_Tk_kindNow_1 : decode b_Tk_kindNow 1 = .ok (.getfield 10, 3) := by decide +kernel
theorem d_Tk_kindNow_4 : decode b_Tk_kindNow 4 = .ok (.aload_n 0, 1) := by decide +kernel
theorem d_Tk_kindNow_5 : decode b_Tk_kindNow 5 = .ok (.getfield 42, 3) := by decide +kernel
theorem d_Tk_kindNow_8 : decode b_Tk_kindNow 8 = .ok (.iaload, 1) := by decide +kernel
theorem d_Tk_kindNow_9 : decode b_Tk_kindNow 9 = .ok (.ireturn, 1) := by decide +kernel
abbrev mt_Tk_kindNow : MT := (R_Tk, b_Tk_kindNow, 1, some .int)
theorem vf_Tk_kindNow : VF y_Tk_kindNow mt_Tk_kindNow 10 0 := ⟨im_Tk_kindNow, se_Tk_kindNow, in_Tk, co_Tk_kindNow, by decide +kernel, _, _, rfl⟩
def f_Tk_kindNow (γ : St) : Option (Int × St) :=
  chk (inb (γ 1 6) 65537) (some (γ 14 (γ 1 6), γ))
set_option maxHeartbeats 4000000 in
theorem c_Tk_kindNow {Γ : Ctx} (γ : St) : NC Γ BS y_Tk_kindNow mt_Tk_kindNow 6 240 [vR Γ 1] γ (f_Tk_kindNow γ) := by
  refine nc_of (by decide) rfl (Nat.le_of_ble_eq_true rfl) ?_
  show SB Γ BS mt_Tk_kindNow (RmN 6 240) 0 0 (KN Γ BS mt_Tk_kindNow.2.2.2) 0 [(0, vR Γ 1)] [] γ _
  unfold f_Tk_kindNow
  refine sb_aload_n 0 d_Tk_kindNow_0 rfl ?_
  refine g_Tk_10 d_Tk_kindNow_1 ?_
  refine sb_aload_n 0 d_Tk_kindNow_4 rfl ?_
  refine g_Tk_42 d_Tk_kindNow_5 (fun c2 => ?_)
  refine al_S_14 d_Tk_kindNow_8 (fun _ c3 => ?_)
  exact sn_i rfl c3 d_Tk_kindNow_9
theorem d_Tk_fail_0 : decode b_Tk_fail 0 = .ok (.aload_n 0, 1) := by decide +kernel
theorem d_Tk_fail_1 : decode b_Tk_fail 1 = .ok (.getfield 45, 3) := by decide +kernel
theorem d_Tk_fail_4 : decode b_Tk_fail 4 = .ok (.ifCond .ne 21, 3) := by decide +kernel
theorem d_Tk_fail_7 : decode b_Tk_fail 7 = .ok (.aload_n 0, 1) := by decide +kernel
theorem d_Tk_fail_8 : decode b_Tk_fail 8 = .ok (.iload_n 1, 1) := by decide +kernel
theorem d_Tk_fail_9 : decode b_Tk_fail 9 = .ok (.putfield 45, 3) := by decide +kernel
theorem d_Tk_fail_12 : decode b_Tk_fail 12 = .ok (.aload_n 0, 1) := by decide +kernel
theorem d_Tk_fail_13 : decode b_Tk_fail 13 = .ok (.aload_n 0, 1) := by decide +kernel
theorem d_Tk_fail_14 : decode b_Tk_fail 14 = .ok (.getfield 16, 3) := by decide +kernel
theorem d_Tk_fail_17 : decode b_Tk_fail 17 = .ok (.aload_n 0, 1) := by decide +kernel
theorem d_Tk_fail_18 : decode b_Tk_fail 18 = .ok (.getfield 42, 3) := by decide +kernel
theorem d_Tk_fail_21 : decode b_Tk_fail 21 = .ok (.iaload, 1) := by decide +kernel
theorem d_Tk_fail_22 : decode b_Tk_fail 22 = .ok (.putfield 48, 3) := by decide +kernel
theorem d_Tk_fail_25 : decode b_Tk_fail 25 = .ok (.iconst 0, 1) := by decide +kernel
theorem d_Tk_fail_26 : decode b_Tk_fail 26 = .ok (.ireturn, 1) := by decide +kernel
abbrev mt_Tk_fail : MT := (R_Tk, b_Tk_fail, 2, some .boolean)
theorem vf_Tk_fail : VF y_Tk_fail mt_Tk_fail 10 1 := ⟨im_Tk_fail, se_Tk_fail, in_Tk, co_Tk_fail, by decide +kernel, _, _, rfl⟩
def f_Tk_fail (γ : St) (a0 : Int) : Option (Int × St) :=
  if (γ 1 7) ≠ 0 then
  (some (0, γ))
  else
  (ap (setA γ 1 7 a0) fun γ2 =>
  chk (inb (γ2 1 6) 65537) (ap (setA γ2 1 8 (γ2 15 (γ2 1 6))) fun γ6 =>
  some (0, γ6)))
set_option maxHeartbeats 4000000 in
theorem c_Tk_fail {Γ : Ctx} (γ : St) (a0 : Int) (ha0 : i32 a0) : NC Γ BS y_Tk_fail mt_Tk_fail 6 240 [vR Γ 1, vI a0] γ (f_Tk_fail γ a0) := by
  refine nc_of (by decide) rfl (Nat.le_of_ble_eq_true rfl) ?_
  show SB Γ BS mt_Tk_fail (RmN 6 240) 0 0 (KN Γ BS mt_Tk_fail.2.2.2) 0 [(0, vR Γ 1), (1, vI a0)] [] γ _
  unfold f_Tk_fail
  refine sb_aload_n 0 d_Tk_fail_0 rfl ?_
  refine g_Tk_45 d_Tk_fail_1 (fun c1 => ?_)
  refine sb_if_ne 25 c1 d_Tk_fail_4 (by decide) (fun _ => ?_) (fun _ => ?_)
  · refine sb_iconst d_Tk_fail_25 ?_
    exact sn_z rfl (by decide) d_Tk_fail_26
  · refine sb_aload_n 0 d_Tk_fail_7 rfl ?_
    refine sb_iload_n 1 d_Tk_fail_8 rfl ?_
    refine p_Tk_45 ha0 d_Tk_fail_9 ?_
    refine sb_aps (fun γ2 => ?_)
    refine sb_aload_n 0 d_Tk_fail_12 rfl ?_
    refine sb_aload_n 0 d_Tk_fail_13 rfl ?_
    refine g_Tk_16 d_Tk_fail_14 ?_
    refine sb_aload_n 0 d_Tk_fail_17 rfl ?_
    refine g_Tk_42 d_Tk_fail_18 (fun c4 => ?_)
    refine al_S_15 d_Tk_fail_21 (fun _ c5 => ?_)
    refine p_Tk_48 c5 d_Tk_fail_22 ?_
    refine sb_aps (fun γ6 => ?_)
    refine sb_iconst d_Tk_fail_25 ?_
    exact sn_z rfl (by decide) d_Tk_fail_26
theorem d_Tk_step_0 : decode b_Tk_step 0 = .ok (.aload_n 0, 1) := by decide +kernel
theorem d_Tk_step_1 : decode b_Tk_step 1 = .ok (.getfield 42, 3) := by decide +kernel
theorem d_Tk_step_4 : decode b_Tk_step 4 = .ok (.iconst 1, 1) := by decide +kernel
theorem d_Tk_step_5 : decode b_Tk_step 5 = .ok (.iadd, 1) := by decide +kernel
theorem d_Tk_step_6 : decode b_Tk_step 6 = .ok (.aload_n 0, 1) := by decide +kernel
theorem d_Tk_step_7 : decode b_Tk_step 7 = .ok (.getfield 38, 3) := by decide +kernel
theorem d_Tk_step_10 : decode b_Tk_step 10 = .ok (.if_icmp .ge 13, 3) := by decide +kernel
theorem d_Tk_step_13 : decode b_Tk_step 13 = .ok (.aload_n 0, 1) := by decide +kernel
theorem d_Tk_step_14 : decode b_Tk_step 14 = .ok (.dup, 1) := by decide +kernel
theorem d_Tk_step_15 : decode b_Tk_step 15 = .ok (.getfield 42, 3) := by decide +kernel
theorem d_Tk_step_18 : decode b_Tk_step 18 = .ok (.iconst 1, 1) := by decide +kernel
theorem d_Tk_step_19 : decode b_Tk_step 19 = .ok (.iadd, 1) := by decide +kernel
theorem d_Tk_step_20 : decode b_Tk_step 20 = .ok (.putfield 42, 3) := by decide +kernel
theorem d_Tk_step_23 : decode b_Tk_step 23 = .ok (.return_, 1) := by decide +kernel
abbrev mt_Tk_step : MT := (R_Tk, b_Tk_step, 1, none)
theorem vf_Tk_step : VF y_Tk_step mt_Tk_step 10 0 := ⟨im_Tk_step, se_Tk_step, in_Tk, co_Tk_step, by decide +kernel, _, _, rfl⟩
def f_Tk_step (γ : St) : Option (Int × St) :=
  chk (i32 ((γ 1 6) + 1)) (if (γ 1 5) ≤ ((γ 1 6) + 1) then
  (some (0, γ))
  else
  (chk (i32 ((γ 1 6) + 1)) (ap (setA γ 1 6 ((γ 1 6) + 1)) fun γ6 =>
  some (0, γ6))))
set_option maxHeartbeats 4000000 in
theorem c_Tk_step {Γ : Ctx} (γ : St) : NC Γ BS y_Tk_step mt_Tk_step 6 240 [vR Γ 1] γ (f_Tk_step γ) := by
  refine nc_of (by decide) rfl (Nat.le_of_ble_eq_true rfl) ?_
  show SB Γ BS mt_Tk_step (RmN 6 240) 0 0 (KN Γ BS mt_Tk_step.2.2.2) 0 [(0, vR Γ 1)] [] γ _
  unfold f_Tk_step
  refine sb_aload_n 0 d_Tk_step_0 rfl ?_
  refine g_Tk_42 d_Tk_step_1 (fun c1 => ?_)
  refine sb_iconst d_Tk_step_4 ?_
  refine sb_iadd d_Tk_step_5 ?_
  refine sb_chk (fun c2 => ?_)
  refine sb_aload_n 0 d_Tk_step_6 rfl ?_
  refine g_Tk_38 d_Tk_step_7 (fun c3 => ?_)
  refine sb_icmp_ge 23 c2 c3 d_Tk_step_10 (by decide) (fun _ => ?_) (fun _ => ?_)
  · exact sn_v rfl d_Tk_step_23
  · refine sb_aload_n 0 d_Tk_step_13 rfl ?_
    refine sb_dup d_Tk_step_14 rfl ?_
    refine g_Tk_42 d_Tk_step_15 (fun c4 => ?_)
    refine sb_iconst d_Tk_step_18 ?_
    refine sb_iadd d_Tk_step_19 ?_
    refine sb_chk (fun c5 => ?_)
    refine p_Tk_42 c5 d_Tk_step_20 ?_
    refine sb_aps (fun γ6 => ?_)
    exact sn_v rfl d_Tk_step_23
theorem d_Tk_expect_0 : decode b_Tk_expect 0 = .ok (.aload_n 0, 1) := by decide +kernel
theorem d_Tk_expect_1 : decode b_Tk_expect 1 = .ok (.getfield 10, 3) := by decide +kernel
theorem d_Tk_expect_4 : decode b_Tk_expect 4 = .ok (.aload_n 0, 1) := by decide +kernel
theorem d_Tk_expect_5 : decode b_Tk_expect 5 = .ok (.getfield 42, 3) := by decide +kernel
theorem d_Tk_expect_8 : decode b_Tk_expect 8 = .ok (.iaload, 1) := by decide +kernel
theorem d_Tk_expect_9 : decode b_Tk_expect 9 = .ok (.iload_n 1, 1) := by decide +kernel
theorem d_Tk_expect_10 : decode b_Tk_expect 10 = .ok (.if_icmp .eq 9, 3) := by decide +kernel
theorem d_Tk_expect_13 : decode b_Tk_expect 13 = .ok (.aload_n 0, 1) := by decide +kernel
theorem d_Tk_expect_14 : decode b_Tk_expect 14 = .ok (.iconst 1, 1) := by decide +kernel
theorem d_Tk_expect_15 : decode b_Tk_expect 15 = .ok (.invokevirtual 59, 3) := by decide +kernel
theorem d_Tk_expect_18 : decode b_Tk_expect 18 = .ok (.ireturn, 1) := by decide +kernel
theorem d_Tk_expect_19 : decode b_Tk_expect 19 = .ok (.aload_n 0, 1) := by decide +kernel
theorem d_Tk_expect_20 : decode b_Tk_expect 20 = .ok (.invokevirtual 63, 3) := by decide +kernel
theorem d_Tk_expect_23 : decode b_Tk_expect 23 = .ok (.iconst 1, 1) := by decide +kernel
theorem d_Tk_expect_24 : decode b_Tk_expect 24 = .ok (.ireturn, 1) := by decide +kernel
abbrev mt_Tk_expect : MT := (R_Tk, b_Tk_expect, 2, some .boolean)
theorem vf_Tk_expect : VF y_Tk_expect mt_Tk_expect 10 1 := ⟨im_Tk_expect, se_Tk_expect, in_Tk, co_Tk_expect, by decide +kernel, _, _, rfl⟩
def f_Tk_expect (γ : St) (a0 : Int) : Option (Int × St) :=
  chk (inb (γ 1 6) 65537) (if (γ 14 (γ 1 6)) = a0 then
  (bndN (f_Tk_step γ) fun _ γ5 =>
  some (1, γ5))
  else
  (bndN (f_Tk_fail γ 1) fun r6 γ7 =>
  some (r6, γ7)))
set_option maxHeartbeats 4000000 in
theorem c_Tk_expect {Γ : Ctx} (γ : St) (a0 : Int) (ha0 : i32 a0) : NC Γ BS y_Tk_expect mt_Tk_expect 7 261 [vR Γ 1, vI a0] γ (f_Tk_expect γ a0) := by
  refine nc_of (by decide) rfl (Nat.le_of_ble_eq_true rfl) ?_
  show SB Γ BS mt_Tk_expect (RmN 7 261) 0 0 (KN Γ BS mt_Tk_expect.2.2.2) 0 [(0, vR Γ 1), (1, vI a0)] [] γ _
  unfold f_Tk_expect
  refine sb_aload_n 0 d_Tk_expect_0 rfl ?_
  refine g_Tk_10 d_Tk_expect_1 ?_
  refine sb_aload_n 0 d_Tk_expect_4 rfl ?_
  refine g_Tk_42 d_Tk_expect_5 (fun c2 => ?_)
  refine al_S_14 d_Tk_expect_8 (fun _ c3 => ?_)
  refine sb_iload_n 1 d_Tk_expect_9 rfl ?_
  refine sb_icmp_eq 19 c3 ha0 d_Tk_expect_10 (by decide) (fun _ => ?_) (fun _ => ?_)
  · refine sb_aload_n 0 d_Tk_expect_19 rfl ?_
    refine sb_cVv vf_Tk_step (c_Tk_step γ  ) rfl ml_Tk_63 (As := []) rfl rfl (Nat.le_of_ble_eq_true rfl) ⟨by decide, by decide⟩ d_Tk_expect_20 (fun _ γ5 => ?_)
    refine sb_iconst d_Tk_expect_23 ?_
    exact sn_z rfl (by decide) d_Tk_expect_24
  · refine sb_aload_n 0 d_Tk_expect_13 rfl ?_
    refine sb_iconst d_Tk_expect_14 ?_
    refine sb_cVz vf_Tk_fail (c_Tk_fail γ 1 (by decide)) rfl ml_Tk_59 (As := [vI 1]) rfl rfl (Nat.le_of_ble_eq_true rfl) ⟨by decide, by decide⟩ d_Tk_expect_15 (fun r6 γ7 hr6 => ?_)
    exact sn_z rfl hr6 d_Tk_expect_18
theorem d_Tk_itemNow_0 : decode b_Tk_itemNow 0 = .ok (.aload_n 0, 1) := by decide +kernel
theorem d_Tk_itemNow_1 : decode b_Tk_itemNow 1 = .ok (.getfield 19, 3) := by decide +kernel
theorem d_Tk_itemNow_4 : decode b_Tk_itemNow 4 = .ok (.aload_n 0, 1) := by decide +kernel
theorem d_Tk_itemNow_5 : decode b_Tk_itemNow 5 = .ok (.getfield 42, 3) := by decide +kernel
theorem d_Tk_itemNow_8 : decode b_Tk_itemNow 8 = .ok (.iaload, 1) := by decide +kernel
theorem d_Tk_itemNow_9 : decode b_Tk_itemNow 9 = .ok (.ireturn, 1) := by decide +kernel
abbrev mt_Tk_itemNow : MT := (R_Tk, b_Tk_itemNow, 1, some .int)
theorem vf_Tk_itemNow : VF y_Tk_itemNow mt_Tk_itemNow 10 0 := ⟨im_Tk_itemNow, se_Tk_itemNow, in_Tk, co_Tk_itemNow, by decide +kernel, _, _, rfl⟩
def f_Tk_itemNow (γ : St) : Option (Int × St) :=
  chk (inb (γ 1 6) 65537) (some (γ 16 (γ 1 6), γ))
set_option maxHeartbeats 4000000 in
theorem c_Tk_itemNow {Γ : Ctx} (γ : St) : NC Γ BS y_Tk_itemNow mt_Tk_itemNow 6 240 [vR Γ 1] γ (f_Tk_itemNow γ) := by
  refine nc_of (by decide) rfl (Nat.le_of_ble_eq_true rfl) ?_
  show SB Γ BS mt_Tk_itemNow (RmN 6 240) 0 0 (KN Γ BS mt_Tk_itemNow.2.2.2) 0 [(0, vR Γ 1)] [] γ _
  unfold f_Tk_itemNow
  refine sb_aload_n 0 d_Tk_itemNow_0 rfl ?_
  refine g_Tk_19 d_Tk_itemNow_1 ?_
  refine sb_aload_n 0 d_Tk_itemNow_4 rfl ?_
  refine g_Tk_42 d_Tk_itemNow_5 (fun c2 => ?_)
  refine al_S_16 d_Tk_itemNow_8 (fun _ c3 => ?_)
  exact sn_i rfl c3 d_Tk_itemNow_9
theorem d_Tk_placeNow_0 : decode b_Tk_placeNow 0 = .ok (.aload_n 0, 1) := by decide +kernel
theorem d_Tk_placeNow_1 : decode b_Tk_placeNow 1 = .ok (.getfield 16, 3) := by decide +kernel
theorem d_Tk_placeNow_4 : decode b_Tk_placeNow 4 = .ok (.aload_n 0, 1) := by decide +kernel
theorem d_Tk_placeNow_5 : decode b_Tk_placeNow 5 = .ok (.getfield 42, 3) := by decide +kernel
theorem d_Tk_placeNow_8 : decode b_Tk_placeNow 8 = .ok (.iaload, 1) := by decide +kernel
theorem d_Tk_placeNow_9 : decode b_Tk_placeNow 9 = .ok (.ireturn, 1) := by decide +kernel
abbrev mt_Tk_placeNow : MT := (R_Tk, b_Tk_placeNow, 1, some .int)
theorem vf_Tk_placeNow : VF y_Tk_placeNow mt_Tk_placeNow 10 0 := ⟨im_Tk_placeNow, se_Tk_placeNow, in_Tk, co_Tk_placeNow, by decide +kernel, _, _, rfl⟩
def f_Tk_placeNow (γ : St) : Option (Int × St) :=
  chk (inb (γ 1 6) 65537) (some (γ 15 (γ 1 6), γ))
set_option maxHeartbeats 4000000 in
theorem c_Tk_placeNow {Γ : Ctx} (γ : St) : NC Γ BS y_Tk_placeNow mt_Tk_placeNow 6 240 [vR Γ 1] γ (f_Tk_placeNow γ) := by
  refine nc_of (by decide) rfl (Nat.le_of_ble_eq_true rfl) ?_
  show SB Γ BS mt_Tk_placeNow (RmN 6 240) 0 0 (KN Γ BS mt_Tk_placeNow.2.2.2) 0 [(0, vR Γ 1)] [] γ _
  unfold f_Tk_placeNow
  refine sb_aload_n 0 d_Tk_placeNow_0 rfl ?_
  refine g_Tk_16 d_Tk_placeNow_1 ?_
  refine sb_aload_n 0 d_Tk_placeNow_4 rfl ?_
  refine g_Tk_42 d_Tk_placeNow_5 (fun c2 => ?_)
  refine al_S_15 d_Tk_placeNow_8 (fun _ c3 => ?_)
  exact sn_i rfl c3 d_Tk_placeNow_9
theorem d_Tk_kindNext_0 : decode b_Tk_kindNext 0 = .ok (.aload_n 0, 1) := by decide +kernel
theorem d_Tk_kindNext_1 : decode b_Tk_kindNext 1 = .ok (.getfield 42, 3) := by decide +kernel
theorem d_Tk_kindNext_4 : decode b_Tk_kindNext 4 = .ok (.iconst 1, 1) := by decide +kernel
theorem d_Tk_kindNext_5 : decode b_Tk_kindNext 5 = .ok (.iadd, 1) := by decide +kernel
theorem d_Tk_kindNext_6 : decode b_Tk_kindNext 6 = .ok (.aload_n 0, 1) := by decide +kernel
theorem d_Tk_kindNext_7 : decode b_Tk_kindNext 7 = .ok (.getfield 38, 3) := by decide +kernel
theorem d_Tk_kindNext_10 : decode b_Tk_kindNext 10 = .ok (.if_icmp .ge 17, 3) := by decide +kernel
theorem d_Tk_kindNext_13 : decode b_Tk_kindNext 13 = .ok (.aload_n 0, 1) := by decide +kernel
theorem d_Tk_kindNext_14 : decode b_Tk_kindNext 14 = .ok (.getfield 10, 3) := by decide +kernel
theorem d_Tk_kindNext_17 : decode b_Tk_kindNext 17 = .ok (.aload_n 0, 1) := by decide +kernel
theorem d_Tk_kindNext_18 : decode b_Tk_kindNext 18 = .ok (.getfield 42, 3) := by decide +kernel
theorem d_Tk_kindNext_21 : decode b_Tk_kindNext 21 = .ok (.iconst 1, 1) := by decide +kernel
theorem d_Tk_kindNext_22 : decode b_Tk_kindNext 22 = .ok (.iadd, 1) := by decide +kernel
theorem d_Tk_kindNext_23 : decode b_Tk_kindNext 23 = .ok (.iaload, 1) := by decide +kernel
theorem d_Tk_kindNext_24 : decode b_Tk_kindNext 24 = .ok (.goto 4, 3) := by decide +kernel
theorem d_Tk_kindNext_27 : decode b_Tk_kindNext 27 = .ok (.iconst 0, 1) := by decide +kernel
theorem d_Tk_kindNext_28 : decode b_Tk_kindNext 28 = .ok (.ireturn, 1) := by decide +kernel
abbrev mt_Tk_kindNext : MT := (R_Tk, b_Tk_kindNext, 1, some .int)
theorem vf_Tk_kindNext : VF y_Tk_kindNext mt_Tk_kindNext 10 0 := ⟨im_Tk_kindNext, se_Tk_kindNext, in_Tk, co_Tk_kindNext, by decide +kernel, _, _, rfl⟩
def f_Tk_kindNext (γ : St) : Option (Int × St) :=
  chk (i32 ((γ 1 6) + 1)) (if (γ 1 5) ≤ ((γ 1 6) + 1) then
  (some (0, γ))
  else
  (chk (i32 ((γ 1 6) + 1)) (chk (inb ((γ 1 6) + 1) 65537) (some (γ 14 ((γ 1 6) + 1), γ)))))
set_option maxHeartbeats 4000000 in
theorem c_Tk_kindNext {Γ : Ctx} (γ : St) : NC Γ BS y_Tk_kindNext mt_Tk_kindNext 6 240 [vR Γ 1] γ (f_Tk_kindNext γ) := by
  refine nc_of (by decide) rfl (Nat.le_of_ble_eq_true rfl) ?_
  show SB Γ BS mt_Tk_kindNext (RmN 6 240) 0 0 (KN Γ BS mt_Tk_kindNext.2.2.2) 0 [(0, vR Γ 1)] [] γ _
  unfold f_Tk_kindNext
  refine sb_aload_n 0 d_Tk_kindNext_0 rfl ?_
  refine g_Tk_42 d_Tk_kindNext_1 (fun c1 => ?_)
  refine sb_iconst d_Tk_kindNext_4 ?_
  refine sb_iadd d_Tk_kindNext_5 ?_
  refine sb_chk (fun c2 => ?_)
  refine sb_aload_n 0 d_Tk_kindNext_6 rfl ?_
  refine g_Tk_38 d_Tk_kindNext_7 (fun c3 => ?_)
  refine sb_icmp_ge 27 c2 c3 d_Tk_kindNext_10 (by decide) (fun _ => ?_) (fun _ => ?_)
  · refine sb_iconst d_Tk_kindNext_27 ?_
    exact sn_i rfl (by decide) d_Tk_kindNext_28
  · refine sb_aload_n 0 d_Tk_kindNext_13 rfl ?_
    refine g_Tk_10 d_Tk_kindNext_14 ?_
    refine sb_aload_n 0 d_Tk_kindNext_17 rfl ?_
    refine g_Tk_42 d_Tk_kindNext_18 (fun c5 => ?_)
    refine sb_iconst d_Tk_kindNext_21 ?_
    refine sb_iadd d_Tk_kindNext_22 ?_
    refine sb_chk (fun c6 => ?_)
    refine al_S_14 d_Tk_kindNext_23 (fun _ c7 => ?_)
    refine sb_goto 28 d_Tk_kindNext_24 (by decide) ?_
    exact sn_i rfl c7 d_Tk_kindNext_28
theorem d_Tk_failAt_0 : decode b_Tk_failAt 0 = .ok (.aload_n 0, 1) := by decide +kernel
theorem d_Tk_failAt_1 : decode b_Tk_failAt 1 = .ok (.getfield 45, 3) := by decide +kernel
theorem d_Tk_failAt_4 : decode b_Tk_failAt 4 = .ok (.ifCond .ne 13, 3) := by decide +kernel
theorem d_Tk_failAt_7 : decode b_Tk_failAt 7 = .ok (.aload_n 0, 1) := by decide +kernel
theorem d_Tk_failAt_8 : decode b_Tk_failAt 8 = .ok (.iload_n 1, 1) := by decide +kernel
theorem d_Tk_failAt_9 : decode b_Tk_failAt 9 = .ok (.putfield 45, 3) := by decide +kernel
theorem d_Tk_failAt_12 : decode b_Tk_failAt 12 = .ok (.aload_n 0, 1) := by decide +kernel
theorem d_Tk_failAt_13 : decode b_Tk_failAt 13 = .ok (.iload_n 2, 1) := by decide +kernel
theorem d_Tk_failAt_14 : decode b_Tk_failAt 14 = .ok (.putfield 48, 3) := by decide +kernel
theorem d_Tk_failAt_17 : decode b_Tk_failAt 17 = .ok (.iconst 0, 1) := by decide +kernel
theorem d_Tk_failAt_18 : decode b_Tk_failAt 18 = .ok (.ireturn, 1) := by decide +kernel
abbrev mt_Tk_failAt : MT := (R_Tk, b_Tk_failAt, 3, some .boolean)
theorem vf_Tk_failAt : VF y_Tk_failAt mt_Tk_failAt 10 2 := ⟨im_Tk_failAt, se_Tk_failAt, in_Tk, co_Tk_failAt, by decide +kernel, _, _, rfl⟩
def f_Tk_failAt (γ : St) (a0 : Int) (a1 : Int) : Option (Int × St) :=
  if (γ 1 7) ≠ 0 then
  (some (0, γ))
  else
  (ap (setA γ 1 7 a0) fun γ2 =>
  ap (setA γ2 1 8 a1) fun γ3 =>
  some (0, γ3))
set_option maxHeartbeats 4000000 in
theorem c_Tk_failAt {Γ : Ctx} (γ : St) (a0 : Int) (a1 : Int) (ha0 : i32 a0) (ha1 : i32 a1) : NC Γ BS y_Tk_failAt mt_Tk_failAt 6 240 [vR Γ 1, vI a0, vI a1] γ (f_Tk_failAt γ a0 a1) := by
  refine nc_of (by decide) rfl (Nat.le_of_ble_eq_true rfl) ?_
  show SB Γ BS mt_Tk_failAt (RmN 6 240) 0 0 (KN Γ BS mt_Tk_failAt.2.2.2) 0 [(0, vR Γ 1), (1, vI a0), (2, vI a1)] [] γ _
  unfold f_Tk_failAt
  refine sb_aload_n 0 d_Tk_failAt_0 rfl ?_
  refine g_Tk_45 d_Tk_failAt_1 (fun c1 => ?_)
  refine sb_if_ne 17 c1 d_Tk_failAt_4 (by decide) (fun _ => ?_) (fun _ => ?_)
  · refine sb_iconst d_Tk_failAt_17 ?_
    exact sn_z rfl (by decide) d_Tk_failAt_18
  · refine sb_aload_n 0 d_Tk_failAt_7 rfl ?_
    refine sb_iload_n 1 d_Tk_failAt_8 rfl ?_
    refine p_Tk_45 ha0 d_Tk_failAt_9 ?_
    refine sb_aps (fun γ2 => ?_)
    refine sb_aload_n 0 d_Tk_failAt_12 rfl ?_
    refine sb_iload_n 2 d_Tk_failAt_13 rfl ?_
    refine p_Tk_48 ha1 d_Tk_failAt_14 ?_
    refine sb_aps (fun γ3 => ?_)
    refine sb_iconst d_Tk_failAt_17 ?_
    exact sn_z rfl (by decide) d_Tk_failAt_18
