/-! the class as functions: calls -/
theorem d_S_append_0 : decode b_S_append 0 = .ok (.aload_n 0, 1) := by decide +kernel
theorem d_S_append_1 : decode b_S_append 1 = .ok (.getfield 22, 3) := by decide +kernel
theorem d_S_append_4 : decode b_S_append 4 = .ok (.aload_n 0, 1) := by decide +kernel
theorem d_S_append_5 : decode b_S_append 5 = .ok (.getfield 100, 3) := by decide +kernel
theorem d_S_append_8 : decode b_S_append 8 = .ok (.iload_n 1, 1) := by decide +kernel
theorem d_S_append_9 : decode b_S_append 9 = .ok (.bipush 24, 2) := by decide +kernel
theorem d_S_append_11 : decode b_S_append 11 = .ok (.ishr, 1) := by decide +kernel
theorem d_S_append_12 : decode b_S_append 12 = .ok (.i2b, 1) := by decide +kernel
theorem d_S_append_13 : decode b_S_append 13 = .ok (.bastore, 1) := by decide +kernel
theorem d_S_append_14 : decode b_S_append 14 = .ok (.aload_n 0, 1) := by decide +kernel
theorem d_S_append_15 : decode b_S_append 15 = .ok (.getfield 22, 3) := by decide +kernel
theorem d_S_append_18 : decode b_S_append 18 = .ok (.aload_n 0, 1) := by decide +kernel
theorem d_S_append_19 : decode b_S_append 19 = .ok (.getfield 100, 3) := by decide +kernel
theorem d_S_append_22 : decode b_S_append 22 = .ok (.iconst 1, 1) := by decide +kernel
theorem d_S_append_23 : decode b_S_append 23 = .ok (.iadd, 1) := by decide +kernel
theorem d_S_append_24 : decode b_S_append 24 = .ok (.iload_n 1, 1) := by decide +kernel
theorem d_S_append_25 : decode b_S_append 25 = .ok (.bipush 16, 2) := by decide +kernel
theorem d_S_append_27 : decode b_S_append 27 = .ok (.ishr, 1) := by decide +kernel
theorem d_S_append_28 : decode b_S_append 28 = .ok (.i2b, 1) := by decide +kernel
theorem d_S_append_29 : decode b_S_append 29 = .ok (.bastore, 1) := by decide +kernel
theorem d_S_append_30 : decode b_S_append 30 = .ok (.aload_n 0, 1) := by decide +kernel
theorem d_S_append_31 : decode b_S_append 31 = .ok (.getfield 22, 3) := by decide +kernel
theorem d_S_append_34 : decode b_S_append 34 = .ok (.aload_n 0, 1) := by decide +kernel
theorem d_S_append_35 : decode b_S_append 35 = .ok (.getfield 100, 3) := by decide +kernel
theorem d_S_append_38 : decode b_S_append 38 = .ok (.iconst 2, 1) := by decide +kernel
theorem d_S_append_39 : decode b_S_append 39 = .ok (.iadd, 1) := by decide +kernel
theorem d_S_append_40 : decode b_S_append 40 = .ok (.iload_n 1, 1) := by decide +kernel
theorem d_S_append_41 : decode b_S_append 41 = .ok (.bipush 8, 2) := by decide +kernel
theorem d_S_append_43 : decode b_S_append 43 = .ok (.ishr, 1) := by decide +kernel
theorem d_S_append_44 : decode b_S_append 44 = .ok (.i2b, 1) := by decide +kernel
theorem d_S_append_45 : decode b_S_append 45 = .ok (.bastore, 1) := by decide +kernel
theorem d_S_append_46 : decode b_S_append 46 = .ok (.aload_n 0, 1) := by decide +kernel
theorem d_S_append_47 : decode b_S_append 47 = .ok (.getfield 22, 3) := by decide +kernel
theorem d_S_append_50 : decode b_S_append 50 = .ok (.aload_n 0, 1) := by decide +kernel
theorem d_S_append_51 : decode b_S_append 51 = .ok (.getfield 100, 3) := by decide +kernel
theorem d_S_append_54 : decode b_S_append 54 = .ok (.iconst 3, 1) := by decide +kernel
theorem d_S_append_55 : decode b_S_append 55 = .ok (.iadd, 1) := by decide +kernel
theorem d_S_append_56 : decode b_S_append 56 = .ok (.iload_n 1, 1) := by decide +kernel
theorem d_S_append_57 : decode b_S_append 57 = .ok (.i2b, 1) := by decide +kernel
theorem d_S_append_58 : decode b_S_append 58 = .ok (.bastore, 1) := by decide +kernel
theorem d_S_append_59 : decode b_S_append 59 = .ok (.aload_n 0, 1) := by decide +kernel
theorem d_S_append_60 : decode b_S_append 60 = .ok (.dup, 1) := by decide +kernel
theorem d_S_append_61 : decode b_S_append 61 = .ok (.getfield 100, 3) := by decide +kernel
theorem d_S_append_64 : decode b_S_append 64 = .ok (.iconst 4, 1) := by decide +kernel
theorem d_S_append_65 : decode b_S_append 65 = .ok (.iadd, 1) := by decide +kernel
theorem d_S_append_66 : decode b_S_append 66 = .ok (.putfield 100, 3) := by decide +kernel
theorem d_S_append_69 : decode b_S_append 69 = .ok (.return_, 1) := by decide +kernel
abbrev mt_S_append : MT := (R_S, b_S_append, 2, none)
theorem vf_S_append : VF y_S_append mt_S_append 0 1 := ⟨im_S_append, se_S_append, in_S, co_S_append, by decide +kernel, _, _, rfl⟩
def f_S_append (γ : St) (a0 : Int) : Option (Int × St) :=
  chk (inb (γ 0 10) 65638) (ap (setA γ 13 (γ 0 10) (i2b (ishr a0 24))) fun γ3 =>
  chk (i32 ((γ3 0 10) + 1)) (chk (inb ((γ3 0 10) + 1) 65638) (ap (setA γ3 13 ((γ3 0 10) + 1) (i2b (ishr a0 16))) fun γ7 =>
  chk (i32 ((γ7 0 10) + 2)) (chk (inb ((γ7 0 10) + 2) 65638) (ap (setA γ7 13 ((γ7 0 10) + 2) (i2b (ishr a0 8))) fun γ11 =>
  chk (i32 ((γ11 0 10) + 3)) (chk (inb ((γ11 0 10) + 3) 65638) (ap (setA γ11 13 ((γ11 0 10) + 3) (i2b a0)) fun γ15 =>
  chk (i32 ((γ15 0 10) + 4)) (ap (setA γ15 0 10 ((γ15 0 10) + 4)) fun γ18 =>
  some (0, γ18)))))))))
set_option maxHeartbeats 4000000 in
theorem c_S_append {Γ : Ctx} (γ : St) (a0 : Int) (ha0 : i32 a0) : NC Γ BS y_S_append mt_S_append 6 240 [vR Γ 0, vI a0] γ (f_S_append γ a0) := by
  refine nc_of (by decide) rfl (Nat.le_of_ble_eq_true rfl) ?_
  show SB Γ BS mt_S_append (RmN 6 240) 0 0 (KN Γ BS mt_S_append.2.2.2) 0 [(0, vR Γ 0), (1, vI a0)] [] γ _
  unfold f_S_append
  refine sb_aload_n 0 d_S_append_0 rfl ?_
  refine g_S_22 d_S_append_1 ?_
  refine sb_aload_n 0 d_S_append_4 rfl ?_
  refine g_S_100 d_S_append_5 (fun c2 => ?_)
  refine sb_iload_n 1 d_S_append_8 rfl ?_
  refine sb_bipush d_S_append_9 (by decide) ?_
  refine sb_ishr d_S_append_11 ?_
  refine sb_i2b d_S_append_12 ?_
  refine sb_bast (i2b_b _) (i2b_n _) rfl rfl (by decide) d_S_append_13 (fun _ => ?_)
  refine sb_aps (fun γ3 => ?_)
  refine sb_aload_n 0 d_S_append_14 rfl ?_
  refine g_S_22 d_S_append_15 ?_
  refine sb_aload_n 0 d_S_append_18 rfl ?_
  refine g_S_100 d_S_append_19 (fun c5 => ?_)
  refine sb_iconst d_S_append_22 ?_
  refine sb_iadd d_S_append_23 ?_
  refine sb_chk (fun c6 => ?_)
  refine sb_iload_n 1 d_S_append_24 rfl ?_
  refine sb_bipush d_S_append_25 (by decide) ?_
  refine sb_ishr d_S_append_27 ?_
  refine sb_i2b d_S_append_28 ?_
  refine sb_bast (i2b_b _) (i2b_n _) rfl rfl (by decide) d_S_append_29 (fun _ => ?_)
  refine sb_aps (fun γ7 => ?_)
  refine sb_aload_n 0 d_S_append_30 rfl ?_
  refine g_S_22 d_S_append_31 ?_
  refine sb_aload_n 0 d_S_append_34 rfl ?_
  refine g_S_100 d_S_append_35 (fun c9 => ?_)
  refine sb_iconst d_S_append_38 ?_
  refine sb_iadd d_S_append_39 ?_
  refine sb_chk (fun c10 => ?_)
  refine sb_iload_n 1 d_S_append_40 rfl ?_
  refine sb_bipush d_S_append_41 (by decide) ?_
  refine sb_ishr d_S_append_43 ?_
  refine sb_i2b d_S_append_44 ?_
  refine sb_bast (i2b_b _) (i2b_n _) rfl rfl (by decide) d_S_append_45 (fun _ => ?_)
  refine sb_aps (fun γ11 => ?_)
  refine sb_aload_n 0 d_S_append_46 rfl ?_
  refine g_S_22 d_S_append_47 ?_
  refine sb_aload_n 0 d_S_append_50 rfl ?_
  refine g_S_100 d_S_append_51 (fun c13 => ?_)
  refine sb_iconst d_S_append_54 ?_
  refine sb_iadd d_S_append_55 ?_
  refine sb_chk (fun c14 => ?_)
  refine sb_iload_n 1 d_S_append_56 rfl ?_
  refine sb_i2b d_S_append_57 ?_
  refine sb_bast (i2b_b _) (i2b_n _) rfl rfl (by decide) d_S_append_58 (fun _ => ?_)
  refine sb_aps (fun γ15 => ?_)
  refine sb_aload_n 0 d_S_append_59 rfl ?_
  refine sb_dup d_S_append_60 rfl ?_
  refine g_S_100 d_S_append_61 (fun c16 => ?_)
  refine sb_iconst d_S_append_64 ?_
  refine sb_iadd d_S_append_65 ?_
  refine sb_chk (fun c17 => ?_)
  refine p_S_100 c17 d_S_append_66 ?_
  refine sb_aps (fun γ18 => ?_)
  exact sn_v rfl d_S_append_69
theorem d_S_feed_0 : decode b_S_feed 0 = .ok (.aload_n 0, 1) := by decide +kernel
theorem d_S_feed_1 : decode b_S_feed 1 = .ok (.getfield 100, 3) := by decide +kernel
theorem d_S_feed_4 : decode b_S_feed 4 = .ok (.bipush 20, 2) := by decide +kernel
theorem d_S_feed_6 : decode b_S_feed 6 = .ok (.iadd, 1) := by decide +kernel
theorem d_S_feed_7 : decode b_S_feed 7 = .ok (.ldc 13, 2) := by decide +kernel
theorem d_S_feed_9 : decode b_S_feed 9 = .ok (.if_icmp .le 11, 3) := by decide +kernel
theorem d_S_feed_12 : decode b_S_feed 12 = .ok (.new 103, 3) := by decide +kernel
theorem d_S_feed_15 : decode b_S_feed 15 = .ok (.dup, 1) := by decide +kernel
theorem d_S_feed_16 : decode b_S_feed 16 = .ok (.invokespecial 105, 3) := by decide +kernel
theorem d_S_feed_19 : decode b_S_feed 19 = .ok (.athrow, 1) := by decide +kernel
theorem d_S_feed_20 : decode b_S_feed 20 = .ok (.aload_n 0, 1) := by decide +kernel
theorem d_S_feed_21 : decode b_S_feed 21 = .ok (.iload_n 1, 1) := by decide +kernel
theorem d_S_feed_22 : decode b_S_feed 22 = .ok (.invokevirtual 106, 3) := by decide +kernel
theorem d_S_feed_25 : decode b_S_feed 25 = .ok (.aload_n 0, 1) := by decide +kernel
theorem d_S_feed_26 : decode b_S_feed 26 = .ok (.iload_n 2, 1) := by decide +kernel
theorem d_S_feed_27 : decode b_S_feed 27 = .ok (.invokevirtual 106, 3) := by decide +kernel
theorem d_S_feed_30 : decode b_S_feed 30 = .ok (.aload_n 0, 1) := by decide +kernel
theorem d_S_feed_31 : decode b_S_feed 31 = .ok (.iload_n 3, 1) := by decide +kernel
theorem d_S_feed_32 : decode b_S_feed 32 = .ok (.invokevirtual 106, 3) := by decide +kernel
theorem d_S_feed_35 : decode b_S_feed 35 = .ok (.aload_n 0, 1) := by decide +kernel
theorem d_S_feed_36 : decode b_S_feed 36 = .ok (.iload 4, 2) := by decide +kernel
theorem d_S_feed_38 : decode b_S_feed 38 = .ok (.invokevirtual 106, 3) := by decide +kernel
theorem d_S_feed_41 : decode b_S_feed 41 = .ok (.aload_n 0, 1) := by decide +kernel
theorem d_S_feed_42 : decode b_S_feed 42 = .ok (.iload 5, 2) := by decide +kernel
theorem d_S_feed_44 : decode b_S_feed 44 = .ok (.invokevirtual 106, 3) := by decide +kernel
theorem d_S_feed_47 : decode b_S_feed 47 = .ok (.aload_n 0, 1) := by decide +kernel
theorem d_S_feed_48 : decode b_S_feed 48 = .ok (.getfield 100, 3) := by decide +kernel
theorem d_S_feed_51 : decode b_S_feed 51 = .ok (.ireturn, 1) := by decide +kernel
abbrev mt_S_feed : MT := (R_S, b_S_feed, 6, some .int)
theorem vf_S_feed : VF y_S_feed mt_S_feed 0 5 := ⟨im_S_feed, se_S_feed, in_S, co_S_feed, by decide +kernel, _, _, rfl⟩
def f_S_feed (γ : St) (a0 : Int) (a1 : Int) (a2 : Int) (a3 : Int) (a4 : Int) : Option (Int × St) :=
  chk (i32 ((γ 0 10) + 20)) (if ((γ 0 10) + 20) ≤ 65536 then
  (bndN (f_S_append γ a0) fun _ γ4 =>
  bndN (f_S_append γ4 a1) fun _ γ6 =>
  bndN (f_S_append γ6 a2) fun _ γ8 =>
  bndN (f_S_append γ8 a3) fun _ γ10 =>
  bndN (f_S_append γ10 a4) fun _ γ12 =>
  some (γ12 0 10, γ12))
  else
  (none))
set_option maxHeartbeats 4000000 in
theorem c_S_feed {Γ : Ctx} (γ : St) (a0 : Int) (a1 : Int) (a2 : Int) (a3 : Int) (a4 : Int) (ha0 : i32 a0) (ha1 : i32 a1) (ha2 : i32 a2) (ha3 : i32 a3) (ha4 : i32 a4) : NC Γ BS y_S_feed mt_S_feed 7 261 [vR Γ 0, vI a0, vI a1, vI a2, vI a3, vI a4] γ (f_S_feed γ a0 a1 a2 a3 a4) := by
  refine nc_of (by decide) rfl (Nat.le_of_ble_eq_true rfl) ?_
  show SB Γ BS mt_S_feed (RmN 7 261) 0 0 (KN Γ BS mt_S_feed.2.2.2) 0 [(0, vR Γ 0), (1, vI a0), (2, vI a1), (3, vI a2), (4, vI a3), (5, vI a4)] [] γ _
  unfold f_S_feed
  refine sb_aload_n 0 d_S_feed_0 rfl ?_
  refine g_S_100 d_S_feed_1 (fun c1 => ?_)
  refine sb_bipush d_S_feed_4 (by decide) ?_
  refine sb_iadd d_S_feed_6 ?_
  refine sb_chk (fun c2 => ?_)
  refine sb_ldc 65536 (by decide) ct_S_13 d_S_feed_7 ?_
  refine sb_icmp_le 20 c2 (by decide) d_S_feed_9 (by decide) (fun _ => ?_) (fun _ => ?_)
  · refine sb_aload_n 0 d_S_feed_20 rfl ?_
    refine sb_iload_n 1 d_S_feed_21 rfl ?_
    refine sb_cVv vf_S_append (c_S_append γ a0 ha0) rfl ml_S_106 (As := [vI a0]) rfl rfl (Nat.le_of_ble_eq_true rfl) ⟨by decide, by decide⟩ d_S_feed_22 (fun _ γ4 => ?_)
    refine sb_aload_n 0 d_S_feed_25 rfl ?_
    refine sb_iload_n 2 d_S_feed_26 rfl ?_
    refine sb_cVv vf_S_append (c_S_append γ4 a1 ha1) rfl ml_S_106 (As := [vI a1]) rfl rfl (Nat.le_of_ble_eq_true rfl) ⟨by decide, by decide⟩ d_S_feed_27 (fun _ γ6 => ?_)
    refine sb_aload_n 0 d_S_feed_30 rfl ?_
    refine sb_iload_n 3 d_S_feed_31 rfl ?_
    refine sb_cVv vf_S_append (c_S_append γ6 a2 ha2) rfl ml_S_106 (As := [vI a2]) rfl rfl (Nat.le_of_ble_eq_true rfl) ⟨by decide, by decide⟩ d_S_feed_32 (fun _ γ8 => ?_)
    refine sb_aload_n 0 d_S_feed_35 rfl ?_
    refine sb_iload 4 d_S_feed_36 rfl ?_
    refine sb_cVv vf_S_append (c_S_append γ8 a3 ha3) rfl ml_S_106 (As := [vI a3]) rfl rfl (Nat.le_of_ble_eq_true rfl) ⟨by decide, by decide⟩ d_S_feed_38 (fun _ γ10 => ?_)
    refine sb_aload_n 0 d_S_feed_41 rfl ?_
    refine sb_iload 5 d_S_feed_42 rfl ?_
    refine sb_cVv vf_S_append (c_S_append γ10 a4 ha4) rfl ml_S_106 (As := [vI a4]) rfl rfl (Nat.le_of_ble_eq_true rfl) ⟨by decide, by decide⟩ d_S_feed_44 (fun _ γ12 => ?_)
    refine sb_aload_n 0 d_S_feed_47 rfl ?_
    refine g_S_100 d_S_feed_48 (fun c13 => ?_)
    exact sn_i rfl c13 d_S_feed_51
  · exact sb_none
theorem d_S_end_0 : decode b_S_end 0 = .ok (.iload_n 1, 1) := by decide +kernel
theorem d_S_end_1 : decode b_S_end 1 = .ok (.ifCond .lt 11, 3) := by decide +kernel
theorem d_S_end_4 : decode b_S_end 4 = .ok (.iload_n 1, 1) := by decide +kernel
theorem d_S_end_5 : decode b_S_end 5 = .ok (.aload_n 0, 1) := by decide +kernel
theorem d_S_end_6 : decode b_S_end 6 = .ok (.getfield 100, 3) := by decide +kernel
theorem d_S_end_9 : decode b_S_end 9 = .ok (.if_icmp .le 11, 3) := by decide +kernel
theorem d_S_end_12 : decode b_S_end 12 = .ok (.new 110, 3) := by decide +kernel
theorem d_S_end_15 : decode b_S_end 15 = .ok (.dup, 1) := by decide +kernel
theorem d_S_end_16 : decode b_S_end 16 = .ok (.invokespecial 112, 3) := by decide +kernel
theorem d_S_end_19 : decode b_S_end 19 = .ok (.athrow, 1) := by decide +kernel
theorem d_S_end_20 : decode b_S_end 20 = .ok (.aload_n 0, 1) := by decide +kernel
theorem d_S_end_21 : decode b_S_end 21 = .ok (.iload_n 1, 1) := by decide +kernel
theorem d_S_end_22 : decode b_S_end 22 = .ok (.putfield 100, 3) := by decide +kernel
theorem d_S_end_25 : decode b_S_end 25 = .ok (.iload_n 1, 1) := by decide +kernel
theorem d_S_end_26 : decode b_S_end 26 = .ok (.ireturn, 1) := by decide +kernel
abbrev mt_S_end : MT := (R_S, b_S_end, 2, some .int)
theorem vf_S_end : VF y_S_end mt_S_end 0 1 := ⟨im_S_end, se_S_end, in_S, co_S_end, by decide +kernel, _, _, rfl⟩
def f_S_end_b12 (γ : St) : Option (Int × St) :=
  none
def f_S_end (γ : St) (a0 : Int) : Option (Int × St) :=
  if a0 < 0 then
  (f_S_end_b12 γ )
  else
  (if a0 ≤ (γ 0 10) then
  (ap (setA γ 0 10 a0) fun γ2 =>
  some (a0, γ2))
  else
  (f_S_end_b12 γ ))
set_option maxHeartbeats 4000000 in
theorem s_S_end_b12 {Γ : Ctx} : ∀ (γ : St), SB Γ BS mt_S_end (RmN 6 240) 0 0 (KN Γ BS mt_S_end.2.2.2) 12 [(0, vR Γ 0)] [] γ (f_S_end_b12 γ ) := by
  intro γ
  unfold f_S_end_b12
  exact sb_none
set_option maxHeartbeats 4000000 in
theorem c_S_end {Γ : Ctx} (γ : St) (a0 : Int) (ha0 : i32 a0) : NC Γ BS y_S_end mt_S_end 6 240 [vR Γ 0, vI a0] γ (f_S_end γ a0) := by
  refine nc_of (by decide) rfl (Nat.le_of_ble_eq_true rfl) ?_
  show SB Γ BS mt_S_end (RmN 6 240) 0 0 (KN Γ BS mt_S_end.2.2.2) 0 [(0, vR Γ 0), (1, vI a0)] [] γ _
  unfold f_S_end
  refine sb_iload_n 1 d_S_end_0 rfl ?_
  refine sb_if_lt 12 ha0 d_S_end_1 (by decide) (fun _ => ?_) (fun _ => ?_)
  · exact sb_lv [0] rfl (s_S_end_b12 γ  )
  · refine sb_iload_n 1 d_S_end_4 rfl ?_
    refine sb_aload_n 0 d_S_end_5 rfl ?_
    refine g_S_100 d_S_end_6 (fun c1 => ?_)
    refine sb_icmp_le 20 ha0 c1 d_S_end_9 (by decide) (fun _ => ?_) (fun _ => ?_)
    · refine sb_aload_n 0 d_S_end_20 rfl ?_
      refine sb_iload_n 1 d_S_end_21 rfl ?_
      refine p_S_100 ha0 d_S_end_22 ?_
      refine sb_aps (fun γ2 => ?_)
      refine sb_iload_n 1 d_S_end_25 rfl ?_
      exact sn_i rfl ha0 d_S_end_26
    · exact sb_lv [0] rfl (s_S_end_b12 γ  )
theorem d_S_sizesFit_0 : decode b_S_sizesFit 0 = .ok (.aload_n 0, 1) := by decide +kernel
theorem d_S_sizesFit_1 : decode b_S_sizesFit 1 = .ok (.getfield 46, 3) := by decide +kernel
theorem d_S_sizesFit_4 : decode b_S_sizesFit 4 = .ok (.getfield 145, 3) := by decide +kernel
theorem d_S_sizesFit_7 : decode b_S_sizesFit 7 = .ok (.iconst 1, 1) := by decide +kernel
theorem d_S_sizesFit_8 : decode b_S_sizesFit 8 = .ok (.isub, 1) := by decide +kernel
theorem d_S_sizesFit_9 : decode b_S_sizesFit 9 = .ok (.istore_n 1, 1) := by decide +kernel
theorem d_S_sizesFit_10 : decode b_S_sizesFit 10 = .ok (.aload_n 0, 1) := by decide +kernel
theorem d_S_sizesFit_11 : decode b_S_sizesFit 11 = .ok (.getfield 46, 3) := by decide +kernel
theorem d_S_sizesFit_14 : decode b_S_sizesFit 14 = .ok (.getfield 217, 3) := by decide +kernel
theorem d_S_sizesFit_17 : decode b_S_sizesFit 17 = .ok (.iload_n 1, 1) := by decide +kernel
theorem d_S_sizesFit_18 : decode b_S_sizesFit 18 = .ok (.iaload, 1) := by decide +kernel
theorem d_S_sizesFit_19 : decode b_S_sizesFit 19 = .ok (.istore_n 2, 1) := by decide +kernel
theorem d_S_sizesFit_20 : decode b_S_sizesFit 20 = .ok (.iload_n 2, 1) := by decide +kernel
theorem d_S_sizesFit_21 : decode b_S_sizesFit 21 = .ok (.sipush 3000, 3) := by decide +kernel
theorem d_S_sizesFit_24 : decode b_S_sizesFit 24 = .ok (.if_icmp .gt 30, 3) := by decide +kernel
theorem d_S_sizesFit_27 : decode b_S_sizesFit 27 = .ok (.aload_n 0, 1) := by decide +kernel
theorem d_S_sizesFit_28 : decode b_S_sizesFit 28 = .ok (.getfield 46, 3) := by decide +kernel
theorem d_S_sizesFit_31 : decode b_S_sizesFit 31 = .ok (.getfield 223, 3) := by decide +kernel
theorem d_S_sizesFit_34 : decode b_S_sizesFit 34 = .ok (.iload_n 1, 1) := by decide +kernel
theorem d_S_sizesFit_35 : decode b_S_sizesFit 35 = .ok (.iaload, 1) := by decide +kernel
theorem d_S_sizesFit_36 : decode b_S_sizesFit 36 = .ok (.sipush 6000, 3) := by decide +kernel
theorem d_S_sizesFit_39 : decode b_S_sizesFit 39 = .ok (.if_icmp .gt 15, 3) := by decide +kernel
theorem d_S_sizesFit_42 : decode b_S_sizesFit 42 = .ok (.aload_n 0, 1) := by decide +kernel
theorem d_S_sizesFit_43 : decode b_S_sizesFit 43 = .ok (.getfield 226, 3) := by decide +kernel
theorem d_S_sizesFit_46 : decode b_S_sizesFit 46 = .ok (.iload_n 2, 1) := by decide +kernel
theorem d_S_sizesFit_47 : decode b_S_sizesFit 47 = .ok (.iadd, 1) := by decide +kernel
theorem d_S_sizesFit_48 : decode b_S_sizesFit 48 = .ok (.sipush 30000, 3) := by decide +kernel
theorem d_S_sizesFit_51 : decode b_S_sizesFit 51 = .ok (.if_icmp .le 12, 3) := by decide +kernel
theorem d_S_sizesFit_54 : decode b_S_sizesFit 54 = .ok (.aload_n 0, 1) := by decide +kernel
theorem d_S_sizesFit_55 : decode b_S_sizesFit 55 = .ok (.getfield 39, 3) := by decide +kernel
theorem d_S_sizesFit_58 : decode b_S_sizesFit 58 = .ok (.iconst 3, 1) := by decide +kernel
theorem d_S_sizesFit_59 : decode b_S_sizesFit 59 = .ok (.invokevirtual 229, 3) := by decide +kernel
theorem d_S_sizesFit_62 : decode b_S_sizesFit 62 = .ok (.ireturn, 1) := by decide +kernel
theorem d_S_sizesFit_63 : decode b_S_sizesFit 63 = .ok (.aload_n 0, 1) := by decide +kernel
theorem d_S_sizesFit_64 : decode b_S_sizesFit 64 = .ok (.dup, 1) := by decide +kernel
theorem d_S_sizesFit_65 : decode b_S_sizesFit 65 = .ok (.getfield 226, 3) := by decide +kernel
theorem d_S_sizesFit_68 : decode b_S_sizesFit 68 = .ok (.iload_n 2, 1) := by decide +kernel
theorem d_S_sizesFit_69 : decode b_S_sizesFit 69 = .ok (.iadd, 1) := by decide +kernel
theorem d_S_sizesFit_70 : decode b_S_sizesFit 70 = .ok (.putfield 226, 3) := by decide +kernel
theorem d_S_sizesFit_73 : decode b_S_sizesFit 73 = .ok (.iconst 1, 1) := by decide +kernel
theorem d_S_sizesFit_74 : decode b_S_sizesFit 74 = .ok (.ireturn, 1) := by decide +kernel
abbrev mt_S_sizesFit : MT := (R_S, b_S_sizesFit, 3, some .boolean)
theorem vf_S_sizesFit : VF y_S_sizesFit mt_S_sizesFit 0 0 := ⟨im_S_sizesFit, se_S_sizesFit, in_S, co_S_sizesFit, by decide +kernel, _, _, rfl⟩
def f_S_sizesFit_b54 (γ : St) : Option (Int × St) :=
  bndN (f_Tk_fail γ 3) fun r2 γ3 =>
  some (r2, γ3)
def f_S_sizesFit (γ : St) : Option (Int × St) :=
  chk (i32 ((γ 3 9) - 1)) (ap ((γ 3 9) - 1) fun x7 =>
  chk (inb x7 59) (ap (γ 31 x7) fun x11 =>
  if 3000 < x11 then
  (f_S_sizesFit_b54 γ )
  else
  (chk (inb x7 59) (if 6000 < (γ 32 x7) then
  (f_S_sizesFit_b54 γ )
  else
  (chk (i32 ((γ 0 11) + x11)) (if ((γ 0 11) + x11) ≤ 30000 then
  (chk (i32 ((γ 0 11) + x11)) (ap (setA γ 0 11 ((γ 0 11) + x11)) fun γ19 =>
  some (1, γ19)))
  else
  (f_S_sizesFit_b54 γ )))))))
set_option maxHeartbeats 4000000 in
theorem s_S_sizesFit_b54 {Γ : Ctx} : ∀ (γ : St), SB Γ BS mt_S_sizesFit (RmN 7 261) 0 0 (KN Γ BS mt_S_sizesFit.2.2.2) 54 [(0, vR Γ 0)] [] γ (f_S_sizesFit_b54 γ ) := by
  intro γ
  unfold f_S_sizesFit_b54
  refine sb_aload_n 0 d_S_sizesFit_54 rfl ?_
  refine g_S_39 d_S_sizesFit_55 ?_
  refine sb_iconst d_S_sizesFit_58 ?_
  refine sb_cVz vf_Tk_fail (c_Tk_fail γ 3 (by decide)) rfl ml_S_229 (As := [vI 3]) rfl rfl (Nat.le_of_ble_eq_true rfl) ⟨by decide, by decide⟩ d_S_sizesFit_59 (fun r2 γ3 hr2 => ?_)
  exact sn_z rfl hr2 d_S_sizesFit_62
set_option maxHeartbeats 4000000 in
theorem c_S_sizesFit {Γ : Ctx} (γ : St) : NC Γ BS y_S_sizesFit mt_S_sizesFit 7 261 [vR Γ 0] γ (f_S_sizesFit γ) := by
  refine nc_of (by decide) rfl (Nat.le_of_ble_eq_true rfl) ?_
  show SB Γ BS mt_S_sizesFit (RmN 7 261) 0 0 (KN Γ BS mt_S_sizesFit.2.2.2) 0 [(0, vR Γ 0)] [] γ _
  unfold f_S_sizesFit
  refine sb_aload_n 0 d_S_sizesFit_0 rfl ?_
  refine g_S_46 d_S_sizesFit_1 ?_
  refine g_S_145 d_S_sizesFit_4 (fun c5 => ?_)
  refine sb_iconst d_S_sizesFit_7 ?_
  refine sb_isub d_S_sizesFit_8 ?_
  refine sb_chk (fun c6 => ?_)
  refine sb_istore_n [(1, vI ((γ 3 9) - 1)), (0, vR Γ 0)] d_S_sizesFit_9 (by decide) rfl ?_
  refine sb_nme (e := (γ 3 9) - 1) (fun x7 => [(1, vI x7), (0, vR Γ 0)]) c6 (fun x7 hx7 => ?_)
  refine sb_aload_n 1 d_S_sizesFit_10 rfl ?_
  refine g_S_46 d_S_sizesFit_11 ?_
  refine g_S_217 d_S_sizesFit_14 ?_
  refine sb_iload_n 0 d_S_sizesFit_17 rfl ?_
  refine al_S_31 d_S_sizesFit_18 (fun _ c10 => ?_)
  refine sb_istore_n [(2, vI (γ 31 x7)), (1, vI x7), (0, vR Γ 0)] d_S_sizesFit_19 (by decide) rfl ?_
  refine sb_nme (e := γ 31 x7) (fun x11 => [(2, vI x11), (1, vI x7), (0, vR Γ 0)]) c10 (fun x11 hx11 => ?_)
  refine sb_iload_n 0 d_S_sizesFit_20 rfl ?_
  refine sb_sipush d_S_sizesFit_21 (by decide) ?_
  refine sb_icmp_gt 54 hx11 (by decide) d_S_sizesFit_24 (by decide) (fun _ => ?_) (fun _ => ?_)
  · exact sb_lv [2] rfl (s_S_sizesFit_b54 γ  )
  · refine sb_aload_n 2 d_S_sizesFit_27 rfl ?_
    refine g_S_46 d_S_sizesFit_28 ?_
    refine g_S_223 d_S_sizesFit_31 ?_
    refine sb_iload_n 1 d_S_sizesFit_34 rfl ?_
    refine al_S_32 d_S_sizesFit_35 (fun _ c14 => ?_)
    refine sb_sipush d_S_sizesFit_36 (by decide) ?_
    refine sb_icmp_gt 54 c14 (by decide) d_S_sizesFit_39 (by decide) (fun _ => ?_) (fun _ => ?_)
    · exact sb_lv [2] rfl (s_S_sizesFit_b54 γ  )
    · refine sb_aload_n 2 d_S_sizesFit_42 rfl ?_
      refine g_S_226 d_S_sizesFit_43 (fun c15 => ?_)
      refine sb_iload_n 0 d_S_sizesFit_46 rfl ?_
      refine sb_iadd d_S_sizesFit_47 ?_
      refine sb_chk (fun c16 => ?_)
      refine sb_sipush d_S_sizesFit_48 (by decide) ?_
      refine sb_icmp_le 63 c16 (by decide) d_S_sizesFit_51 (by decide) (fun _ => ?_) (fun _ => ?_)
      · refine sb_aload_n 2 d_S_sizesFit_63 rfl ?_
        refine sb_dup d_S_sizesFit_64 rfl ?_
        refine g_S_226 d_S_sizesFit_65 (fun c17 => ?_)
        refine sb_iload_n 0 d_S_sizesFit_68 rfl ?_
        refine sb_iadd d_S_sizesFit_69 ?_
        refine sb_chk (fun c18 => ?_)
        refine p_S_226 c18 d_S_sizesFit_70 ?_
        refine sb_aps (fun γ19 => ?_)
        refine sb_iconst d_S_sizesFit_73 ?_
        exact sn_z rfl (by decide) d_S_sizesFit_74
      · exact sb_lv [2] rfl (s_S_sizesFit_b54 γ  )
theorem d_S_causesFit_0 : decode b_S_causesFit 0 = .ok (.aload_n 0, 1) := by decide +kernel
theorem d_S_causesFit_1 : decode b_S_causesFit 1 = .ok (.getfield 78, 3) := by decide +kernel
theorem d_S_causesFit_4 : decode b_S_causesFit 4 = .ok (.aload_n 0, 1) := by decide +kernel
theorem d_S_causesFit_5 : decode b_S_causesFit 5 = .ok (.getfield 46, 3) := by decide +kernel
theorem d_S_causesFit_8 : decode b_S_causesFit 8 = .ok (.getfield 145, 3) := by decide +kernel
theorem d_S_causesFit_11 : decode b_S_causesFit 11 = .ok (.iconst 1, 1) := by decide +kernel
theorem d_S_causesFit_12 : decode b_S_causesFit 12 = .ok (.isub, 1) := by decide +kernel
theorem d_S_causesFit_13 : decode b_S_causesFit 13 = .ok (.invokevirtual 232, 3) := by decide +kernel
theorem d_S_causesFit_16 : decode b_S_causesFit 16 = .ok (.aload_n 0, 1) := by decide +kernel
theorem d_S_causesFit_17 : decode b_S_causesFit 17 = .ok (.getfield 87, 3) := by decide +kernel
theorem d_S_causesFit_20 : decode b_S_causesFit 20 = .ok (.invokevirtual 235, 3) := by decide +kernel
theorem d_S_causesFit_23 : decode b_S_causesFit 23 = .ok (.aload_n 0, 1) := by decide +kernel
theorem d_S_causesFit_24 : decode b_S_causesFit 24 = .ok (.getfield 87, 3) := by decide +kernel
theorem d_S_causesFit_27 : decode b_S_causesFit 27 = .ok (.getfield 238, 3) := by decide +kernel
theorem d_S_causesFit_30 : decode b_S_causesFit 30 = .ok (.ifCond .lt 30, 3) := by decide +kernel
theorem d_S_causesFit_33 : decode b_S_causesFit 33 = .ok (.aload_n 0, 1) := by decide +kernel
theorem d_S_causesFit_34 : decode b_S_causesFit 34 = .ok (.getfield 39, 3) := by decide +kernel
theorem d_S_causesFit_37 : decode b_S_causesFit 37 = .ok (.bipush 7, 2) := by decide +kernel
theorem d_S_causesFit_39 : decode b_S_causesFit 39 = .ok (.aload_n 0, 1) := by decide +kernel
theorem d_S_causesFit_40 : decode b_S_causesFit 40 = .ok (.getfield 69, 3) := by decide +kernel
theorem d_S_causesFit_43 : decode b_S_causesFit 43 = .ok (.getfield 241, 3) := by decide +kernel
theorem d_S_causesFit_46 : decode b_S_causesFit 46 = .ok (.aload_n 0, 1) := by decide +kernel
theorem d_S_causesFit_47 : decode b_S_causesFit 47 = .ok (.getfield 87, 3) := by decide +kernel
theorem d_S_causesFit_50 : decode b_S_causesFit 50 = .ok (.getfield 238, 3) := by decide +kernel
theorem d_S_causesFit_53 : decode b_S_causesFit 53 = .ok (.iaload, 1) := by decide +kernel
theorem d_S_causesFit_54 : decode b_S_causesFit 54 = .ok (.invokevirtual 244, 3) := by decide +kernel
theorem d_S_causesFit_57 : decode b_S_causesFit 57 = .ok (.ifCond .eq 7, 3) := by decide +kernel
theorem d_S_causesFit_60 : decode b_S_causesFit 60 = .ok (.iconst 1, 1) := by decide +kernel
theorem d_S_causesFit_61 : decode b_S_causesFit 61 = .ok (.goto 4, 3) := by decide +kernel
theorem d_S_causesFit_64 : decode b_S_causesFit 64 = .ok (.iconst 0, 1) := by decide +kernel
theorem d_S_causesFit_65 : decode b_S_causesFit 65 = .ok (.ireturn, 1) := by decide +kernel
abbrev mt_S_causesFit : MT := (R_S, b_S_causesFit, 1, some .boolean)
theorem vf_S_causesFit : VF y_S_causesFit mt_S_causesFit 0 0 := ⟨im_S_causesFit, se_S_causesFit, in_S, co_S_causesFit, by decide +kernel, _, _, rfl⟩
def f_S_causesFit (γ : St) : Option (Int × St) :=
  chk (i32 ((γ 3 9) - 1)) (bndN (f_Lk_link γ ((γ 3 9) - 1)) fun _ γ6 =>
  bndN (f_Od_sort γ6) fun _ γ9 =>
  if (γ9 10 13) < 0 then
  (some (1, γ9))
  else
  (chk (inb (γ9 10 13) 6000) (bndN (f_Tk_failAt γ9 7 (γ9 60 (γ9 10 13))) fun r18 γ19 =>
  if r18 = 0 then
  (some (0, γ19))
  else
  (some (1, γ19)))))
set_option maxHeartbeats 4000000 in
theorem c_S_causesFit {Γ : Ctx} (γ : St) : NC Γ BS y_S_causesFit mt_S_causesFit 12 384 [vR Γ 0] γ (f_S_causesFit γ) := by
  refine nc_of (by decide) rfl (Nat.le_of_ble_eq_true rfl) ?_
  show SB Γ BS mt_S_causesFit (RmN 12 384) 0 0 (KN Γ BS mt_S_causesFit.2.2.2) 0 [(0, vR Γ 0)] [] γ _
  unfold f_S_causesFit
  refine sb_aload_n 0 d_S_causesFit_0 rfl ?_
  refine g_S_78 d_S_causesFit_1 ?_
  refine sb_aload_n 0 d_S_causesFit_4 rfl ?_
  refine g_S_46 d_S_causesFit_5 ?_
  refine g_S_145 d_S_causesFit_8 (fun c3 => ?_)
  refine sb_iconst d_S_causesFit_11 ?_
  refine sb_isub d_S_causesFit_12 ?_
  refine sb_chk (fun c4 => ?_)
  refine sb_cVv vf_Lk_link (c_Lk_link γ ((γ 3 9) - 1) c4) rfl ml_S_232 (As := [vI ((γ 3 9) - 1)]) rfl rfl (Nat.le_of_ble_eq_true rfl) ⟨by decide, by decide⟩ d_S_causesFit_13 (fun _ γ6 => ?_)
  refine sb_aload_n 0 d_S_causesFit_16 rfl ?_
  refine g_S_87 d_S_causesFit_17 ?_
  refine sb_cVv vf_Od_sort (c_Od_sort γ6  ) rfl ml_S_235 (As := []) rfl rfl (Nat.le_of_ble_eq_true rfl) ⟨by decide, by decide⟩ d_S_causesFit_20 (fun _ γ9 => ?_)
  refine sb_aload_n 0 d_S_causesFit_23 rfl ?_
  refine g_S_87 d_S_causesFit_24 ?_
  refine g_S_238 d_S_causesFit_27 (fun c11 => ?_)
  refine sb_if_lt 60 c11 d_S_causesFit_30 (by decide) (fun _ => ?_) (fun _ => ?_)
  · refine sb_iconst d_S_causesFit_60 ?_
    refine sb_goto 65 d_S_causesFit_61 (by decide) ?_
    exact sn_z rfl (by decide) d_S_causesFit_65
  · refine sb_aload_n 0 d_S_causesFit_33 rfl ?_
    refine g_S_39 d_S_causesFit_34 ?_
    refine sb_bipush d_S_causesFit_37 (by decide) ?_
    refine sb_aload_n 0 d_S_causesFit_39 rfl ?_
    refine g_S_69 d_S_causesFit_40 ?_
    refine g_S_241 d_S_causesFit_43 ?_
    refine sb_aload_n 0 d_S_causesFit_46 rfl ?_
    refine g_S_87 d_S_causesFit_47 ?_
    refine g_S_238 d_S_causesFit_50 (fun c16 => ?_)
    refine al_S_60 d_S_causesFit_53 (fun _ c17 => ?_)
    refine sb_cVz vf_Tk_failAt (c_Tk_failAt γ9 7 (γ9 60 (γ9 10 13)) (by decide) c17) rfl ml_S_244 (As := [vI 7, vI (γ9 60 (γ9 10 13))]) rfl rfl (Nat.le_of_ble_eq_true rfl) ⟨by decide, by decide⟩ d_S_causesFit_54 (fun r18 γ19 hr18 => ?_)
    refine sb_if_eq 64 (z2i hr18) d_S_causesFit_57 (by decide) (fun _ => ?_) (fun _ => ?_)
    · refine sb_iconst d_S_causesFit_64 ?_
      exact sn_z rfl (by decide) d_S_causesFit_65
    · refine sb_iconst d_S_causesFit_60 ?_
      refine sb_goto 65 d_S_causesFit_61 (by decide) ?_
      exact sn_z rfl (by decide) d_S_causesFit_65
theorem d_S_read_0 : decode b_S_read 0 = .ok (.aload_n 0, 1) := by decide +kernel
theorem d_S_read_1 : decode b_S_read 1 = .ok (.iconst (-1), 1) := by decide +kernel
theorem d_S_read_2 : decode b_S_read 2 = .ok (.putfield 26, 3) := by decide +kernel
theorem d_S_read_5 : decode b_S_read 5 = .ok (.aload_n 0, 1) := by decide +kernel
theorem d_S_read_6 : decode b_S_read 6 = .ok (.iconst 0, 1) := by decide +kernel
theorem d_S_read_7 : decode b_S_read 7 = .ok (.putfield 113, 3) := by decide +kernel
theorem d_S_read_10 : decode b_S_read 10 = .ok (.aload_n 0, 1) := by decide +kernel
theorem d_S_read_11 : decode b_S_read 11 = .ok (.iconst 0, 1) := by decide +kernel
theorem d_S_read_12 : decode b_S_read 12 = .ok (.putfield 116, 3) := by decide +kernel
theorem d_S_read_15 : decode b_S_read 15 = .ok (.aload_n 0, 1) := by decide +kernel
theorem d_S_read_16 : decode b_S_read 16 = .ok (.getfield 39, 3) := by decide +kernel
theorem d_S_read_19 : decode b_S_read 19 = .ok (.aload_n 0, 1) := by decide +kernel
theorem d_S_read_20 : decode b_S_read 20 = .ok (.getfield 100, 3) := by decide +kernel
theorem d_S_read_23 : decode b_S_read 23 = .ok (.invokevirtual 119, 3) := by decide +kernel
theorem d_S_read_26 : decode b_S_read 26 = .ok (.aload_n 0, 1) := by decide +kernel
theorem d_S_read_27 : decode b_S_read 27 = .ok (.iconst 0, 1) := by decide +kernel
theorem d_S_read_28 : decode b_S_read 28 = .ok (.putfield 100, 3) := by decide +kernel
theorem d_S_read_31 : decode b_S_read 31 = .ok (.aload_n 0, 1) := by decide +kernel
theorem d_S_read_32 : decode b_S_read 32 = .ok (.getfield 46, 3) := by decide +kernel
theorem d_S_read_35 : decode b_S_read 35 = .ok (.invokevirtual 122, 3) := by decide +kernel
theorem d_S_read_38 : decode b_S_read 38 = .ok (.aload_n 0, 1) := by decide +kernel
theorem d_S_read_39 : decode b_S_read 39 = .ok (.getfield 53, 3) := by decide +kernel
theorem d_S_read_42 : decode b_S_read 42 = .ok (.invokevirtual 125, 3) := by decide +kernel
theorem d_S_read_45 : decode b_S_read 45 = .ok (.iconst 1, 1) := by decide +kernel
theorem d_S_read_46 : decode b_S_read 46 = .ok (.istore_n 1, 1) := by decide +kernel
theorem d_S_read_47 : decode b_S_read 47 = .ok (.iconst 0, 1) := by decide +kernel
theorem d_S_read_48 : decode b_S_read 48 = .ok (.istore_n 2, 1) := by decide +kernel
theorem d_S_read_49 : decode b_S_read 49 = .ok (.iload_n 1, 1) := by decide +kernel
theorem d_S_read_50 : decode b_S_read 50 = .ok (.ifCond .eq 51, 3) := by decide +kernel
theorem d_S_read_53 : decode b_S_read 53 = .ok (.iload_n 2, 1) := by decide +kernel
theorem d_S_read_54 : decode b_S_read 54 = .ok (.bipush 59, 2) := by decide +kernel
theorem d_S_read_56 : decode b_S_read 56 = .ok (.if_icmp .gt 45, 3) := by decide +kernel
theorem d_S_read_59 : decode b_S_read 59 = .ok (.aload_n 0, 1) := by decide +kernel
theorem d_S_read_60 : decode b_S_read 60 = .ok (.getfield 62, 3) := by decide +kernel
theorem d_S_read_63 : decode b_S_read 63 = .ok (.invokevirtual 126, 3) := by decide +kernel
theorem d_S_read_66 : decode b_S_read 66 = .ok (.ifCond .eq 27, 3) := by decide +kernel
theorem d_S_read_69 : decode b_S_read 69 = .ok (.aload_n 0, 1) := by decide +kernel
theorem d_S_read_70 : decode b_S_read 70 = .ok (.getfield 62, 3) := by decide +kernel
theorem d_S_read_73 : decode b_S_read 73 = .ok (.invokevirtual 130, 3) := by decide +kernel
theorem d_S_read_76 : decode b_S_read 76 = .ok (.ifCond .eq 17, 3) := by decide +kernel
theorem d_S_read_79 : decode b_S_read 79 = .ok (.aload_n 0, 1) := by decide +kernel
theorem d_S_read_80 : decode b_S_read 80 = .ok (.getfield 39, 3) := by decide +kernel
theorem d_S_read_83 : decode b_S_read 83 = .ok (.invokevirtual 133, 3) := by decide +kernel
theorem d_S_read_86 : decode b_S_read 86 = .ok (.ifCond .eq 7, 3) := by decide +kernel
theorem d_S_read_89 : decode b_S_read 89 = .ok (.iconst 1, 1) := by decide +kernel
theorem d_S_read_90 : decode b_S_read 90 = .ok (.goto 4, 3) := by decide +kernel
theorem d_S_read_93 : decode b_S_read 93 = .ok (.iconst 0, 1) := by decide +kernel
theorem d_S_read_94 : decode b_S_read 94 = .ok (.istore_n 1, 1) := by decide +kernel
theorem d_S_read_95 : decode b_S_read 95 = .ok (.iinc 2 1, 3) := by decide +kernel
theorem d_S_read_98 : decode b_S_read 98 = .ok (.goto (-49), 3) := by decide +kernel
theorem d_S_read_101 : decode b_S_read 101 = .ok (.aload_n 0, 1) := by decide +kernel
theorem d_S_read_102 : decode b_S_read 102 = .ok (.getfield 39, 3) := by decide +kernel
theorem d_S_read_105 : decode b_S_read 105 = .ok (.getfield 136, 3) := by decide +kernel
theorem d_S_read_108 : decode b_S_read 108 = .ok (.ifCond .ne 69, 3) := by decide +kernel
theorem d_S_read_111 : decode b_S_read 111 = .ok (.aload_n 0, 1) := by decide +kernel
theorem d_S_read_112 : decode b_S_read 112 = .ok (.invokevirtual 139, 3) := by decide +kernel
theorem d_S_read_115 : decode b_S_read 115 = .ok (.ifCond .eq 62, 3) := by decide +kernel
theorem d_S_read_118 : decode b_S_read 118 = .ok (.aload_n 0, 1) := by decide +kernel
theorem d_S_read_119 : decode b_S_read 119 = .ok (.invokevirtual 142, 3) := by decide +kernel
theorem d_S_read_122 : decode b_S_read 122 = .ok (.ifCond .eq 55, 3) := by decide +kernel
theorem d_S_read_125 : decode b_S_read 125 = .ok (.aload_n 0, 1) := by decide +kernel
theorem d_S_read_126 : decode b_S_read 126 = .ok (.aload_n 0, 1) := by decide +kernel
theorem d_S_read_127 : decode b_S_read 127 = .ok (.getfield 46, 3) := by decide +kernel
theorem d_S_read_130 : decode b_S_read 130 = .ok (.getfield 145, 3) := by decide +kernel
theorem d_S_read_133 : decode b_S_read 133 = .ok (.iconst 1, 1) := by decide +kernel
theorem d_S_read_134 : decode b_S_read 134 = .ok (.isub, 1) := by decide +kernel
theorem d_S_read_135 : decode b_S_read 135 = .ok (.putfield 26, 3) := by decide +kernel
theorem d_S_read_138 : decode b_S_read 138 = .ok (.aload_n 0, 1) := by decide +kernel
theorem d_S_read_139 : decode b_S_read 139 = .ok (.getfield 96, 3) := by decide +kernel
theorem d_S_read_142 : decode b_S_read 142 = .ok (.aload_n 0, 1) := by decide +kernel
theorem d_S_read_143 : decode b_S_read 143 = .ok (.getfield 46, 3) := by decide +kernel
theorem d_S_read_146 : decode b_S_read 146 = .ok (.getfield 148, 3) := by decide +kernel
theorem d_S_read_149 : decode b_S_read 149 = .ok (.aload_n 0, 1) := by decide +kernel
theorem d_S_read_150 : decode b_S_read 150 = .ok (.getfield 26, 3) := by decide +kernel
theorem d_S_read_153 : decode b_S_read 153 = .ok (.iaload, 1) := by decide +kernel
theorem d_S_read_154 : decode b_S_read 154 = .ok (.aload_n 0, 1) := by decide +kernel
theorem d_S_read_155 : decode b_S_read 155 = .ok (.getfield 46, 3) := by decide +kernel
theorem d_S_read_158 : decode b_S_read 158 = .ok (.getfield 151, 3) := by decide +kernel
theorem d_S_read_161 : decode b_S_read 161 = .ok (.aload_n 0, 1) := by decide +kernel
theorem d_S_read_162 : decode b_S_read 162 = .ok (.getfield 26, 3) := by decide +kernel
theorem d_S_read_165 : decode b_S_read 165 = .ok (.iaload, 1) := by decide +kernel
theorem d_S_read_166 : decode b_S_read 166 = .ok (.invokevirtual 154, 3) := by decide +kernel
theorem d_S_read_169 : decode b_S_read 169 = .ok (.aload_n 0, 1) := by decide +kernel
theorem d_S_read_170 : decode b_S_read 170 = .ok (.getfield 9, 3) := by decide +kernel
theorem d_S_read_173 : decode b_S_read 173 = .ok (.iconst 0, 1) := by decide +kernel
theorem d_S_read_174 : decode b_S_read 174 = .ok (.invokestatic 158, 3) := by decide +kernel
theorem d_S_read_177 : decode b_S_read 177 = .ok (.aload_n 0, 1) := by decide +kernel
theorem d_S_read_178 : decode b_S_read 178 = .ok (.getfield 26, 3) := by decide +kernel
theorem d_S_read_181 : decode b_S_read 181 = .ok (.ifCond .ge 7, 3) := by decide +kernel
theorem d_S_read_184 : decode b_S_read 184 = .ok (.iconst (-1), 1) := by decide +kernel
theorem d_S_read_185 : decode b_S_read 185 = .ok (.goto 10, 3) := by decide +kernel
theorem d_S_read_188 : decode b_S_read 188 = .ok (.aload_n 0, 1) := by decide +kernel
theorem d_S_read_189 : decode b_S_read 189 = .ok (.getfield 69, 3) := by decide +kernel
theorem d_S_read_192 : decode b_S_read 192 = .ok (.getfield 164, 3) := by decide +kernel
theorem d_S_read_195 : decode b_S_read 195 = .ok (.ireturn, 1) := by decide +kernel
abbrev mt_S_read : MT := (R_S, b_S_read, 3, some .int)
theorem vf_S_read : VF y_S_read mt_S_read 0 0 := ⟨im_S_read, se_S_read, in_S, co_S_read, by decide +kernel, _, _, rfl⟩
def f_S_read_b177 (γ : St) : Option (Int × St) :=
  if 0 ≤ (γ 0 12) then
  (some (γ 8 8, γ))
  else
  (some ((-1), γ))
def f_S_read_b101 (γ : St) : Option (Int × St) :=
  if (γ 1 7) ≠ 0 then
  (f_S_read_b177 γ )
  else
  (bndN (f_S_sizesFit γ) fun r6 γ7 =>
  if r6 = 0 then
  (f_S_read_b177 γ7 )
  else
  (bndN (f_S_causesFit γ7) fun r8 γ9 =>
  if r8 = 0 then
  (f_S_read_b177 γ9 )
  else
  (chk (i32 ((γ9 3 9) - 1)) (ap (setA γ9 0 12 ((γ9 3 9) - 1)) fun γ13 =>
  chk (inb (γ13 0 12) 59) (chk (inb (γ13 0 12) 59) (bndN (f_Pg_build γ13 (γ13 26 (γ13 0 12)) (γ13 28 (γ13 0 12))) fun _ γ24 =>
  ap (flA γ24 12 0 99 0) fun γ26 =>
  f_S_read_b177 γ26 ))))))
def f_S_read_b94 (k49 : St → Int → Int → Option (Int × St)) (e101 : St → Option (Int × St)) (γ : St) (x27 : Int) (x28 : Int) : Option (Int × St) :=
  chk (i32 (x27 + 1)) (k49 γ x28 (x27 + 1))
def f_S_read_b93 (k49 : St → Int → Int → Option (Int × St)) (e101 : St → Option (Int × St)) (γ : St) (x32 : Int) : Option (Int × St) :=
  f_S_read_b94 k49 e101 γ x32 0
def f_S_read_L49 (e101 : St → Option (Int × St)) : Nat → St → Int → Int → Option (Int × St)
  | 0, _, _, _ => none
  | n + 1, γ, x35, x36 =>
  if x35 = 0 then
  (e101 γ )
  else
  (if 59 < x36 then
  (e101 γ )
  else
  (bndN (f_Nr_readHead γ) fun r38 γ39 =>
  if r38 = 0 then
  (f_S_read_b93 (f_S_read_L49 e101 n) e101 γ39 x36)
  else
  (bndN (f_Nr_readBody γ39) fun r41 γ42 =>
  if r41 = 0 then
  (f_S_read_b93 (f_S_read_L49 e101 n) e101 γ42 x36)
  else
  (bndN (f_Tk_kindNow γ42) fun r44 γ45 =>
  if r44 = 0 then
  (f_S_read_b93 (f_S_read_L49 e101 n) e101 γ45 x36)
  else
  (f_S_read_b94 (f_S_read_L49 e101 n) e101 γ45 x36 1)))))
def f_S_read (γ : St) : Option (Int × St) :=
  ap (setA γ 0 12 (-1)) fun γ46 =>
  ap (setA γ46 0 13 0) fun γ47 =>
  ap (setA γ47 0 14 0) fun γ48 =>
  bndN (f_Tk_scan γ48 (γ48 0 10)) fun _ γ52 =>
  ap (setA γ52 0 10 0) fun γ53 =>
  bndN (f_Nd_begin γ53) fun _ γ56 =>
  bndN (f_Cd_begin γ56) fun _ γ59 =>
  f_S_read_L49 (f_S_read_b101) FU γ59 1 0
set_option maxHeartbeats 4000000 in
theorem s_S_read_b177 {Γ : Ctx} : ∀ (γ : St), SB Γ BS mt_S_read (RmN 13 404) 0 0 (KN Γ BS mt_S_read.2.2.2) 177 [(0, vR Γ 0)] [] γ (f_S_read_b177 γ ) := by
  intro γ
  unfold f_S_read_b177
  refine sb_aload_n 0 d_S_read_177 rfl ?_
  refine g_S_26 d_S_read_178 (fun c1 => ?_)
  refine sb_if_ge 188 c1 d_S_read_181 (by decide) (fun _ => ?_) (fun _ => ?_)
  · refine sb_aload_n 0 d_S_read_188 rfl ?_
    refine g_S_69 d_S_read_189 ?_
    refine g_S_164 d_S_read_192 (fun c3 => ?_)
    exact sn_i rfl c3 d_S_read_195
  · refine sb_iconst d_S_read_184 ?_
    refine sb_goto 195 d_S_read_185 (by decide) ?_
    exact sn_i rfl (by decide) d_S_read_195
set_option maxHeartbeats 4000000 in
theorem s_S_read_b101 {Γ : Ctx} : ∀ (γ : St), SB Γ BS mt_S_read (RmN 13 404) 0 0 (KN Γ BS mt_S_read.2.2.2) 101 [(0, vR Γ 0)] [] γ (f_S_read_b101 γ ) := by
  intro γ
  unfold f_S_read_b101
  refine sb_aload_n 0 d_S_read_101 rfl ?_
  refine g_S_39 d_S_read_102 ?_
  refine g_S_136 d_S_read_105 (fun c5 => ?_)
  refine sb_if_ne 177 c5 d_S_read_108 (by decide) (fun _ => ?_) (fun _ => ?_)
  · exact sb_lv [0] rfl (s_S_read_b177 γ  )
  · refine sb_aload_n 0 d_S_read_111 rfl ?_
    refine sb_cVz vf_S_sizesFit (c_S_sizesFit γ  ) rfl ml_S_139 (As := []) rfl rfl (Nat.le_of_ble_eq_true rfl) ⟨by decide, by decide⟩ d_S_read_112 (fun r6 γ7 hr6 => ?_)
    refine sb_if_eq 177 (z2i hr6) d_S_read_115 (by decide) (fun _ => ?_) (fun _ => ?_)
    · exact sb_lv [0] rfl (s_S_read_b177 γ7  )
    · refine sb_aload_n 0 d_S_read_118 rfl ?_
      refine sb_cVz vf_S_causesFit (c_S_causesFit γ7  ) rfl ml_S_142 (As := []) rfl rfl (Nat.le_of_ble_eq_true rfl) ⟨by decide, by decide⟩ d_S_read_119 (fun r8 γ9 hr8 => ?_)
      refine sb_if_eq 177 (z2i hr8) d_S_read_122 (by decide) (fun _ => ?_) (fun _ => ?_)
      · exact sb_lv [0] rfl (s_S_read_b177 γ9  )
      · refine sb_aload_n 0 d_S_read_125 rfl ?_
        refine sb_aload_n 0 d_S_read_126 rfl ?_
        refine g_S_46 d_S_read_127 ?_
        refine g_S_145 d_S_read_130 (fun c11 => ?_)
        refine sb_iconst d_S_read_133 ?_
        refine sb_isub d_S_read_134 ?_
        refine sb_chk (fun c12 => ?_)
        refine p_S_26 c12 d_S_read_135 ?_
        refine sb_aps (fun γ13 => ?_)
        refine sb_aload_n 0 d_S_read_138 rfl ?_
        refine g_S_96 d_S_read_139 ?_
        refine sb_aload_n 0 d_S_read_142 rfl ?_
        refine g_S_46 d_S_read_143 ?_
        refine g_S_148 d_S_read_146 ?_
        refine sb_aload_n 0 d_S_read_149 rfl ?_
        refine g_S_26 d_S_read_150 (fun c17 => ?_)
        refine al_S_26 d_S_read_153 (fun _ c18 => ?_)
        refine sb_aload_n 0 d_S_read_154 rfl ?_
        refine g_S_46 d_S_read_155 ?_
        refine g_S_151 d_S_read_158 ?_
        refine sb_aload_n 0 d_S_read_161 rfl ?_
        refine g_S_26 d_S_read_162 (fun c21 => ?_)
        refine al_S_28 d_S_read_165 (fun _ c22 => ?_)
        refine sb_cVv vf_Pg_build (c_Pg_build γ13 (γ13 26 (γ13 0 12)) (γ13 28 (γ13 0 12)) c18 c22) rfl ml_S_154 (As := [vI (γ13 26 (γ13 0 12)), vI (γ13 28 (γ13 0 12))]) rfl rfl (Nat.le_of_ble_eq_true rfl) ⟨by decide, by decide⟩ d_S_read_166 (fun _ γ24 => ?_)
        refine sb_aload_n 0 d_S_read_169 rfl ?_
        refine g_S_9 d_S_read_170 ?_
        refine sb_iconst d_S_read_173 ?_
        refine sb_fill0 rfl rfl (by decide) (by decide) ml_S_158 (Nat.le_of_ble_eq_true rfl) ⟨by decide, by decide⟩ d_S_read_174 (fun γ26 => ?_)
        exact sb_lv [0] rfl (s_S_read_b177 γ26  )
set_option maxHeartbeats 4000000 in
theorem s_S_read_b94 {Γ : Ctx} {k49 : St → Int → Int → Option (Int × St)} {e101 : St → Option (Int × St)} (hk49 : ∀ (γ : St) (x30 : Int) (x31 : Int), i32 x30 → i32 x31 → SB Γ BS mt_S_read (RmN 13 404) 0 0 (KN Γ BS mt_S_read.2.2.2) 49 [(0, vR Γ 0), (1, vI x30), (2, vI x31)] [] γ (k49 γ x30 x31)) (he101 : ∀ (γ : St), SB Γ BS mt_S_read (RmN 13 404) 0 0 (KN Γ BS mt_S_read.2.2.2) 101 [(0, vR Γ 0)] [] γ (e101 γ )) : ∀ (γ : St) (x27 : Int) (x28 : Int), i32 x27 → i32 x28 → SB Γ BS mt_S_read (RmN 13 404) 0 0 (KN Γ BS mt_S_read.2.2.2) 94 [(0, vR Γ 0), (2, vI x27)] [vI x28] γ (f_S_read_b94 k49 e101 γ x27 x28) := by
  intro γ x27 x28 hx27 hx28
  unfold f_S_read_b94
  refine sb_istore_n [(1, vI x28), (0, vR Γ 0), (2, vI x27)] d_S_read_94 (by decide) rfl ?_
  refine sb_iinc 2 [(2, vI (x27 + 1)), (1, vI x28), (0, vR Γ 0)] d_S_read_95 rfl (by decide) rfl ?_
  refine sb_chk (fun c29 => ?_)
  refine sb_goto 49 d_S_read_98 (by decide) ?_
  exact sb_lv [2, 1, 0] rfl (hk49 γ x28 (x27 + 1) hx28 c29)
set_option maxHeartbeats 4000000 in
theorem s_S_read_b93 {Γ : Ctx} {k49 : St → Int → Int → Option (Int × St)} {e101 : St → Option (Int × St)} (hk49 : ∀ (γ : St) (x33 : Int) (x34 : Int), i32 x33 → i32 x34 → SB Γ BS mt_S_read (RmN 13 404) 0 0 (KN Γ BS mt_S_read.2.2.2) 49 [(0, vR Γ 0), (1, vI x33), (2, vI x34)] [] γ (k49 γ x33 x34)) (he101 : ∀ (γ : St), SB Γ BS mt_S_read (RmN 13 404) 0 0 (KN Γ BS mt_S_read.2.2.2) 101 [(0, vR Γ 0)] [] γ (e101 γ )) : ∀ (γ : St) (x32 : Int), i32 x32 → SB Γ BS mt_S_read (RmN 13 404) 0 0 (KN Γ BS mt_S_read.2.2.2) 93 [(0, vR Γ 0), (2, vI x32)] [] γ (f_S_read_b93 k49 e101 γ x32) := by
  intro γ x32 hx32
  unfold f_S_read_b93
  refine sb_iconst d_S_read_93 ?_
  exact sb_lv [0, 1] rfl (s_S_read_b94 hk49 he101 γ x32 0 hx32 (by decide))
set_option maxHeartbeats 4000000 in
theorem s_S_read_L49 {Γ : Ctx} {e101 : St → Option (Int × St)} (he101 : ∀ (γ : St), SB Γ BS mt_S_read (RmN 13 404) 0 0 (KN Γ BS mt_S_read.2.2.2) 101 [(0, vR Γ 0)] [] γ (e101 γ )) : ∀ (n : Nat) (γ : St) (x35 : Int) (x36 : Int), i32 x35 → i32 x36 → SB Γ BS mt_S_read (RmN 13 404) 0 0 (KN Γ BS mt_S_read.2.2.2) 49 [(0, vR Γ 0), (1, vI x35), (2, vI x36)] [] γ (f_S_read_L49 e101 n γ x35 x36) := by
  intro n
  induction n with
  | zero => intros; exact sb_none
  | succ n ih =>
    intro γ x35 x36 hx35 hx36
    unfold f_S_read_L49
    refine sb_iload_n 1 d_S_read_49 rfl ?_
    refine sb_if_eq 101 hx35 d_S_read_50 (by decide) (fun _ => ?_) (fun _ => ?_)
    · exact sb_lv [0] rfl (he101 γ  )
    · refine sb_iload_n 2 d_S_read_53 rfl ?_
      refine sb_bipush d_S_read_54 (by decide) ?_
      refine sb_icmp_gt 101 hx36 (by decide) d_S_read_56 (by decide) (fun _ => ?_) (fun _ => ?_)
      · exact sb_lv [0] rfl (he101 γ  )
      · refine sb_aload_n 0 d_S_read_59 rfl ?_
        refine g_S_62 d_S_read_60 ?_
        refine sb_cVz vf_Nr_readHead (c_Nr_readHead γ  ) rfl ml_S_126 (As := []) rfl rfl (Nat.le_of_ble_eq_true rfl) ⟨by decide, by decide⟩ d_S_read_63 (fun r38 γ39 hr38 => ?_)
        refine sb_if_eq 93 (z2i hr38) d_S_read_66 (by decide) (fun _ => ?_) (fun _ => ?_)
        · exact sb_lv [0, 2] rfl (s_S_read_b93 ih he101 γ39 x36 hx36)
        · refine sb_aload_n 0 d_S_read_69 rfl ?_
          refine g_S_62 d_S_read_70 ?_
          refine sb_cVz vf_Nr_readBody (c_Nr_readBody γ39  ) rfl ml_S_130 (As := []) rfl rfl (Nat.le_of_ble_eq_true rfl) ⟨by decide, by decide⟩ d_S_read_73 (fun r41 γ42 hr41 => ?_)
          refine sb_if_eq 93 (z2i hr41) d_S_read_76 (by decide) (fun _ => ?_) (fun _ => ?_)
          · exact sb_lv [0, 2] rfl (s_S_read_b93 ih he101 γ42 x36 hx36)
          · refine sb_aload_n 0 d_S_read_79 rfl ?_
            refine g_S_39 d_S_read_80 ?_
            refine sb_cVi vf_Tk_kindNow (c_Tk_kindNow γ42  ) rfl ml_S_133 (As := []) rfl rfl (Nat.le_of_ble_eq_true rfl) ⟨by decide, by decide⟩ d_S_read_83 (fun r44 γ45 hr44 => ?_)
            refine sb_if_eq 93 hr44 d_S_read_86 (by decide) (fun _ => ?_) (fun _ => ?_)
            · exact sb_lv [0, 2] rfl (s_S_read_b93 ih he101 γ45 x36 hx36)
            · refine sb_iconst d_S_read_89 ?_
              refine sb_goto 94 d_S_read_90 (by decide) ?_
              exact sb_lv [0, 2] rfl (s_S_read_b94 ih he101 γ45 x36 1 hx36 (by decide))
set_option maxHeartbeats 4000000 in
theorem c_S_read {Γ : Ctx} (γ : St) : NC Γ BS y_S_read mt_S_read 13 404 [vR Γ 0] γ (f_S_read γ) := by
  refine nc_of (by decide) rfl (Nat.le_of_ble_eq_true rfl) ?_
  show SB Γ BS mt_S_read (RmN 13 404) 0 0 (KN Γ BS mt_S_read.2.2.2) 0 [(0, vR Γ 0)] [] γ _
  unfold f_S_read
  refine sb_aload_n 0 d_S_read_0 rfl ?_
  refine sb_iconst d_S_read_1 ?_
  refine p_S_26 (by decide) d_S_read_2 ?_
  refine sb_aps (fun γ46 => ?_)
  refine sb_aload_n 0 d_S_read_5 rfl ?_
  refine sb_iconst d_S_read_6 ?_
  refine p_S_113 (by decide) d_S_read_7 ?_
  refine sb_aps (fun γ47 => ?_)
  refine sb_aload_n 0 d_S_read_10 rfl ?_
  refine sb_iconst d_S_read_11 ?_
  refine p_S_116 (by decide) d_S_read_12 ?_
  refine sb_aps (fun γ48 => ?_)
  refine sb_aload_n 0 d_S_read_15 rfl ?_
  refine g_S_39 d_S_read_16 ?_
  refine sb_aload_n 0 d_S_read_19 rfl ?_
  refine g_S_100 d_S_read_20 (fun c50 => ?_)
  refine sb_cVv vf_Tk_scan (c_Tk_scan γ48 (γ48 0 10) c50) rfl ml_S_119 (As := [vI (γ48 0 10)]) rfl rfl (Nat.le_of_ble_eq_true rfl) ⟨by decide, by decide⟩ d_S_read_23 (fun _ γ52 => ?_)
  refine sb_aload_n 0 d_S_read_26 rfl ?_
  refine sb_iconst d_S_read_27 ?_
  refine p_S_100 (by decide) d_S_read_28 ?_
  refine sb_aps (fun γ53 => ?_)
  refine sb_aload_n 0 d_S_read_31 rfl ?_
  refine g_S_46 d_S_read_32 ?_
  refine sb_cVv vf_Nd_begin (c_Nd_begin γ53  ) rfl ml_S_122 (As := []) rfl rfl (Nat.le_of_ble_eq_true rfl) ⟨by decide, by decide⟩ d_S_read_35 (fun _ γ56 => ?_)
  refine sb_aload_n 0 d_S_read_38 rfl ?_
  refine g_S_53 d_S_read_39 ?_
  refine sb_cVv vf_Cd_begin (c_Cd_begin γ56  ) rfl ml_S_125 (As := []) rfl rfl (Nat.le_of_ble_eq_true rfl) ⟨by decide, by decide⟩ d_S_read_42 (fun _ γ59 => ?_)
  refine sb_iconst d_S_read_45 ?_
  refine sb_istore_n [(1, vI 1), (0, vR Γ 0)] d_S_read_46 (by decide) rfl ?_
  refine sb_iconst d_S_read_47 ?_
  refine sb_istore_n [(2, vI 0), (1, vI 1), (0, vR Γ 0)] d_S_read_48 (by decide) rfl ?_
  exact sb_lv [2, 1, 0] rfl (s_S_read_L49 (s_S_read_b101) FU γ59 1 0 (by decide) (by decide))
theorem d_S_fault_0 : decode b_S_fault 0 = .ok (.iload_n 1, 1) := by decide +kernel
theorem d_S_fault_1 : decode b_S_fault 1 = .ok (.lookupswitch 43 #[(0, 27), (1, 35)], 27) := by decide +kernel
theorem d_S_fault_28 : decode b_S_fault 28 = .ok (.aload_n 0, 1) := by decide +kernel
theorem d_S_fault_29 : decode b_S_fault 29 = .ok (.getfield 39, 3) := by decide +kernel
theorem d_S_fault_32 : decode b_S_fault 32 = .ok (.getfield 136, 3) := by decide +kernel
theorem d_S_fault_35 : decode b_S_fault 35 = .ok (.ireturn, 1) := by decide +kernel
theorem d_S_fault_36 : decode b_S_fault 36 = .ok (.aload_n 0, 1) := by decide +kernel
theorem d_S_fault_37 : decode b_S_fault 37 = .ok (.getfield 39, 3) := by decide +kernel
theorem d_S_fault_40 : decode b_S_fault 40 = .ok (.getfield 167, 3) := by decide +kernel
theorem d_S_fault_43 : decode b_S_fault 43 = .ok (.ireturn, 1) := by decide +kernel
theorem d_S_fault_44 : decode b_S_fault 44 = .ok (.iconst (-1), 1) := by decide +kernel
theorem d_S_fault_45 : decode b_S_fault 45 = .ok (.ireturn, 1) := by decide +kernel
abbrev mt_S_fault : MT := (R_S, b_S_fault, 2, some .int)
theorem vf_S_fault : VF y_S_fault mt_S_fault 0 1 := ⟨im_S_fault, se_S_fault, in_S, co_S_fault, by decide +kernel, _, _, rfl⟩
def f_S_fault (γ : St) (a0 : Int) : Option (Int × St) :=
  if a0 = 0 then
  (some (γ 1 7, γ))
  else if a0 = 1 then
  (some (γ 1 8, γ))
  else (some ((-1), γ))
set_option maxHeartbeats 4000000 in
theorem c_S_fault {Γ : Ctx} (γ : St) (a0 : Int) (ha0 : i32 a0) : NC Γ BS y_S_fault mt_S_fault 6 240 [vR Γ 0, vI a0] γ (f_S_fault γ a0) := by
  refine nc_of (by decide) rfl (Nat.le_of_ble_eq_true rfl) ?_
  show SB Γ BS mt_S_fault (RmN 6 240) 0 0 (KN Γ BS mt_S_fault.2.2.2) 0 [(0, vR Γ 0), (1, vI a0)] [] γ _
  unfold f_S_fault
  refine sb_iload_n 1 d_S_fault_0 rfl ?_
  refine sb_lc (off := 27) 0 28 ha0 d_S_fault_1 (by decide) (by decide) (fun _ => ?_) (fun n3 => ?_)
  · refine sb_aload_n 0 d_S_fault_28 rfl ?_
    refine g_S_39 d_S_fault_29 ?_
    refine g_S_136 d_S_fault_32 (fun c2 => ?_)
    exact sn_i rfl c2 d_S_fault_35
  refine sb_lc (off := 35) 1 36 ha0 d_S_fault_1 (by decide) (by decide) (fun _ => ?_) (fun n6 => ?_)
  · refine sb_aload_n 0 d_S_fault_36 rfl ?_
    refine g_S_39 d_S_fault_37 ?_
    refine g_S_167 d_S_fault_40 (fun c5 => ?_)
    exact sn_i rfl c5 d_S_fault_43
  refine sb_ld 44 ha0 d_S_fault_1 (by decide) (lk_cons n3 (lk_cons n6 (fun _ h9 => absurd h9 List.not_mem_nil))) (by decide) ?_
  refine sb_iconst d_S_fault_44 ?_
  exact sn_i rfl (by decide) d_S_fault_45
theorem d_S_input_0 : decode b_S_input 0 = .ok (.aload_n 0, 1) := by decide +kernel
theorem d_S_input_1 : decode b_S_input 1 = .ok (.getfield 26, 3) := by decide +kernel
theorem d_S_input_4 : decode b_S_input 4 = .ok (.ifCond .lt 23, 3) := by decide +kernel
theorem d_S_input_7 : decode b_S_input 7 = .ok (.iload_n 1, 1) := by decide +kernel
theorem d_S_input_8 : decode b_S_input 8 = .ok (.ifCond .lt 19, 3) := by decide +kernel
theorem d_S_input_11 : decode b_S_input 11 = .ok (.iload_n 1, 1) := by decide +kernel
theorem d_S_input_12 : decode b_S_input 12 = .ok (.aload_n 0, 1) := by decide +kernel
theorem d_S_input_13 : decode b_S_input 13 = .ok (.getfield 46, 3) := by decide +kernel
theorem d_S_input_16 : decode b_S_input 16 = .ok (.getfield 148, 3) := by decide +kernel
theorem d_S_input_19 : decode b_S_input 19 = .ok (.aload_n 0, 1) := by decide +kernel
theorem d_S_input_20 : decode b_S_input 20 = .ok (.getfield 26, 3) := by decide +kernel
theorem d_S_input_23 : decode b_S_input 23 = .ok (.iaload, 1) := by decide +kernel
theorem d_S_input_24 : decode b_S_input 24 = .ok (.if_icmp .lt 11, 3) := by decide +kernel
theorem d_S_input_27 : decode b_S_input 27 = .ok (.new 170, 3) := by decide +kernel
theorem d_S_input_30 : decode b_S_input 30 = .ok (.dup, 1) := by decide +kernel
theorem d_S_input_31 : decode b_S_input 31 = .ok (.invokespecial 172, 3) := by decide +kernel
theorem d_S_input_34 : decode b_S_input 34 = .ok (.athrow, 1) := by decide +kernel
theorem d_S_input_35 : decode b_S_input 35 = .ok (.aload_n 0, 1) := by decide +kernel
theorem d_S_input_36 : decode b_S_input 36 = .ok (.getfield 46, 3) := by decide +kernel
theorem d_S_input_39 : decode b_S_input 39 = .ok (.getfield 173, 3) := by decide +kernel
theorem d_S_input_42 : decode b_S_input 42 = .ok (.aload_n 0, 1) := by decide +kernel
theorem d_S_input_43 : decode b_S_input 43 = .ok (.getfield 46, 3) := by decide +kernel
theorem d_S_input_46 : decode b_S_input 46 = .ok (.getfield 176, 3) := by decide +kernel
theorem d_S_input_49 : decode b_S_input 49 = .ok (.aload_n 0, 1) := by decide +kernel
theorem d_S_input_50 : decode b_S_input 50 = .ok (.getfield 26, 3) := by decide +kernel
theorem d_S_input_53 : decode b_S_input 53 = .ok (.iaload, 1) := by decide +kernel
theorem d_S_input_54 : decode b_S_input 54 = .ok (.iload_n 1, 1) := by decide +kernel
theorem d_S_input_55 : decode b_S_input 55 = .ok (.iadd, 1) := by decide +kernel
theorem d_S_input_56 : decode b_S_input 56 = .ok (.iaload, 1) := by decide +kernel
theorem d_S_input_57 : decode b_S_input 57 = .ok (.iconst 1, 1) := by decide +kernel
theorem d_S_input_58 : decode b_S_input 58 = .ok (.if_icmp .ne 20, 3) := by decide +kernel
theorem d_S_input_61 : decode b_S_input 61 = .ok (.iload_n 2, 1) := by decide +kernel
theorem d_S_input_62 : decode b_S_input 62 = .ok (.ifCond .eq 16, 3) := by decide +kernel
theorem d_S_input_65 : decode b_S_input 65 = .ok (.iload_n 2, 1) := by decide +kernel
theorem d_S_input_66 : decode b_S_input 66 = .ok (.iconst 1, 1) := by decide +kernel
theorem d_S_input_67 : decode b_S_input 67 = .ok (.if_icmp .eq 11, 3) := by decide +kernel
theorem d_S_input_70 : decode b_S_input 70 = .ok (.new 110, 3) := by decide +kernel
theorem d_S_input_73 : decode b_S_input 73 = .ok (.dup, 1) := by decide +kernel
theorem d_S_input_74 : decode b_S_input 74 = .ok (.invokespecial 112, 3) := by decide +kernel
theorem d_S_input_77 : decode b_S_input 77 = .ok (.athrow, 1) := by decide +kernel
theorem d_S_input_78 : decode b_S_input 78 = .ok (.aload_n 0, 1) := by decide +kernel
theorem d_S_input_79 : decode b_S_input 79 = .ok (.getfield 9, 3) := by decide +kernel
theorem d_S_input_82 : decode b_S_input 82 = .ok (.iload_n 1, 1) := by decide +kernel
theorem d_S_input_83 : decode b_S_input 83 = .ok (.iaload, 1) := by decide +kernel
theorem d_S_input_84 : decode b_S_input 84 = .ok (.istore_n 3, 1) := by decide +kernel
theorem d_S_input_85 : decode b_S_input 85 = .ok (.aload_n 0, 1) := by decide +kernel
theorem d_S_input_86 : decode b_S_input 86 = .ok (.getfield 9, 3) := by decide +kernel
theorem d_S_input_89 : decode b_S_input 89 = .ok (.iload_n 1, 1) := by decide +kernel
theorem d_S_input_90 : decode b_S_input 90 = .ok (.iload_n 2, 1) := by decide +kernel
theorem d_S_input_91 : decode b_S_input 91 = .ok (.iastore, 1) := by decide +kernel
theorem d_S_input_92 : decode b_S_input 92 = .ok (.iload_n 3, 1) := by decide +kernel
theorem d_S_input_93 : decode b_S_input 93 = .ok (.ireturn, 1) := by decide +kernel
abbrev mt_S_input : MT := (R_S, b_S_input, 4, some .int)
theorem vf_S_input : VF y_S_input mt_S_input 0 2 := ⟨im_S_input, se_S_input, in_S, co_S_input, by decide +kernel, _, _, rfl⟩
def f_S_input_b27 (γ : St) : Option (Int × St) :=
  none
def f_S_input_b78 (γ : St) (x1 : Int) (x2 : Int) : Option (Int × St) :=
  chk (inb x1 99) (ap (γ 12 x1) fun x5 =>
  chk (inb x1 99) (ap (setA γ 12 x1 x2) fun γ7 =>
  some (x5, γ7)))
def f_S_input (γ : St) (a0 : Int) (a1 : Int) : Option (Int × St) :=
  if (γ 0 12) < 0 then
  (f_S_input_b27 γ )
  else
  (if a0 < 0 then
  (f_S_input_b27 γ )
  else
  (chk (inb (γ 0 12) 59) (if a0 < (γ 26 (γ 0 12)) then
  (chk (inb (γ 0 12) 59) (chk (i32 ((γ 25 (γ 0 12)) + a0)) (chk (inb ((γ 25 (γ 0 12)) + a0) 5841) (if (γ 33 ((γ 25 (γ 0 12)) + a0)) ≠ 1 then
  (f_S_input_b78 γ a0 a1)
  else
  (if a1 = 0 then
  (f_S_input_b78 γ a0 a1)
  else
  (if a1 = 1 then
  (f_S_input_b78 γ a0 a1)
  else
  (none)))))))
  else
  (f_S_input_b27 γ ))))
set_option maxHeartbeats 4000000 in
theorem s_S_input_b27 {Γ : Ctx} : ∀ (γ : St), SB Γ BS mt_S_input (RmN 6 240) 0 0 (KN Γ BS mt_S_input.2.2.2) 27 [(0, vR Γ 0)] [] γ (f_S_input_b27 γ ) := by
  intro γ
  unfold f_S_input_b27
  exact sb_none
set_option maxHeartbeats 4000000 in
theorem s_S_input_b78 {Γ : Ctx} : ∀ (γ : St) (x1 : Int) (x2 : Int), i32 x1 → i32 x2 → SB Γ BS mt_S_input (RmN 6 240) 0 0 (KN Γ BS mt_S_input.2.2.2) 78 [(0, vR Γ 0), (1, vI x1), (2, vI x2)] [] γ (f_S_input_b78 γ x1 x2) := by
  intro γ x1 x2 hx1 hx2
  unfold f_S_input_b78
  refine sb_aload_n 0 d_S_input_78 rfl ?_
  refine g_S_9 d_S_input_79 ?_
  refine sb_iload_n 1 d_S_input_82 rfl ?_
  refine al_S_12 d_S_input_83 (fun _ c4 => ?_)
  refine sb_istore_n [(3, vI (γ 12 x1)), (0, vR Γ 0), (1, vI x1), (2, vI x2)] d_S_input_84 (by decide) rfl ?_
  refine sb_nme (e := γ 12 x1) (fun x5 => [(3, vI x5), (0, vR Γ 0), (1, vI x1), (2, vI x2)]) c4 (fun x5 hx5 => ?_)
  refine sb_aload_n 1 d_S_input_85 rfl ?_
  refine g_S_9 d_S_input_86 ?_
  refine sb_iload_n 2 d_S_input_89 rfl ?_
  refine sb_iload_n 3 d_S_input_90 rfl ?_
  refine as_S_12 hx2 d_S_input_91 (fun _ => ?_)
  refine sb_aps (fun γ7 => ?_)
  refine sb_iload_n 0 d_S_input_92 rfl ?_
  exact sn_i rfl hx5 d_S_input_93
set_option maxHeartbeats 4000000 in
theorem c_S_input {Γ : Ctx} (γ : St) (a0 : Int) (a1 : Int) (ha0 : i32 a0) (ha1 : i32 a1) : NC Γ BS y_S_input mt_S_input 6 240 [vR Γ 0, vI a0, vI a1] γ (f_S_input γ a0 a1) := by
  refine nc_of (by decide) rfl (Nat.le_of_ble_eq_true rfl) ?_
  show SB Γ BS mt_S_input (RmN 6 240) 0 0 (KN Γ BS mt_S_input.2.2.2) 0 [(0, vR Γ 0), (1, vI a0), (2, vI a1)] [] γ _
  unfold f_S_input
  refine sb_aload_n 0 d_S_input_0 rfl ?_
  refine g_S_26 d_S_input_1 (fun c8 => ?_)
  refine sb_if_lt 27 c8 d_S_input_4 (by decide) (fun _ => ?_) (fun _ => ?_)
  · exact sb_lv [0] rfl (s_S_input_b27 γ  )
  · refine sb_iload_n 1 d_S_input_7 rfl ?_
    refine sb_if_lt 27 ha0 d_S_input_8 (by decide) (fun _ => ?_) (fun _ => ?_)
    · exact sb_lv [0] rfl (s_S_input_b27 γ  )
    · refine sb_iload_n 1 d_S_input_11 rfl ?_
      refine sb_aload_n 0 d_S_input_12 rfl ?_
      refine g_S_46 d_S_input_13 ?_
      refine g_S_148 d_S_input_16 ?_
      refine sb_aload_n 0 d_S_input_19 rfl ?_
      refine g_S_26 d_S_input_20 (fun c11 => ?_)
      refine al_S_26 d_S_input_23 (fun _ c12 => ?_)
      refine sb_icmp_lt 35 ha0 c12 d_S_input_24 (by decide) (fun _ => ?_) (fun _ => ?_)
      · refine sb_aload_n 0 d_S_input_35 rfl ?_
        refine g_S_46 d_S_input_36 ?_
        refine g_S_173 d_S_input_39 ?_
        refine sb_aload_n 0 d_S_input_42 rfl ?_
        refine g_S_46 d_S_input_43 ?_
        refine g_S_176 d_S_input_46 ?_
        refine sb_aload_n 0 d_S_input_49 rfl ?_
        refine g_S_26 d_S_input_50 (fun c17 => ?_)
        refine al_S_25 d_S_input_53 (fun _ c18 => ?_)
        refine sb_iload_n 1 d_S_input_54 rfl ?_
        refine sb_iadd d_S_input_55 ?_
        refine sb_chk (fun c19 => ?_)
        refine al_S_33 d_S_input_56 (fun _ c20 => ?_)
        refine sb_iconst d_S_input_57 ?_
        refine sb_icmp_ne 78 c20 (by decide) d_S_input_58 (by decide) (fun _ => ?_) (fun _ => ?_)
        · exact sb_lv [0, 1, 2] rfl (s_S_input_b78 γ a0 a1 ha0 ha1)
        · refine sb_iload_n 2 d_S_input_61 rfl ?_
          refine sb_if_eq 78 ha1 d_S_input_62 (by decide) (fun _ => ?_) (fun _ => ?_)
          · exact sb_lv [0, 1, 2] rfl (s_S_input_b78 γ a0 a1 ha0 ha1)
          · refine sb_iload_n 2 d_S_input_65 rfl ?_
            refine sb_iconst d_S_input_66 ?_
            refine sb_icmp_eq 78 ha1 (by decide) d_S_input_67 (by decide) (fun _ => ?_) (fun _ => ?_)
            · exact sb_lv [0, 1, 2] rfl (s_S_input_b78 γ a0 a1 ha0 ha1)
            · exact sb_none
      · exact sb_lv [0] rfl (s_S_input_b27 γ  )
theorem d_S_tick_0 : decode b_S_tick 0 = .ok (.iload_n 1, 1) := by decide +kernel
theorem d_S_tick_1 : decode b_S_tick 1 = .ok (.iconst 1, 1) := by decide +kernel
theorem d_S_tick_2 : decode b_S_tick 2 = .ok (.if_icmp .lt 10, 3) := by decide +kernel
theorem d_S_tick_5 : decode b_S_tick 5 = .ok (.iload_n 1, 1) := by decide +kernel
theorem d_S_tick_6 : decode b_S_tick 6 = .ok (.sipush 1000, 3) := by decide +kernel
theorem d_S_tick_9 : decode b_S_tick 9 = .ok (.if_icmp .le 11, 3) := by decide +kernel
theorem d_S_tick_12 : decode b_S_tick 12 = .ok (.new 110, 3) := by decide +kernel
theorem d_S_tick_15 : decode b_S_tick 15 = .ok (.dup, 1) := by decide +kernel
theorem d_S_tick_16 : decode b_S_tick 16 = .ok (.invokespecial 112, 3) := by decide +kernel
theorem d_S_tick_19 : decode b_S_tick 19 = .ok (.athrow, 1) := by decide +kernel
theorem d_S_tick_20 : decode b_S_tick 20 = .ok (.aload_n 0, 1) := by decide +kernel
theorem d_S_tick_21 : decode b_S_tick 21 = .ok (.getfield 26, 3) := by decide +kernel
theorem d_S_tick_24 : decode b_S_tick 24 = .ok (.ifCond .ge 11, 3) := by decide +kernel
theorem d_S_tick_27 : decode b_S_tick 27 = .ok (.new 103, 3) := by decide +kernel
theorem d_S_tick_30 : decode b_S_tick 30 = .ok (.dup, 1) := by decide +kernel
theorem d_S_tick_31 : decode b_S_tick 31 = .ok (.invokespecial 105, 3) := by decide +kernel
theorem d_S_tick_34 : decode b_S_tick 34 = .ok (.athrow, 1) := by decide +kernel
theorem d_S_tick_35 : decode b_S_tick 35 = .ok (.aload_n 0, 1) := by decide +kernel
theorem d_S_tick_36 : decode b_S_tick 36 = .ok (.getfield 96, 3) := by decide +kernel
theorem d_S_tick_39 : decode b_S_tick 39 = .ok (.aload_n 0, 1) := by decide +kernel
theorem d_S_tick_40 : decode b_S_tick 40 = .ok (.getfield 9, 3) := by decide +kernel
theorem d_S_tick_43 : decode b_S_tick 43 = .ok (.iload_n 1, 1) := by decide +kernel
theorem d_S_tick_44 : decode b_S_tick 44 = .ok (.invokevirtual 179, 3) := by decide +kernel
theorem d_S_tick_47 : decode b_S_tick 47 = .ok (.aload_n 0, 1) := by decide +kernel
theorem d_S_tick_48 : decode b_S_tick 48 = .ok (.dup, 1) := by decide +kernel
theorem d_S_tick_49 : decode b_S_tick 49 = .ok (.getfield 113, 3) := by decide +kernel
theorem d_S_tick_52 : decode b_S_tick 52 = .ok (.iload_n 1, 1) := by decide +kernel
theorem d_S_tick_53 : decode b_S_tick 53 = .ok (.iadd, 1) := by decide +kernel
theorem d_S_tick_54 : decode b_S_tick 54 = .ok (.putfield 113, 3) := by decide +kernel
theorem d_S_tick_57 : decode b_S_tick 57 = .ok (.aload_n 0, 1) := by decide +kernel
theorem d_S_tick_58 : decode b_S_tick 58 = .ok (.getfield 113, 3) := by decide +kernel
theorem d_S_tick_61 : decode b_S_tick 61 = .ok (.ireturn, 1) := by decide +kernel
abbrev mt_S_tick : MT := (R_S, b_S_tick, 2, some .int)
theorem vf_S_tick : VF y_S_tick mt_S_tick 0 1 := ⟨im_S_tick, se_S_tick, in_S, co_S_tick, by decide +kernel, _, _, rfl⟩
def f_S_tick_b12 (γ : St) : Option (Int × St) :=
  none
def f_S_tick (γ : St) (a0 : Int) : Option (Int × St) :=
  if a0 < 1 then
  (f_S_tick_b12 γ )
  else
  (if a0 ≤ 1000 then
  (if 0 ≤ (γ 0 12) then
  (bndN (f_Pg_run γ a0) fun _ γ5 =>
  chk (i32 ((γ5 0 13) + a0)) (ap (setA γ5 0 13 ((γ5 0 13) + a0)) fun γ8 =>
  some (γ8 0 13, γ8)))
  else
  (none))
  else
  (f_S_tick_b12 γ ))
set_option maxHeartbeats 4000000 in
theorem s_S_tick_b12 {Γ : Ctx} : ∀ (γ : St), SB Γ BS mt_S_tick (RmN 8 288) 0 0 (KN Γ BS mt_S_tick.2.2.2) 12 [(0, vR Γ 0)] [] γ (f_S_tick_b12 γ ) := by
  intro γ
  unfold f_S_tick_b12
  exact sb_none
set_option maxHeartbeats 4000000 in
theorem c_S_tick {Γ : Ctx} (γ : St) (a0 : Int) (ha0 : i32 a0) : NC Γ BS y_S_tick mt_S_tick 8 288 [vR Γ 0, vI a0] γ (f_S_tick γ a0) := by
  refine nc_of (by decide) rfl (Nat.le_of_ble_eq_true rfl) ?_
  show SB Γ BS mt_S_tick (RmN 8 288) 0 0 (KN Γ BS mt_S_tick.2.2.2) 0 [(0, vR Γ 0), (1, vI a0)] [] γ _
  unfold f_S_tick
  refine sb_iload_n 1 d_S_tick_0 rfl ?_
  refine sb_iconst d_S_tick_1 ?_
  refine sb_icmp_lt 12 ha0 (by decide) d_S_tick_2 (by decide) (fun _ => ?_) (fun _ => ?_)
  · exact sb_lv [0] rfl (s_S_tick_b12 γ  )
  · refine sb_iload_n 1 d_S_tick_5 rfl ?_
    refine sb_sipush d_S_tick_6 (by decide) ?_
    refine sb_icmp_le 20 ha0 (by decide) d_S_tick_9 (by decide) (fun _ => ?_) (fun _ => ?_)
    · refine sb_aload_n 0 d_S_tick_20 rfl ?_
      refine g_S_26 d_S_tick_21 (fun c1 => ?_)
      refine sb_if_ge 35 c1 d_S_tick_24 (by decide) (fun _ => ?_) (fun _ => ?_)
      · refine sb_aload_n 0 d_S_tick_35 rfl ?_
        refine g_S_96 d_S_tick_36 ?_
        refine sb_aload_n 0 d_S_tick_39 rfl ?_
        refine g_S_9 d_S_tick_40 ?_
        refine sb_iload_n 1 d_S_tick_43 rfl ?_
        refine sb_cVv vf_Pg_run (c_Pg_run γ a0 ha0) rfl ml_S_179 (As := [vR Γ 12, vI a0]) rfl rfl (Nat.le_of_ble_eq_true rfl) ⟨by decide, by decide⟩ d_S_tick_44 (fun _ γ5 => ?_)
        refine sb_aload_n 0 d_S_tick_47 rfl ?_
        refine sb_dup d_S_tick_48 rfl ?_
        refine g_S_113 d_S_tick_49 (fun c6 => ?_)
        refine sb_iload_n 1 d_S_tick_52 rfl ?_
        refine sb_iadd d_S_tick_53 ?_
        refine sb_chk (fun c7 => ?_)
        refine p_S_113 c7 d_S_tick_54 ?_
        refine sb_aps (fun γ8 => ?_)
        refine sb_aload_n 0 d_S_tick_57 rfl ?_
        refine g_S_113 d_S_tick_58 (fun c9 => ?_)
        exact sn_i rfl c9 d_S_tick_61
      · exact sb_none
    · exact sb_lv [0] rfl (s_S_tick_b12 γ  )
theorem d_S_isVariable_0 : decode b_S_isVariable 0 = .ok (.aload_n 0, 1) := by decide +kernel
theorem d_S_isVariable_1 : decode b_S_isVariable 1 = .ok (.getfield 26, 3) := by decide +kernel
theorem d_S_isVariable_4 : decode b_S_isVariable 4 = .ok (.ifCond .lt 27, 3) := by decide +kernel
theorem d_S_isVariable_7 : decode b_S_isVariable 7 = .ok (.iload_n 1, 1) := by decide +kernel
theorem d_S_isVariable_8 : decode b_S_isVariable 8 = .ok (.ifCond .lt 23, 3) := by decide +kernel
theorem d_S_isVariable_11 : decode b_S_isVariable 11 = .ok (.iload_n 1, 1) := by decide +kernel
theorem d_S_isVariable_12 : decode b_S_isVariable 12 = .ok (.aload_n 0, 1) := by decide +kernel
theorem d_S_isVariable_13 : decode b_S_isVariable 13 = .ok (.getfield 46, 3) := by decide +kernel
theorem d_S_isVariable_16 : decode b_S_isVariable 16 = .ok (.getfield 151, 3) := by decide +kernel
theorem d_S_isVariable_19 : decode b_S_isVariable 19 = .ok (.aload_n 0, 1) := by decide +kernel
theorem d_S_isVariable_20 : decode b_S_isVariable 20 = .ok (.getfield 26, 3) := by decide +kernel
theorem d_S_isVariable_23 : decode b_S_isVariable 23 = .ok (.iaload, 1) := by decide +kernel
theorem d_S_isVariable_24 : decode b_S_isVariable 24 = .ok (.if_icmp .ge 7, 3) := by decide +kernel
theorem d_S_isVariable_27 : decode b_S_isVariable 27 = .ok (.iconst 1, 1) := by decide +kernel
theorem d_S_isVariable_28 : decode b_S_isVariable 28 = .ok (.goto 4, 3) := by decide +kernel
theorem d_S_isVariable_31 : decode b_S_isVariable 31 = .ok (.iconst 0, 1) := by decide +kernel
theorem d_S_isVariable_32 : decode b_S_isVariable 32 = .ok (.ireturn, 1) := by decide +kernel
abbrev mt_S_isVariable : MT := (R_S, b_S_isVariable, 2, some .boolean)
theorem vf_S_isVariable : VF y_S_isVariable mt_S_isVariable 0 1 := ⟨im_S_isVariable, se_S_isVariable, in_S, co_S_isVariable, by decide +kernel, _, _, rfl⟩
def f_S_isVariable (γ : St) (a0 : Int) : Option (Int × St) :=
  if (γ 0 12) < 0 then
  (some (0, γ))
  else
  (if a0 < 0 then
  (some (0, γ))
  else
  (chk (inb (γ 0 12) 59) (if (γ 28 (γ 0 12)) ≤ a0 then
  (some (0, γ))
  else
  (some (1, γ)))))
set_option maxHeartbeats 4000000 in
theorem c_S_isVariable {Γ : Ctx} (γ : St) (a0 : Int) (ha0 : i32 a0) : NC Γ BS y_S_isVariable mt_S_isVariable 6 240 [vR Γ 0, vI a0] γ (f_S_isVariable γ a0) := by
  refine nc_of (by decide) rfl (Nat.le_of_ble_eq_true rfl) ?_
  show SB Γ BS mt_S_isVariable (RmN 6 240) 0 0 (KN Γ BS mt_S_isVariable.2.2.2) 0 [(0, vR Γ 0), (1, vI a0)] [] γ _
  unfold f_S_isVariable
  refine sb_aload_n 0 d_S_isVariable_0 rfl ?_
  refine g_S_26 d_S_isVariable_1 (fun c1 => ?_)
  refine sb_if_lt 31 c1 d_S_isVariable_4 (by decide) (fun _ => ?_) (fun _ => ?_)
  · refine sb_iconst d_S_isVariable_31 ?_
    exact sn_z rfl (by decide) d_S_isVariable_32
  · refine sb_iload_n 1 d_S_isVariable_7 rfl ?_
    refine sb_if_lt 31 ha0 d_S_isVariable_8 (by decide) (fun _ => ?_) (fun _ => ?_)
    · refine sb_iconst d_S_isVariable_31 ?_
      exact sn_z rfl (by decide) d_S_isVariable_32
    · refine sb_iload_n 1 d_S_isVariable_11 rfl ?_
      refine sb_aload_n 0 d_S_isVariable_12 rfl ?_
      refine g_S_46 d_S_isVariable_13 ?_
      refine g_S_151 d_S_isVariable_16 ?_
      refine sb_aload_n 0 d_S_isVariable_19 rfl ?_
      refine g_S_26 d_S_isVariable_20 (fun c4 => ?_)
      refine al_S_28 d_S_isVariable_23 (fun _ c5 => ?_)
      refine sb_icmp_ge 31 ha0 c5 d_S_isVariable_24 (by decide) (fun _ => ?_) (fun _ => ?_)
      · refine sb_iconst d_S_isVariable_31 ?_
        exact sn_z rfl (by decide) d_S_isVariable_32
      · refine sb_iconst d_S_isVariable_27 ?_
        refine sb_goto 32 d_S_isVariable_28 (by decide) ?_
        exact sn_z rfl (by decide) d_S_isVariable_32
theorem d_S_value_0 : decode b_S_value 0 = .ok (.aload_n 0, 1) := by decide +kernel
theorem d_S_value_1 : decode b_S_value 1 = .ok (.iload_n 1, 1) := by decide +kernel
theorem d_S_value_2 : decode b_S_value 2 = .ok (.invokevirtual 182, 3) := by decide +kernel
theorem d_S_value_5 : decode b_S_value 5 = .ok (.ifCond .ne 11, 3) := by decide +kernel
theorem d_S_value_8 : decode b_S_value 8 = .ok (.new 170, 3) := by decide +kernel
theorem d_S_value_11 : decode b_S_value 11 = .ok (.dup, 1) := by decide +kernel
theorem d_S_value_12 : decode b_S_value 12 = .ok (.invokespecial 172, 3) := by decide +kernel
theorem d_S_value_15 : decode b_S_value 15 = .ok (.athrow, 1) := by decide +kernel
theorem d_S_value_16 : decode b_S_value 16 = .ok (.aload_n 0, 1) := by decide +kernel
theorem d_S_value_17 : decode b_S_value 17 = .ok (.getfield 113, 3) := by decide +kernel
theorem d_S_value_20 : decode b_S_value 20 = .ok (.ifCond .ne 11, 3) := by decide +kernel
theorem d_S_value_23 : decode b_S_value 23 = .ok (.new 103, 3) := by decide +kernel
theorem d_S_value_26 : decode b_S_value 26 = .ok (.dup, 1) := by decide +kernel
theorem d_S_value_27 : decode b_S_value 27 = .ok (.invokespecial 105, 3) := by decide +kernel
theorem d_S_value_30 : decode b_S_value 30 = .ok (.athrow, 1) := by decide +kernel
theorem d_S_value_31 : decode b_S_value 31 = .ok (.aload_n 0, 1) := by decide +kernel
theorem d_S_value_32 : decode b_S_value 32 = .ok (.getfield 96, 3) := by decide +kernel
theorem d_S_value_35 : decode b_S_value 35 = .ok (.getfield 186, 3) := by decide +kernel
theorem d_S_value_38 : decode b_S_value 38 = .ok (.iload_n 1, 1) := by decide +kernel
theorem d_S_value_39 : decode b_S_value 39 = .ok (.laload, 1) := by decide +kernel
theorem d_S_value_40 : decode b_S_value 40 = .ok (.lreturn, 1) := by decide +kernel
abbrev mt_S_value : MT := (R_S, b_S_value, 2, some .long)
theorem vf_S_value : VF y_S_value mt_S_value 0 1 := ⟨im_S_value, se_S_value, in_S, co_S_value, by decide +kernel, _, _, rfl⟩
def f_S_value (γ : St) (a0 : Int) : Option (Int × St) :=
  bndN (f_S_isVariable γ a0) fun r1 γ2 =>
  if r1 ≠ 0 then
  (if (γ2 0 13) ≠ 0 then
  (chk (inb a0 99) (some (γ2 76 a0, γ2)))
  else
  (none))
  else
  (none)
set_option maxHeartbeats 4000000 in
theorem c_S_value {Γ : Ctx} (γ : St) (a0 : Int) (ha0 : i32 a0) : NC Γ BS y_S_value mt_S_value 7 261 [vR Γ 0, vI a0] γ (f_S_value γ a0) := by
  refine nc_of (by decide) rfl (Nat.le_of_ble_eq_true rfl) ?_
  show SB Γ BS mt_S_value (RmN 7 261) 0 0 (KN Γ BS mt_S_value.2.2.2) 0 [(0, vR Γ 0), (1, vI a0)] [] γ _
  unfold f_S_value
  refine sb_aload_n 0 d_S_value_0 rfl ?_
  refine sb_iload_n 1 d_S_value_1 rfl ?_
  refine sb_cVz vf_S_isVariable (c_S_isVariable γ a0 ha0) rfl ml_S_182 (As := [vI a0]) rfl rfl (Nat.le_of_ble_eq_true rfl) ⟨by decide, by decide⟩ d_S_value_2 (fun r1 γ2 hr1 => ?_)
  refine sb_if_ne 16 (z2i hr1) d_S_value_5 (by decide) (fun _ => ?_) (fun _ => ?_)
  · refine sb_aload_n 0 d_S_value_16 rfl ?_
    refine g_S_113 d_S_value_17 (fun c3 => ?_)
    refine sb_if_ne 31 c3 d_S_value_20 (by decide) (fun _ => ?_) (fun _ => ?_)
    · refine sb_aload_n 0 d_S_value_31 rfl ?_
      refine g_S_96 d_S_value_32 ?_
      refine g_S_186 d_S_value_35 ?_
      refine sb_iload_n 1 d_S_value_38 rfl ?_
      refine al_S_76 d_S_value_39 (fun _ => ?_)
      exact sn_l rfl d_S_value_40
    · exact sb_none
  · exact sb_none
theorem d_S_about_0 : decode b_S_about 0 = .ok (.aload_n 0, 1) := by decide +kernel
theorem d_S_about_1 : decode b_S_about 1 = .ok (.iload_n 1, 1) := by decide +kernel
theorem d_S_about_2 : decode b_S_about 2 = .ok (.invokevirtual 182, 3) := by decide +kernel
theorem d_S_about_5 : decode b_S_about 5 = .ok (.ifCond .ne 11, 3) := by decide +kernel
theorem d_S_about_8 : decode b_S_about 8 = .ok (.new 170, 3) := by decide +kernel
theorem d_S_about_11 : decode b_S_about 11 = .ok (.dup, 1) := by decide +kernel
theorem d_S_about_12 : decode b_S_about 12 = .ok (.invokespecial 172, 3) := by decide +kernel
theorem d_S_about_15 : decode b_S_about 15 = .ok (.athrow, 1) := by decide +kernel
theorem d_S_about_16 : decode b_S_about 16 = .ok (.iload_n 2, 1) := by decide +kernel
theorem d_S_about_17 : decode b_S_about 17 = .ok (.ifCond .lt 8, 3) := by decide +kernel
theorem d_S_about_20 : decode b_S_about 20 = .ok (.iload_n 2, 1) := by decide +kernel
theorem d_S_about_21 : decode b_S_about 21 = .ok (.iconst 3, 1) := by decide +kernel
theorem d_S_about_22 : decode b_S_about 22 = .ok (.if_icmp .le 11, 3) := by decide +kernel
theorem d_S_about_25 : decode b_S_about 25 = .ok (.new 110, 3) := by decide +kernel
theorem d_S_about_28 : decode b_S_about 28 = .ok (.dup, 1) := by decide +kernel
theorem d_S_about_29 : decode b_S_about 29 = .ok (.invokespecial 112, 3) := by decide +kernel
theorem d_S_about_32 : decode b_S_about 32 = .ok (.athrow, 1) := by decide +kernel
theorem d_S_about_33 : decode b_S_about 33 = .ok (.aload_n 0, 1) := by decide +kernel
theorem d_S_about_34 : decode b_S_about 34 = .ok (.getfield 46, 3) := by decide +kernel
theorem d_S_about_37 : decode b_S_about 37 = .ok (.getfield 190, 3) := by decide +kernel
theorem d_S_about_40 : decode b_S_about 40 = .ok (.aload_n 0, 1) := by decide +kernel
theorem d_S_about_41 : decode b_S_about 41 = .ok (.getfield 46, 3) := by decide +kernel
theorem d_S_about_44 : decode b_S_about 44 = .ok (.getfield 176, 3) := by decide +kernel
theorem d_S_about_47 : decode b_S_about 47 = .ok (.aload_n 0, 1) := by decide +kernel
theorem d_S_about_48 : decode b_S_about 48 = .ok (.getfield 26, 3) := by decide +kernel
theorem d_S_about_51 : decode b_S_about 51 = .ok (.iaload, 1) := by decide +kernel
theorem d_S_about_52 : decode b_S_about 52 = .ok (.iload_n 1, 1) := by decide +kernel
theorem d_S_about_53 : decode b_S_about 53 = .ok (.iadd, 1) := by decide +kernel
theorem d_S_about_54 : decode b_S_about 54 = .ok (.iaload, 1) := by decide +kernel
theorem d_S_about_55 : decode b_S_about 55 = .ok (.istore_n 3, 1) := by decide +kernel
theorem d_S_about_56 : decode b_S_about 56 = .ok (.iload_n 2, 1) := by decide +kernel
theorem d_S_about_57 : decode b_S_about 57 = .ok (.tableswitch 75 0 2 #[27, 40, 63], 27) := by decide +kernel
theorem d_S_about_84 : decode b_S_about 84 = .ok (.aload_n 0, 1) := by decide +kernel
theorem d_S_about_85 : decode b_S_about 85 = .ok (.getfield 46, 3) := by decide +kernel
theorem d_S_about_88 : decode b_S_about 88 = .ok (.aload_n 0, 1) := by decide +kernel
theorem d_S_about_89 : decode b_S_about 89 = .ok (.getfield 26, 3) := by decide +kernel
theorem d_S_about_92 : decode b_S_about 92 = .ok (.iload_n 1, 1) := by decide +kernel
theorem d_S_about_93 : decode b_S_about 93 = .ok (.invokevirtual 193, 3) := by decide +kernel
theorem d_S_about_96 : decode b_S_about 96 = .ok (.ireturn, 1) := by decide +kernel
theorem d_S_about_97 : decode b_S_about 97 = .ok (.aload_n 0, 1) := by decide +kernel
theorem d_S_about_98 : decode b_S_about 98 = .ok (.getfield 46, 3) := by decide +kernel
theorem d_S_about_101 : decode b_S_about 101 = .ok (.getfield 173, 3) := by decide +kernel
theorem d_S_about_104 : decode b_S_about 104 = .ok (.aload_n 0, 1) := by decide +kernel
theorem d_S_about_105 : decode b_S_about 105 = .ok (.getfield 46, 3) := by decide +kernel
theorem d_S_about_108 : decode b_S_about 108 = .ok (.getfield 176, 3) := by decide +kernel
theorem d_S_about_111 : decode b_S_about 111 = .ok (.aload_n 0, 1) := by decide +kernel
theorem d_S_about_112 : decode b_S_about 112 = .ok (.getfield 26, 3) := by decide +kernel
theorem d_S_about_115 : decode b_S_about 115 = .ok (.iaload, 1) := by decide +kernel
theorem d_S_about_116 : decode b_S_about 116 = .ok (.iload_n 1, 1) := by decide +kernel
theorem d_S_about_117 : decode b_S_about 117 = .ok (.iadd, 1) := by decide +kernel
theorem d_S_about_118 : decode b_S_about 118 = .ok (.iaload, 1) := by decide +kernel
theorem d_S_about_119 : decode b_S_about 119 = .ok (.ireturn, 1) := by decide +kernel
theorem d_S_about_120 : decode b_S_about 120 = .ok (.iload_n 3, 1) := by decide +kernel
theorem d_S_about_121 : decode b_S_about 121 = .ok (.ifCond .ge 7, 3) := by decide +kernel
theorem d_S_about_124 : decode b_S_about 124 = .ok (.iconst (-1), 1) := by decide +kernel
theorem d_S_about_125 : decode b_S_about 125 = .ok (.goto 6, 3) := by decide +kernel
theorem d_S_about_128 : decode b_S_about 128 = .ok (.iload_n 3, 1) := by decide +kernel
theorem d_S_about_129 : decode b_S_about 129 = .ok (.iconst 1, 1) := by decide +kernel
theorem d_S_about_130 : decode b_S_about 130 = .ok (.ishr, 1) := by decide +kernel
theorem d_S_about_131 : decode b_S_about 131 = .ok (.ireturn, 1) := by decide +kernel
theorem d_S_about_132 : decode b_S_about 132 = .ok (.iload_n 3, 1) := by decide +kernel
theorem d_S_about_133 : decode b_S_about 133 = .ok (.ifCond .ge 7, 3) := by decide +kernel
theorem d_S_about_136 : decode b_S_about 136 = .ok (.iconst 0, 1) := by decide +kernel
theorem d_S_about_137 : decode b_S_about 137 = .ok (.goto 6, 3) := by decide +kernel
theorem d_S_about_140 : decode b_S_about 140 = .ok (.iload_n 3, 1) := by decide +kernel
theorem d_S_about_141 : decode b_S_about 141 = .ok (.iconst 1, 1) := by decide +kernel
theorem d_S_about_142 : decode b_S_about 142 = .ok (.iand, 1) := by decide +kernel
theorem d_S_about_143 : decode b_S_about 143 = .ok (.ireturn, 1) := by decide +kernel
abbrev mt_S_about : MT := (R_S, b_S_about, 4, some .int)
theorem vf_S_about : VF y_S_about mt_S_about 0 2 := ⟨im_S_about, se_S_about, in_S, co_S_about, by decide +kernel, _, _, rfl⟩
def f_S_about_b25 (γ : St) : Option (Int × St) :=
  none
def f_S_about (γ : St) (a0 : Int) (a1 : Int) : Option (Int × St) :=
  bndN (f_S_isVariable γ a0) fun r1 γ2 =>
  if r1 ≠ 0 then
  (if a1 < 0 then
  (f_S_about_b25 γ2 )
  else
  (if a1 ≤ 3 then
  (chk (inb (γ2 0 12) 59) (chk (i32 ((γ2 25 (γ2 0 12)) + a0)) (chk (inb ((γ2 25 (γ2 0 12)) + a0) 5841) (ap (γ2 34 ((γ2 25 (γ2 0 12)) + a0)) fun x11 =>
  if a1 = 0 then
  (bndN (f_Nd_role γ2 (γ2 0 12) a0) fun r14 γ15 =>
  some (r14, γ15))
  else if a1 = 1 then
  (chk (inb (γ2 0 12) 59) (chk (i32 ((γ2 25 (γ2 0 12)) + a0)) (chk (inb ((γ2 25 (γ2 0 12)) + a0) 5841) (some (γ2 33 ((γ2 25 (γ2 0 12)) + a0), γ2)))))
  else if a1 = 2 then
  (if 0 ≤ x11 then
  (some (ishr x11 1, γ2))
  else
  (some ((-1), γ2)))
  else (if 0 ≤ x11 then
  (some (iand x11 1, γ2))
  else
  (some (0, γ2)))))))
  else
  (f_S_about_b25 γ2 )))
  else
  (none)
set_option maxHeartbeats 4000000 in
theorem s_S_about_b25 {Γ : Ctx} : ∀ (γ : St), SB Γ BS mt_S_about (RmN 7 262) 0 0 (KN Γ BS mt_S_about.2.2.2) 25 [(0, vR Γ 0)] [] γ (f_S_about_b25 γ ) := by
  intro γ
  unfold f_S_about_b25
  exact sb_none
set_option maxHeartbeats 4000000 in
theorem c_S_about {Γ : Ctx} (γ : St) (a0 : Int) (a1 : Int) (ha0 : i32 a0) (ha1 : i32 a1) : NC Γ BS y_S_about mt_S_about 7 262 [vR Γ 0, vI a0, vI a1] γ (f_S_about γ a0 a1) := by
  refine nc_of (by decide) rfl (Nat.le_of_ble_eq_true rfl) ?_
  show SB Γ BS mt_S_about (RmN 7 262) 0 0 (KN Γ BS mt_S_about.2.2.2) 0 [(0, vR Γ 0), (1, vI a0), (2, vI a1)] [] γ _
  unfold f_S_about
  refine sb_aload_n 0 d_S_about_0 rfl ?_
  refine sb_iload_n 1 d_S_about_1 rfl ?_
  refine sb_cVz vf_S_isVariable (c_S_isVariable γ a0 ha0) rfl ml_S_182 (As := [vI a0]) rfl rfl (Nat.le_of_ble_eq_true rfl) ⟨by decide, by decide⟩ d_S_about_2 (fun r1 γ2 hr1 => ?_)
  refine sb_if_ne 16 (z2i hr1) d_S_about_5 (by decide) (fun _ => ?_) (fun _ => ?_)
  · refine sb_iload_n 2 d_S_about_16 rfl ?_
    refine sb_if_lt 25 ha1 d_S_about_17 (by decide) (fun _ => ?_) (fun _ => ?_)
    · exact sb_lv [0] rfl (s_S_about_b25 γ2  )
    · refine sb_iload_n 2 d_S_about_20 rfl ?_
      refine sb_iconst d_S_about_21 ?_
      refine sb_icmp_le 33 ha1 (by decide) d_S_about_22 (by decide) (fun _ => ?_) (fun _ => ?_)
      · refine sb_aload_n 0 d_S_about_33 rfl ?_
        refine g_S_46 d_S_about_34 ?_
        refine g_S_190 d_S_about_37 ?_
        refine sb_aload_n 0 d_S_about_40 rfl ?_
        refine g_S_46 d_S_about_41 ?_
        refine g_S_176 d_S_about_44 ?_
        refine sb_aload_n 0 d_S_about_47 rfl ?_
        refine g_S_26 d_S_about_48 (fun c7 => ?_)
        refine al_S_25 d_S_about_51 (fun _ c8 => ?_)
        refine sb_iload_n 1 d_S_about_52 rfl ?_
        refine sb_iadd d_S_about_53 ?_
        refine sb_chk (fun c9 => ?_)
        refine al_S_34 d_S_about_54 (fun _ c10 => ?_)
        refine sb_istore_n [(3, vI (γ2 34 ((γ2 25 (γ2 0 12)) + a0))), (0, vR Γ 0), (1, vI a0), (2, vI a1)] d_S_about_55 (by decide) rfl ?_
        refine sb_nme (e := γ2 34 ((γ2 25 (γ2 0 12)) + a0)) (fun x11 => [(3, vI x11), (0, vR Γ 0), (1, vI a0), (2, vI a1)]) c10 (fun x11 hx11 => ?_)
        refine sb_iload_n 3 d_S_about_56 rfl ?_
        refine sb_tc (off := 27) 0 84 ha1 d_S_about_57 (by decide) (by decide) (fun _ => ?_) (fun n16 => ?_)
        · refine sb_aload_n 1 d_S_about_84 rfl ?_
          refine g_S_46 d_S_about_85 ?_
          refine sb_aload_n 1 d_S_about_88 rfl ?_
          refine g_S_26 d_S_about_89 (fun c13 => ?_)
          refine sb_iload_n 2 d_S_about_92 rfl ?_
          refine sb_cVi vf_Nd_role (c_Nd_role γ2 (γ2 0 12) a0 c13 ha0) rfl ml_S_193 (As := [vI (γ2 0 12), vI a0]) rfl rfl (Nat.le_of_ble_eq_true rfl) ⟨by decide, by decide⟩ d_S_about_93 (fun r14 γ15 hr14 => ?_)
          exact sn_i rfl hr14 d_S_about_96
        refine sb_tc (off := 40) 1 97 ha1 d_S_about_57 (by decide) (by decide) (fun _ => ?_) (fun n25 => ?_)
        · refine sb_aload_n 1 d_S_about_97 rfl ?_
          refine g_S_46 d_S_about_98 ?_
          refine g_S_173 d_S_about_101 ?_
          refine sb_aload_n 1 d_S_about_104 rfl ?_
          refine g_S_46 d_S_about_105 ?_
          refine g_S_176 d_S_about_108 ?_
          refine sb_aload_n 1 d_S_about_111 rfl ?_
          refine g_S_26 d_S_about_112 (fun c21 => ?_)
          refine al_S_25 d_S_about_115 (fun _ c22 => ?_)
          refine sb_iload_n 2 d_S_about_116 rfl ?_
          refine sb_iadd d_S_about_117 ?_
          refine sb_chk (fun c23 => ?_)
          refine al_S_33 d_S_about_118 (fun _ c24 => ?_)
          exact sn_i rfl c24 d_S_about_119
        refine sb_tc (off := 63) 2 120 ha1 d_S_about_57 (by decide) (by decide) (fun _ => ?_) (fun n26 => ?_)
        · refine sb_iload_n 0 d_S_about_120 rfl ?_
          refine sb_if_ge 128 hx11 d_S_about_121 (by decide) (fun _ => ?_) (fun _ => ?_)
          · refine sb_iload_n 0 d_S_about_128 rfl ?_
            refine sb_iconst d_S_about_129 ?_
            refine sb_ishr d_S_about_130 ?_
            exact sn_i rfl (ishr_b _ _) d_S_about_131
          · refine sb_iconst d_S_about_124 ?_
            refine sb_goto 131 d_S_about_125 (by decide) ?_
            exact sn_i rfl (by decide) d_S_about_131
        refine sb_td 132 ha1 d_S_about_57 (by omega) (by decide) ?_
        refine sb_iload_n 0 d_S_about_132 rfl ?_
        refine sb_if_ge 140 hx11 d_S_about_133 (by decide) (fun _ => ?_) (fun _ => ?_)
        · refine sb_iload_n 0 d_S_about_140 rfl ?_
          refine sb_iconst d_S_about_141 ?_
          refine sb_iand d_S_about_142 ?_
          exact sn_i rfl (iand_b _ _) d_S_about_143
        · refine sb_iconst d_S_about_136 ?_
          refine sb_goto 143 d_S_about_137 (by decide) ?_
          exact sn_i rfl (by decide) d_S_about_143
      · exact sb_lv [0] rfl (s_S_about_b25 γ2  )
  · exact sb_none
theorem d_S_causes_0 : decode b_S_causes 0 = .ok (.aload_n 0, 1) := by decide +kernel
theorem d_S_causes_1 : decode b_S_causes 1 = .ok (.iload_n 1, 1) := by decide +kernel
theorem d_S_causes_2 : decode b_S_causes 2 = .ok (.invokevirtual 182, 3) := by decide +kernel
theorem d_S_causes_5 : decode b_S_causes 5 = .ok (.ifCond .eq 11, 3) := by decide +kernel
theorem d_S_causes_8 : decode b_S_causes 8 = .ok (.aload_n 0, 1) := by decide +kernel
theorem d_S_causes_9 : decode b_S_causes 9 = .ok (.iload_n 2, 1) := by decide +kernel
theorem d_S_causes_10 : decode b_S_causes 10 = .ok (.invokevirtual 182, 3) := by decide +kernel
theorem d_S_causes_13 : decode b_S_causes 13 = .ok (.ifCond .ne 11, 3) := by decide +kernel
theorem d_S_causes_16 : decode b_S_causes 16 = .ok (.new 170, 3) := by decide +kernel
theorem d_S_causes_19 : decode b_S_causes 19 = .ok (.dup, 1) := by decide +kernel
theorem d_S_causes_20 : decode b_S_causes 20 = .ok (.invokespecial 172, 3) := by decide +kernel
theorem d_S_causes_23 : decode b_S_causes 23 = .ok (.athrow, 1) := by decide +kernel
theorem d_S_causes_24 : decode b_S_causes 24 = .ok (.aload_n 0, 1) := by decide +kernel
theorem d_S_causes_25 : decode b_S_causes 25 = .ok (.getfield 87, 3) := by decide +kernel
theorem d_S_causes_28 : decode b_S_causes 28 = .ok (.iload_n 1, 1) := by decide +kernel
theorem d_S_causes_29 : decode b_S_causes 29 = .ok (.iload_n 2, 1) := by decide +kernel
theorem d_S_causes_30 : decode b_S_causes 30 = .ok (.invokevirtual 197, 3) := by decide +kernel
theorem d_S_causes_33 : decode b_S_causes 33 = .ok (.ireturn, 1) := by decide +kernel
abbrev mt_S_causes : MT := (R_S, b_S_causes, 3, some .boolean)
theorem vf_S_causes : VF y_S_causes mt_S_causes 0 2 := ⟨im_S_causes, se_S_causes, in_S, co_S_causes, by decide +kernel, _, _, rfl⟩
def f_S_causes_b16 (γ : St) : Option (Int × St) :=
  none
def f_S_causes (γ : St) (a0 : Int) (a1 : Int) : Option (Int × St) :=
  bndN (f_S_isVariable γ a0) fun r1 γ2 =>
  if r1 = 0 then
  (f_S_causes_b16 γ2 )
  else
  (bndN (f_S_isVariable γ2 a1) fun r3 γ4 =>
  if r3 ≠ 0 then
  (bndN (f_Od_reaches γ4 a0 a1) fun r6 γ7 =>
  some (r6, γ7))
  else
  (f_S_causes_b16 γ4 ))
set_option maxHeartbeats 4000000 in
theorem s_S_causes_b16 {Γ : Ctx} : ∀ (γ : St), SB Γ BS mt_S_causes (RmN 8 288) 0 0 (KN Γ BS mt_S_causes.2.2.2) 16 [(0, vR Γ 0)] [] γ (f_S_causes_b16 γ ) := by
  intro γ
  unfold f_S_causes_b16
  exact sb_none
set_option maxHeartbeats 4000000 in
theorem c_S_causes {Γ : Ctx} (γ : St) (a0 : Int) (a1 : Int) (ha0 : i32 a0) (ha1 : i32 a1) : NC Γ BS y_S_causes mt_S_causes 8 288 [vR Γ 0, vI a0, vI a1] γ (f_S_causes γ a0 a1) := by
  refine nc_of (by decide) rfl (Nat.le_of_ble_eq_true rfl) ?_
  show SB Γ BS mt_S_causes (RmN 8 288) 0 0 (KN Γ BS mt_S_causes.2.2.2) 0 [(0, vR Γ 0), (1, vI a0), (2, vI a1)] [] γ _
  unfold f_S_causes
  refine sb_aload_n 0 d_S_causes_0 rfl ?_
  refine sb_iload_n 1 d_S_causes_1 rfl ?_
  refine sb_cVz vf_S_isVariable (c_S_isVariable γ a0 ha0) rfl ml_S_182 (As := [vI a0]) rfl rfl (Nat.le_of_ble_eq_true rfl) ⟨by decide, by decide⟩ d_S_causes_2 (fun r1 γ2 hr1 => ?_)
  refine sb_if_eq 16 (z2i hr1) d_S_causes_5 (by decide) (fun _ => ?_) (fun _ => ?_)
  · exact sb_lv [0] rfl (s_S_causes_b16 γ2  )
  · refine sb_aload_n 0 d_S_causes_8 rfl ?_
    refine sb_iload_n 2 d_S_causes_9 rfl ?_
    refine sb_cVz vf_S_isVariable (c_S_isVariable γ2 a1 ha1) rfl ml_S_182 (As := [vI a1]) rfl rfl (Nat.le_of_ble_eq_true rfl) ⟨by decide, by decide⟩ d_S_causes_10 (fun r3 γ4 hr3 => ?_)
    refine sb_if_ne 24 (z2i hr3) d_S_causes_13 (by decide) (fun _ => ?_) (fun _ => ?_)
    · refine sb_aload_n 0 d_S_causes_24 rfl ?_
      refine g_S_87 d_S_causes_25 ?_
      refine sb_iload_n 1 d_S_causes_28 rfl ?_
      refine sb_iload_n 2 d_S_causes_29 rfl ?_
      refine sb_cVz vf_Od_reaches (c_Od_reaches γ4 a0 a1 ha0 ha1) rfl ml_S_197 (As := [vI a0, vI a1]) rfl rfl (Nat.le_of_ble_eq_true rfl) ⟨by decide, by decide⟩ d_S_causes_30 (fun r6 γ7 hr6 => ?_)
      exact sn_z rfl hr6 d_S_causes_33
    · exact sb_lv [0] rfl (s_S_causes_b16 γ4  )
theorem d_S_restart_0 : decode b_S_restart 0 = .ok (.aload_n 0, 1) := by decide +kernel
theorem d_S_restart_1 : decode b_S_restart 1 = .ok (.getfield 26, 3) := by decide +kernel
theorem d_S_restart_4 : decode b_S_restart 4 = .ok (.ifCond .ge 11, 3) := by decide +kernel
theorem d_S_restart_7 : decode b_S_restart 7 = .ok (.new 103, 3) := by decide +kernel
theorem d_S_restart_10 : decode b_S_restart 10 = .ok (.dup, 1) := by decide +kernel
theorem d_S_restart_11 : decode b_S_restart 11 = .ok (.invokespecial 105, 3) := by decide +kernel
theorem d_S_restart_14 : decode b_S_restart 14 = .ok (.athrow, 1) := by decide +kernel
theorem d_S_restart_15 : decode b_S_restart 15 = .ok (.aload_n 0, 1) := by decide +kernel
theorem d_S_restart_16 : decode b_S_restart 16 = .ok (.getfield 113, 3) := by decide +kernel
theorem d_S_restart_19 : decode b_S_restart 19 = .ok (.istore_n 1, 1) := by decide +kernel
theorem d_S_restart_20 : decode b_S_restart 20 = .ok (.aload_n 0, 1) := by decide +kernel
theorem d_S_restart_21 : decode b_S_restart 21 = .ok (.getfield 96, 3) := by decide +kernel
theorem d_S_restart_24 : decode b_S_restart 24 = .ok (.invokevirtual 201, 3) := by decide +kernel
theorem d_S_restart_27 : decode b_S_restart 27 = .ok (.aload_n 0, 1) := by decide +kernel
theorem d_S_restart_28 : decode b_S_restart 28 = .ok (.iconst 0, 1) := by decide +kernel
theorem d_S_restart_29 : decode b_S_restart 29 = .ok (.putfield 113, 3) := by decide +kernel
theorem d_S_restart_32 : decode b_S_restart 32 = .ok (.iload_n 1, 1) := by decide +kernel
theorem d_S_restart_33 : decode b_S_restart 33 = .ok (.ireturn, 1) := by decide +kernel
abbrev mt_S_restart : MT := (R_S, b_S_restart, 2, some .int)
theorem vf_S_restart : VF y_S_restart mt_S_restart 0 0 := ⟨im_S_restart, se_S_restart, in_S, co_S_restart, by decide +kernel, _, _, rfl⟩
def f_S_restart (γ : St) : Option (Int × St) :=
  if 0 ≤ (γ 0 12) then
  (ap (γ 0 13) fun x3 =>
  bndN (f_Pg_clear γ) fun _ γ6 =>
  ap (setA γ6 0 13 0) fun γ7 =>
  some (x3, γ7))
  else
  (none)
set_option maxHeartbeats 4000000 in
theorem c_S_restart {Γ : Ctx} (γ : St) : NC Γ BS y_S_restart mt_S_restart 7 260 [vR Γ 0] γ (f_S_restart γ) := by
  refine nc_of (by decide) rfl (Nat.le_of_ble_eq_true rfl) ?_
  show SB Γ BS mt_S_restart (RmN 7 260) 0 0 (KN Γ BS mt_S_restart.2.2.2) 0 [(0, vR Γ 0)] [] γ _
  unfold f_S_restart
  refine sb_aload_n 0 d_S_restart_0 rfl ?_
  refine g_S_26 d_S_restart_1 (fun c1 => ?_)
  refine sb_if_ge 15 c1 d_S_restart_4 (by decide) (fun _ => ?_) (fun _ => ?_)
  · refine sb_aload_n 0 d_S_restart_15 rfl ?_
    refine g_S_113 d_S_restart_16 (fun c2 => ?_)
    refine sb_istore_n [(1, vI (γ 0 13)), (0, vR Γ 0)] d_S_restart_19 (by decide) rfl ?_
    refine sb_nme (e := γ 0 13) (fun x3 => [(1, vI x3), (0, vR Γ 0)]) c2 (fun x3 hx3 => ?_)
    refine sb_aload_n 1 d_S_restart_20 rfl ?_
    refine g_S_96 d_S_restart_21 ?_
    refine sb_cVv vf_Pg_clear (c_Pg_clear γ  ) rfl ml_S_201 (As := []) rfl rfl (Nat.le_of_ble_eq_true rfl) ⟨by decide, by decide⟩ d_S_restart_24 (fun _ γ6 => ?_)
    refine sb_aload_n 1 d_S_restart_27 rfl ?_
    refine sb_iconst d_S_restart_28 ?_
    refine p_S_113 (by decide) d_S_restart_29 ?_
    refine sb_aps (fun γ7 => ?_)
    refine sb_iload_n 0 d_S_restart_32 rfl ?_
    exact sn_i rfl hx3 d_S_restart_33
  · exact sb_none
theorem d_S_keep_0 : decode b_S_keep 0 = .ok (.aload_n 0, 1) := by decide +kernel
theorem d_S_keep_1 : decode b_S_keep 1 = .ok (.getfield 26, 3) := by decide +kernel
theorem d_S_keep_4 : decode b_S_keep 4 = .ok (.ifCond .lt 10, 3) := by decide +kernel
theorem d_S_keep_7 : decode b_S_keep 7 = .ok (.aload_n 0, 1) := by decide +kernel
theorem d_S_keep_8 : decode b_S_keep 8 = .ok (.getfield 113, 3) := by decide +kernel
theorem d_S_keep_11 : decode b_S_keep 11 = .ok (.ifCond .ne 11, 3) := by decide +kernel
theorem d_S_keep_14 : decode b_S_keep 14 = .ok (.new 103, 3) := by decide +kernel
theorem d_S_keep_17 : decode b_S_keep 17 = .ok (.dup, 1) := by decide +kernel
theorem d_S_keep_18 : decode b_S_keep 18 = .ok (.invokespecial 105, 3) := by decide +kernel
theorem d_S_keep_21 : decode b_S_keep 21 = .ok (.athrow, 1) := by decide +kernel
theorem d_S_keep_22 : decode b_S_keep 22 = .ok (.aload_n 0, 1) := by decide +kernel
theorem d_S_keep_23 : decode b_S_keep 23 = .ok (.getfield 96, 3) := by decide +kernel
theorem d_S_keep_26 : decode b_S_keep 26 = .ok (.invokevirtual 204, 3) := by decide +kernel
theorem d_S_keep_29 : decode b_S_keep 29 = .ok (.aload_n 0, 1) := by decide +kernel
theorem d_S_keep_30 : decode b_S_keep 30 = .ok (.aload_n 0, 1) := by decide +kernel
theorem d_S_keep_31 : decode b_S_keep 31 = .ok (.getfield 113, 3) := by decide +kernel
theorem d_S_keep_34 : decode b_S_keep 34 = .ok (.putfield 116, 3) := by decide +kernel
theorem d_S_keep_37 : decode b_S_keep 37 = .ok (.return_, 1) := by decide +kernel
abbrev mt_S_keep : MT := (R_S, b_S_keep, 1, none)
theorem vf_S_keep : VF y_S_keep mt_S_keep 0 0 := ⟨im_S_keep, se_S_keep, in_S, co_S_keep, by decide +kernel, _, _, rfl⟩
def f_S_keep_b14 (γ : St) : Option (Int × St) :=
  none
def f_S_keep (γ : St) : Option (Int × St) :=
  if (γ 0 12) < 0 then
  (f_S_keep_b14 γ )
  else
  (if (γ 0 13) ≠ 0 then
  (bndN (f_Pg_store γ) fun _ γ5 =>
  ap (setA γ5 0 14 (γ5 0 13)) fun γ7 =>
  some (0, γ7))
  else
  (f_S_keep_b14 γ ))
set_option maxHeartbeats 4000000 in
theorem s_S_keep_b14 {Γ : Ctx} : ∀ (γ : St), SB Γ BS mt_S_keep (RmN 7 260) 0 0 (KN Γ BS mt_S_keep.2.2.2) 14 [(0, vR Γ 0)] [] γ (f_S_keep_b14 γ ) := by
  intro γ
  unfold f_S_keep_b14
  exact sb_none
set_option maxHeartbeats 4000000 in
theorem c_S_keep {Γ : Ctx} (γ : St) : NC Γ BS y_S_keep mt_S_keep 7 260 [vR Γ 0] γ (f_S_keep γ) := by
  refine nc_of (by decide) rfl (Nat.le_of_ble_eq_true rfl) ?_
  show SB Γ BS mt_S_keep (RmN 7 260) 0 0 (KN Γ BS mt_S_keep.2.2.2) 0 [(0, vR Γ 0)] [] γ _
  unfold f_S_keep
  refine sb_aload_n 0 d_S_keep_0 rfl ?_
  refine g_S_26 d_S_keep_1 (fun c1 => ?_)
  refine sb_if_lt 14 c1 d_S_keep_4 (by decide) (fun _ => ?_) (fun _ => ?_)
  · exact sb_lv [0] rfl (s_S_keep_b14 γ  )
  · refine sb_aload_n 0 d_S_keep_7 rfl ?_
    refine g_S_113 d_S_keep_8 (fun c2 => ?_)
    refine sb_if_ne 22 c2 d_S_keep_11 (by decide) (fun _ => ?_) (fun _ => ?_)
    · refine sb_aload_n 0 d_S_keep_22 rfl ?_
      refine g_S_96 d_S_keep_23 ?_
      refine sb_cVv vf_Pg_store (c_Pg_store γ  ) rfl ml_S_204 (As := []) rfl rfl (Nat.le_of_ble_eq_true rfl) ⟨by decide, by decide⟩ d_S_keep_26 (fun _ γ5 => ?_)
      refine sb_aload_n 0 d_S_keep_29 rfl ?_
      refine sb_aload_n 0 d_S_keep_30 rfl ?_
      refine g_S_113 d_S_keep_31 (fun c6 => ?_)
      refine p_S_116 c6 d_S_keep_34 ?_
      refine sb_aps (fun γ7 => ?_)
      exact sn_v rfl d_S_keep_37
    · exact sb_lv [0] rfl (s_S_keep_b14 γ  )
theorem d_S_back_0 : decode b_S_back 0 = .ok (.aload_n 0, 1) := by decide +kernel
theorem d_S_back_1 : decode b_S_back 1 = .ok (.getfield 116, 3) := by decide +kernel
theorem d_S_back_4 : decode b_S_back 4 = .ok (.ifCond .ne 11, 3) := by decide +kernel
theorem d_S_back_7 : decode b_S_back 7 = .ok (.new 103, 3) := by decide +kernel
theorem d_S_back_10 : decode b_S_back 10 = .ok (.dup, 1) := by decide +kernel
theorem d_S_back_11 : decode b_S_back 11 = .ok (.invokespecial 105, 3) := by decide +kernel
theorem d_S_back_14 : decode b_S_back 14 = .ok (.athrow, 1) := by decide +kernel
theorem d_S_back_15 : decode b_S_back 15 = .ok (.aload_n 0, 1) := by decide +kernel
theorem d_S_back_16 : decode b_S_back 16 = .ok (.getfield 113, 3) := by decide +kernel
theorem d_S_back_19 : decode b_S_back 19 = .ok (.istore_n 1, 1) := by decide +kernel
theorem d_S_back_20 : decode b_S_back 20 = .ok (.aload_n 0, 1) := by decide +kernel
theorem d_S_back_21 : decode b_S_back 21 = .ok (.getfield 96, 3) := by decide +kernel
theorem d_S_back_24 : decode b_S_back 24 = .ok (.invokevirtual 207, 3) := by decide +kernel
theorem d_S_back_27 : decode b_S_back 27 = .ok (.aload_n 0, 1) := by decide +kernel
theorem d_S_back_28 : decode b_S_back 28 = .ok (.aload_n 0, 1) := by decide +kernel
theorem d_S_back_29 : decode b_S_back 29 = .ok (.getfield 116, 3) := by decide +kernel
theorem d_S_back_32 : decode b_S_back 32 = .ok (.putfield 113, 3) := by decide +kernel
theorem d_S_back_35 : decode b_S_back 35 = .ok (.iload_n 1, 1) := by decide +kernel
theorem d_S_back_36 : decode b_S_back 36 = .ok (.ireturn, 1) := by decide +kernel
abbrev mt_S_back : MT := (R_S, b_S_back, 2, some .int)
theorem vf_S_back : VF y_S_back mt_S_back 0 0 := ⟨im_S_back, se_S_back, in_S, co_S_back, by decide +kernel, _, _, rfl⟩
def f_S_back (γ : St) : Option (Int × St) :=
  if (γ 0 14) ≠ 0 then
  (ap (γ 0 13) fun x3 =>
  bndN (f_Pg_recall γ) fun _ γ6 =>
  ap (setA γ6 0 13 (γ6 0 14)) fun γ8 =>
  some (x3, γ8))
  else
  (none)
set_option maxHeartbeats 4000000 in
theorem c_S_back {Γ : Ctx} (γ : St) : NC Γ BS y_S_back mt_S_back 7 260 [vR Γ 0] γ (f_S_back γ) := by
  refine nc_of (by decide) rfl (Nat.le_of_ble_eq_true rfl) ?_
  show SB Γ BS mt_S_back (RmN 7 260) 0 0 (KN Γ BS mt_S_back.2.2.2) 0 [(0, vR Γ 0)] [] γ _
  unfold f_S_back
  refine sb_aload_n 0 d_S_back_0 rfl ?_
  refine g_S_116 d_S_back_1 (fun c1 => ?_)
  refine sb_if_ne 15 c1 d_S_back_4 (by decide) (fun _ => ?_) (fun _ => ?_)
  · refine sb_aload_n 0 d_S_back_15 rfl ?_
    refine g_S_113 d_S_back_16 (fun c2 => ?_)
    refine sb_istore_n [(1, vI (γ 0 13)), (0, vR Γ 0)] d_S_back_19 (by decide) rfl ?_
    refine sb_nme (e := γ 0 13) (fun x3 => [(1, vI x3), (0, vR Γ 0)]) c2 (fun x3 hx3 => ?_)
    refine sb_aload_n 1 d_S_back_20 rfl ?_
    refine g_S_96 d_S_back_21 ?_
    refine sb_cVv vf_Pg_recall (c_Pg_recall γ  ) rfl ml_S_207 (As := []) rfl rfl (Nat.le_of_ble_eq_true rfl) ⟨by decide, by decide⟩ d_S_back_24 (fun _ γ6 => ?_)
    refine sb_aload_n 1 d_S_back_27 rfl ?_
    refine sb_aload_n 1 d_S_back_28 rfl ?_
    refine g_S_116 d_S_back_29 (fun c7 => ?_)
    refine p_S_113 c7 d_S_back_32 ?_
    refine sb_aps (fun γ8 => ?_)
    refine sb_iload_n 0 d_S_back_35 rfl ?_
    exact sn_i rfl hx3 d_S_back_36
  · exact sb_none
theorem d_S_countOfProgram_0 : decode b_S_countOfProgram 0 = .ok (.iload_n 1, 1) := by decide +kernel
theorem d_S_countOfProgram_1 : decode b_S_countOfProgram 1 = .ok (.tableswitch 116 0 6 #[43, 56, 69, 82, 90, 103, 108], 43) := by decide +kernel
theorem d_S_countOfProgram_44 : decode b_S_countOfProgram 44 = .ok (.aload_n 0, 1) := by decide +kernel
theorem d_S_countOfProgram_45 : decode b_S_countOfProgram 45 = .ok (.getfield 46, 3) := by decide +kernel
theorem d_S_countOfProgram_48 : decode b_S_countOfProgram 48 = .ok (.getfield 151, 3) := by decide +kernel
theorem d_S_countOfProgram_51 : decode b_S_countOfProgram 51 = .ok (.aload_n 0, 1) := by decide +kernel
theorem d_S_countOfProgram_52 : decode b_S_countOfProgram 52 = .ok (.getfield 26, 3) := by decide +kernel
theorem d_S_countOfProgram_55 : decode b_S_countOfProgram 55 = .ok (.iaload, 1) := by decide +kernel
theorem d_S_countOfProgram_56 : decode b_S_countOfProgram 56 = .ok (.ireturn, 1) := by decide +kernel
theorem d_S_countOfProgram_57 : decode b_S_countOfProgram 57 = .ok (.aload_n 0, 1) := by decide +kernel
theorem d_S_countOfProgram_58 : decode b_S_countOfProgram 58 = .ok (.getfield 46, 3) := by decide +kernel
theorem d_S_countOfProgram_61 : decode b_S_countOfProgram 61 = .ok (.getfield 148, 3) := by decide +kernel
theorem d_S_countOfProgram_64 : decode b_S_countOfProgram 64 = .ok (.aload_n 0, 1) := by decide +kernel
theorem d_S_countOfProgram_65 : decode b_S_countOfProgram 65 = .ok (.getfield 26, 3) := by decide +kernel
theorem d_S_countOfProgram_68 : decode b_S_countOfProgram 68 = .ok (.iaload, 1) := by decide +kernel
theorem d_S_countOfProgram_69 : decode b_S_countOfProgram 69 = .ok (.ireturn, 1) := by decide +kernel
theorem d_S_countOfProgram_70 : decode b_S_countOfProgram 70 = .ok (.aload_n 0, 1) := by decide +kernel
theorem d_S_countOfProgram_71 : decode b_S_countOfProgram 71 = .ok (.getfield 46, 3) := by decide +kernel
theorem d_S_countOfProgram_74 : decode b_S_countOfProgram 74 = .ok (.getfield 214, 3) := by decide +kernel
theorem d_S_countOfProgram_77 : decode b_S_countOfProgram 77 = .ok (.aload_n 0, 1) := by decide +kernel
theorem d_S_countOfProgram_78 : decode b_S_countOfProgram 78 = .ok (.getfield 26, 3) := by decide +kernel
theorem d_S_countOfProgram_81 : decode b_S_countOfProgram 81 = .ok (.iaload, 1) := by decide +kernel
theorem d_S_countOfProgram_82 : decode b_S_countOfProgram 82 = .ok (.ireturn, 1) := by decide +kernel
theorem d_S_countOfProgram_83 : decode b_S_countOfProgram 83 = .ok (.aload_n 0, 1) := by decide +kernel
theorem d_S_countOfProgram_84 : decode b_S_countOfProgram 84 = .ok (.getfield 69, 3) := by decide +kernel
theorem d_S_countOfProgram_87 : decode b_S_countOfProgram 87 = .ok (.getfield 164, 3) := by decide +kernel
theorem d_S_countOfProgram_90 : decode b_S_countOfProgram 90 = .ok (.ireturn, 1) := by decide +kernel
theorem d_S_countOfProgram_91 : decode b_S_countOfProgram 91 = .ok (.aload_n 0, 1) := by decide +kernel
theorem d_S_countOfProgram_92 : decode b_S_countOfProgram 92 = .ok (.getfield 46, 3) := by decide +kernel
theorem d_S_countOfProgram_95 : decode b_S_countOfProgram 95 = .ok (.getfield 217, 3) := by decide +kernel
theorem d_S_countOfProgram_98 : decode b_S_countOfProgram 98 = .ok (.aload_n 0, 1) := by decide +kernel
theorem d_S_countOfProgram_99 : decode b_S_countOfProgram 99 = .ok (.getfield 26, 3) := by decide +kernel
theorem d_S_countOfProgram_102 : decode b_S_countOfProgram 102 = .ok (.iaload, 1) := by decide +kernel
theorem d_S_countOfProgram_103 : decode b_S_countOfProgram 103 = .ok (.ireturn, 1) := by decide +kernel
theorem d_S_countOfProgram_104 : decode b_S_countOfProgram 104 = .ok (.aload_n 0, 1) := by decide +kernel
theorem d_S_countOfProgram_105 : decode b_S_countOfProgram 105 = .ok (.getfield 113, 3) := by decide +kernel
theorem d_S_countOfProgram_108 : decode b_S_countOfProgram 108 = .ok (.ireturn, 1) := by decide +kernel
theorem d_S_countOfProgram_109 : decode b_S_countOfProgram 109 = .ok (.aload_n 0, 1) := by decide +kernel
theorem d_S_countOfProgram_110 : decode b_S_countOfProgram 110 = .ok (.getfield 69, 3) := by decide +kernel
theorem d_S_countOfProgram_113 : decode b_S_countOfProgram 113 = .ok (.getfield 220, 3) := by decide +kernel
theorem d_S_countOfProgram_116 : decode b_S_countOfProgram 116 = .ok (.ireturn, 1) := by decide +kernel
theorem d_S_countOfProgram_117 : decode b_S_countOfProgram 117 = .ok (.aload_n 0, 1) := by decide +kernel
theorem d_S_countOfProgram_118 : decode b_S_countOfProgram 118 = .ok (.getfield 46, 3) := by decide +kernel
theorem d_S_countOfProgram_121 : decode b_S_countOfProgram 121 = .ok (.getfield 145, 3) := by decide +kernel
theorem d_S_countOfProgram_124 : decode b_S_countOfProgram 124 = .ok (.ireturn, 1) := by decide +kernel
abbrev mt_S_countOfProgram : MT := (R_S, b_S_countOfProgram, 2, some .int)
theorem vf_S_countOfProgram : VF y_S_countOfProgram mt_S_countOfProgram 0 1 := ⟨im_S_countOfProgram, se_S_countOfProgram, in_S, co_S_countOfProgram, by decide +kernel, _, _, rfl⟩
def f_S_countOfProgram (γ : St) (a0 : Int) : Option (Int × St) :=
  if a0 = 0 then
  (chk (inb (γ 0 12) 59) (some (γ 28 (γ 0 12), γ)))
  else if a0 = 1 then
  (chk (inb (γ 0 12) 59) (some (γ 26 (γ 0 12), γ)))
  else if a0 = 2 then
  (chk (inb (γ 0 12) 59) (some (γ 27 (γ 0 12), γ)))
  else if a0 = 3 then
  (some (γ 8 8, γ))
  else if a0 = 4 then
  (chk (inb (γ 0 12) 59) (some (γ 31 (γ 0 12), γ)))
  else if a0 = 5 then
  (some (γ 0 13, γ))
  else if a0 = 6 then
  (some (γ 8 11, γ))
  else (some (γ 3 9, γ))
set_option maxHeartbeats 4000000 in
theorem c_S_countOfProgram {Γ : Ctx} (γ : St) (a0 : Int) (ha0 : i32 a0) : NC Γ BS y_S_countOfProgram mt_S_countOfProgram 6 240 [vR Γ 0, vI a0] γ (f_S_countOfProgram γ a0) := by
  refine nc_of (by decide) rfl (Nat.le_of_ble_eq_true rfl) ?_
  show SB Γ BS mt_S_countOfProgram (RmN 6 240) 0 0 (KN Γ BS mt_S_countOfProgram.2.2.2) 0 [(0, vR Γ 0), (1, vI a0)] [] γ _
  unfold f_S_countOfProgram
  refine sb_iload_n 1 d_S_countOfProgram_0 rfl ?_
  refine sb_tc (off := 43) 0 44 ha0 d_S_countOfProgram_1 (by decide) (by decide) (fun _ => ?_) (fun n5 => ?_)
  · refine sb_aload_n 0 d_S_countOfProgram_44 rfl ?_
    refine g_S_46 d_S_countOfProgram_45 ?_
    refine g_S_151 d_S_countOfProgram_48 ?_
    refine sb_aload_n 0 d_S_countOfProgram_51 rfl ?_
    refine g_S_26 d_S_countOfProgram_52 (fun c3 => ?_)
    refine al_S_28 d_S_countOfProgram_55 (fun _ c4 => ?_)
    exact sn_i rfl c4 d_S_countOfProgram_56
  refine sb_tc (off := 56) 1 57 ha0 d_S_countOfProgram_1 (by decide) (by decide) (fun _ => ?_) (fun n10 => ?_)
  · refine sb_aload_n 0 d_S_countOfProgram_57 rfl ?_
    refine g_S_46 d_S_countOfProgram_58 ?_
    refine g_S_148 d_S_countOfProgram_61 ?_
    refine sb_aload_n 0 d_S_countOfProgram_64 rfl ?_
    refine g_S_26 d_S_countOfProgram_65 (fun c8 => ?_)
    refine al_S_26 d_S_countOfProgram_68 (fun _ c9 => ?_)
    exact sn_i rfl c9 d_S_countOfProgram_69
  refine sb_tc (off := 69) 2 70 ha0 d_S_countOfProgram_1 (by decide) (by decide) (fun _ => ?_) (fun n15 => ?_)
  · refine sb_aload_n 0 d_S_countOfProgram_70 rfl ?_
    refine g_S_46 d_S_countOfProgram_71 ?_
    refine g_S_214 d_S_countOfProgram_74 ?_
    refine sb_aload_n 0 d_S_countOfProgram_77 rfl ?_
    refine g_S_26 d_S_countOfProgram_78 (fun c13 => ?_)
    refine al_S_27 d_S_countOfProgram_81 (fun _ c14 => ?_)
    exact sn_i rfl c14 d_S_countOfProgram_82
  refine sb_tc (off := 82) 3 83 ha0 d_S_countOfProgram_1 (by decide) (by decide) (fun _ => ?_) (fun n18 => ?_)
  · refine sb_aload_n 0 d_S_countOfProgram_83 rfl ?_
    refine g_S_69 d_S_countOfProgram_84 ?_
    refine g_S_164 d_S_countOfProgram_87 (fun c17 => ?_)
    exact sn_i rfl c17 d_S_countOfProgram_90
  refine sb_tc (off := 90) 4 91 ha0 d_S_countOfProgram_1 (by decide) (by decide) (fun _ => ?_) (fun n23 => ?_)
  · refine sb_aload_n 0 d_S_countOfProgram_91 rfl ?_
    refine g_S_46 d_S_countOfProgram_92 ?_
    refine g_S_217 d_S_countOfProgram_95 ?_
    refine sb_aload_n 0 d_S_countOfProgram_98 rfl ?_
    refine g_S_26 d_S_countOfProgram_99 (fun c21 => ?_)
    refine al_S_31 d_S_countOfProgram_102 (fun _ c22 => ?_)
    exact sn_i rfl c22 d_S_countOfProgram_103
  refine sb_tc (off := 103) 5 104 ha0 d_S_countOfProgram_1 (by decide) (by decide) (fun _ => ?_) (fun n25 => ?_)
  · refine sb_aload_n 0 d_S_countOfProgram_104 rfl ?_
    refine g_S_113 d_S_countOfProgram_105 (fun c24 => ?_)
    exact sn_i rfl c24 d_S_countOfProgram_108
  refine sb_tc (off := 108) 6 109 ha0 d_S_countOfProgram_1 (by decide) (by decide) (fun _ => ?_) (fun n28 => ?_)
  · refine sb_aload_n 0 d_S_countOfProgram_109 rfl ?_
    refine g_S_69 d_S_countOfProgram_110 ?_
    refine g_S_220 d_S_countOfProgram_113 (fun c27 => ?_)
    exact sn_i rfl c27 d_S_countOfProgram_116
  refine sb_td 117 ha0 d_S_countOfProgram_1 (by omega) (by decide) ?_
  refine sb_aload_n 0 d_S_countOfProgram_117 rfl ?_
  refine g_S_46 d_S_countOfProgram_118 ?_
  refine g_S_145 d_S_countOfProgram_121 (fun c30 => ?_)
  exact sn_i rfl c30 d_S_countOfProgram_124
theorem d_S_count_0 : decode b_S_count 0 = .ok (.iload_n 1, 1) := by decide +kernel
theorem d_S_count_1 : decode b_S_count 1 = .ok (.bipush 7, 2) := by decide +kernel
theorem d_S_count_3 : decode b_S_count 3 = .ok (.if_icmp .ne 8, 3) := by decide +kernel
theorem d_S_count_6 : decode b_S_count 6 = .ok (.aload_n 0, 1) := by decide +kernel
theorem d_S_count_7 : decode b_S_count 7 = .ok (.getfield 100, 3) := by decide +kernel
theorem d_S_count_10 : decode b_S_count 10 = .ok (.ireturn, 1) := by decide +kernel
theorem d_S_count_11 : decode b_S_count 11 = .ok (.iload_n 1, 1) := by decide +kernel
theorem d_S_count_12 : decode b_S_count 12 = .ok (.ifCond .lt 9, 3) := by decide +kernel
theorem d_S_count_15 : decode b_S_count 15 = .ok (.iload_n 1, 1) := by decide +kernel
theorem d_S_count_16 : decode b_S_count 16 = .ok (.bipush 8, 2) := by decide +kernel
theorem d_S_count_18 : decode b_S_count 18 = .ok (.if_icmp .le 5, 3) := by decide +kernel
theorem d_S_count_21 : decode b_S_count 21 = .ok (.iconst (-1), 1) := by decide +kernel
theorem d_S_count_22 : decode b_S_count 22 = .ok (.ireturn, 1) := by decide +kernel
theorem d_S_count_23 : decode b_S_count 23 = .ok (.aload_n 0, 1) := by decide +kernel
theorem d_S_count_24 : decode b_S_count 24 = .ok (.getfield 26, 3) := by decide +kernel
theorem d_S_count_27 : decode b_S_count 27 = .ok (.ifCond .ge 7, 3) := by decide +kernel
theorem d_S_count_30 : decode b_S_count 30 = .ok (.iconst 0, 1) := by decide +kernel
theorem d_S_count_31 : decode b_S_count 31 = .ok (.goto 8, 3) := by decide +kernel
theorem d_S_count_34 : decode b_S_count 34 = .ok (.aload_n 0, 1) := by decide +kernel
theorem d_S_count_35 : decode b_S_count 35 = .ok (.iload_n 1, 1) := by decide +kernel
theorem d_S_count_36 : decode b_S_count 36 = .ok (.invokevirtual 210, 3) := by decide +kernel
theorem d_S_count_39 : decode b_S_count 39 = .ok (.ireturn, 1) := by decide +kernel
abbrev mt_S_count : MT := (R_S, b_S_count, 2, some .int)
theorem vf_S_count : VF y_S_count mt_S_count 0 1 := ⟨im_S_count, se_S_count, in_S, co_S_count, by decide +kernel, _, _, rfl⟩
def f_S_count (γ : St) (a0 : Int) : Option (Int × St) :=
  if a0 ≠ 7 then
  (if a0 < 0 then
  (some ((-1), γ))
  else
  (if a0 ≤ 8 then
  (if 0 ≤ (γ 0 12) then
  (bndN (f_S_countOfProgram γ a0) fun r2 γ3 =>
  some (r2, γ3))
  else
  (some (0, γ)))
  else
  (some ((-1), γ))))
  else
  (some (γ 0 10, γ))
set_option maxHeartbeats 4000000 in
theorem c_S_count {Γ : Ctx} (γ : St) (a0 : Int) (ha0 : i32 a0) : NC Γ BS y_S_count mt_S_count 7 261 [vR Γ 0, vI a0] γ (f_S_count γ a0) := by
  refine nc_of (by decide) rfl (Nat.le_of_ble_eq_true rfl) ?_
  show SB Γ BS mt_S_count (RmN 7 261) 0 0 (KN Γ BS mt_S_count.2.2.2) 0 [(0, vR Γ 0), (1, vI a0)] [] γ _
  unfold f_S_count
  refine sb_iload_n 1 d_S_count_0 rfl ?_
  refine sb_bipush d_S_count_1 (by decide) ?_
  refine sb_icmp_ne 11 ha0 (by decide) d_S_count_3 (by decide) (fun _ => ?_) (fun _ => ?_)
  · refine sb_iload_n 1 d_S_count_11 rfl ?_
    refine sb_if_lt 21 ha0 d_S_count_12 (by decide) (fun _ => ?_) (fun _ => ?_)
    · refine sb_iconst d_S_count_21 ?_
      exact sn_i rfl (by decide) d_S_count_22
    · refine sb_iload_n 1 d_S_count_15 rfl ?_
      refine sb_bipush d_S_count_16 (by decide) ?_
      refine sb_icmp_le 23 ha0 (by decide) d_S_count_18 (by decide) (fun _ => ?_) (fun _ => ?_)
      · refine sb_aload_n 0 d_S_count_23 rfl ?_
        refine g_S_26 d_S_count_24 (fun c1 => ?_)
        refine sb_if_ge 34 c1 d_S_count_27 (by decide) (fun _ => ?_) (fun _ => ?_)
        · refine sb_aload_n 0 d_S_count_34 rfl ?_
          refine sb_iload_n 1 d_S_count_35 rfl ?_
          refine sb_cVi vf_S_countOfProgram (c_S_countOfProgram γ a0 ha0) rfl ml_S_210 (As := [vI a0]) rfl rfl (Nat.le_of_ble_eq_true rfl) ⟨by decide, by decide⟩ d_S_count_36 (fun r2 γ3 hr2 => ?_)
          exact sn_i rfl hr2 d_S_count_39
        · refine sb_iconst d_S_count_30 ?_
          refine sb_goto 39 d_S_count_31 (by decide) ?_
          exact sn_i rfl (by decide) d_S_count_39
      · refine sb_iconst d_S_count_21 ?_
        exact sn_i rfl (by decide) d_S_count_22
  · refine sb_aload_n 0 d_S_count_6 rfl ?_
    refine g_S_100 d_S_count_7 (fun c4 => ?_)
    exact sn_i rfl c4 d_S_count_10
