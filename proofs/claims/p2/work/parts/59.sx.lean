/-! the class as functions: where its calls throw -/
def h_S_isVariable (γ : St) (a0 : Int) : Option (Int × St) :=
  if (γ 0 12) < 0 then
  (some (0, γ))
  else
  (if a0 < 0 then
  (some (0, γ))
  else
  (chk (inb (γ 0 12) 59) (if (γ 28 (γ 0 12)) ≤ a0 then
  (some (0, γ))
  else
  (some (1, γ)))))
set_option maxHeartbeats 4000000 in
theorem t_S_isVariable {Γ : Ctx} (γ : St) (a0 : Int) (ha0 : i32 a0) : RC Γ BS y_S_isVariable mt_S_isVariable 6 240 [vR Γ 0, vI a0] γ (h_S_isVariable γ a0) := by
  refine rc_of (by decide) rfl (Nat.le_of_ble_eq_true rfl) ?_
  show SR Γ BS mt_S_isVariable (RmN 6 240) 0 0 KRd 0 [(0, vR Γ 0), (1, vI a0)] [] γ _
  unfold h_S_isVariable
  refine sr_aload_n 0 d_S_isVariable_0 rfl ?_
  refine sr_get kf_S 12 rfl rfl (by decide) fl_S_26 d_S_isVariable_1 (fun c1 => ?_)
  refine sr_if_lt 31 c1 d_S_isVariable_4 (by decide) (fun _ => ?_) (fun _ => ?_)
  · refine sr_iconst d_S_isVariable_31 ?_
    exact srd_z rfl (by decide) d_S_isVariable_32
  · refine sr_iload_n 1 d_S_isVariable_7 rfl ?_
    refine sr_if_lt 31 ha0 d_S_isVariable_8 (by decide) (fun _ => ?_) (fun _ => ?_)
    · refine sr_iconst d_S_isVariable_31 ?_
      exact srd_z rfl (by decide) d_S_isVariable_32
    · refine sr_iload_n 1 d_S_isVariable_11 rfl ?_
      refine sr_aload_n 0 d_S_isVariable_12 rfl ?_
      refine sr_getR kf_S 1 rfl rfl (by decide) fl_S_46 d_S_isVariable_13 ?_
      refine sr_getR kf_Nd 4 rfl rfl (by decide) fl_S_151 d_S_isVariable_16 ?_
      refine sr_aload_n 0 d_S_isVariable_19 rfl ?_
      refine sr_get kf_S 12 rfl rfl (by decide) fl_S_26 d_S_isVariable_20 (fun c4 => ?_)
      refine sr_iald rfl rfl (by decide) d_S_isVariable_23 (fun _ c5 => ?_)
      refine sr_icmp_ge 31 ha0 c5 d_S_isVariable_24 (by decide) (fun _ => ?_) (fun _ => ?_)
      · refine sr_iconst d_S_isVariable_31 ?_
        exact srd_z rfl (by decide) d_S_isVariable_32
      · refine sr_iconst d_S_isVariable_27 ?_
        refine sr_goto 32 d_S_isVariable_28 (by decide) ?_
        exact srd_z rfl (by decide) d_S_isVariable_32
def g_S_feed (γ : St) (a0 : Int) (a1 : Int) (a2 : Int) (a3 : Int) (a4 : Int) : Option (Nat × St) :=
  chk (i32 ((γ 0 10) + 20)) (if ((γ 0 10) + 20) ≤ 65536 then
  (none)
  else
  (some (1, γ)))
set_option maxHeartbeats 4000000 in
theorem x_S_feed {Γ : Ctx} (hno : Γ.l.stackTraces = false) (γ : St) (a0 : Int) (a1 : Int) (a2 : Int) (a3 : Int) (a4 : Int) (ha0 : i32 a0) (ha1 : i32 a1) (ha2 : i32 a2) (ha3 : i32 a3) (ha4 : i32 a4) : XC Γ BS y_S_feed mt_S_feed 8 300 [vR Γ 0, vI a0, vI a1, vI a2, vI a3, vI a4] γ (g_S_feed γ a0 a1 a2 a3 a4) := by
  refine xc_of (by decide) rfl (Nat.le_of_ble_eq_true rfl) ?_
  show SR Γ BS mt_S_feed (RmX 8 300) 0 0 KX 0 [(0, vR Γ 0), (1, vI a0), (2, vI a1), (3, vI a2), (4, vI a3), (5, vI a4)] [] γ _
  unfold g_S_feed
  refine sr_aload_n 0 d_S_feed_0 rfl ?_
  refine sr_get kf_S 10 rfl rfl (by decide) fl_S_100 d_S_feed_1 (fun c1 => ?_)
  refine sr_bipush d_S_feed_4 (by decide) ?_
  refine sr_iadd d_S_feed_6 ?_
  refine sr_chk (fun c2 => ?_)
  refine sr_ldc 65536 (by decide) ct_S_13 d_S_feed_7 ?_
  refine sr_icmp_le 20 c2 (by decide) d_S_feed_9 (by decide) (fun _ => ?_) (fun _ => ?_)
  · refine sr_aload_n 0 d_S_feed_20 rfl ?_
    refine sr_iload_n 1 d_S_feed_21 rfl ?_
    exact sr_none
  · exact sr_thr hno rfl rfl (by decide) oa_ISE cl_S_103 in_java_lang_IllegalStateException ⟨by decide, by decide⟩ d_S_feed_12 d_S_feed_15 d_S_feed_16 d_S_feed_19
def g_S_end_b12 (γ : St) : Option (Nat × St) :=
  some (2, γ)
def g_S_end (γ : St) (a0 : Int) : Option (Nat × St) :=
  if a0 < 0 then
  (g_S_end_b12 γ )
  else
  (if a0 ≤ (γ 0 10) then
  (none)
  else
  (g_S_end_b12 γ ))
set_option maxHeartbeats 4000000 in
theorem x_S_end_b12 {Γ : Ctx} (hno : Γ.l.stackTraces = false) : ∀ (γ : St), SR Γ BS mt_S_end (RmX 8 300) 0 0 KX 12 [(0, vR Γ 0)] [] γ (g_S_end_b12 γ ) := by
  intro γ
  unfold g_S_end_b12
  exact sr_thr hno rfl rfl (by decide) oa_IAE cl_S_110 in_java_lang_IllegalArgumentException ⟨by decide, by decide⟩ d_S_end_12 d_S_end_15 d_S_end_16 d_S_end_19
set_option maxHeartbeats 4000000 in
theorem x_S_end {Γ : Ctx} (hno : Γ.l.stackTraces = false) (γ : St) (a0 : Int) (ha0 : i32 a0) : XC Γ BS y_S_end mt_S_end 8 300 [vR Γ 0, vI a0] γ (g_S_end γ a0) := by
  refine xc_of (by decide) rfl (Nat.le_of_ble_eq_true rfl) ?_
  show SR Γ BS mt_S_end (RmX 8 300) 0 0 KX 0 [(0, vR Γ 0), (1, vI a0)] [] γ _
  unfold g_S_end
  refine sr_iload_n 1 d_S_end_0 rfl ?_
  refine sr_if_lt 12 ha0 d_S_end_1 (by decide) (fun _ => ?_) (fun _ => ?_)
  · exact sr_lv [0] rfl (x_S_end_b12 hno γ  )
  · refine sr_iload_n 1 d_S_end_4 rfl ?_
    refine sr_aload_n 0 d_S_end_5 rfl ?_
    refine sr_get kf_S 10 rfl rfl (by decide) fl_S_100 d_S_end_6 (fun c1 => ?_)
    refine sr_icmp_le 20 ha0 c1 d_S_end_9 (by decide) (fun _ => ?_) (fun _ => ?_)
    · refine sr_aload_n 0 d_S_end_20 rfl ?_
      refine sr_iload_n 1 d_S_end_21 rfl ?_
      exact sr_none
    · exact sr_lv [0] rfl (x_S_end_b12 hno γ  )
def g_S_input_b27 (γ : St) : Option (Nat × St) :=
  some (3, γ)
def g_S_input_b78 (γ : St) (x1 : Int) (x2 : Int) : Option (Nat × St) :=
  chk (inb x1 99) (ap (γ 12 x1) fun x5 =>
  none)
def g_S_input (γ : St) (a0 : Int) (a1 : Int) : Option (Nat × St) :=
  if (γ 0 12) < 0 then
  (g_S_input_b27 γ )
  else
  (if a0 < 0 then
  (g_S_input_b27 γ )
  else
  (chk (inb (γ 0 12) 59) (if a0 < (γ 26 (γ 0 12)) then
  (chk (inb (γ 0 12) 59) (chk (i32 ((γ 25 (γ 0 12)) + a0)) (chk (inb ((γ 25 (γ 0 12)) + a0) 5841) (if (γ 33 ((γ 25 (γ 0 12)) + a0)) ≠ 1 then
  (g_S_input_b78 γ a0 a1)
  else
  (if a1 = 0 then
  (g_S_input_b78 γ a0 a1)
  else
  (if a1 = 1 then
  (g_S_input_b78 γ a0 a1)
  else
  (some (2, γ))))))))
  else
  (g_S_input_b27 γ ))))
set_option maxHeartbeats 4000000 in
theorem x_S_input_b27 {Γ : Ctx} (hno : Γ.l.stackTraces = false) : ∀ (γ : St), SR Γ BS mt_S_input (RmX 8 300) 0 0 KX 27 [(0, vR Γ 0)] [] γ (g_S_input_b27 γ ) := by
  intro γ
  unfold g_S_input_b27
  exact sr_thr hno rfl rfl (by decide) oa_NSE cl_S_170 in_java_util_NoSuchElementException ⟨by decide, by decide⟩ d_S_input_27 d_S_input_30 d_S_input_31 d_S_input_34
set_option maxHeartbeats 4000000 in
theorem x_S_input_b78 {Γ : Ctx} (hno : Γ.l.stackTraces = false) : ∀ (γ : St) (x1 : Int) (x2 : Int), i32 x1 → i32 x2 → SR Γ BS mt_S_input (RmX 8 300) 0 0 KX 78 [(0, vR Γ 0), (1, vI x1), (2, vI x2)] [] γ (g_S_input_b78 γ x1 x2) := by
  intro γ x1 x2 hx1 hx2
  unfold g_S_input_b78
  refine sr_aload_n 0 d_S_input_78 rfl ?_
  refine sr_getR kf_S 8 rfl rfl (by decide) fl_S_9 d_S_input_79 ?_
  refine sr_iload_n 1 d_S_input_82 rfl ?_
  refine sr_iald rfl rfl (by decide) d_S_input_83 (fun _ c4 => ?_)
  refine sr_istore_n [(3, vI (γ 12 x1)), (0, vR Γ 0), (1, vI x1), (2, vI x2)] d_S_input_84 (by decide) rfl ?_
  refine sr_nme (e := γ 12 x1) (fun x5 => [(3, vI x5), (0, vR Γ 0), (1, vI x1), (2, vI x2)]) c4 (fun x5 hx5 => ?_)
  refine sr_aload_n 1 d_S_input_85 rfl ?_
  refine sr_getR kf_S 8 rfl rfl (by decide) fl_S_9 d_S_input_86 ?_
  refine sr_iload_n 2 d_S_input_89 rfl ?_
  refine sr_iload_n 3 d_S_input_90 rfl ?_
  exact sr_none
set_option maxHeartbeats 4000000 in
theorem x_S_input {Γ : Ctx} (hno : Γ.l.stackTraces = false) (γ : St) (a0 : Int) (a1 : Int) (ha0 : i32 a0) (ha1 : i32 a1) : XC Γ BS y_S_input mt_S_input 8 300 [vR Γ 0, vI a0, vI a1] γ (g_S_input γ a0 a1) := by
  refine xc_of (by decide) rfl (Nat.le_of_ble_eq_true rfl) ?_
  show SR Γ BS mt_S_input (RmX 8 300) 0 0 KX 0 [(0, vR Γ 0), (1, vI a0), (2, vI a1)] [] γ _
  unfold g_S_input
  refine sr_aload_n 0 d_S_input_0 rfl ?_
  refine sr_get kf_S 12 rfl rfl (by decide) fl_S_26 d_S_input_1 (fun c7 => ?_)
  refine sr_if_lt 27 c7 d_S_input_4 (by decide) (fun _ => ?_) (fun _ => ?_)
  · exact sr_lv [0] rfl (x_S_input_b27 hno γ  )
  · refine sr_iload_n 1 d_S_input_7 rfl ?_
    refine sr_if_lt 27 ha0 d_S_input_8 (by decide) (fun _ => ?_) (fun _ => ?_)
    · exact sr_lv [0] rfl (x_S_input_b27 hno γ  )
    · refine sr_iload_n 1 d_S_input_11 rfl ?_
      refine sr_aload_n 0 d_S_input_12 rfl ?_
      refine sr_getR kf_S 1 rfl rfl (by decide) fl_S_46 d_S_input_13 ?_
      refine sr_getR kf_Nd 2 rfl rfl (by decide) fl_S_148 d_S_input_16 ?_
      refine sr_aload_n 0 d_S_input_19 rfl ?_
      refine sr_get kf_S 12 rfl rfl (by decide) fl_S_26 d_S_input_20 (fun c10 => ?_)
      refine sr_iald rfl rfl (by decide) d_S_input_23 (fun _ c11 => ?_)
      refine sr_icmp_lt 35 ha0 c11 d_S_input_24 (by decide) (fun _ => ?_) (fun _ => ?_)
      · refine sr_aload_n 0 d_S_input_35 rfl ?_
        refine sr_getR kf_S 1 rfl rfl (by decide) fl_S_46 d_S_input_36 ?_
        refine sr_getR kf_Nd 10 rfl rfl (by decide) fl_S_173 d_S_input_39 ?_
        refine sr_aload_n 0 d_S_input_42 rfl ?_
        refine sr_getR kf_S 1 rfl rfl (by decide) fl_S_46 d_S_input_43 ?_
        refine sr_getR kf_Nd 1 rfl rfl (by decide) fl_S_176 d_S_input_46 ?_
        refine sr_aload_n 0 d_S_input_49 rfl ?_
        refine sr_get kf_S 12 rfl rfl (by decide) fl_S_26 d_S_input_50 (fun c16 => ?_)
        refine sr_iald rfl rfl (by decide) d_S_input_53 (fun _ c17 => ?_)
        refine sr_iload_n 1 d_S_input_54 rfl ?_
        refine sr_iadd d_S_input_55 ?_
        refine sr_chk (fun c18 => ?_)
        refine sr_iald rfl rfl (by decide) d_S_input_56 (fun _ c19 => ?_)
        refine sr_iconst d_S_input_57 ?_
        refine sr_icmp_ne 78 c19 (by decide) d_S_input_58 (by decide) (fun _ => ?_) (fun _ => ?_)
        · exact sr_lv [0, 1, 2] rfl (x_S_input_b78 hno γ a0 a1 ha0 ha1)
        · refine sr_iload_n 2 d_S_input_61 rfl ?_
          refine sr_if_eq 78 ha1 d_S_input_62 (by decide) (fun _ => ?_) (fun _ => ?_)
          · exact sr_lv [0, 1, 2] rfl (x_S_input_b78 hno γ a0 a1 ha0 ha1)
          · refine sr_iload_n 2 d_S_input_65 rfl ?_
            refine sr_iconst d_S_input_66 ?_
            refine sr_icmp_eq 78 ha1 (by decide) d_S_input_67 (by decide) (fun _ => ?_) (fun _ => ?_)
            · exact sr_lv [0, 1, 2] rfl (x_S_input_b78 hno γ a0 a1 ha0 ha1)
            · exact sr_thr hno rfl rfl (by decide) oa_IAE cl_S_110 in_java_lang_IllegalArgumentException ⟨by decide, by decide⟩ d_S_input_70 d_S_input_73 d_S_input_74 d_S_input_77
      · exact sr_lv [0] rfl (x_S_input_b27 hno γ  )
def g_S_tick_b12 (γ : St) : Option (Nat × St) :=
  some (2, γ)
def g_S_tick (γ : St) (a0 : Int) : Option (Nat × St) :=
  if a0 < 1 then
  (g_S_tick_b12 γ )
  else
  (if a0 ≤ 1000 then
  (if 0 ≤ (γ 0 12) then
  (none)
  else
  (some (1, γ)))
  else
  (g_S_tick_b12 γ ))
set_option maxHeartbeats 4000000 in
theorem x_S_tick_b12 {Γ : Ctx} (hno : Γ.l.stackTraces = false) : ∀ (γ : St), SR Γ BS mt_S_tick (RmX 8 300) 0 0 KX 12 [(0, vR Γ 0)] [] γ (g_S_tick_b12 γ ) := by
  intro γ
  unfold g_S_tick_b12
  exact sr_thr hno rfl rfl (by decide) oa_IAE cl_S_110 in_java_lang_IllegalArgumentException ⟨by decide, by decide⟩ d_S_tick_12 d_S_tick_15 d_S_tick_16 d_S_tick_19
set_option maxHeartbeats 4000000 in
theorem x_S_tick {Γ : Ctx} (hno : Γ.l.stackTraces = false) (γ : St) (a0 : Int) (ha0 : i32 a0) : XC Γ BS y_S_tick mt_S_tick 8 300 [vR Γ 0, vI a0] γ (g_S_tick γ a0) := by
  refine xc_of (by decide) rfl (Nat.le_of_ble_eq_true rfl) ?_
  show SR Γ BS mt_S_tick (RmX 8 300) 0 0 KX 0 [(0, vR Γ 0), (1, vI a0)] [] γ _
  unfold g_S_tick
  refine sr_iload_n 1 d_S_tick_0 rfl ?_
  refine sr_iconst d_S_tick_1 ?_
  refine sr_icmp_lt 12 ha0 (by decide) d_S_tick_2 (by decide) (fun _ => ?_) (fun _ => ?_)
  · exact sr_lv [0] rfl (x_S_tick_b12 hno γ  )
  · refine sr_iload_n 1 d_S_tick_5 rfl ?_
    refine sr_sipush d_S_tick_6 (by decide) ?_
    refine sr_icmp_le 20 ha0 (by decide) d_S_tick_9 (by decide) (fun _ => ?_) (fun _ => ?_)
    · refine sr_aload_n 0 d_S_tick_20 rfl ?_
      refine sr_get kf_S 12 rfl rfl (by decide) fl_S_26 d_S_tick_21 (fun c1 => ?_)
      refine sr_if_ge 35 c1 d_S_tick_24 (by decide) (fun _ => ?_) (fun _ => ?_)
      · refine sr_aload_n 0 d_S_tick_35 rfl ?_
        refine sr_getR kf_S 7 rfl rfl (by decide) fl_S_96 d_S_tick_36 ?_
        refine sr_aload_n 0 d_S_tick_39 rfl ?_
        refine sr_getR kf_S 8 rfl rfl (by decide) fl_S_9 d_S_tick_40 ?_
        refine sr_iload_n 1 d_S_tick_43 rfl ?_
        exact sr_none
      · exact sr_thr hno rfl rfl (by decide) oa_ISE cl_S_103 in_java_lang_IllegalStateException ⟨by decide, by decide⟩ d_S_tick_27 d_S_tick_30 d_S_tick_31 d_S_tick_34
    · exact sr_lv [0] rfl (x_S_tick_b12 hno γ  )
def g_S_value (γ : St) (a0 : Int) : Option (Nat × St) :=
  bndR (h_S_isVariable γ a0) fun r1 =>
  if r1 ≠ 0 then
  (if (γ 0 13) ≠ 0 then
  (none)
  else
  (some (1, γ)))
  else
  (some (3, γ))
set_option maxHeartbeats 4000000 in
theorem x_S_value {Γ : Ctx} (hno : Γ.l.stackTraces = false) (γ : St) (a0 : Int) (ha0 : i32 a0) : XC Γ BS y_S_value mt_S_value 8 300 [vR Γ 0, vI a0] γ (g_S_value γ a0) := by
  refine xc_of (by decide) rfl (Nat.le_of_ble_eq_true rfl) ?_
  show SR Γ BS mt_S_value (RmX 8 300) 0 0 KX 0 [(0, vR Γ 0), (1, vI a0)] [] γ _
  unfold g_S_value
  refine sr_aload_n 0 d_S_value_0 rfl ?_
  refine sr_iload_n 1 d_S_value_1 rfl ?_
  refine sr_call vf_S_isVariable (t_S_isVariable γ a0 ha0) rfl ml_S_182 (As := [vI a0]) rfl rfl (Nat.le_of_ble_eq_true rfl) ⟨by decide, by decide⟩ d_S_value_2 (fun r1 hr1 => ?_)
  refine sr_if_ne 16 (z2i hr1) d_S_value_5 (by decide) (fun _ => ?_) (fun _ => ?_)
  · refine sr_aload_n 0 d_S_value_16 rfl ?_
    refine sr_get kf_S 13 rfl rfl (by decide) fl_S_113 d_S_value_17 (fun c2 => ?_)
    refine sr_if_ne 31 c2 d_S_value_20 (by decide) (fun _ => ?_) (fun _ => ?_)
    · refine sr_aload_n 0 d_S_value_31 rfl ?_
      refine sr_getR kf_S 7 rfl rfl (by decide) fl_S_96 d_S_value_32 ?_
      refine sr_getR kf_Pg 2 rfl rfl (by decide) fl_S_186 d_S_value_35 ?_
      refine sr_iload_n 1 d_S_value_38 rfl ?_
      exact sr_none
    · exact sr_thr hno rfl rfl (by decide) oa_ISE cl_S_103 in_java_lang_IllegalStateException ⟨by decide, by decide⟩ d_S_value_23 d_S_value_26 d_S_value_27 d_S_value_30
  · exact sr_thr hno rfl rfl (by decide) oa_NSE cl_S_170 in_java_util_NoSuchElementException ⟨by decide, by decide⟩ d_S_value_8 d_S_value_11 d_S_value_12 d_S_value_15
def g_S_about_b25 (γ : St) : Option (Nat × St) :=
  some (2, γ)
def g_S_about (γ : St) (a0 : Int) (a1 : Int) : Option (Nat × St) :=
  bndR (h_S_isVariable γ a0) fun r1 =>
  if r1 ≠ 0 then
  (if a1 < 0 then
  (g_S_about_b25 γ )
  else
  (if a1 ≤ 3 then
  (chk (inb (γ 0 12) 59) (chk (i32 ((γ 25 (γ 0 12)) + a0)) (chk (inb ((γ 25 (γ 0 12)) + a0) 5841) (ap (γ 34 ((γ 25 (γ 0 12)) + a0)) fun x10 =>
  if a1 = 0 then
  (none)
  else if a1 = 1 then
  (chk (inb (γ 0 12) 59) (chk (i32 ((γ 25 (γ 0 12)) + a0)) (chk (inb ((γ 25 (γ 0 12)) + a0) 5841) (none))))
  else if a1 = 2 then
  (if 0 ≤ x10 then
  (none)
  else
  (none))
  else (if 0 ≤ x10 then
  (none)
  else
  (none))))))
  else
  (g_S_about_b25 γ )))
  else
  (some (3, γ))
set_option maxHeartbeats 4000000 in
theorem x_S_about_b25 {Γ : Ctx} (hno : Γ.l.stackTraces = false) : ∀ (γ : St), SR Γ BS mt_S_about (RmX 8 300) 0 0 KX 25 [(0, vR Γ 0)] [] γ (g_S_about_b25 γ ) := by
  intro γ
  unfold g_S_about_b25
  exact sr_thr hno rfl rfl (by decide) oa_IAE cl_S_110 in_java_lang_IllegalArgumentException ⟨by decide, by decide⟩ d_S_about_25 d_S_about_28 d_S_about_29 d_S_about_32
set_option maxHeartbeats 4000000 in
theorem x_S_about {Γ : Ctx} (hno : Γ.l.stackTraces = false) (γ : St) (a0 : Int) (a1 : Int) (ha0 : i32 a0) (ha1 : i32 a1) : XC Γ BS y_S_about mt_S_about 8 300 [vR Γ 0, vI a0, vI a1] γ (g_S_about γ a0 a1) := by
  refine xc_of (by decide) rfl (Nat.le_of_ble_eq_true rfl) ?_
  show SR Γ BS mt_S_about (RmX 8 300) 0 0 KX 0 [(0, vR Γ 0), (1, vI a0), (2, vI a1)] [] γ _
  unfold g_S_about
  refine sr_aload_n 0 d_S_about_0 rfl ?_
  refine sr_iload_n 1 d_S_about_1 rfl ?_
  refine sr_call vf_S_isVariable (t_S_isVariable γ a0 ha0) rfl ml_S_182 (As := [vI a0]) rfl rfl (Nat.le_of_ble_eq_true rfl) ⟨by decide, by decide⟩ d_S_about_2 (fun r1 hr1 => ?_)
  refine sr_if_ne 16 (z2i hr1) d_S_about_5 (by decide) (fun _ => ?_) (fun _ => ?_)
  · refine sr_iload_n 2 d_S_about_16 rfl ?_
    refine sr_if_lt 25 ha1 d_S_about_17 (by decide) (fun _ => ?_) (fun _ => ?_)
    · exact sr_lv [0] rfl (x_S_about_b25 hno γ  )
    · refine sr_iload_n 2 d_S_about_20 rfl ?_
      refine sr_iconst d_S_about_21 ?_
      refine sr_icmp_le 33 ha1 (by decide) d_S_about_22 (by decide) (fun _ => ?_) (fun _ => ?_)
      · refine sr_aload_n 0 d_S_about_33 rfl ?_
        refine sr_getR kf_S 1 rfl rfl (by decide) fl_S_46 d_S_about_34 ?_
        refine sr_getR kf_Nd 11 rfl rfl (by decide) fl_S_190 d_S_about_37 ?_
        refine sr_aload_n 0 d_S_about_40 rfl ?_
        refine sr_getR kf_S 1 rfl rfl (by decide) fl_S_46 d_S_about_41 ?_
        refine sr_getR kf_Nd 1 rfl rfl (by decide) fl_S_176 d_S_about_44 ?_
        refine sr_aload_n 0 d_S_about_47 rfl ?_
        refine sr_get kf_S 12 rfl rfl (by decide) fl_S_26 d_S_about_48 (fun c6 => ?_)
        refine sr_iald rfl rfl (by decide) d_S_about_51 (fun _ c7 => ?_)
        refine sr_iload_n 1 d_S_about_52 rfl ?_
        refine sr_iadd d_S_about_53 ?_
        refine sr_chk (fun c8 => ?_)
        refine sr_iald rfl rfl (by decide) d_S_about_54 (fun _ c9 => ?_)
        refine sr_istore_n [(3, vI (γ 34 ((γ 25 (γ 0 12)) + a0))), (0, vR Γ 0), (1, vI a0), (2, vI a1)] d_S_about_55 (by decide) rfl ?_
        refine sr_nme (e := γ 34 ((γ 25 (γ 0 12)) + a0)) (fun x10 => [(3, vI x10), (0, vR Γ 0), (1, vI a0), (2, vI a1)]) c9 (fun x10 hx10 => ?_)
        refine sr_iload_n 3 d_S_about_56 rfl ?_
        refine sr_tc (off := 27) 0 84 ha1 d_S_about_57 (by decide) (by decide) (fun _ => ?_) (fun n13 => ?_)
        · refine sr_aload_n 1 d_S_about_84 rfl ?_
          refine sr_getR kf_S 1 rfl rfl (by decide) fl_S_46 d_S_about_85 ?_
          refine sr_aload_n 1 d_S_about_88 rfl ?_
          refine sr_get kf_S 12 rfl rfl (by decide) fl_S_26 d_S_about_89 (fun c12 => ?_)
          refine sr_iload_n 2 d_S_about_92 rfl ?_
          exact sr_none
        refine sr_tc (off := 40) 1 97 ha1 d_S_about_57 (by decide) (by decide) (fun _ => ?_) (fun n22 => ?_)
        · refine sr_aload_n 1 d_S_about_97 rfl ?_
          refine sr_getR kf_S 1 rfl rfl (by decide) fl_S_46 d_S_about_98 ?_
          refine sr_getR kf_Nd 10 rfl rfl (by decide) fl_S_173 d_S_about_101 ?_
          refine sr_aload_n 1 d_S_about_104 rfl ?_
          refine sr_getR kf_S 1 rfl rfl (by decide) fl_S_46 d_S_about_105 ?_
          refine sr_getR kf_Nd 1 rfl rfl (by decide) fl_S_176 d_S_about_108 ?_
          refine sr_aload_n 1 d_S_about_111 rfl ?_
          refine sr_get kf_S 12 rfl rfl (by decide) fl_S_26 d_S_about_112 (fun c18 => ?_)
          refine sr_iald rfl rfl (by decide) d_S_about_115 (fun _ c19 => ?_)
          refine sr_iload_n 2 d_S_about_116 rfl ?_
          refine sr_iadd d_S_about_117 ?_
          refine sr_chk (fun c20 => ?_)
          refine sr_iald rfl rfl (by decide) d_S_about_118 (fun _ c21 => ?_)
          exact sr_none
        refine sr_tc (off := 63) 2 120 ha1 d_S_about_57 (by decide) (by decide) (fun _ => ?_) (fun n23 => ?_)
        · refine sr_iload_n 0 d_S_about_120 rfl ?_
          refine sr_if_ge 128 hx10 d_S_about_121 (by decide) (fun _ => ?_) (fun _ => ?_)
          · refine sr_iload_n 0 d_S_about_128 rfl ?_
            refine sr_iconst d_S_about_129 ?_
            refine sr_ishr d_S_about_130 ?_
            exact sr_none
          · refine sr_iconst d_S_about_124 ?_
            refine sr_goto 131 d_S_about_125 (by decide) ?_
            exact sr_none
        refine sr_td 132 ha1 d_S_about_57 (by omega) (by decide) ?_
        refine sr_iload_n 0 d_S_about_132 rfl ?_
        refine sr_if_ge 140 hx10 d_S_about_133 (by decide) (fun _ => ?_) (fun _ => ?_)
        · refine sr_iload_n 0 d_S_about_140 rfl ?_
          refine sr_iconst d_S_about_141 ?_
          refine sr_iand d_S_about_142 ?_
          exact sr_none
        · refine sr_iconst d_S_about_136 ?_
          refine sr_goto 143 d_S_about_137 (by decide) ?_
          exact sr_none
      · exact sr_lv [0] rfl (x_S_about_b25 hno γ  )
  · exact sr_thr hno rfl rfl (by decide) oa_NSE cl_S_170 in_java_util_NoSuchElementException ⟨by decide, by decide⟩ d_S_about_8 d_S_about_11 d_S_about_12 d_S_about_15
def g_S_causes_b16 (γ : St) : Option (Nat × St) :=
  some (3, γ)
def g_S_causes (γ : St) (a0 : Int) (a1 : Int) : Option (Nat × St) :=
  bndR (h_S_isVariable γ a0) fun r1 =>
  if r1 = 0 then
  (g_S_causes_b16 γ )
  else
  (bndR (h_S_isVariable γ a1) fun r2 =>
  if r2 ≠ 0 then
  (none)
  else
  (g_S_causes_b16 γ ))
set_option maxHeartbeats 4000000 in
theorem x_S_causes_b16 {Γ : Ctx} (hno : Γ.l.stackTraces = false) : ∀ (γ : St), SR Γ BS mt_S_causes (RmX 8 300) 0 0 KX 16 [(0, vR Γ 0)] [] γ (g_S_causes_b16 γ ) := by
  intro γ
  unfold g_S_causes_b16
  exact sr_thr hno rfl rfl (by decide) oa_NSE cl_S_170 in_java_util_NoSuchElementException ⟨by decide, by decide⟩ d_S_causes_16 d_S_causes_19 d_S_causes_20 d_S_causes_23
set_option maxHeartbeats 4000000 in
theorem x_S_causes {Γ : Ctx} (hno : Γ.l.stackTraces = false) (γ : St) (a0 : Int) (a1 : Int) (ha0 : i32 a0) (ha1 : i32 a1) : XC Γ BS y_S_causes mt_S_causes 8 300 [vR Γ 0, vI a0, vI a1] γ (g_S_causes γ a0 a1) := by
  refine xc_of (by decide) rfl (Nat.le_of_ble_eq_true rfl) ?_
  show SR Γ BS mt_S_causes (RmX 8 300) 0 0 KX 0 [(0, vR Γ 0), (1, vI a0), (2, vI a1)] [] γ _
  unfold g_S_causes
  refine sr_aload_n 0 d_S_causes_0 rfl ?_
  refine sr_iload_n 1 d_S_causes_1 rfl ?_
  refine sr_call vf_S_isVariable (t_S_isVariable γ a0 ha0) rfl ml_S_182 (As := [vI a0]) rfl rfl (Nat.le_of_ble_eq_true rfl) ⟨by decide, by decide⟩ d_S_causes_2 (fun r1 hr1 => ?_)
  refine sr_if_eq 16 (z2i hr1) d_S_causes_5 (by decide) (fun _ => ?_) (fun _ => ?_)
  · exact sr_lv [0] rfl (x_S_causes_b16 hno γ  )
  · refine sr_aload_n 0 d_S_causes_8 rfl ?_
    refine sr_iload_n 2 d_S_causes_9 rfl ?_
    refine sr_call vf_S_isVariable (t_S_isVariable γ a1 ha1) rfl ml_S_182 (As := [vI a1]) rfl rfl (Nat.le_of_ble_eq_true rfl) ⟨by decide, by decide⟩ d_S_causes_10 (fun r2 hr2 => ?_)
    refine sr_if_ne 24 (z2i hr2) d_S_causes_13 (by decide) (fun _ => ?_) (fun _ => ?_)
    · refine sr_aload_n 0 d_S_causes_24 rfl ?_
      refine sr_getR kf_S 6 rfl rfl (by decide) fl_S_87 d_S_causes_25 ?_
      refine sr_iload_n 1 d_S_causes_28 rfl ?_
      refine sr_iload_n 2 d_S_causes_29 rfl ?_
      exact sr_none
    · exact sr_lv [0] rfl (x_S_causes_b16 hno γ  )
def g_S_restart (γ : St) : Option (Nat × St) :=
  if 0 ≤ (γ 0 12) then
  (ap (γ 0 13) fun x3 =>
  none)
  else
  (some (1, γ))
set_option maxHeartbeats 4000000 in
theorem x_S_restart {Γ : Ctx} (hno : Γ.l.stackTraces = false) (γ : St) : XC Γ BS y_S_restart mt_S_restart 8 300 [vR Γ 0] γ (g_S_restart γ) := by
  refine xc_of (by decide) rfl (Nat.le_of_ble_eq_true rfl) ?_
  show SR Γ BS mt_S_restart (RmX 8 300) 0 0 KX 0 [(0, vR Γ 0)] [] γ _
  unfold g_S_restart
  refine sr_aload_n 0 d_S_restart_0 rfl ?_
  refine sr_get kf_S 12 rfl rfl (by decide) fl_S_26 d_S_restart_1 (fun c1 => ?_)
  refine sr_if_ge 15 c1 d_S_restart_4 (by decide) (fun _ => ?_) (fun _ => ?_)
  · refine sr_aload_n 0 d_S_restart_15 rfl ?_
    refine sr_get kf_S 13 rfl rfl (by decide) fl_S_113 d_S_restart_16 (fun c2 => ?_)
    refine sr_istore_n [(1, vI (γ 0 13)), (0, vR Γ 0)] d_S_restart_19 (by decide) rfl ?_
    refine sr_nme (e := γ 0 13) (fun x3 => [(1, vI x3), (0, vR Γ 0)]) c2 (fun x3 hx3 => ?_)
    refine sr_aload_n 1 d_S_restart_20 rfl ?_
    refine sr_getR kf_S 7 rfl rfl (by decide) fl_S_96 d_S_restart_21 ?_
    exact sr_none
  · exact sr_thr hno rfl rfl (by decide) oa_ISE cl_S_103 in_java_lang_IllegalStateException ⟨by decide, by decide⟩ d_S_restart_7 d_S_restart_10 d_S_restart_11 d_S_restart_14
def g_S_keep_b14 (γ : St) : Option (Nat × St) :=
  some (1, γ)
def g_S_keep (γ : St) : Option (Nat × St) :=
  if (γ 0 12) < 0 then
  (g_S_keep_b14 γ )
  else
  (if (γ 0 13) ≠ 0 then
  (none)
  else
  (g_S_keep_b14 γ ))
set_option maxHeartbeats 4000000 in
theorem x_S_keep_b14 {Γ : Ctx} (hno : Γ.l.stackTraces = false) : ∀ (γ : St), SR Γ BS mt_S_keep (RmX 8 300) 0 0 KX 14 [(0, vR Γ 0)] [] γ (g_S_keep_b14 γ ) := by
  intro γ
  unfold g_S_keep_b14
  exact sr_thr hno rfl rfl (by decide) oa_ISE cl_S_103 in_java_lang_IllegalStateException ⟨by decide, by decide⟩ d_S_keep_14 d_S_keep_17 d_S_keep_18 d_S_keep_21
set_option maxHeartbeats 4000000 in
theorem x_S_keep {Γ : Ctx} (hno : Γ.l.stackTraces = false) (γ : St) : XC Γ BS y_S_keep mt_S_keep 8 300 [vR Γ 0] γ (g_S_keep γ) := by
  refine xc_of (by decide) rfl (Nat.le_of_ble_eq_true rfl) ?_
  show SR Γ BS mt_S_keep (RmX 8 300) 0 0 KX 0 [(0, vR Γ 0)] [] γ _
  unfold g_S_keep
  refine sr_aload_n 0 d_S_keep_0 rfl ?_
  refine sr_get kf_S 12 rfl rfl (by decide) fl_S_26 d_S_keep_1 (fun c1 => ?_)
  refine sr_if_lt 14 c1 d_S_keep_4 (by decide) (fun _ => ?_) (fun _ => ?_)
  · exact sr_lv [0] rfl (x_S_keep_b14 hno γ  )
  · refine sr_aload_n 0 d_S_keep_7 rfl ?_
    refine sr_get kf_S 13 rfl rfl (by decide) fl_S_113 d_S_keep_8 (fun c2 => ?_)
    refine sr_if_ne 22 c2 d_S_keep_11 (by decide) (fun _ => ?_) (fun _ => ?_)
    · refine sr_aload_n 0 d_S_keep_22 rfl ?_
      refine sr_getR kf_S 7 rfl rfl (by decide) fl_S_96 d_S_keep_23 ?_
      exact sr_none
    · exact sr_lv [0] rfl (x_S_keep_b14 hno γ  )
def g_S_back (γ : St) : Option (Nat × St) :=
  if (γ 0 14) ≠ 0 then
  (ap (γ 0 13) fun x3 =>
  none)
  else
  (some (1, γ))
set_option maxHeartbeats 4000000 in
theorem x_S_back {Γ : Ctx} (hno : Γ.l.stackTraces = false) (γ : St) : XC Γ BS y_S_back mt_S_back 8 300 [vR Γ 0] γ (g_S_back γ) := by
  refine xc_of (by decide) rfl (Nat.le_of_ble_eq_true rfl) ?_
  show SR Γ BS mt_S_back (RmX 8 300) 0 0 KX 0 [(0, vR Γ 0)] [] γ _
  unfold g_S_back
  refine sr_aload_n 0 d_S_back_0 rfl ?_
  refine sr_get kf_S 14 rfl rfl (by decide) fl_S_116 d_S_back_1 (fun c1 => ?_)
  refine sr_if_ne 15 c1 d_S_back_4 (by decide) (fun _ => ?_) (fun _ => ?_)
  · refine sr_aload_n 0 d_S_back_15 rfl ?_
    refine sr_get kf_S 13 rfl rfl (by decide) fl_S_113 d_S_back_16 (fun c2 => ?_)
    refine sr_istore_n [(1, vI (γ 0 13)), (0, vR Γ 0)] d_S_back_19 (by decide) rfl ?_
    refine sr_nme (e := γ 0 13) (fun x3 => [(1, vI x3), (0, vR Γ 0)]) c2 (fun x3 hx3 => ?_)
    refine sr_aload_n 1 d_S_back_20 rfl ?_
    refine sr_getR kf_S 7 rfl rfl (by decide) fl_S_96 d_S_back_21 ?_
    exact sr_none
  · exact sr_thr hno rfl rfl (by decide) oa_ISE cl_S_103 in_java_lang_IllegalStateException ⟨by decide, by decide⟩ d_S_back_7 d_S_back_10 d_S_back_11 d_S_back_14
