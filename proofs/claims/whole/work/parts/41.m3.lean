/-! the reference as functions: names, groups, nodes of a tree -/
theorem d_M_must_0 : decode b_M_must 0 = .ok (.aload_n 0, 1) := by decide +kernel
theorem d_M_must_1 : decode b_M_must 1 = .ok (.invokevirtual 292, 3) := by decide +kernel
theorem d_M_must_4 : decode b_M_must 4 = .ok (.iload_n 1, 1) := by decide +kernel
theorem d_M_must_5 : decode b_M_must 5 = .ok (.if_icmp .eq 8, 3) := by decide +kernel
theorem d_M_must_8 : decode b_M_must 8 = .ok (.aload_n 0, 1) := by decide +kernel
theorem d_M_must_9 : decode b_M_must 9 = .ok (.invokevirtual 301, 3) := by decide +kernel
theorem d_M_must_12 : decode b_M_must 12 = .ok (.athrow, 1) := by decide +kernel
theorem d_M_must_13 : decode b_M_must 13 = .ok (.aload_n 0, 1) := by decide +kernel
theorem d_M_must_14 : decode b_M_must 14 = .ok (.invokevirtual 305, 3) := by decide +kernel
theorem d_M_must_17 : decode b_M_must 17 = .ok (.return_, 1) := by decide +kernel
abbrev mt_M_must : MT := (R_M, b_M_must, 2, none)
theorem vf_M_must : VF y_M_must mt_M_must 12 1 := ⟨im_M_must, se_M_must, in_M, co_M_must, by decide +kernel, _, _, rfl⟩
def f_M_must (γ : St) (a0 : Int) : Option Res :=
  bndN (f_M_peek γ) fun r1 γ2 =>
  if r1 = a0 then
  (bndN (f_M_take γ2) fun _ γ4 =>
  some (.inr 0, γ4))
  else
  (bndN (f_M_cant γ2) fun p5 γ6 => some (.inl (1, p5), γ6))
set_option maxHeartbeats 4000000 in
theorem c_M_must {Γ : Ctx} (γ : St) (a0 : Int) (ha0 : i32 a0) : TC Γ BM y_M_must mt_M_must 13 440 [vR Γ 0, vI a0] γ (f_M_must γ a0) := by
  refine tc_of (by decide) rfl (Nat.le_of_ble_eq_true rfl) ?_
  show SB Γ BM mt_M_must (RmT 13 440) 0 0 (KT Γ BM mt_M_must.2.2.2) 0 [(0, vR Γ 0), (1, vI a0)] [] γ _
  unfold f_M_must
  refine sb_aload_n 0 d_M_must_0 rfl ?_
  refine sb_cVi vf_M_peek (c_M_peek γ  ) rfl ml_M_292 (As := []) rfl rfl (Nat.le_of_ble_eq_true rfl) ⟨by decide, by decide⟩ d_M_must_1 (fun r1 γ2 hr1 => ?_)
  refine sb_iload_n 1 d_M_must_4 rfl ?_
  refine sb_icmp_eq 13 hr1 ha0 d_M_must_5 (by decide) (fun _ => ?_) (fun _ => ?_)
  · refine sb_aload_n 0 d_M_must_13 rfl ?_
    refine sb_cVv vf_M_take (c_M_take γ2  ) rfl ml_M_305 (As := []) rfl rfl (Nat.le_of_ble_eq_true rfl) ⟨by decide, by decide⟩ d_M_must_14 (fun _ γ4 => ?_)
    exact st_v rfl d_M_must_17
  · refine sb_aload_n 0 d_M_must_8 rfl ?_
    exact sb_cant ml_M_301 ⟨by decide, by decide⟩ d_M_must_9 d_M_must_12
theorem d_M_mustBe_0 : decode b_M_mustBe 0 = .ok (.aload_n 0, 1) := by decide +kernel
theorem d_M_mustBe_1 : decode b_M_mustBe 1 = .ok (.aload_n 1, 1) := by decide +kernel
theorem d_M_mustBe_2 : decode b_M_mustBe 2 = .ok (.invokevirtual 317, 3) := by decide +kernel
theorem d_M_mustBe_5 : decode b_M_mustBe 5 = .ok (.ifCond .ne 8, 3) := by decide +kernel
theorem d_M_mustBe_8 : decode b_M_mustBe 8 = .ok (.aload_n 0, 1) := by decide +kernel
theorem d_M_mustBe_9 : decode b_M_mustBe 9 = .ok (.invokevirtual 301, 3) := by decide +kernel
theorem d_M_mustBe_12 : decode b_M_mustBe 12 = .ok (.athrow, 1) := by decide +kernel
theorem d_M_mustBe_13 : decode b_M_mustBe 13 = .ok (.aload_n 0, 1) := by decide +kernel
theorem d_M_mustBe_14 : decode b_M_mustBe 14 = .ok (.invokevirtual 305, 3) := by decide +kernel
theorem d_M_mustBe_17 : decode b_M_mustBe 17 = .ok (.return_, 1) := by decide +kernel
abbrev mt_M_mustBe : MT := (R_M, b_M_mustBe, 2, none)
theorem vf_M_mustBe : VF y_M_mustBe mt_M_mustBe 12 1 := ⟨im_M_mustBe, se_M_mustBe, in_M, co_M_mustBe, by decide +kernel, _, _, rfl⟩
def f_M_mustBe (γ : St) (w0 : Nat) : Option Res :=
  bndN (f_M_is γ w0) fun r1 γ2 =>
  if r1 ≠ 0 then
  (bndN (f_M_take γ2) fun _ γ4 =>
  some (.inr 0, γ4))
  else
  (bndN (f_M_cant γ2) fun p5 γ6 => some (.inl (1, p5), γ6))
set_option maxHeartbeats 4000000 in
theorem c_M_mustBe {Γ : Ctx} (γ : St) (w0 : Nat) (hw0 : w0 < 22) : TC Γ BM y_M_mustBe mt_M_mustBe 13 440 [vR Γ 0, .ref (Γ.σ w0).1] γ (f_M_mustBe γ w0) := by
  refine tc_of (by decide) rfl (Nat.le_of_ble_eq_true rfl) ?_
  show SB Γ BM mt_M_mustBe (RmT 13 440) 0 0 (KT Γ BM mt_M_mustBe.2.2.2) 0 [(0, vR Γ 0), (1, .ref (Γ.σ w0).1)] [] γ _
  unfold f_M_mustBe
  refine sb_aload_n 0 d_M_mustBe_0 rfl ?_
  refine sb_aload_n 1 d_M_mustBe_1 rfl ?_
  refine sb_cVz vf_M_is (c_M_is γ w0 hw0) rfl ml_M_317 (As := [.ref (Γ.σ w0).1]) rfl rfl (Nat.le_of_ble_eq_true rfl) ⟨by decide, by decide⟩ d_M_mustBe_2 (fun r1 γ2 hr1 => ?_)
  refine sb_if_ne 13 (z2i hr1) d_M_mustBe_5 (by decide) (fun _ => ?_) (fun _ => ?_)
  · refine sb_aload_n 0 d_M_mustBe_13 rfl ?_
    refine sb_cVv vf_M_take (c_M_take γ2  ) rfl ml_M_305 (As := []) rfl rfl (Nat.le_of_ble_eq_true rfl) ⟨by decide, by decide⟩ d_M_mustBe_14 (fun _ γ4 => ?_)
    exact st_v rfl d_M_mustBe_17
  · refine sb_aload_n 0 d_M_mustBe_8 rfl ?_
    exact sb_cant ml_M_301 ⟨by decide, by decide⟩ d_M_mustBe_9 d_M_mustBe_12
theorem d_M_reserved_0 : decode b_M_reserved 0 = .ok (.aload_n 0, 1) := by decide +kernel
theorem d_M_reserved_1 : decode b_M_reserved 1 = .ok (.ldc_w 321, 3) := by decide +kernel
theorem d_M_reserved_4 : decode b_M_reserved 4 = .ok (.invokevirtual 317, 3) := by decide +kernel
theorem d_M_reserved_7 : decode b_M_reserved 7 = .ok (.ifCond .ne 213, 3) := by decide +kernel
theorem d_M_reserved_10 : decode b_M_reserved 10 = .ok (.aload_n 0, 1) := by decide +kernel
theorem d_M_reserved_11 : decode b_M_reserved 11 = .ok (.ldc_w 323, 3) := by decide +kernel
theorem d_M_reserved_14 : decode b_M_reserved 14 = .ok (.invokevirtual 317, 3) := by decide +kernel
theorem d_M_reserved_17 : decode b_M_reserved 17 = .ok (.ifCond .ne 203, 3) := by decide +kernel
theorem d_M_reserved_20 : decode b_M_reserved 20 = .ok (.aload_n 0, 1) := by decide +kernel
theorem d_M_reserved_21 : decode b_M_reserved 21 = .ok (.ldc_w 325, 3) := by decide +kernel
theorem d_M_reserved_24 : decode b_M_reserved 24 = .ok (.invokevirtual 317, 3) := by decide +kernel
theorem d_M_reserved_27 : decode b_M_reserved 27 = .ok (.ifCond .ne 193, 3) := by decide +kernel
theorem d_M_reserved_30 : decode b_M_reserved 30 = .ok (.aload_n 0, 1) := by decide +kernel
theorem d_M_reserved_31 : decode b_M_reserved 31 = .ok (.ldc_w 327, 3) := by decide +kernel
theorem d_M_reserved_34 : decode b_M_reserved 34 = .ok (.invokevirtual 317, 3) := by decide +kernel
theorem d_M_reserved_37 : decode b_M_reserved 37 = .ok (.ifCond .ne 183, 3) := by decide +kernel
theorem d_M_reserved_40 : decode b_M_reserved 40 = .ok (.aload_n 0, 1) := by decide +kernel
theorem d_M_reserved_41 : decode b_M_reserved 41 = .ok (.ldc_w 329, 3) := by decide +kernel
theorem d_M_reserved_44 : decode b_M_reserved 44 = .ok (.invokevirtual 317, 3) := by decide +kernel
theorem d_M_reserved_47 : decode b_M_reserved 47 = .ok (.ifCond .ne 173, 3) := by decide +kernel
theorem d_M_reserved_50 : decode b_M_reserved 50 = .ok (.aload_n 0, 1) := by decide +kernel
theorem d_M_reserved_51 : decode b_M_reserved 51 = .ok (.ldc_w 331, 3) := by decide +kernel
theorem d_M_reserved_54 : decode b_M_reserved 54 = .ok (.invokevirtual 317, 3) := by decide +kernel
theorem d_M_reserved_57 : decode b_M_reserved 57 = .ok (.ifCond .ne 163, 3) := by decide +kernel
theorem d_M_reserved_60 : decode b_M_reserved 60 = .ok (.aload_n 0, 1) := by decide +kernel
theorem d_M_reserved_61 : decode b_M_reserved 61 = .ok (.ldc_w 333, 3) := by decide +kernel
theorem d_M_reserved_64 : decode b_M_reserved 64 = .ok (.invokevirtual 317, 3) := by decide +kernel
theorem d_M_reserved_67 : decode b_M_reserved 67 = .ok (.ifCond .ne 153, 3) := by decide +kernel
theorem d_M_reserved_70 : decode b_M_reserved 70 = .ok (.aload_n 0, 1) := by decide +kernel
theorem d_M_reserved_71 : decode b_M_reserved 71 = .ok (.ldc_w 335, 3) := by decide +kernel
theorem d_M_reserved_74 : decode b_M_reserved 74 = .ok (.invokevirtual 317, 3) := by decide +kernel
theorem d_M_reserved_77 : decode b_M_reserved 77 = .ok (.ifCond .ne 143, 3) := by decide +kernel
theorem d_M_reserved_80 : decode b_M_reserved 80 = .ok (.aload_n 0, 1) := by decide +kernel
theorem d_M_reserved_81 : decode b_M_reserved 81 = .ok (.ldc_w 337, 3) := by decide +kernel
theorem d_M_reserved_84 : decode b_M_reserved 84 = .ok (.invokevirtual 317, 3) := by decide +kernel
theorem d_M_reserved_87 : decode b_M_reserved 87 = .ok (.ifCond .ne 133, 3) := by decide +kernel
theorem d_M_reserved_90 : decode b_M_reserved 90 = .ok (.aload_n 0, 1) := by decide +kernel
theorem d_M_reserved_91 : decode b_M_reserved 91 = .ok (.ldc_w 339, 3) := by decide +kernel
theorem d_M_reserved_94 : decode b_M_reserved 94 = .ok (.invokevirtual 317, 3) := by decide +kernel
theorem d_M_reserved_97 : decode b_M_reserved 97 = .ok (.ifCond .ne 123, 3) := by decide +kernel
theorem d_M_reserved_100 : decode b_M_reserved 100 = .ok (.aload_n 0, 1) := by decide +kernel
theorem d_M_reserved_101 : decode b_M_reserved 101 = .ok (.ldc_w 341, 3) := by decide +kernel
theorem d_M_reserved_104 : decode b_M_reserved 104 = .ok (.invokevirtual 317, 3) := by decide +kernel
theorem d_M_reserved_107 : decode b_M_reserved 107 = .ok (.ifCond .ne 113, 3) := by decide +kernel
theorem d_M_reserved_110 : decode b_M_reserved 110 = .ok (.aload_n 0, 1) := by decide +kernel
theorem d_M_reserved_111 : decode b_M_reserved 111 = .ok (.ldc_w 343, 3) := by decide +kernel
theorem d_M_reserved_114 : decode b_M_reserved 114 = .ok (.invokevirtual 317, 3) := by decide +kernel
theorem d_M_reserved_117 : decode b_M_reserved 117 = .ok (.ifCond .ne 103, 3) := by decide +kernel
theorem d_M_reserved_120 : decode b_M_reserved 120 = .ok (.aload_n 0, 1) := by decide +kernel
theorem d_M_reserved_121 : decode b_M_reserved 121 = .ok (.ldc_w 345, 3) := by decide +kernel
theorem d_M_reserved_124 : decode b_M_reserved 124 = .ok (.invokevirtual 317, 3) := by decide +kernel
theorem d_M_reserved_127 : decode b_M_reserved 127 = .ok (.ifCond .ne 93, 3) := by decide +kernel
theorem d_M_reserved_130 : decode b_M_reserved 130 = .ok (.aload_n 0, 1) := by decide +kernel
theorem d_M_reserved_131 : decode b_M_reserved 131 = .ok (.ldc_w 347, 3) := by decide +kernel
theorem d_M_reserved_134 : decode b_M_reserved 134 = .ok (.invokevirtual 317, 3) := by decide +kernel
theorem d_M_reserved_137 : decode b_M_reserved 137 = .ok (.ifCond .ne 83, 3) := by decide +kernel
theorem d_M_reserved_140 : decode b_M_reserved 140 = .ok (.aload_n 0, 1) := by decide +kernel
theorem d_M_reserved_141 : decode b_M_reserved 141 = .ok (.ldc_w 349, 3) := by decide +kernel
theorem d_M_reserved_144 : decode b_M_reserved 144 = .ok (.invokevirtual 317, 3) := by decide +kernel
theorem d_M_reserved_147 : decode b_M_reserved 147 = .ok (.ifCond .ne 73, 3) := by decide +kernel
theorem d_M_reserved_150 : decode b_M_reserved 150 = .ok (.aload_n 0, 1) := by decide +kernel
theorem d_M_reserved_151 : decode b_M_reserved 151 = .ok (.ldc_w 351, 3) := by decide +kernel
theorem d_M_reserved_154 : decode b_M_reserved 154 = .ok (.invokevirtual 317, 3) := by decide +kernel
theorem d_M_reserved_157 : decode b_M_reserved 157 = .ok (.ifCond .ne 63, 3) := by decide +kernel
theorem d_M_reserved_160 : decode b_M_reserved 160 = .ok (.aload_n 0, 1) := by decide +kernel
theorem d_M_reserved_161 : decode b_M_reserved 161 = .ok (.ldc_w 353, 3) := by decide +kernel
theorem d_M_reserved_164 : decode b_M_reserved 164 = .ok (.invokevirtual 317, 3) := by decide +kernel
theorem d_M_reserved_167 : decode b_M_reserved 167 = .ok (.ifCond .ne 53, 3) := by decide +kernel
theorem d_M_reserved_170 : decode b_M_reserved 170 = .ok (.aload_n 0, 1) := by decide +kernel
theorem d_M_reserved_171 : decode b_M_reserved 171 = .ok (.ldc_w 355, 3) := by decide +kernel
theorem d_M_reserved_174 : decode b_M_reserved 174 = .ok (.invokevirtual 317, 3) := by decide +kernel
theorem d_M_reserved_177 : decode b_M_reserved 177 = .ok (.ifCond .ne 43, 3) := by decide +kernel
theorem d_M_reserved_180 : decode b_M_reserved 180 = .ok (.aload_n 0, 1) := by decide +kernel
theorem d_M_reserved_181 : decode b_M_reserved 181 = .ok (.ldc_w 357, 3) := by decide +kernel
theorem d_M_reserved_184 : decode b_M_reserved 184 = .ok (.invokevirtual 317, 3) := by decide +kernel
theorem d_M_reserved_187 : decode b_M_reserved 187 = .ok (.ifCond .ne 33, 3) := by decide +kernel
theorem d_M_reserved_190 : decode b_M_reserved 190 = .ok (.aload_n 0, 1) := by decide +kernel
theorem d_M_reserved_191 : decode b_M_reserved 191 = .ok (.ldc_w 359, 3) := by decide +kernel
theorem d_M_reserved_194 : decode b_M_reserved 194 = .ok (.invokevirtual 317, 3) := by decide +kernel
theorem d_M_reserved_197 : decode b_M_reserved 197 = .ok (.ifCond .ne 23, 3) := by decide +kernel
theorem d_M_reserved_200 : decode b_M_reserved 200 = .ok (.aload_n 0, 1) := by decide +kernel
theorem d_M_reserved_201 : decode b_M_reserved 201 = .ok (.ldc_w 361, 3) := by decide +kernel
theorem d_M_reserved_204 : decode b_M_reserved 204 = .ok (.invokevirtual 317, 3) := by decide +kernel
theorem d_M_reserved_207 : decode b_M_reserved 207 = .ok (.ifCond .ne 13, 3) := by decide +kernel
theorem d_M_reserved_210 : decode b_M_reserved 210 = .ok (.aload_n 0, 1) := by decide +kernel
theorem d_M_reserved_211 : decode b_M_reserved 211 = .ok (.ldc_w 363, 3) := by decide +kernel
theorem d_M_reserved_214 : decode b_M_reserved 214 = .ok (.invokevirtual 317, 3) := by decide +kernel
theorem d_M_reserved_217 : decode b_M_reserved 217 = .ok (.ifCond .eq 7, 3) := by decide +kernel
theorem d_M_reserved_220 : decode b_M_reserved 220 = .ok (.iconst 1, 1) := by decide +kernel
theorem d_M_reserved_221 : decode b_M_reserved 221 = .ok (.goto 4, 3) := by decide +kernel
theorem d_M_reserved_224 : decode b_M_reserved 224 = .ok (.iconst 0, 1) := by decide +kernel
theorem d_M_reserved_225 : decode b_M_reserved 225 = .ok (.ireturn, 1) := by decide +kernel
abbrev mt_M_reserved : MT := (R_M, b_M_reserved, 1, some .boolean)
theorem vf_M_reserved : VF y_M_reserved mt_M_reserved 12 0 := ⟨im_M_reserved, se_M_reserved, in_M, co_M_reserved, by decide +kernel, _, _, rfl⟩
def f_M_reserved (γ : St) : Option (Int × St) :=
  bndN (f_M_is γ 0) fun r1 γ2 =>
  if r1 ≠ 0 then
  (some (1, γ2))
  else
  (bndN (f_M_is γ2 1) fun r3 γ4 =>
  if r3 ≠ 0 then
  (some (1, γ4))
  else
  (bndN (f_M_is γ4 2) fun r5 γ6 =>
  if r5 ≠ 0 then
  (some (1, γ6))
  else
  (bndN (f_M_is γ6 3) fun r7 γ8 =>
  if r7 ≠ 0 then
  (some (1, γ8))
  else
  (bndN (f_M_is γ8 4) fun r9 γ10 =>
  if r9 ≠ 0 then
  (some (1, γ10))
  else
  (bndN (f_M_is γ10 5) fun r11 γ12 =>
  if r11 ≠ 0 then
  (some (1, γ12))
  else
  (bndN (f_M_is γ12 6) fun r13 γ14 =>
  if r13 ≠ 0 then
  (some (1, γ14))
  else
  (bndN (f_M_is γ14 7) fun r15 γ16 =>
  if r15 ≠ 0 then
  (some (1, γ16))
  else
  (bndN (f_M_is γ16 8) fun r17 γ18 =>
  if r17 ≠ 0 then
  (some (1, γ18))
  else
  (bndN (f_M_is γ18 9) fun r19 γ20 =>
  if r19 ≠ 0 then
  (some (1, γ20))
  else
  (bndN (f_M_is γ20 10) fun r21 γ22 =>
  if r21 ≠ 0 then
  (some (1, γ22))
  else
  (bndN (f_M_is γ22 11) fun r23 γ24 =>
  if r23 ≠ 0 then
  (some (1, γ24))
  else
  (bndN (f_M_is γ24 12) fun r25 γ26 =>
  if r25 ≠ 0 then
  (some (1, γ26))
  else
  (bndN (f_M_is γ26 13) fun r27 γ28 =>
  if r27 ≠ 0 then
  (some (1, γ28))
  else
  (bndN (f_M_is γ28 14) fun r29 γ30 =>
  if r29 ≠ 0 then
  (some (1, γ30))
  else
  (bndN (f_M_is γ30 15) fun r31 γ32 =>
  if r31 ≠ 0 then
  (some (1, γ32))
  else
  (bndN (f_M_is γ32 16) fun r33 γ34 =>
  if r33 ≠ 0 then
  (some (1, γ34))
  else
  (bndN (f_M_is γ34 17) fun r35 γ36 =>
  if r35 ≠ 0 then
  (some (1, γ36))
  else
  (bndN (f_M_is γ36 18) fun r37 γ38 =>
  if r37 ≠ 0 then
  (some (1, γ38))
  else
  (bndN (f_M_is γ38 19) fun r39 γ40 =>
  if r39 ≠ 0 then
  (some (1, γ40))
  else
  (bndN (f_M_is γ40 20) fun r41 γ42 =>
  if r41 ≠ 0 then
  (some (1, γ42))
  else
  (bndN (f_M_is γ42 21) fun r43 γ44 =>
  if r43 = 0 then
  (some (0, γ44))
  else
  (some (1, γ44)))))))))))))))))))))))
set_option maxHeartbeats 4000000 in
theorem c_M_reserved {Γ : Ctx} (γ : St) : NC Γ BM y_M_reserved mt_M_reserved 10 325 [vR Γ 0] γ (f_M_reserved γ) := by
  refine nc_of (by decide) rfl (Nat.le_of_ble_eq_true rfl) ?_
  show SB Γ BM mt_M_reserved (RmN 10 325) 0 0 (KN Γ BM mt_M_reserved.2.2.2) 0 [(0, vR Γ 0)] [] γ _
  unfold f_M_reserved
  refine sb_aload_n 0 d_M_reserved_0 rfl ?_
  refine sb_ldcS (k := 0) (by decide) rfl d_M_reserved_1 ?_
  refine sb_cVz vf_M_is (c_M_is γ 0 (by decide)) rfl ml_M_317 (As := [.ref (Γ.σ 0).1]) rfl rfl (Nat.le_of_ble_eq_true rfl) ⟨by decide, by decide⟩ d_M_reserved_4 (fun r1 γ2 hr1 => ?_)
  refine sb_if_ne 220 (z2i hr1) d_M_reserved_7 (by decide) (fun _ => ?_) (fun _ => ?_)
  · refine sb_iconst d_M_reserved_220 ?_
    refine sb_goto 225 d_M_reserved_221 (by decide) ?_
    exact sn_z rfl (by decide) d_M_reserved_225
  · refine sb_aload_n 0 d_M_reserved_10 rfl ?_
    refine sb_ldcS (k := 1) (by decide) rfl d_M_reserved_11 ?_
    refine sb_cVz vf_M_is (c_M_is γ2 1 (by decide)) rfl ml_M_317 (As := [.ref (Γ.σ 1).1]) rfl rfl (Nat.le_of_ble_eq_true rfl) ⟨by decide, by decide⟩ d_M_reserved_14 (fun r3 γ4 hr3 => ?_)
    refine sb_if_ne 220 (z2i hr3) d_M_reserved_17 (by decide) (fun _ => ?_) (fun _ => ?_)
    · refine sb_iconst d_M_reserved_220 ?_
      refine sb_goto 225 d_M_reserved_221 (by decide) ?_
      exact sn_z rfl (by decide) d_M_reserved_225
    · refine sb_aload_n 0 d_M_reserved_20 rfl ?_
      refine sb_ldcS (k := 2) (by decide) rfl d_M_reserved_21 ?_
      refine sb_cVz vf_M_is (c_M_is γ4 2 (by decide)) rfl ml_M_317 (As := [.ref (Γ.σ 2).1]) rfl rfl (Nat.le_of_ble_eq_true rfl) ⟨by decide, by decide⟩ d_M_reserved_24 (fun r5 γ6 hr5 => ?_)
      refine sb_if_ne 220 (z2i hr5) d_M_reserved_27 (by decide) (fun _ => ?_) (fun _ => ?_)
      · refine sb_iconst d_M_reserved_220 ?_
        refine sb_goto 225 d_M_reserved_221 (by decide) ?_
        exact sn_z rfl (by decide) d_M_reserved_225
      · refine sb_aload_n 0 d_M_reserved_30 rfl ?_
        refine sb_ldcS (k := 3) (by decide) rfl d_M_reserved_31 ?_
        refine sb_cVz vf_M_is (c_M_is γ6 3 (by decide)) rfl ml_M_317 (As := [.ref (Γ.σ 3).1]) rfl rfl (Nat.le_of_ble_eq_true rfl) ⟨by decide, by decide⟩ d_M_reserved_34 (fun r7 γ8 hr7 => ?_)
        refine sb_if_ne 220 (z2i hr7) d_M_reserved_37 (by decide) (fun _ => ?_) (fun _ => ?_)
        · refine sb_iconst d_M_reserved_220 ?_
          refine sb_goto 225 d_M_reserved_221 (by decide) ?_
          exact sn_z rfl (by decide) d_M_reserved_225
        · refine sb_aload_n 0 d_M_reserved_40 rfl ?_
          refine sb_ldcS (k := 4) (by decide) rfl d_M_reserved_41 ?_
          refine sb_cVz vf_M_is (c_M_is γ8 4 (by decide)) rfl ml_M_317 (As := [.ref (Γ.σ 4).1]) rfl rfl (Nat.le_of_ble_eq_true rfl) ⟨by decide, by decide⟩ d_M_reserved_44 (fun r9 γ10 hr9 => ?_)
          refine sb_if_ne 220 (z2i hr9) d_M_reserved_47 (by decide) (fun _ => ?_) (fun _ => ?_)
          · refine sb_iconst d_M_reserved_220 ?_
            refine sb_goto 225 d_M_reserved_221 (by decide) ?_
            exact sn_z rfl (by decide) d_M_reserved_225
          · refine sb_aload_n 0 d_M_reserved_50 rfl ?_
            refine sb_ldcS (k := 5) (by decide) rfl d_M_reserved_51 ?_
            refine sb_cVz vf_M_is (c_M_is γ10 5 (by decide)) rfl ml_M_317 (As := [.ref (Γ.σ 5).1]) rfl rfl (Nat.le_of_ble_eq_true rfl) ⟨by decide, by decide⟩ d_M_reserved_54 (fun r11 γ12 hr11 => ?_)
            refine sb_if_ne 220 (z2i hr11) d_M_reserved_57 (by decide) (fun _ => ?_) (fun _ => ?_)
            · refine sb_iconst d_M_reserved_220 ?_
              refine sb_goto 225 d_M_reserved_221 (by decide) ?_
              exact sn_z rfl (by decide) d_M_reserved_225
            · refine sb_aload_n 0 d_M_reserved_60 rfl ?_
              refine sb_ldcS (k := 6) (by decide) rfl d_M_reserved_61 ?_
              refine sb_cVz vf_M_is (c_M_is γ12 6 (by decide)) rfl ml_M_317 (As := [.ref (Γ.σ 6).1]) rfl rfl (Nat.le_of_ble_eq_true rfl) ⟨by decide, by decide⟩ d_M_reserved_64 (fun r13 γ14 hr13 => ?_)
              refine sb_if_ne 220 (z2i hr13) d_M_reserved_67 (by decide) (fun _ => ?_) (fun _ => ?_)
              · refine sb_iconst d_M_reserved_220 ?_
                refine sb_goto 225 d_M_reserved_221 (by decide) ?_
                exact sn_z rfl (by decide) d_M_reserved_225
              · refine sb_aload_n 0 d_M_reserved_70 rfl ?_
                refine sb_ldcS (k := 7) (by decide) rfl d_M_reserved_71 ?_
                refine sb_cVz vf_M_is (c_M_is γ14 7 (by decide)) rfl ml_M_317 (As := [.ref (Γ.σ 7).1]) rfl rfl (Nat.le_of_ble_eq_true rfl) ⟨by decide, by decide⟩ d_M_reserved_74 (fun r15 γ16 hr15 => ?_)
                refine sb_if_ne 220 (z2i hr15) d_M_reserved_77 (by decide) (fun _ => ?_) (fun _ => ?_)
                · refine sb_iconst d_M_reserved_220 ?_
                  refine sb_goto 225 d_M_reserved_221 (by decide) ?_
                  exact sn_z rfl (by decide) d_M_reserved_225
                · refine sb_aload_n 0 d_M_reserved_80 rfl ?_
                  refine sb_ldcS (k := 8) (by decide) rfl d_M_reserved_81 ?_
                  refine sb_cVz vf_M_is (c_M_is γ16 8 (by decide)) rfl ml_M_317 (As := [.ref (Γ.σ 8).1]) rfl rfl (Nat.le_of_ble_eq_true rfl) ⟨by decide, by decide⟩ d_M_reserved_84 (fun r17 γ18 hr17 => ?_)
                  refine sb_if_ne 220 (z2i hr17) d_M_reserved_87 (by decide) (fun _ => ?_) (fun _ => ?_)
                  · refine sb_iconst d_M_reserved_220 ?_
                    refine sb_goto 225 d_M_reserved_221 (by decide) ?_
                    exact sn_z rfl (by decide) d_M_reserved_225
                  · refine sb_aload_n 0 d_M_reserved_90 rfl ?_
                    refine sb_ldcS (k := 9) (by decide) rfl d_M_reserved_91 ?_
                    refine sb_cVz vf_M_is (c_M_is γ18 9 (by decide)) rfl ml_M_317 (As := [.ref (Γ.σ 9).1]) rfl rfl (Nat.le_of_ble_eq_true rfl) ⟨by decide, by decide⟩ d_M_reserved_94 (fun r19 γ20 hr19 => ?_)
                    refine sb_if_ne 220 (z2i hr19) d_M_reserved_97 (by decide) (fun _ => ?_) (fun _ => ?_)
                    · refine sb_iconst d_M_reserved_220 ?_
                      refine sb_goto 225 d_M_reserved_221 (by decide) ?_
                      exact sn_z rfl (by decide) d_M_reserved_225
                    · refine sb_aload_n 0 d_M_reserved_100 rfl ?_
                      refine sb_ldcS (k := 10) (by decide) rfl d_M_reserved_101 ?_
                      refine sb_cVz vf_M_is (c_M_is γ20 10 (by decide)) rfl ml_M_317 (As := [.ref (Γ.σ 10).1]) rfl rfl (Nat.le_of_ble_eq_true rfl) ⟨by decide, by decide⟩ d_M_reserved_104 (fun r21 γ22 hr21 => ?_)
                      refine sb_if_ne 220 (z2i hr21) d_M_reserved_107 (by decide) (fun _ => ?_) (fun _ => ?_)
                      · refine sb_iconst d_M_reserved_220 ?_
                        refine sb_goto 225 d_M_reserved_221 (by decide) ?_
                        exact sn_z rfl (by decide) d_M_reserved_225
                      · refine sb_aload_n 0 d_M_reserved_110 rfl ?_
                        refine sb_ldcS (k := 11) (by decide) rfl d_M_reserved_111 ?_
                        refine sb_cVz vf_M_is (c_M_is γ22 11 (by decide)) rfl ml_M_317 (As := [.ref (Γ.σ 11).1]) rfl rfl (Nat.le_of_ble_eq_true rfl) ⟨by decide, by decide⟩ d_M_reserved_114 (fun r23 γ24 hr23 => ?_)
                        refine sb_if_ne 220 (z2i hr23) d_M_reserved_117 (by decide) (fun _ => ?_) (fun _ => ?_)
                        · refine sb_iconst d_M_reserved_220 ?_
                          refine sb_goto 225 d_M_reserved_221 (by decide) ?_
                          exact sn_z rfl (by decide) d_M_reserved_225
                        · refine sb_aload_n 0 d_M_reserved_120 rfl ?_
                          refine sb_ldcS (k := 12) (by decide) rfl d_M_reserved_121 ?_
                          refine sb_cVz vf_M_is (c_M_is γ24 12 (by decide)) rfl ml_M_317 (As := [.ref (Γ.σ 12).1]) rfl rfl (Nat.le_of_ble_eq_true rfl) ⟨by decide, by decide⟩ d_M_reserved_124 (fun r25 γ26 hr25 => ?_)
                          refine sb_if_ne 220 (z2i hr25) d_M_reserved_127 (by decide) (fun _ => ?_) (fun _ => ?_)
                          · refine sb_iconst d_M_reserved_220 ?_
                            refine sb_goto 225 d_M_reserved_221 (by decide) ?_
                            exact sn_z rfl (by decide) d_M_reserved_225
                          · refine sb_aload_n 0 d_M_reserved_130 rfl ?_
                            refine sb_ldcS (k := 13) (by decide) rfl d_M_reserved_131 ?_
                            refine sb_cVz vf_M_is (c_M_is γ26 13 (by decide)) rfl ml_M_317 (As := [.ref (Γ.σ 13).1]) rfl rfl (Nat.le_of_ble_eq_true rfl) ⟨by decide, by decide⟩ d_M_reserved_134 (fun r27 γ28 hr27 => ?_)
                            refine sb_if_ne 220 (z2i hr27) d_M_reserved_137 (by decide) (fun _ => ?_) (fun _ => ?_)
                            · refine sb_iconst d_M_reserved_220 ?_
                              refine sb_goto 225 d_M_reserved_221 (by decide) ?_
                              exact sn_z rfl (by decide) d_M_reserved_225
                            · refine sb_aload_n 0 d_M_reserved_140 rfl ?_
                              refine sb_ldcS (k := 14) (by decide) rfl d_M_reserved_141 ?_
                              refine sb_cVz vf_M_is (c_M_is γ28 14 (by decide)) rfl ml_M_317 (As := [.ref (Γ.σ 14).1]) rfl rfl (Nat.le_of_ble_eq_true rfl) ⟨by decide, by decide⟩ d_M_reserved_144 (fun r29 γ30 hr29 => ?_)
                              refine sb_if_ne 220 (z2i hr29) d_M_reserved_147 (by decide) (fun _ => ?_) (fun _ => ?_)
                              · refine sb_iconst d_M_reserved_220 ?_
                                refine sb_goto 225 d_M_reserved_221 (by decide) ?_
                                exact sn_z rfl (by decide) d_M_reserved_225
                              · refine sb_aload_n 0 d_M_reserved_150 rfl ?_
                                refine sb_ldcS (k := 15) (by decide) rfl d_M_reserved_151 ?_
                                refine sb_cVz vf_M_is (c_M_is γ30 15 (by decide)) rfl ml_M_317 (As := [.ref (Γ.σ 15).1]) rfl rfl (Nat.le_of_ble_eq_true rfl) ⟨by decide, by decide⟩ d_M_reserved_154 (fun r31 γ32 hr31 => ?_)
                                refine sb_if_ne 220 (z2i hr31) d_M_reserved_157 (by decide) (fun _ => ?_) (fun _ => ?_)
                                · refine sb_iconst d_M_reserved_220 ?_
                                  refine sb_goto 225 d_M_reserved_221 (by decide) ?_
                                  exact sn_z rfl (by decide) d_M_reserved_225
                                · refine sb_aload_n 0 d_M_reserved_160 rfl ?_
                                  refine sb_ldcS (k := 16) (by decide) rfl d_M_reserved_161 ?_
                                  refine sb_cVz vf_M_is (c_M_is γ32 16 (by decide)) rfl ml_M_317 (As := [.ref (Γ.σ 16).1]) rfl rfl (Nat.le_of_ble_eq_true rfl) ⟨by decide, by decide⟩ d_M_reserved_164 (fun r33 γ34 hr33 => ?_)
                                  refine sb_if_ne 220 (z2i hr33) d_M_reserved_167 (by decide) (fun _ => ?_) (fun _ => ?_)
                                  · refine sb_iconst d_M_reserved_220 ?_
                                    refine sb_goto 225 d_M_reserved_221 (by decide) ?_
                                    exact sn_z rfl (by decide) d_M_reserved_225
                                  · refine sb_aload_n 0 d_M_reserved_170 rfl ?_
                                    refine sb_ldcS (k := 17) (by decide) rfl d_M_reserved_171 ?_
                                    refine sb_cVz vf_M_is (c_M_is γ34 17 (by decide)) rfl ml_M_317 (As := [.ref (Γ.σ 17).1]) rfl rfl (Nat.le_of_ble_eq_true rfl) ⟨by decide, by decide⟩ d_M_reserved_174 (fun r35 γ36 hr35 => ?_)
                                    refine sb_if_ne 220 (z2i hr35) d_M_reserved_177 (by decide) (fun _ => ?_) (fun _ => ?_)
                                    · refine sb_iconst d_M_reserved_220 ?_
                                      refine sb_goto 225 d_M_reserved_221 (by decide) ?_
                                      exact sn_z rfl (by decide) d_M_reserved_225
                                    · refine sb_aload_n 0 d_M_reserved_180 rfl ?_
                                      refine sb_ldcS (k := 18) (by decide) rfl d_M_reserved_181 ?_
                                      refine sb_cVz vf_M_is (c_M_is γ36 18 (by decide)) rfl ml_M_317 (As := [.ref (Γ.σ 18).1]) rfl rfl (Nat.le_of_ble_eq_true rfl) ⟨by decide, by decide⟩ d_M_reserved_184 (fun r37 γ38 hr37 => ?_)
                                      refine sb_if_ne 220 (z2i hr37) d_M_reserved_187 (by decide) (fun _ => ?_) (fun _ => ?_)
                                      · refine sb_iconst d_M_reserved_220 ?_
                                        refine sb_goto 225 d_M_reserved_221 (by decide) ?_
                                        exact sn_z rfl (by decide) d_M_reserved_225
                                      · refine sb_aload_n 0 d_M_reserved_190 rfl ?_
                                        refine sb_ldcS (k := 19) (by decide) rfl d_M_reserved_191 ?_
                                        refine sb_cVz vf_M_is (c_M_is γ38 19 (by decide)) rfl ml_M_317 (As := [.ref (Γ.σ 19).1]) rfl rfl (Nat.le_of_ble_eq_true rfl) ⟨by decide, by decide⟩ d_M_reserved_194 (fun r39 γ40 hr39 => ?_)
                                        refine sb_if_ne 220 (z2i hr39) d_M_reserved_197 (by decide) (fun _ => ?_) (fun _ => ?_)
                                        · refine sb_iconst d_M_reserved_220 ?_
                                          refine sb_goto 225 d_M_reserved_221 (by decide) ?_
                                          exact sn_z rfl (by decide) d_M_reserved_225
                                        · refine sb_aload_n 0 d_M_reserved_200 rfl ?_
                                          refine sb_ldcS (k := 20) (by decide) rfl d_M_reserved_201 ?_
                                          refine sb_cVz vf_M_is (c_M_is γ40 20 (by decide)) rfl ml_M_317 (As := [.ref (Γ.σ 20).1]) rfl rfl (Nat.le_of_ble_eq_true rfl) ⟨by decide, by decide⟩ d_M_reserved_204 (fun r41 γ42 hr41 => ?_)
                                          refine sb_if_ne 220 (z2i hr41) d_M_reserved_207 (by decide) (fun _ => ?_) (fun _ => ?_)
                                          · refine sb_iconst d_M_reserved_220 ?_
                                            refine sb_goto 225 d_M_reserved_221 (by decide) ?_
                                            exact sn_z rfl (by decide) d_M_reserved_225
                                          · refine sb_aload_n 0 d_M_reserved_210 rfl ?_
                                            refine sb_ldcS (k := 21) (by decide) rfl d_M_reserved_211 ?_
                                            refine sb_cVz vf_M_is (c_M_is γ42 21 (by decide)) rfl ml_M_317 (As := [.ref (Γ.σ 21).1]) rfl rfl (Nat.le_of_ble_eq_true rfl) ⟨by decide, by decide⟩ d_M_reserved_214 (fun r43 γ44 hr43 => ?_)
                                            refine sb_if_eq 224 (z2i hr43) d_M_reserved_217 (by decide) (fun _ => ?_) (fun _ => ?_)
                                            · refine sb_iconst d_M_reserved_224 ?_
                                              exact sn_z rfl (by decide) d_M_reserved_225
                                            · refine sb_iconst d_M_reserved_220 ?_
                                              refine sb_goto 225 d_M_reserved_221 (by decide) ?_
                                              exact sn_z rfl (by decide) d_M_reserved_225
theorem d_M_nameHere_0 : decode b_M_nameHere 0 = .ok (.aload_n 0, 1) := by decide +kernel
theorem d_M_nameHere_1 : decode b_M_nameHere 1 = .ok (.invokevirtual 292, 3) := by decide +kernel
theorem d_M_nameHere_4 : decode b_M_nameHere 4 = .ok (.iconst 1, 1) := by decide +kernel
theorem d_M_nameHere_5 : decode b_M_nameHere 5 = .ok (.if_icmp .ne 14, 3) := by decide +kernel
theorem d_M_nameHere_8 : decode b_M_nameHere 8 = .ok (.aload_n 0, 1) := by decide +kernel
theorem d_M_nameHere_9 : decode b_M_nameHere 9 = .ok (.invokevirtual 365, 3) := by decide +kernel
theorem d_M_nameHere_12 : decode b_M_nameHere 12 = .ok (.ifCond .ne 7, 3) := by decide +kernel
theorem d_M_nameHere_15 : decode b_M_nameHere 15 = .ok (.iconst 1, 1) := by decide +kernel
theorem d_M_nameHere_16 : decode b_M_nameHere 16 = .ok (.goto 4, 3) := by decide +kernel
theorem d_M_nameHere_19 : decode b_M_nameHere 19 = .ok (.iconst 0, 1) := by decide +kernel
theorem d_M_nameHere_20 : decode b_M_nameHere 20 = .ok (.ireturn, 1) := by decide +kernel
abbrev mt_M_nameHere : MT := (R_M, b_M_nameHere, 1, some .boolean)
theorem vf_M_nameHere : VF y_M_nameHere mt_M_nameHere 12 0 := ⟨im_M_nameHere, se_M_nameHere, in_M, co_M_nameHere, by decide +kernel, _, _, rfl⟩
def f_M_nameHere (γ : St) : Option (Int × St) :=
  bndN (f_M_peek γ) fun r1 γ2 =>
  if r1 ≠ 1 then
  (some (0, γ2))
  else
  (bndN (f_M_reserved γ2) fun r3 γ4 =>
  if r3 ≠ 0 then
  (some (0, γ4))
  else
  (some (1, γ4)))
set_option maxHeartbeats 4000000 in
theorem c_M_nameHere {Γ : Ctx} (γ : St) : NC Γ BM y_M_nameHere mt_M_nameHere 11 345 [vR Γ 0] γ (f_M_nameHere γ) := by
  refine nc_of (by decide) rfl (Nat.le_of_ble_eq_true rfl) ?_
  show SB Γ BM mt_M_nameHere (RmN 11 345) 0 0 (KN Γ BM mt_M_nameHere.2.2.2) 0 [(0, vR Γ 0)] [] γ _
  unfold f_M_nameHere
  refine sb_aload_n 0 d_M_nameHere_0 rfl ?_
  refine sb_cVi vf_M_peek (c_M_peek γ  ) rfl ml_M_292 (As := []) rfl rfl (Nat.le_of_ble_eq_true rfl) ⟨by decide, by decide⟩ d_M_nameHere_1 (fun r1 γ2 hr1 => ?_)
  refine sb_iconst d_M_nameHere_4 ?_
  refine sb_icmp_ne 19 hr1 (by decide) d_M_nameHere_5 (by decide) (fun _ => ?_) (fun _ => ?_)
  · refine sb_iconst d_M_nameHere_19 ?_
    exact sn_z rfl (by decide) d_M_nameHere_20
  · refine sb_aload_n 0 d_M_nameHere_8 rfl ?_
    refine sb_cVz vf_M_reserved (c_M_reserved γ2  ) rfl ml_M_365 (As := []) rfl rfl (Nat.le_of_ble_eq_true rfl) ⟨by decide, by decide⟩ d_M_nameHere_9 (fun r3 γ4 hr3 => ?_)
    refine sb_if_ne 19 (z2i hr3) d_M_nameHere_12 (by decide) (fun _ => ?_) (fun _ => ?_)
    · refine sb_iconst d_M_nameHere_19 ?_
      exact sn_z rfl (by decide) d_M_nameHere_20
    · refine sb_iconst d_M_nameHere_15 ?_
      refine sb_goto 20 d_M_nameHere_16 (by decide) ?_
      exact sn_z rfl (by decide) d_M_nameHere_20
theorem d_M_nest_0 : decode b_M_nest 0 = .ok (.iload_n 1, 1) := by decide +kernel
theorem d_M_nest_1 : decode b_M_nest 1 = .ok (.bipush 40, 2) := by decide +kernel
theorem d_M_nest_3 : decode b_M_nest 3 = .ok (.if_icmp .ge 7, 3) := by decide +kernel
theorem d_M_nest_6 : decode b_M_nest 6 = .ok (.iload_n 1, 1) := by decide +kernel
theorem d_M_nest_7 : decode b_M_nest 7 = .ok (.iconst 1, 1) := by decide +kernel
theorem d_M_nest_8 : decode b_M_nest 8 = .ok (.iadd, 1) := by decide +kernel
theorem d_M_nest_9 : decode b_M_nest 9 = .ok (.ireturn, 1) := by decide +kernel
theorem d_M_nest_10 : decode b_M_nest 10 = .ok (.aload_n 0, 1) := by decide +kernel
theorem d_M_nest_11 : decode b_M_nest 11 = .ok (.invokevirtual 292, 3) := by decide +kernel
theorem d_M_nest_14 : decode b_M_nest 14 = .ok (.pop, 1) := by decide +kernel
theorem d_M_nest_15 : decode b_M_nest 15 = .ok (.new 296, 3) := by decide +kernel
theorem d_M_nest_18 : decode b_M_nest 18 = .ok (.dup, 1) := by decide +kernel
theorem d_M_nest_19 : decode b_M_nest 19 = .ok (.iconst 3, 1) := by decide +kernel
theorem d_M_nest_20 : decode b_M_nest 20 = .ok (.aload_n 0, 1) := by decide +kernel
theorem d_M_nest_21 : decode b_M_nest 21 = .ok (.getfield 33, 3) := by decide +kernel
theorem d_M_nest_24 : decode b_M_nest 24 = .ok (.invokespecial 298, 3) := by decide +kernel
theorem d_M_nest_27 : decode b_M_nest 27 = .ok (.athrow, 1) := by decide +kernel
abbrev mt_M_nest : MT := (R_M, b_M_nest, 2, some .int)
theorem vf_M_nest : VF y_M_nest mt_M_nest 12 1 := ⟨im_M_nest, se_M_nest, in_M, co_M_nest, by decide +kernel, _, _, rfl⟩
def f_M_nest (γ : St) (a0 : Int) : Option Res :=
  if 40 ≤ a0 then
  (bndN (f_M_peek γ) fun r1 γ2 =>
  some (.inl (3, γ2 0 7), γ2))
  else
  (chk (i32 (a0 + 1)) (some (.inr (a0 + 1), γ)))
set_option maxHeartbeats 4000000 in
theorem c_M_nest {Γ : Ctx} (γ : St) (a0 : Int) (ha0 : i32 a0) : TC Γ BM y_M_nest mt_M_nest 9 303 [vR Γ 0, vI a0] γ (f_M_nest γ a0) := by
  refine tc_of (by decide) rfl (Nat.le_of_ble_eq_true rfl) ?_
  show SB Γ BM mt_M_nest (RmT 9 303) 0 0 (KT Γ BM mt_M_nest.2.2.2) 0 [(0, vR Γ 0), (1, vI a0)] [] γ _
  unfold f_M_nest
  refine sb_iload_n 1 d_M_nest_0 rfl ?_
  refine sb_bipush d_M_nest_1 (by decide) ?_
  refine sb_icmp_ge 10 ha0 (by decide) d_M_nest_3 (by decide) (fun _ => ?_) (fun _ => ?_)
  · refine sb_aload_n 0 d_M_nest_10 rfl ?_
    refine sb_cVi vf_M_peek (c_M_peek γ  ) rfl ml_M_292 (As := []) rfl rfl (Nat.le_of_ble_eq_true rfl) ⟨by decide, by decide⟩ d_M_nest_11 (fun r1 γ2 hr1 => ?_)
    refine sb_pop d_M_nest_14 rfl ?_
    refine sb_bd (j := 0) (i := 7) rfl (fun c3 => ?_)
    exact sb_thr rfl d_M_nest_15 d_M_nest_18 (pu_iconst d_M_nest_19) (pu_fld kf_M 0 7 rfl rfl rfl (by decide) fl_M_33 d_M_nest_20 d_M_nest_21) d_M_nest_24 d_M_nest_27 (by decide) c3 ⟨by decide, by decide⟩
  · refine sb_iload_n 1 d_M_nest_6 rfl ?_
    refine sb_iconst d_M_nest_7 ?_
    refine sb_iadd d_M_nest_8 ?_
    refine sb_chk (fun c4 => ?_)
    exact st_i rfl c4 d_M_nest_9
theorem d_M_spelled_0 : decode b_M_spelled 0 = .ok (.iload_n 2, 1) := by decide +kernel
theorem d_M_spelled_1 : decode b_M_spelled 1 = .ok (.aload_n 0, 1) := by decide +kernel
theorem d_M_spelled_2 : decode b_M_spelled 2 = .ok (.getfield 36, 3) := by decide +kernel
theorem d_M_spelled_5 : decode b_M_spelled 5 = .ok (.aload_n 0, 1) := by decide +kernel
theorem d_M_spelled_6 : decode b_M_spelled 6 = .ok (.getfield 33, 3) := by decide +kernel
theorem d_M_spelled_9 : decode b_M_spelled 9 = .ok (.isub, 1) := by decide +kernel
theorem d_M_spelled_10 : decode b_M_spelled 10 = .ok (.if_icmp .eq 5, 3) := by decide +kernel
theorem d_M_spelled_13 : decode b_M_spelled 13 = .ok (.iconst 0, 1) := by decide +kernel
theorem d_M_spelled_14 : decode b_M_spelled 14 = .ok (.ireturn, 1) := by decide +kernel
theorem d_M_spelled_15 : decode b_M_spelled 15 = .ok (.iconst 0, 1) := by decide +kernel
theorem d_M_spelled_16 : decode b_M_spelled 16 = .ok (.istore_n 3, 1) := by decide +kernel
theorem d_M_spelled_17 : decode b_M_spelled 17 = .ok (.iload_n 3, 1) := by decide +kernel
theorem d_M_spelled_18 : decode b_M_spelled 18 = .ok (.iload_n 2, 1) := by decide +kernel
theorem d_M_spelled_19 : decode b_M_spelled 19 = .ok (.if_icmp .ge 33, 3) := by decide +kernel
theorem d_M_spelled_22 : decode b_M_spelled 22 = .ok (.aload_n 0, 1) := by decide +kernel
theorem d_M_spelled_23 : decode b_M_spelled 23 = .ok (.getfield 8, 3) := by decide +kernel
theorem d_M_spelled_26 : decode b_M_spelled 26 = .ok (.iload_n 1, 1) := by decide +kernel
theorem d_M_spelled_27 : decode b_M_spelled 27 = .ok (.iload_n 3, 1) := by decide +kernel
theorem d_M_spelled_28 : decode b_M_spelled 28 = .ok (.iadd, 1) := by decide +kernel
theorem d_M_spelled_29 : decode b_M_spelled 29 = .ok (.baload, 1) := by decide +kernel
theorem d_M_spelled_30 : decode b_M_spelled 30 = .ok (.aload_n 0, 1) := by decide +kernel
theorem d_M_spelled_31 : decode b_M_spelled 31 = .ok (.getfield 8, 3) := by decide +kernel
theorem d_M_spelled_34 : decode b_M_spelled 34 = .ok (.aload_n 0, 1) := by decide +kernel
theorem d_M_spelled_35 : decode b_M_spelled 35 = .ok (.getfield 33, 3) := by decide +kernel
theorem d_M_spelled_38 : decode b_M_spelled 38 = .ok (.iload_n 3, 1) := by decide +kernel
theorem d_M_spelled_39 : decode b_M_spelled 39 = .ok (.iadd, 1) := by decide +kernel
theorem d_M_spelled_40 : decode b_M_spelled 40 = .ok (.baload, 1) := by decide +kernel
theorem d_M_spelled_41 : decode b_M_spelled 41 = .ok (.if_icmp .eq 5, 3) := by decide +kernel
theorem d_M_spelled_44 : decode b_M_spelled 44 = .ok (.iconst 0, 1) := by decide +kernel
theorem d_M_spelled_45 : decode b_M_spelled 45 = .ok (.ireturn, 1) := by decide +kernel
theorem d_M_spelled_46 : decode b_M_spelled 46 = .ok (.iinc 3 1, 3) := by decide +kernel
theorem d_M_spelled_49 : decode b_M_spelled 49 = .ok (.goto (-32), 3) := by decide +kernel
theorem d_M_spelled_52 : decode b_M_spelled 52 = .ok (.iconst 1, 1) := by decide +kernel
theorem d_M_spelled_53 : decode b_M_spelled 53 = .ok (.ireturn, 1) := by decide +kernel
abbrev mt_M_spelled : MT := (R_M, b_M_spelled, 4, some .boolean)
theorem vf_M_spelled : VF y_M_spelled mt_M_spelled 12 2 := ⟨im_M_spelled, se_M_spelled, in_M, co_M_spelled, by decide +kernel, _, _, rfl⟩
def f_M_spelled_L17 : Nat → St → Int → Int → Int → Option (Int × St)
  | 0, _, _, _, _ => none
  | n + 1, γ, x1, x2, x3 =>
  if x2 ≤ x3 then
  (some (1, γ))
  else
  (chk (i32 (x1 + x3)) (chk (inb (x1 + x3) 65536) (chk (i32 ((γ 0 7) + x3)) (chk (inb ((γ 0 7) + x3) 65536) (if (γ 1 (x1 + x3)) = (γ 1 ((γ 0 7) + x3)) then
  (chk (i32 (x3 + 1)) ((f_M_spelled_L17 n) γ x1 x2 (x3 + 1)))
  else
  (some (0, γ)))))))
def f_M_spelled (γ : St) (a0 : Int) (a1 : Int) : Option (Int × St) :=
  chk (i32 ((γ 0 8) - (γ 0 7))) (if a1 = ((γ 0 8) - (γ 0 7)) then
  (f_M_spelled_L17  FU γ a0 a1 0)
  else
  (some (0, γ)))
set_option maxHeartbeats 4000000 in
theorem s_M_spelled_L17 {Γ : Ctx} : ∀ (n : Nat) (γ : St) (x1 : Int) (x2 : Int) (x3 : Int), i32 x1 → i32 x2 → i32 x3 → SB Γ BM mt_M_spelled (RmN 6 240) 0 0 (KN Γ BM mt_M_spelled.2.2.2) 17 [(0, vR Γ 0), (1, vI x1), (2, vI x2), (3, vI x3)] [] γ (f_M_spelled_L17 n γ x1 x2 x3) := by
  intro n
  induction n with
  | zero => intros; exact sb_none
  | succ n ih =>
    intro γ x1 x2 x3 hx1 hx2 hx3
    unfold f_M_spelled_L17
    refine sb_iload_n 3 d_M_spelled_17 rfl ?_
    refine sb_iload_n 2 d_M_spelled_18 rfl ?_
    refine sb_icmp_ge 52 hx3 hx2 d_M_spelled_19 (by decide) (fun _ => ?_) (fun _ => ?_)
    · refine sb_iconst d_M_spelled_52 ?_
      exact sn_z rfl (by decide) d_M_spelled_53
    · refine sb_aload_n 0 d_M_spelled_22 rfl ?_
      refine g_M_8 d_M_spelled_23 ?_
      refine sb_iload_n 1 d_M_spelled_26 rfl ?_
      refine sb_iload_n 3 d_M_spelled_27 rfl ?_
      refine sb_iadd d_M_spelled_28 ?_
      refine sb_chk (fun c5 => ?_)
      refine al_M_1 d_M_spelled_29 (fun _ c6 => ?_)
      refine sb_aload_n 0 d_M_spelled_30 rfl ?_
      refine g_M_8 d_M_spelled_31 ?_
      refine sb_aload_n 0 d_M_spelled_34 rfl ?_
      refine g_M_33 d_M_spelled_35 (fun c8 => ?_)
      refine sb_iload_n 3 d_M_spelled_38 rfl ?_
      refine sb_iadd d_M_spelled_39 ?_
      refine sb_chk (fun c9 => ?_)
      refine al_M_1 d_M_spelled_40 (fun _ c10 => ?_)
      refine sb_icmp_eq 46 c6 c10 d_M_spelled_41 (by decide) (fun _ => ?_) (fun _ => ?_)
      · refine sb_iinc 3 [(3, vI (x3 + 1)), (0, vR Γ 0), (1, vI x1), (2, vI x2)] d_M_spelled_46 rfl (by decide) rfl ?_
        refine sb_chk (fun c11 => ?_)
        refine sb_goto 17 d_M_spelled_49 (by decide) ?_
        exact sb_lv [1, 2, 3, 0] rfl (ih γ x1 x2 (x3 + 1) hx1 hx2 c11)
      · refine sb_iconst d_M_spelled_44 ?_
        exact sn_z rfl (by decide) d_M_spelled_45
set_option maxHeartbeats 4000000 in
theorem c_M_spelled {Γ : Ctx} (γ : St) (a0 : Int) (a1 : Int) (ha0 : i32 a0) (ha1 : i32 a1) : NC Γ BM y_M_spelled mt_M_spelled 6 240 [vR Γ 0, vI a0, vI a1] γ (f_M_spelled γ a0 a1) := by
  refine nc_of (by decide) rfl (Nat.le_of_ble_eq_true rfl) ?_
  show SB Γ BM mt_M_spelled (RmN 6 240) 0 0 (KN Γ BM mt_M_spelled.2.2.2) 0 [(0, vR Γ 0), (1, vI a0), (2, vI a1)] [] γ _
  unfold f_M_spelled
  refine sb_iload_n 2 d_M_spelled_0 rfl ?_
  refine sb_aload_n 0 d_M_spelled_1 rfl ?_
  refine g_M_36 d_M_spelled_2 (fun c12 => ?_)
  refine sb_aload_n 0 d_M_spelled_5 rfl ?_
  refine g_M_33 d_M_spelled_6 (fun c13 => ?_)
  refine sb_isub d_M_spelled_9 ?_
  refine sb_chk (fun c14 => ?_)
  refine sb_icmp_eq 15 ha1 c14 d_M_spelled_10 (by decide) (fun _ => ?_) (fun _ => ?_)
  · refine sb_iconst d_M_spelled_15 ?_
    refine sb_istore_n [(3, vI 0), (0, vR Γ 0), (1, vI a0), (2, vI a1)] d_M_spelled_16 (by decide) rfl ?_
    exact sb_lv [1, 2, 3, 0] rfl (s_M_spelled_L17  FU γ a0 a1 0 ha0 ha1 (by decide))
  · refine sb_iconst d_M_spelled_13 ?_
    exact sn_z rfl (by decide) d_M_spelled_14
theorem d_M_variableHere_0 : decode b_M_variableHere 0 = .ok (.aload_n 0, 1) := by decide +kernel
theorem d_M_variableHere_1 : decode b_M_variableHere 1 = .ok (.getfield 50, 3) := by decide +kernel
theorem d_M_variableHere_4 : decode b_M_variableHere 4 = .ok (.aload_n 0, 1) := by decide +kernel
theorem d_M_variableHere_5 : decode b_M_variableHere 5 = .ok (.getfield 68, 3) := by decide +kernel
theorem d_M_variableHere_8 : decode b_M_variableHere 8 = .ok (.iaload, 1) := by decide +kernel
theorem d_M_variableHere_9 : decode b_M_variableHere 9 = .ok (.istore_n 2, 1) := by decide +kernel
theorem d_M_variableHere_10 : decode b_M_variableHere 10 = .ok (.iload_n 2, 1) := by decide +kernel
theorem d_M_variableHere_11 : decode b_M_variableHere 11 = .ok (.iload_n 1, 1) := by decide +kernel
theorem d_M_variableHere_12 : decode b_M_variableHere 12 = .ok (.if_icmp .ge 30, 3) := by decide +kernel
theorem d_M_variableHere_15 : decode b_M_variableHere 15 = .ok (.aload_n 0, 1) := by decide +kernel
theorem d_M_variableHere_16 : decode b_M_variableHere 16 = .ok (.aload_n 0, 1) := by decide +kernel
theorem d_M_variableHere_17 : decode b_M_variableHere 17 = .ok (.getfield 74, 3) := by decide +kernel
theorem d_M_variableHere_20 : decode b_M_variableHere 20 = .ok (.iload_n 2, 1) := by decide +kernel
theorem d_M_variableHere_21 : decode b_M_variableHere 21 = .ok (.iaload, 1) := by decide +kernel
theorem d_M_variableHere_22 : decode b_M_variableHere 22 = .ok (.aload_n 0, 1) := by decide +kernel
theorem d_M_variableHere_23 : decode b_M_variableHere 23 = .ok (.getfield 77, 3) := by decide +kernel
theorem d_M_variableHere_26 : decode b_M_variableHere 26 = .ok (.iload_n 2, 1) := by decide +kernel
theorem d_M_variableHere_27 : decode b_M_variableHere 27 = .ok (.iaload, 1) := by decide +kernel
theorem d_M_variableHere_28 : decode b_M_variableHere 28 = .ok (.invokevirtual 369, 3) := by decide +kernel
theorem d_M_variableHere_31 : decode b_M_variableHere 31 = .ok (.ifCond .eq 5, 3) := by decide +kernel
theorem d_M_variableHere_34 : decode b_M_variableHere 34 = .ok (.iload_n 2, 1) := by decide +kernel
theorem d_M_variableHere_35 : decode b_M_variableHere 35 = .ok (.ireturn, 1) := by decide +kernel
theorem d_M_variableHere_36 : decode b_M_variableHere 36 = .ok (.iinc 2 1, 3) := by decide +kernel
theorem d_M_variableHere_39 : decode b_M_variableHere 39 = .ok (.goto (-29), 3) := by decide +kernel
theorem d_M_variableHere_42 : decode b_M_variableHere 42 = .ok (.iconst (-1), 1) := by decide +kernel
theorem d_M_variableHere_43 : decode b_M_variableHere 43 = .ok (.ireturn, 1) := by decide +kernel
abbrev mt_M_variableHere : MT := (R_M, b_M_variableHere, 3, some .int)
theorem vf_M_variableHere : VF y_M_variableHere mt_M_variableHere 12 1 := ⟨im_M_variableHere, se_M_variableHere, in_M, co_M_variableHere, by decide +kernel, _, _, rfl⟩
def f_M_variableHere_L10 : Nat → St → Int → Int → Option (Int × St)
  | 0, _, _, _ => none
  | n + 1, γ, x1, x2 =>
  if x1 ≤ x2 then
  (some ((-1), γ))
  else
  (chk (inb x2 6000) (chk (inb x2 6000) (bndN (f_M_spelled γ (γ 10 x2) (γ 11 x2)) fun r7 γ8 =>
  if r7 = 0 then
  (chk (i32 (x2 + 1)) ((f_M_variableHere_L10 n) γ8 x1 (x2 + 1)))
  else
  (some (x2, γ8)))))
def f_M_variableHere (γ : St) (a0 : Int) : Option (Int × St) :=
  chk (inb (γ 0 18) 61) (ap (γ 4 (γ 0 18)) fun x13 =>
  f_M_variableHere_L10  FU γ a0 x13)
set_option maxHeartbeats 4000000 in
theorem s_M_variableHere_L10 {Γ : Ctx} : ∀ (n : Nat) (γ : St) (x1 : Int) (x2 : Int), i32 x1 → i32 x2 → SB Γ BM mt_M_variableHere (RmN 7 263) 0 0 (KN Γ BM mt_M_variableHere.2.2.2) 10 [(0, vR Γ 0), (1, vI x1), (2, vI x2)] [] γ (f_M_variableHere_L10 n γ x1 x2) := by
  intro n
  induction n with
  | zero => intros; exact sb_none
  | succ n ih =>
    intro γ x1 x2 hx1 hx2
    unfold f_M_variableHere_L10
    refine sb_iload_n 2 d_M_variableHere_10 rfl ?_
    refine sb_iload_n 1 d_M_variableHere_11 rfl ?_
    refine sb_icmp_ge 42 hx2 hx1 d_M_variableHere_12 (by decide) (fun _ => ?_) (fun _ => ?_)
    · refine sb_iconst d_M_variableHere_42 ?_
      exact sn_i rfl (by decide) d_M_variableHere_43
    · refine sb_aload_n 0 d_M_variableHere_15 rfl ?_
      refine sb_aload_n 0 d_M_variableHere_16 rfl ?_
      refine g_M_74 d_M_variableHere_17 ?_
      refine sb_iload_n 2 d_M_variableHere_20 rfl ?_
      refine al_M_10 d_M_variableHere_21 (fun _ c4 => ?_)
      refine sb_aload_n 0 d_M_variableHere_22 rfl ?_
      refine g_M_77 d_M_variableHere_23 ?_
      refine sb_iload_n 2 d_M_variableHere_26 rfl ?_
      refine al_M_11 d_M_variableHere_27 (fun _ c6 => ?_)
      refine sb_cVz vf_M_spelled (c_M_spelled γ (γ 10 x2) (γ 11 x2) c4 c6) rfl ml_M_369 (As := [vI (γ 10 x2), vI (γ 11 x2)]) rfl rfl (Nat.le_of_ble_eq_true rfl) ⟨by decide, by decide⟩ d_M_variableHere_28 (fun r7 γ8 hr7 => ?_)
      refine sb_if_eq 36 (z2i hr7) d_M_variableHere_31 (by decide) (fun _ => ?_) (fun _ => ?_)
      · refine sb_iinc 2 [(2, vI (x2 + 1)), (0, vR Γ 0), (1, vI x1)] d_M_variableHere_36 rfl (by decide) rfl ?_
        refine sb_chk (fun c9 => ?_)
        refine sb_goto 10 d_M_variableHere_39 (by decide) ?_
        exact sb_lv [1, 2, 0] rfl (ih γ8 x1 (x2 + 1) hx1 c9)
      · refine sb_iload_n 2 d_M_variableHere_34 rfl ?_
        exact sn_i rfl hx2 d_M_variableHere_35
set_option maxHeartbeats 4000000 in
theorem c_M_variableHere {Γ : Ctx} (γ : St) (a0 : Int) (ha0 : i32 a0) : NC Γ BM y_M_variableHere mt_M_variableHere 7 263 [vR Γ 0, vI a0] γ (f_M_variableHere γ a0) := by
  refine nc_of (by decide) rfl (Nat.le_of_ble_eq_true rfl) ?_
  show SB Γ BM mt_M_variableHere (RmN 7 263) 0 0 (KN Γ BM mt_M_variableHere.2.2.2) 0 [(0, vR Γ 0), (1, vI a0)] [] γ _
  unfold f_M_variableHere
  refine sb_aload_n 0 d_M_variableHere_0 rfl ?_
  refine g_M_50 d_M_variableHere_1 ?_
  refine sb_aload_n 0 d_M_variableHere_4 rfl ?_
  refine g_M_68 d_M_variableHere_5 (fun c11 => ?_)
  refine al_M_4 d_M_variableHere_8 (fun _ c12 => ?_)
  refine sb_istore_n [(2, vI (γ 4 (γ 0 18))), (0, vR Γ 0), (1, vI a0)] d_M_variableHere_9 (by decide) rfl ?_
  refine sb_nme (e := γ 4 (γ 0 18)) (fun x13 => [(2, vI x13), (0, vR Γ 0), (1, vI a0)]) c12 (fun x13 hx13 => ?_)
  exact sb_lv [1, 2, 0] rfl (s_M_variableHere_L10  FU γ a0 x13 ha0 hx13)
theorem d_M_nodeHere_0 : decode b_M_nodeHere 0 = .ok (.iconst 0, 1) := by decide +kernel
theorem d_M_nodeHere_1 : decode b_M_nodeHere 1 = .ok (.istore_n 1, 1) := by decide +kernel
theorem d_M_nodeHere_2 : decode b_M_nodeHere 2 = .ok (.iload_n 1, 1) := by decide +kernel
theorem d_M_nodeHere_3 : decode b_M_nodeHere 3 = .ok (.aload_n 0, 1) := by decide +kernel
theorem d_M_nodeHere_4 : decode b_M_nodeHere 4 = .ok (.getfield 68, 3) := by decide +kernel
theorem d_M_nodeHere_7 : decode b_M_nodeHere 7 = .ok (.if_icmp .ge 30, 3) := by decide +kernel
theorem d_M_nodeHere_10 : decode b_M_nodeHere 10 = .ok (.aload_n 0, 1) := by decide +kernel
theorem d_M_nodeHere_11 : decode b_M_nodeHere 11 = .ok (.aload_n 0, 1) := by decide +kernel
theorem d_M_nodeHere_12 : decode b_M_nodeHere 12 = .ok (.getfield 43, 3) := by decide +kernel
theorem d_M_nodeHere_15 : decode b_M_nodeHere 15 = .ok (.iload_n 1, 1) := by decide +kernel
theorem d_M_nodeHere_16 : decode b_M_nodeHere 16 = .ok (.iaload, 1) := by decide +kernel
theorem d_M_nodeHere_17 : decode b_M_nodeHere 17 = .ok (.aload_n 0, 1) := by decide +kernel
theorem d_M_nodeHere_18 : decode b_M_nodeHere 18 = .ok (.getfield 47, 3) := by decide +kernel
theorem d_M_nodeHere_21 : decode b_M_nodeHere 21 = .ok (.iload_n 1, 1) := by decide +kernel
theorem d_M_nodeHere_22 : decode b_M_nodeHere 22 = .ok (.iaload, 1) := by decide +kernel
theorem d_M_nodeHere_23 : decode b_M_nodeHere 23 = .ok (.invokevirtual 369, 3) := by decide +kernel
theorem d_M_nodeHere_26 : decode b_M_nodeHere 26 = .ok (.ifCond .eq 5, 3) := by decide +kernel
theorem d_M_nodeHere_29 : decode b_M_nodeHere 29 = .ok (.iload_n 1, 1) := by decide +kernel
theorem d_M_nodeHere_30 : decode b_M_nodeHere 30 = .ok (.ireturn, 1) := by decide +kernel
theorem d_M_nodeHere_31 : decode b_M_nodeHere 31 = .ok (.iinc 1 1, 3) := by decide +kernel
theorem d_M_nodeHere_34 : decode b_M_nodeHere 34 = .ok (.goto (-32), 3) := by decide +kernel
theorem d_M_nodeHere_37 : decode b_M_nodeHere 37 = .ok (.iconst (-1), 1) := by decide +kernel
theorem d_M_nodeHere_38 : decode b_M_nodeHere 38 = .ok (.ireturn, 1) := by decide +kernel
abbrev mt_M_nodeHere : MT := (R_M, b_M_nodeHere, 2, some .int)
theorem vf_M_nodeHere : VF y_M_nodeHere mt_M_nodeHere 12 0 := ⟨im_M_nodeHere, se_M_nodeHere, in_M, co_M_nodeHere, by decide +kernel, _, _, rfl⟩
def f_M_nodeHere_L2 : Nat → St → Int → Option (Int × St)
  | 0, _, _ => none
  | n + 1, γ, x1 =>
  if (γ 0 18) ≤ x1 then
  (some ((-1), γ))
  else
  (chk (inb x1 60) (chk (inb x1 60) (bndN (f_M_spelled γ (γ 2 x1) (γ 3 x1)) fun r7 γ8 =>
  if r7 = 0 then
  (chk (i32 (x1 + 1)) ((f_M_nodeHere_L2 n) γ8 (x1 + 1)))
  else
  (some (x1, γ8)))))
def f_M_nodeHere (γ : St) : Option (Int × St) :=
  f_M_nodeHere_L2  FU γ 0
set_option maxHeartbeats 4000000 in
theorem s_M_nodeHere_L2 {Γ : Ctx} : ∀ (n : Nat) (γ : St) (x1 : Int), i32 x1 → SB Γ BM mt_M_nodeHere (RmN 7 263) 0 0 (KN Γ BM mt_M_nodeHere.2.2.2) 2 [(0, vR Γ 0), (1, vI x1)] [] γ (f_M_nodeHere_L2 n γ x1) := by
  intro n
  induction n with
  | zero => intros; exact sb_none
  | succ n ih =>
    intro γ x1 hx1
    unfold f_M_nodeHere_L2
    refine sb_iload_n 1 d_M_nodeHere_2 rfl ?_
    refine sb_aload_n 0 d_M_nodeHere_3 rfl ?_
    refine g_M_68 d_M_nodeHere_4 (fun c2 => ?_)
    refine sb_icmp_ge 37 hx1 c2 d_M_nodeHere_7 (by decide) (fun _ => ?_) (fun _ => ?_)
    · refine sb_iconst d_M_nodeHere_37 ?_
      exact sn_i rfl (by decide) d_M_nodeHere_38
    · refine sb_aload_n 0 d_M_nodeHere_10 rfl ?_
      refine sb_aload_n 0 d_M_nodeHere_11 rfl ?_
      refine g_M_43 d_M_nodeHere_12 ?_
      refine sb_iload_n 1 d_M_nodeHere_15 rfl ?_
      refine al_M_2 d_M_nodeHere_16 (fun _ c4 => ?_)
      refine sb_aload_n 0 d_M_nodeHere_17 rfl ?_
      refine g_M_47 d_M_nodeHere_18 ?_
      refine sb_iload_n 1 d_M_nodeHere_21 rfl ?_
      refine al_M_3 d_M_nodeHere_22 (fun _ c6 => ?_)
      refine sb_cVz vf_M_spelled (c_M_spelled γ (γ 2 x1) (γ 3 x1) c4 c6) rfl ml_M_369 (As := [vI (γ 2 x1), vI (γ 3 x1)]) rfl rfl (Nat.le_of_ble_eq_true rfl) ⟨by decide, by decide⟩ d_M_nodeHere_23 (fun r7 γ8 hr7 => ?_)
      refine sb_if_eq 31 (z2i hr7) d_M_nodeHere_26 (by decide) (fun _ => ?_) (fun _ => ?_)
      · refine sb_iinc 1 [(1, vI (x1 + 1)), (0, vR Γ 0)] d_M_nodeHere_31 rfl (by decide) rfl ?_
        refine sb_chk (fun c9 => ?_)
        refine sb_goto 2 d_M_nodeHere_34 (by decide) ?_
        exact sb_lv [1, 0] rfl (ih γ8 (x1 + 1) c9)
      · refine sb_iload_n 1 d_M_nodeHere_29 rfl ?_
        exact sn_i rfl hx1 d_M_nodeHere_30
set_option maxHeartbeats 4000000 in
theorem c_M_nodeHere {Γ : Ctx} (γ : St) : NC Γ BM y_M_nodeHere mt_M_nodeHere 7 263 [vR Γ 0] γ (f_M_nodeHere γ) := by
  refine nc_of (by decide) rfl (Nat.le_of_ble_eq_true rfl) ?_
  show SB Γ BM mt_M_nodeHere (RmN 7 263) 0 0 (KN Γ BM mt_M_nodeHere.2.2.2) 0 [(0, vR Γ 0)] [] γ _
  unfold f_M_nodeHere
  refine sb_iconst d_M_nodeHere_0 ?_
  refine sb_istore_n [(1, vI 0), (0, vR Γ 0)] d_M_nodeHere_1 (by decide) rfl ?_
  exact sb_lv [1, 0] rfl (s_M_nodeHere_L2  FU γ 0 (by decide))
theorem d_M_shallow_0 : decode b_M_shallow 0 = .ok (.iconst 0, 1) := by decide +kernel
theorem d_M_shallow_1 : decode b_M_shallow 1 = .ok (.istore_n 2, 1) := by decide +kernel
theorem d_M_shallow_2 : decode b_M_shallow 2 = .ok (.iload_n 1, 1) := by decide +kernel
theorem d_M_shallow_3 : decode b_M_shallow 3 = .ok (.istore_n 3, 1) := by decide +kernel
theorem d_M_shallow_4 : decode b_M_shallow 4 = .ok (.aload_n 0, 1) := by decide +kernel
theorem d_M_shallow_5 : decode b_M_shallow 5 = .ok (.getfield 80, 3) := by decide +kernel
theorem d_M_shallow_8 : decode b_M_shallow 8 = .ok (.iload_n 3, 1) := by decide +kernel
theorem d_M_shallow_9 : decode b_M_shallow 9 = .ok (.iaload, 1) := by decide +kernel
theorem d_M_shallow_10 : decode b_M_shallow 10 = .ok (.iconst (-1), 1) := by decide +kernel
theorem d_M_shallow_11 : decode b_M_shallow 11 = .ok (.if_icmp .eq 28, 3) := by decide +kernel
theorem d_M_shallow_14 : decode b_M_shallow 14 = .ok (.iinc 2 1, 3) := by decide +kernel
theorem d_M_shallow_17 : decode b_M_shallow 17 = .ok (.aload_n 0, 1) := by decide +kernel
theorem d_M_shallow_18 : decode b_M_shallow 18 = .ok (.getfield 50, 3) := by decide +kernel
theorem d_M_shallow_21 : decode b_M_shallow 21 = .ok (.aload_n 0, 1) := by decide +kernel
theorem d_M_shallow_22 : decode b_M_shallow 22 = .ok (.getfield 68, 3) := by decide +kernel
theorem d_M_shallow_25 : decode b_M_shallow 25 = .ok (.iaload, 1) := by decide +kernel
theorem d_M_shallow_26 : decode b_M_shallow 26 = .ok (.aload_n 0, 1) := by decide +kernel
theorem d_M_shallow_27 : decode b_M_shallow 27 = .ok (.getfield 80, 3) := by decide +kernel
theorem d_M_shallow_30 : decode b_M_shallow 30 = .ok (.iload_n 3, 1) := by decide +kernel
theorem d_M_shallow_31 : decode b_M_shallow 31 = .ok (.iaload, 1) := by decide +kernel
theorem d_M_shallow_32 : decode b_M_shallow 32 = .ok (.iconst 2, 1) := by decide +kernel
theorem d_M_shallow_33 : decode b_M_shallow 33 = .ok (.idiv, 1) := by decide +kernel
theorem d_M_shallow_34 : decode b_M_shallow 34 = .ok (.iadd, 1) := by decide +kernel
theorem d_M_shallow_35 : decode b_M_shallow 35 = .ok (.istore_n 3, 1) := by decide +kernel
theorem d_M_shallow_36 : decode b_M_shallow 36 = .ok (.goto (-32), 3) := by decide +kernel
theorem d_M_shallow_39 : decode b_M_shallow 39 = .ok (.iload_n 2, 1) := by decide +kernel
theorem d_M_shallow_40 : decode b_M_shallow 40 = .ok (.bipush 8, 2) := by decide +kernel
theorem d_M_shallow_42 : decode b_M_shallow 42 = .ok (.if_icmp .lt 16, 3) := by decide +kernel
theorem d_M_shallow_45 : decode b_M_shallow 45 = .ok (.new 296, 3) := by decide +kernel
theorem d_M_shallow_48 : decode b_M_shallow 48 = .ok (.dup, 1) := by decide +kernel
theorem d_M_shallow_49 : decode b_M_shallow 49 = .ok (.iconst 3, 1) := by decide +kernel
theorem d_M_shallow_50 : decode b_M_shallow 50 = .ok (.aload_n 0, 1) := by decide +kernel
theorem d_M_shallow_51 : decode b_M_shallow 51 = .ok (.getfield 33, 3) := by decide +kernel
theorem d_M_shallow_54 : decode b_M_shallow 54 = .ok (.invokespecial 298, 3) := by decide +kernel
theorem d_M_shallow_57 : decode b_M_shallow 57 = .ok (.athrow, 1) := by decide +kernel
theorem d_M_shallow_58 : decode b_M_shallow 58 = .ok (.return_, 1) := by decide +kernel
abbrev mt_M_shallow : MT := (R_M, b_M_shallow, 4, none)
theorem vf_M_shallow : VF y_M_shallow mt_M_shallow 12 1 := ⟨im_M_shallow, se_M_shallow, in_M, co_M_shallow, by decide +kernel, _, _, rfl⟩
def f_M_shallow_b39 (γ : St) (x1 : Int) : Option Res :=
  if x1 < 8 then
  (some (.inr 0, γ))
  else
  (some (.inl (3, γ 0 7), γ))
def f_M_shallow_L4 (x39 : St → Int → Option Res) : Nat → St → Int → Int → Option Res
  | 0, _, _, _ => none
  | n + 1, γ, x3, x4 =>
  chk (inb x4 6000) (if (γ 12 x4) = (-1) then
  (x39 γ x3)
  else
  (chk (i32 (x3 + 1)) (chk (inb (γ 0 18) 61) (chk (inb x4 6000) (chk ((2 : Int) ≠ 0) (chk (i32 ((γ 4 (γ 0 18)) + (idiv (γ 12 x4) 2))) (ap ((γ 4 (γ 0 18)) + (idiv (γ 12 x4) 2)) fun x14 =>
  (f_M_shallow_L4 x39 n) γ (x3 + 1) x14)))))))
def f_M_shallow (γ : St) (a0 : Int) : Option Res :=
  f_M_shallow_L4 (f_M_shallow_b39) FU γ 0 a0
set_option maxHeartbeats 4000000 in
theorem s_M_shallow_b39 {Γ : Ctx} : ∀ (γ : St) (x1 : Int), i32 x1 → SB Γ BM mt_M_shallow (RmT 6 240) 0 0 (KT Γ BM mt_M_shallow.2.2.2) 39 [(0, vR Γ 0), (2, vI x1)] [] γ (f_M_shallow_b39 γ x1) := by
  intro γ x1 hx1
  unfold f_M_shallow_b39
  refine sb_iload_n 1 d_M_shallow_39 rfl ?_
  refine sb_bipush d_M_shallow_40 (by decide) ?_
  refine sb_icmp_lt 58 hx1 (by decide) d_M_shallow_42 (by decide) (fun _ => ?_) (fun _ => ?_)
  · exact st_v rfl d_M_shallow_58
  · refine sb_bd (j := 0) (i := 7) rfl (fun c2 => ?_)
    exact sb_thr rfl d_M_shallow_45 d_M_shallow_48 (pu_iconst d_M_shallow_49) (pu_fld kf_M 0 7 rfl rfl rfl (by decide) fl_M_33 d_M_shallow_50 d_M_shallow_51) d_M_shallow_54 d_M_shallow_57 (by decide) c2 ⟨by decide, by decide⟩
set_option maxHeartbeats 4000000 in
theorem s_M_shallow_L4 {Γ : Ctx} {x39 : St → Int → Option Res} (hx39 : ∀ (γ : St) (x15 : Int), i32 x15 → SB Γ BM mt_M_shallow (RmT 6 240) 0 0 (KT Γ BM mt_M_shallow.2.2.2) 39 [(0, vR Γ 0), (2, vI x15)] [] γ (x39 γ x15)) : ∀ (n : Nat) (γ : St) (x3 : Int) (x4 : Int), i32 x3 → i32 x4 → SB Γ BM mt_M_shallow (RmT 6 240) 0 0 (KT Γ BM mt_M_shallow.2.2.2) 4 [(0, vR Γ 0), (2, vI x3), (3, vI x4)] [] γ (f_M_shallow_L4 x39 n γ x3 x4) := by
  intro n
  induction n with
  | zero => intros; exact sb_none
  | succ n ih =>
    intro γ x3 x4 hx3 hx4
    unfold f_M_shallow_L4
    refine sb_aload_n 0 d_M_shallow_4 rfl ?_
    refine g_M_80 d_M_shallow_5 ?_
    refine sb_iload_n 2 d_M_shallow_8 rfl ?_
    refine al_M_12 d_M_shallow_9 (fun _ c6 => ?_)
    refine sb_iconst d_M_shallow_10 ?_
    refine sb_icmp_eq 39 c6 (by decide) d_M_shallow_11 (by decide) (fun _ => ?_) (fun _ => ?_)
    · exact sb_lv [0, 1] rfl (hx39 γ x3 hx3)
    · refine sb_iinc 1 [(2, vI (x3 + 1)), (0, vR Γ 0), (3, vI x4)] d_M_shallow_14 rfl (by decide) rfl ?_
      refine sb_chk (fun c7 => ?_)
      refine sb_aload_n 1 d_M_shallow_17 rfl ?_
      refine g_M_50 d_M_shallow_18 ?_
      refine sb_aload_n 1 d_M_shallow_21 rfl ?_
      refine g_M_68 d_M_shallow_22 (fun c9 => ?_)
      refine al_M_4 d_M_shallow_25 (fun _ c10 => ?_)
      refine sb_aload_n 1 d_M_shallow_26 rfl ?_
      refine g_M_80 d_M_shallow_27 ?_
      refine sb_iload_n 2 d_M_shallow_30 rfl ?_
      refine al_M_12 d_M_shallow_31 (fun _ c12 => ?_)
      refine sb_iconst d_M_shallow_32 ?_
      refine sb_idiv (by decide) d_M_shallow_33 (fun _ => ?_)
      refine sb_iadd d_M_shallow_34 ?_
      refine sb_chk (fun c13 => ?_)
      refine sb_istore_n [(3, vI ((γ 4 (γ 0 18)) + (idiv (γ 12 x4) 2))), (2, vI (x3 + 1)), (0, vR Γ 0)] d_M_shallow_35 (by decide) rfl ?_
      refine sb_nme (e := (γ 4 (γ 0 18)) + (idiv (γ 12 x4) 2)) (fun x14 => [(3, vI x14), (2, vI (x3 + 1)), (0, vR Γ 0)]) c13 (fun x14 hx14 => ?_)
      refine sb_goto 4 d_M_shallow_36 (by decide) ?_
      exact sb_lv [2, 1, 0] rfl (ih γ (x3 + 1) x14 c7 hx14)
set_option maxHeartbeats 4000000 in
theorem c_M_shallow {Γ : Ctx} (γ : St) (a0 : Int) (ha0 : i32 a0) : TC Γ BM y_M_shallow mt_M_shallow 6 240 [vR Γ 0, vI a0] γ (f_M_shallow γ a0) := by
  refine tc_of (by decide) rfl (Nat.le_of_ble_eq_true rfl) ?_
  show SB Γ BM mt_M_shallow (RmT 6 240) 0 0 (KT Γ BM mt_M_shallow.2.2.2) 0 [(0, vR Γ 0), (1, vI a0)] [] γ _
  unfold f_M_shallow
  refine sb_iconst d_M_shallow_0 ?_
  refine sb_istore_n [(2, vI 0), (0, vR Γ 0), (1, vI a0)] d_M_shallow_1 (by decide) rfl ?_
  refine sb_iload_n 2 d_M_shallow_2 rfl ?_
  refine sb_istore_n [(3, vI a0), (2, vI 0), (0, vR Γ 0), (1, vI a0)] d_M_shallow_3 (by decide) rfl ?_
  exact sb_lv [2, 1, 0] rfl (s_M_shallow_L4 (s_M_shallow_b39) FU γ 0 a0 (by decide) ha0)
theorem d_M_group_0 : decode b_M_group 0 = .ok (.aload_n 0, 1) := by decide +kernel
theorem d_M_group_1 : decode b_M_group 1 = .ok (.getfield 71, 3) := by decide +kernel
theorem d_M_group_4 : decode b_M_group 4 = .ok (.istore_n 2, 1) := by decide +kernel
theorem d_M_group_5 : decode b_M_group 5 = .ok (.iconst 1, 1) := by decide +kernel
theorem d_M_group_6 : decode b_M_group 6 = .ok (.istore_n 3, 1) := by decide +kernel
theorem d_M_group_7 : decode b_M_group 7 = .ok (.iload_n 3, 1) := by decide +kernel
theorem d_M_group_8 : decode b_M_group 8 = .ok (.ifCond .eq 162, 3) := by decide +kernel
theorem d_M_group_11 : decode b_M_group 11 = .ok (.aload_n 0, 1) := by decide +kernel
theorem d_M_group_12 : decode b_M_group 12 = .ok (.invokevirtual 373, 3) := by decide +kernel
theorem d_M_group_15 : decode b_M_group 15 = .ok (.ifCond .ne 8, 3) := by decide +kernel
theorem d_M_group_18 : decode b_M_group 18 = .ok (.aload_n 0, 1) := by decide +kernel
theorem d_M_group_19 : decode b_M_group 19 = .ok (.invokevirtual 301, 3) := by decide +kernel
theorem d_M_group_22 : decode b_M_group 22 = .ok (.athrow, 1) := by decide +kernel
theorem d_M_group_23 : decode b_M_group 23 = .ok (.aload_n 0, 1) := by decide +kernel
theorem d_M_group_24 : decode b_M_group 24 = .ok (.aload_n 0, 1) := by decide +kernel
theorem d_M_group_25 : decode b_M_group 25 = .ok (.getfield 71, 3) := by decide +kernel
theorem d_M_group_28 : decode b_M_group 28 = .ok (.invokevirtual 376, 3) := by decide +kernel
theorem d_M_group_31 : decode b_M_group 31 = .ok (.ifCond .lt 16, 3) := by decide +kernel
theorem d_M_group_34 : decode b_M_group 34 = .ok (.new 296, 3) := by decide +kernel
theorem d_M_group_37 : decode b_M_group 37 = .ok (.dup, 1) := by decide +kernel
theorem d_M_group_38 : decode b_M_group 38 = .ok (.iconst 2, 1) := by decide +kernel
theorem d_M_group_39 : decode b_M_group 39 = .ok (.aload_n 0, 1) := by decide +kernel
theorem d_M_group_40 : decode b_M_group 40 = .ok (.getfield 33, 3) := by decide +kernel
theorem d_M_group_43 : decode b_M_group 43 = .ok (.invokespecial 298, 3) := by decide +kernel
theorem d_M_group_46 : decode b_M_group 46 = .ok (.athrow, 1) := by decide +kernel
theorem d_M_group_47 : decode b_M_group 47 = .ok (.aload_n 0, 1) := by decide +kernel
theorem d_M_group_48 : decode b_M_group 48 = .ok (.getfield 71, 3) := by decide +kernel
theorem d_M_group_51 : decode b_M_group 51 = .ok (.aload_n 0, 1) := by decide +kernel
theorem d_M_group_52 : decode b_M_group 52 = .ok (.getfield 50, 3) := by decide +kernel
theorem d_M_group_55 : decode b_M_group 55 = .ok (.aload_n 0, 1) := by decide +kernel
theorem d_M_group_56 : decode b_M_group 56 = .ok (.getfield 68, 3) := by decide +kernel
theorem d_M_group_59 : decode b_M_group 59 = .ok (.iaload, 1) := by decide +kernel
theorem d_M_group_60 : decode b_M_group 60 = .ok (.isub, 1) := by decide +kernel
theorem d_M_group_61 : decode b_M_group 61 = .ok (.bipush 99, 2) := by decide +kernel
theorem d_M_group_63 : decode b_M_group 63 = .ok (.if_icmp .ne 16, 3) := by decide +kernel
theorem d_M_group_66 : decode b_M_group 66 = .ok (.new 296, 3) := by decide +kernel
theorem d_M_group_69 : decode b_M_group 69 = .ok (.dup, 1) := by decide +kernel
theorem d_M_group_70 : decode b_M_group 70 = .ok (.iconst 3, 1) := by decide +kernel
theorem d_M_group_71 : decode b_M_group 71 = .ok (.aload_n 0, 1) := by decide +kernel
theorem d_M_group_72 : decode b_M_group 72 = .ok (.getfield 33, 3) := by decide +kernel
theorem d_M_group_75 : decode b_M_group 75 = .ok (.invokespecial 298, 3) := by decide +kernel
theorem d_M_group_78 : decode b_M_group 78 = .ok (.athrow, 1) := by decide +kernel
theorem d_M_group_79 : decode b_M_group 79 = .ok (.aload_n 0, 1) := by decide +kernel
theorem d_M_group_80 : decode b_M_group 80 = .ok (.getfield 74, 3) := by decide +kernel
theorem d_M_group_83 : decode b_M_group 83 = .ok (.aload_n 0, 1) := by decide +kernel
theorem d_M_group_84 : decode b_M_group 84 = .ok (.getfield 71, 3) := by decide +kernel
theorem d_M_group_87 : decode b_M_group 87 = .ok (.aload_n 0, 1) := by decide +kernel
theorem d_M_group_88 : decode b_M_group 88 = .ok (.getfield 33, 3) := by decide +kernel
theorem d_M_group_91 : decode b_M_group 91 = .ok (.iastore, 1) := by decide +kernel
theorem d_M_group_92 : decode b_M_group 92 = .ok (.aload_n 0, 1) := by decide +kernel
theorem d_M_group_93 : decode b_M_group 93 = .ok (.getfield 77, 3) := by decide +kernel
theorem d_M_group_96 : decode b_M_group 96 = .ok (.aload_n 0, 1) := by decide +kernel
theorem d_M_group_97 : decode b_M_group 97 = .ok (.getfield 71, 3) := by decide +kernel
theorem d_M_group_100 : decode b_M_group 100 = .ok (.aload_n 0, 1) := by decide +kernel
theorem d_M_group_101 : decode b_M_group 101 = .ok (.getfield 36, 3) := by decide +kernel
theorem d_M_group_104 : decode b_M_group 104 = .ok (.aload_n 0, 1) := by decide +kernel
theorem d_M_group_105 : decode b_M_group 105 = .ok (.getfield 33, 3) := by decide +kernel
theorem d_M_group_108 : decode b_M_group 108 = .ok (.isub, 1) := by decide +kernel
theorem d_M_group_109 : decode b_M_group 109 = .ok (.iastore, 1) := by decide +kernel
theorem d_M_group_110 : decode b_M_group 110 = .ok (.aload_n 0, 1) := by decide +kernel
theorem d_M_group_111 : decode b_M_group 111 = .ok (.getfield 80, 3) := by decide +kernel
theorem d_M_group_114 : decode b_M_group 114 = .ok (.aload_n 0, 1) := by decide +kernel
theorem d_M_group_115 : decode b_M_group 115 = .ok (.getfield 71, 3) := by decide +kernel
theorem d_M_group_118 : decode b_M_group 118 = .ok (.iconst (-1), 1) := by decide +kernel
theorem d_M_group_119 : decode b_M_group 119 = .ok (.iastore, 1) := by decide +kernel
theorem d_M_group_120 : decode b_M_group 120 = .ok (.aload_n 0, 1) := by decide +kernel
theorem d_M_group_121 : decode b_M_group 121 = .ok (.getfield 83, 3) := by decide +kernel
theorem d_M_group_124 : decode b_M_group 124 = .ok (.aload_n 0, 1) := by decide +kernel
theorem d_M_group_125 : decode b_M_group 125 = .ok (.getfield 71, 3) := by decide +kernel
theorem d_M_group_128 : decode b_M_group 128 = .ok (.iconst 0, 1) := by decide +kernel
theorem d_M_group_129 : decode b_M_group 129 = .ok (.iastore, 1) := by decide +kernel
theorem d_M_group_130 : decode b_M_group 130 = .ok (.aload_n 0, 1) := by decide +kernel
theorem d_M_group_131 : decode b_M_group 131 = .ok (.dup, 1) := by decide +kernel
theorem d_M_group_132 : decode b_M_group 132 = .ok (.getfield 71, 3) := by decide +kernel
theorem d_M_group_135 : decode b_M_group 135 = .ok (.iconst 1, 1) := by decide +kernel
theorem d_M_group_136 : decode b_M_group 136 = .ok (.iadd, 1) := by decide +kernel
theorem d_M_group_137 : decode b_M_group 137 = .ok (.putfield 71, 3) := by decide +kernel
theorem d_M_group_140 : decode b_M_group 140 = .ok (.aload_n 0, 1) := by decide +kernel
theorem d_M_group_141 : decode b_M_group 141 = .ok (.invokevirtual 305, 3) := by decide +kernel
theorem d_M_group_144 : decode b_M_group 144 = .ok (.aload_n 0, 1) := by decide +kernel
theorem d_M_group_145 : decode b_M_group 145 = .ok (.invokevirtual 292, 3) := by decide +kernel
theorem d_M_group_148 : decode b_M_group 148 = .ok (.bipush 44, 2) := by decide +kernel
theorem d_M_group_150 : decode b_M_group 150 = .ok (.if_icmp .ne 7, 3) := by decide +kernel
theorem d_M_group_153 : decode b_M_group 153 = .ok (.iconst 1, 1) := by decide +kernel
theorem d_M_group_154 : decode b_M_group 154 = .ok (.goto 4, 3) := by decide +kernel
theorem d_M_group_157 : decode b_M_group 157 = .ok (.iconst 0, 1) := by decide +kernel
theorem d_M_group_158 : decode b_M_group 158 = .ok (.istore_n 3, 1) := by decide +kernel
theorem d_M_group_159 : decode b_M_group 159 = .ok (.iload_n 3, 1) := by decide +kernel
theorem d_M_group_160 : decode b_M_group 160 = .ok (.ifCond .eq (-153), 3) := by decide +kernel
theorem d_M_group_163 : decode b_M_group 163 = .ok (.aload_n 0, 1) := by decide +kernel
theorem d_M_group_164 : decode b_M_group 164 = .ok (.invokevirtual 305, 3) := by decide +kernel
theorem d_M_group_167 : decode b_M_group 167 = .ok (.goto (-160), 3) := by decide +kernel
theorem d_M_group_170 : decode b_M_group 170 = .ok (.aload_n 0, 1) := by decide +kernel
theorem d_M_group_171 : decode b_M_group 171 = .ok (.bipush 58, 2) := by decide +kernel
theorem d_M_group_173 : decode b_M_group 173 = .ok (.invokevirtual 379, 3) := by decide +kernel
theorem d_M_group_176 : decode b_M_group 176 = .ok (.aload_n 0, 1) := by decide +kernel
theorem d_M_group_177 : decode b_M_group 177 = .ok (.ldc_w 333, 3) := by decide +kernel
theorem d_M_group_180 : decode b_M_group 180 = .ok (.invokevirtual 317, 3) := by decide +kernel
theorem d_M_group_183 : decode b_M_group 183 = .ok (.istore 4, 2) := by decide +kernel
theorem d_M_group_185 : decode b_M_group 185 = .ok (.iload 4, 2) := by decide +kernel
theorem d_M_group_187 : decode b_M_group 187 = .ok (.ifCond .ne 18, 3) := by decide +kernel
theorem d_M_group_190 : decode b_M_group 190 = .ok (.aload_n 0, 1) := by decide +kernel
theorem d_M_group_191 : decode b_M_group 191 = .ok (.ldc_w 331, 3) := by decide +kernel
theorem d_M_group_194 : decode b_M_group 194 = .ok (.invokevirtual 317, 3) := by decide +kernel
theorem d_M_group_197 : decode b_M_group 197 = .ok (.ifCond .ne 8, 3) := by decide +kernel
theorem d_M_group_200 : decode b_M_group 200 = .ok (.aload_n 0, 1) := by decide +kernel
theorem d_M_group_201 : decode b_M_group 201 = .ok (.invokevirtual 301, 3) := by decide +kernel
theorem d_M_group_204 : decode b_M_group 204 = .ok (.athrow, 1) := by decide +kernel
theorem d_M_group_205 : decode b_M_group 205 = .ok (.aload_n 0, 1) := by decide +kernel
theorem d_M_group_206 : decode b_M_group 206 = .ok (.invokevirtual 305, 3) := by decide +kernel
theorem d_M_group_209 : decode b_M_group 209 = .ok (.iload_n 2, 1) := by decide +kernel
theorem d_M_group_210 : decode b_M_group 210 = .ok (.istore 5, 2) := by decide +kernel
theorem d_M_group_212 : decode b_M_group 212 = .ok (.iload 5, 2) := by decide +kernel
theorem d_M_group_214 : decode b_M_group 214 = .ok (.aload_n 0, 1) := by decide +kernel
theorem d_M_group_215 : decode b_M_group 215 = .ok (.getfield 71, 3) := by decide +kernel
theorem d_M_group_218 : decode b_M_group 218 = .ok (.if_icmp .ge 18, 3) := by decide +kernel
theorem d_M_group_221 : decode b_M_group 221 = .ok (.aload_n 0, 1) := by decide +kernel
theorem d_M_group_222 : decode b_M_group 222 = .ok (.getfield 86, 3) := by decide +kernel
theorem d_M_group_225 : decode b_M_group 225 = .ok (.iload 5, 2) := by decide +kernel
theorem d_M_group_227 : decode b_M_group 227 = .ok (.iload 4, 2) := by decide +kernel
theorem d_M_group_229 : decode b_M_group 229 = .ok (.bastore, 1) := by decide +kernel
theorem d_M_group_230 : decode b_M_group 230 = .ok (.iinc 5 1, 3) := by decide +kernel
theorem d_M_group_233 : decode b_M_group 233 = .ok (.goto (-21), 3) := by decide +kernel
theorem d_M_group_236 : decode b_M_group 236 = .ok (.iload_n 1, 1) := by decide +kernel
theorem d_M_group_237 : decode b_M_group 237 = .ok (.ifCond .eq 13, 3) := by decide +kernel
theorem d_M_group_240 : decode b_M_group 240 = .ok (.aload_n 0, 1) := by decide +kernel
theorem d_M_group_241 : decode b_M_group 241 = .ok (.ldc_w 335, 3) := by decide +kernel
theorem d_M_group_244 : decode b_M_group 244 = .ok (.invokevirtual 317, 3) := by decide +kernel
theorem d_M_group_247 : decode b_M_group 247 = .ok (.ifCond .ne 4, 3) := by decide +kernel
theorem d_M_group_250 : decode b_M_group 250 = .ok (.return_, 1) := by decide +kernel
theorem d_M_group_251 : decode b_M_group 251 = .ok (.aload_n 0, 1) := by decide +kernel
theorem d_M_group_252 : decode b_M_group 252 = .ok (.invokevirtual 305, 3) := by decide +kernel
theorem d_M_group_255 : decode b_M_group 255 = .ok (.aload_n 0, 1) := by decide +kernel
theorem d_M_group_256 : decode b_M_group 256 = .ok (.ldc_w 337, 3) := by decide +kernel
theorem d_M_group_259 : decode b_M_group 259 = .ok (.invokevirtual 317, 3) := by decide +kernel
theorem d_M_group_262 : decode b_M_group 262 = .ok (.istore 5, 2) := by decide +kernel
theorem d_M_group_264 : decode b_M_group 264 = .ok (.iload 5, 2) := by decide +kernel
theorem d_M_group_266 : decode b_M_group 266 = .ok (.ifCond .eq 7, 3) := by decide +kernel
theorem d_M_group_269 : decode b_M_group 269 = .ok (.aload_n 0, 1) := by decide +kernel
theorem d_M_group_270 : decode b_M_group 270 = .ok (.invokevirtual 305, 3) := by decide +kernel
theorem d_M_group_273 : decode b_M_group 273 = .ok (.aload_n 0, 1) := by decide +kernel
theorem d_M_group_274 : decode b_M_group 274 = .ok (.invokevirtual 373, 3) := by decide +kernel
theorem d_M_group_277 : decode b_M_group 277 = .ok (.ifCond .ne 8, 3) := by decide +kernel
theorem d_M_group_280 : decode b_M_group 280 = .ok (.aload_n 0, 1) := by decide +kernel
theorem d_M_group_281 : decode b_M_group 281 = .ok (.invokevirtual 301, 3) := by decide +kernel
theorem d_M_group_284 : decode b_M_group 284 = .ok (.athrow, 1) := by decide +kernel
theorem d_M_group_285 : decode b_M_group 285 = .ok (.aload_n 0, 1) := by decide +kernel
theorem d_M_group_286 : decode b_M_group 286 = .ok (.iload_n 2, 1) := by decide +kernel
theorem d_M_group_287 : decode b_M_group 287 = .ok (.invokevirtual 376, 3) := by decide +kernel
theorem d_M_group_290 : decode b_M_group 290 = .ok (.istore 6, 2) := by decide +kernel
theorem d_M_group_292 : decode b_M_group 292 = .ok (.iload 6, 2) := by decide +kernel
theorem d_M_group_294 : decode b_M_group 294 = .ok (.ifCond .lt 13, 3) := by decide +kernel
theorem d_M_group_297 : decode b_M_group 297 = .ok (.aload_n 0, 1) := by decide +kernel
theorem d_M_group_298 : decode b_M_group 298 = .ok (.getfield 86, 3) := by decide +kernel
theorem d_M_group_301 : decode b_M_group 301 = .ok (.iload 6, 2) := by decide +kernel
theorem d_M_group_303 : decode b_M_group 303 = .ok (.baload, 1) := by decide +kernel
theorem d_M_group_304 : decode b_M_group 304 = .ok (.ifCond .ne 16, 3) := by decide +kernel
theorem d_M_group_307 : decode b_M_group 307 = .ok (.new 296, 3) := by decide +kernel
theorem d_M_group_310 : decode b_M_group 310 = .ok (.dup, 1) := by decide +kernel
theorem d_M_group_311 : decode b_M_group 311 = .ok (.iconst 2, 1) := by decide +kernel
theorem d_M_group_312 : decode b_M_group 312 = .ok (.aload_n 0, 1) := by decide +kernel
theorem d_M_group_313 : decode b_M_group 313 = .ok (.getfield 33, 3) := by decide +kernel
theorem d_M_group_316 : decode b_M_group 316 = .ok (.invokespecial 298, 3) := by decide +kernel
theorem d_M_group_319 : decode b_M_group 319 = .ok (.athrow, 1) := by decide +kernel
theorem d_M_group_320 : decode b_M_group 320 = .ok (.aload_n 0, 1) := by decide +kernel
theorem d_M_group_321 : decode b_M_group 321 = .ok (.iload 6, 2) := by decide +kernel
theorem d_M_group_323 : decode b_M_group 323 = .ok (.invokevirtual 383, 3) := by decide +kernel
theorem d_M_group_326 : decode b_M_group 326 = .ok (.aload_n 0, 1) := by decide +kernel
theorem d_M_group_327 : decode b_M_group 327 = .ok (.invokevirtual 305, 3) := by decide +kernel
theorem d_M_group_330 : decode b_M_group 330 = .ok (.iload_n 2, 1) := by decide +kernel
theorem d_M_group_331 : decode b_M_group 331 = .ok (.istore 7, 2) := by decide +kernel
theorem d_M_group_333 : decode b_M_group 333 = .ok (.iload 7, 2) := by decide +kernel
theorem d_M_group_335 : decode b_M_group 335 = .ok (.aload_n 0, 1) := by decide +kernel
theorem d_M_group_336 : decode b_M_group 336 = .ok (.getfield 71, 3) := by decide +kernel
theorem d_M_group_339 : decode b_M_group 339 = .ok (.if_icmp .ge 41, 3) := by decide +kernel
theorem d_M_group_342 : decode b_M_group 342 = .ok (.aload_n 0, 1) := by decide +kernel
theorem d_M_group_343 : decode b_M_group 343 = .ok (.getfield 80, 3) := by decide +kernel
theorem d_M_group_346 : decode b_M_group 346 = .ok (.iload 7, 2) := by decide +kernel
theorem d_M_group_348 : decode b_M_group 348 = .ok (.iconst 2, 1) := by decide +kernel
theorem d_M_group_349 : decode b_M_group 349 = .ok (.iload 6, 2) := by decide +kernel
theorem d_M_group_351 : decode b_M_group 351 = .ok (.aload_n 0, 1) := by decide +kernel
theorem d_M_group_352 : decode b_M_group 352 = .ok (.getfield 50, 3) := by decide +kernel
theorem d_M_group_355 : decode b_M_group 355 = .ok (.aload_n 0, 1) := by decide +kernel
theorem d_M_group_356 : decode b_M_group 356 = .ok (.getfield 68, 3) := by decide +kernel
theorem d_M_group_359 : decode b_M_group 359 = .ok (.iaload, 1) := by decide +kernel
theorem d_M_group_360 : decode b_M_group 360 = .ok (.isub, 1) := by decide +kernel
theorem d_M_group_361 : decode b_M_group 361 = .ok (.imul, 1) := by decide +kernel
theorem d_M_group_362 : decode b_M_group 362 = .ok (.iload 5, 2) := by decide +kernel
theorem d_M_group_364 : decode b_M_group 364 = .ok (.ifCond .eq 7, 3) := by decide +kernel
theorem d_M_group_367 : decode b_M_group 367 = .ok (.iconst 0, 1) := by decide +kernel
theorem d_M_group_368 : decode b_M_group 368 = .ok (.goto 4, 3) := by decide +kernel
theorem d_M_group_371 : decode b_M_group 371 = .ok (.iconst 1, 1) := by decide +kernel
theorem d_M_group_372 : decode b_M_group 372 = .ok (.iadd, 1) := by decide +kernel
theorem d_M_group_373 : decode b_M_group 373 = .ok (.iastore, 1) := by decide +kernel
theorem d_M_group_374 : decode b_M_group 374 = .ok (.iinc 7 1, 3) := by decide +kernel
theorem d_M_group_377 : decode b_M_group 377 = .ok (.goto (-44), 3) := by decide +kernel
theorem d_M_group_380 : decode b_M_group 380 = .ok (.return_, 1) := by decide +kernel
abbrev mt_M_group : MT := (R_M, b_M_group, 8, none)
theorem vf_M_group : VF y_M_group mt_M_group 12 1 := ⟨im_M_group, se_M_group, in_M, co_M_group, by decide +kernel, _, _, rfl⟩
def f_M_group_b18 (γ : St) : Option Res :=
  bndN (f_M_cant γ) fun p1 γ2 => some (.inl (1, p1), γ2)
def f_M_group_b34 (γ : St) : Option Res :=
  some (.inl (2, γ 0 7), γ)
def f_M_group_b66 (γ : St) : Option Res :=
  some (.inl (3, γ 0 7), γ)
def f_M_group_b307 (γ : St) : Option Res :=
  some (.inl (2, γ 0 7), γ)
def f_M_group_b372 (k333 : St → Int → Int → Int → Option Res) (γ : St) (x6 : Int) (x7 : Int) (x8 : Int) (x9 : Int) (x10 : Int) (x11 : Int) : Option Res :=
  chk (i32 (x10 + x9)) (chk (inb x11 6000) (ap (setA γ 12 x11 (x10 + x9)) fun γ13 =>
  chk (i32 (x8 + 1)) (k333 γ13 x6 x7 (x8 + 1))))
def f_M_group_L333 : Nat → St → Int → Int → Int → Option Res
  | 0, _, _, _, _ => none
  | n + 1, γ, x18, x19, x20 =>
  if (γ 0 19) ≤ x20 then
  (some (.inr 0, γ))
  else
  (chk (inb (γ 0 18) 61) (chk (i32 (x19 - (γ 4 (γ 0 18)))) (chk (i32 (2 * (x19 - (γ 4 (γ 0 18))))) (if x18 = 0 then
  (f_M_group_b372 (f_M_group_L333 n) γ x18 x19 x20 1 (2 * (x19 - (γ 4 (γ 0 18)))) x20)
  else
  (f_M_group_b372 (f_M_group_L333 n) γ x18 x19 x20 0 (2 * (x19 - (γ 4 (γ 0 18)))) x20)))))
def f_M_group_b273 (γ : St) (x28 : Int) (x29 : Int) : Option Res :=
  bndN (f_M_nameHere γ) fun r30 γ31 =>
  if r30 ≠ 0 then
  (bndN (f_M_variableHere γ31 x28) fun r32 γ33 =>
  if r32 < 0 then
  (f_M_group_b307 γ33 )
  else
  (chk (inb r32 6000) (if (γ33 14 r32) ≠ 0 then
  (bndT (f_M_shallow γ33 r32) fun _ γ37 =>
  bndN (f_M_take γ37) fun _ γ39 =>
  f_M_group_L333  FU γ39 x29 r32 x28)
  else
  (f_M_group_b307 γ33 ))))
  else
  (bndN (f_M_cant γ31) fun p40 γ41 => some (.inl (1, p40), γ41))
def f_M_group_b236 (γ : St) (x42 : Int) (x43 : Int) : Option Res :=
  if x42 = 0 then
  (some (.inr 0, γ))
  else
  (bndN (f_M_is γ 7) fun r44 γ45 =>
  if r44 ≠ 0 then
  (bndN (f_M_take γ45) fun _ γ47 =>
  bndN (f_M_is γ47 8) fun r48 γ49 =>
  if r48 = 0 then
  (f_M_group_b273 γ49 x43 r48)
  else
  (bndN (f_M_take γ49) fun _ γ51 =>
  f_M_group_b273 γ51 x43 r48))
  else
  (some (.inr 0, γ45)))
def f_M_group_L212 (x236 : St → Int → Int → Option Res) : Nat → St → Int → Int → Int → Int → Option Res
  | 0, _, _, _, _, _ => none
  | n + 1, γ, x52, x53, x54, x55 =>
  if (γ 0 19) ≤ x55 then
  (x236 γ x52 x53)
  else
  (chk (x54 = 0 ∨ x54 = 1) (chk (inb x55 6000) (ap (setA γ 14 x55 x54) fun γ59 =>
  chk (i32 (x55 + 1)) ((f_M_group_L212 x236 n) γ59 x52 x53 x54 (x55 + 1)))))
def f_M_group_b205 (γ : St) (x63 : Int) (x64 : Int) (x65 : Int) : Option Res :=
  bndN (f_M_take γ) fun _ γ67 =>
  f_M_group_L212 (f_M_group_b236) FU γ67 x63 x64 x65 x64
def f_M_group_b170 (γ : St) (x68 : Int) (x69 : Int) : Option Res :=
  bndT (f_M_must γ 58) fun _ γ71 =>
  bndN (f_M_is γ71 6) fun r72 γ73 =>
  if r72 ≠ 0 then
  (f_M_group_b205 γ73 x68 x69 r72)
  else
  (bndN (f_M_is γ73 5) fun r74 γ75 =>
  if r74 ≠ 0 then
  (f_M_group_b205 γ75 x68 x69 r72)
  else
  (bndN (f_M_cant γ75) fun p76 γ77 => some (.inl (1, p76), γ77)))
def f_M_group_b158 (k7 : St → Int → Int → Int → Option Res) (x18 : St → Option Res) (x34 : St → Option Res) (x66 : St → Option Res) (x170 : St → Int → Int → Option Res) (γ : St) (x78 : Int) (x79 : Int) (x80 : Int) : Option Res :=
  if x80 = 0 then
  (k7 γ x78 x79 x80)
  else
  (bndN (f_M_take γ) fun _ γ82 =>
  k7 γ82 x78 x79 x80)
def f_M_group_L7 (x18 : St → Option Res) (x34 : St → Option Res) (x66 : St → Option Res) (x170 : St → Int → Int → Option Res) : Nat → St → Int → Int → Int → Option Res
  | 0, _, _, _, _ => none
  | n + 1, γ, x88, x89, x90 =>
  if x90 = 0 then
  (x170 γ x88 x89)
  else
  (bndN (f_M_nameHere γ) fun r91 γ92 =>
  if r91 ≠ 0 then
  (bndN (f_M_variableHere γ92 (γ92 0 19)) fun r94 γ95 =>
  if r94 < 0 then
  (chk (inb (γ95 0 18) 61) (chk (i32 ((γ95 0 19) - (γ95 4 (γ95 0 18)))) (if ((γ95 0 19) - (γ95 4 (γ95 0 18))) ≠ 99 then
  (chk (inb (γ95 0 19) 6000) (ap (setA γ95 10 (γ95 0 19) (γ95 0 7)) fun γ104 =>
  chk (i32 ((γ104 0 8) - (γ104 0 7))) (chk (inb (γ104 0 19) 6000) (ap (setA γ104 11 (γ104 0 19) ((γ104 0 8) - (γ104 0 7))) fun γ110 =>
  chk (inb (γ110 0 19) 6000) (ap (setA γ110 12 (γ110 0 19) (-1)) fun γ113 =>
  chk (inb (γ113 0 19) 6000) (ap (setA γ113 13 (γ113 0 19) 0) fun γ116 =>
  chk (i32 ((γ116 0 19) + 1)) (ap (setA γ116 0 19 ((γ116 0 19) + 1)) fun γ119 =>
  bndN (f_M_take γ119) fun _ γ121 =>
  bndN (f_M_peek γ121) fun r122 γ123 =>
  if r122 ≠ 44 then
  (f_M_group_b158 (f_M_group_L7 x18 x34 x66 x170 n) x18 x34 x66 x170 γ123 x88 x89 0)
  else
  (f_M_group_b158 (f_M_group_L7 x18 x34 x66 x170 n) x18 x34 x66 x170 γ123 x88 x89 1))))))))
  else
  (x66 γ95 ))))
  else
  (x34 γ95 ))
  else
  (x18 γ92 ))
def f_M_group (γ : St) (a0 : Int) : Option Res :=
  ap (γ 0 19) fun x127 =>
  f_M_group_L7 (f_M_group_b18) (f_M_group_b34) (f_M_group_b66) (f_M_group_b170) FU γ a0 x127 1
set_option maxHeartbeats 4000000 in
theorem s_M_group_b18 {Γ : Ctx} : ∀ (γ : St), SB Γ BM mt_M_group (RmT 14 461) 0 0 (KT Γ BM mt_M_group.2.2.2) 18 [(0, vR Γ 0)] [] γ (f_M_group_b18 γ ) := by
  intro γ
  unfold f_M_group_b18
  refine sb_aload_n 0 d_M_group_18 rfl ?_
  exact sb_cant ml_M_301 ⟨by decide, by decide⟩ d_M_group_19 d_M_group_22
set_option maxHeartbeats 4000000 in
theorem s_M_group_b34 {Γ : Ctx} : ∀ (γ : St), SB Γ BM mt_M_group (RmT 14 461) 0 0 (KT Γ BM mt_M_group.2.2.2) 34 [(0, vR Γ 0)] [] γ (f_M_group_b34 γ ) := by
  intro γ
  unfold f_M_group_b34
  refine sb_bd (j := 0) (i := 7) rfl (fun c3 => ?_)
  exact sb_thr rfl d_M_group_34 d_M_group_37 (pu_iconst d_M_group_38) (pu_fld kf_M 0 7 rfl rfl rfl (by decide) fl_M_33 d_M_group_39 d_M_group_40) d_M_group_43 d_M_group_46 (by decide) c3 ⟨by decide, by decide⟩
set_option maxHeartbeats 4000000 in
theorem s_M_group_b66 {Γ : Ctx} : ∀ (γ : St), SB Γ BM mt_M_group (RmT 14 461) 0 0 (KT Γ BM mt_M_group.2.2.2) 66 [(0, vR Γ 0)] [] γ (f_M_group_b66 γ ) := by
  intro γ
  unfold f_M_group_b66
  refine sb_bd (j := 0) (i := 7) rfl (fun c4 => ?_)
  exact sb_thr rfl d_M_group_66 d_M_group_69 (pu_iconst d_M_group_70) (pu_fld kf_M 0 7 rfl rfl rfl (by decide) fl_M_33 d_M_group_71 d_M_group_72) d_M_group_75 d_M_group_78 (by decide) c4 ⟨by decide, by decide⟩
set_option maxHeartbeats 4000000 in
theorem s_M_group_b307 {Γ : Ctx} : ∀ (γ : St), SB Γ BM mt_M_group (RmT 14 461) 0 0 (KT Γ BM mt_M_group.2.2.2) 307 [(0, vR Γ 0)] [] γ (f_M_group_b307 γ ) := by
  intro γ
  unfold f_M_group_b307
  refine sb_bd (j := 0) (i := 7) rfl (fun c5 => ?_)
  exact sb_thr rfl d_M_group_307 d_M_group_310 (pu_iconst d_M_group_311) (pu_fld kf_M 0 7 rfl rfl rfl (by decide) fl_M_33 d_M_group_312 d_M_group_313) d_M_group_316 d_M_group_319 (by decide) c5 ⟨by decide, by decide⟩
set_option maxHeartbeats 4000000 in
theorem s_M_group_b372 {Γ : Ctx} {k333 : St → Int → Int → Int → Option Res} (hk333 : ∀ (γ : St) (x15 : Int) (x16 : Int) (x17 : Int), i32 x15 → i32 x16 → i32 x17 → SB Γ BM mt_M_group (RmT 14 461) 0 0 (KT Γ BM mt_M_group.2.2.2) 333 [(0, vR Γ 0), (5, vI x15), (6, vI x16), (7, vI x17)] [] γ (k333 γ x15 x16 x17)) : ∀ (γ : St) (x6 : Int) (x7 : Int) (x8 : Int) (x9 : Int) (x10 : Int) (x11 : Int), i32 x6 → i32 x7 → i32 x8 → i32 x9 → i32 x10 → i32 x11 → SB Γ BM mt_M_group (RmT 14 461) 0 0 (KT Γ BM mt_M_group.2.2.2) 372 [(0, vR Γ 0), (5, vI x6), (6, vI x7), (7, vI x8)] [vI x9, vI x10, vI x11, vR Γ 12] γ (f_M_group_b372 k333 γ x6 x7 x8 x9 x10 x11) := by
  intro γ x6 x7 x8 x9 x10 x11 hx6 hx7 hx8 hx9 hx10 hx11
  unfold f_M_group_b372
  refine sb_iadd d_M_group_372 ?_
  refine sb_chk (fun c12 => ?_)
  refine as_M_12 c12 d_M_group_373 (fun _ => ?_)
  refine sb_aps (fun γ13 => ?_)
  refine sb_iinc 3 [(7, vI (x8 + 1)), (0, vR Γ 0), (5, vI x6), (6, vI x7)] d_M_group_374 rfl (by decide) rfl ?_
  refine sb_chk (fun c14 => ?_)
  refine sb_goto 333 d_M_group_377 (by decide) ?_
  exact sb_lv [1, 2, 3, 0] rfl (hk333 γ13 x6 x7 (x8 + 1) hx6 hx7 c14)
set_option maxHeartbeats 4000000 in
theorem s_M_group_L333 {Γ : Ctx} : ∀ (n : Nat) (γ : St) (x18 : Int) (x19 : Int) (x20 : Int), i32 x18 → i32 x19 → i32 x20 → SB Γ BM mt_M_group (RmT 14 461) 0 0 (KT Γ BM mt_M_group.2.2.2) 333 [(0, vR Γ 0), (5, vI x18), (6, vI x19), (7, vI x20)] [] γ (f_M_group_L333 n γ x18 x19 x20) := by
  intro n
  induction n with
  | zero => intros; exact sb_none
  | succ n ih =>
    intro γ x18 x19 x20 hx18 hx19 hx20
    unfold f_M_group_L333
    refine sb_iload 3 d_M_group_333 rfl ?_
    refine sb_aload_n 0 d_M_group_335 rfl ?_
    refine g_M_71 d_M_group_336 (fun c21 => ?_)
    refine sb_icmp_ge 380 hx20 c21 d_M_group_339 (by decide) (fun _ => ?_) (fun _ => ?_)
    · exact st_v rfl d_M_group_380
    · refine sb_aload_n 0 d_M_group_342 rfl ?_
      refine g_M_80 d_M_group_343 ?_
      refine sb_iload 3 d_M_group_346 rfl ?_
      refine sb_iconst d_M_group_348 ?_
      refine sb_iload 2 d_M_group_349 rfl ?_
      refine sb_aload_n 0 d_M_group_351 rfl ?_
      refine g_M_50 d_M_group_352 ?_
      refine sb_aload_n 0 d_M_group_355 rfl ?_
      refine g_M_68 d_M_group_356 (fun c24 => ?_)
      refine al_M_4 d_M_group_359 (fun _ c25 => ?_)
      refine sb_isub d_M_group_360 ?_
      refine sb_chk (fun c26 => ?_)
      refine sb_imul d_M_group_361 ?_
      refine sb_chk (fun c27 => ?_)
      refine sb_iload 1 d_M_group_362 rfl ?_
      refine sb_if_eq 371 hx18 d_M_group_364 (by decide) (fun _ => ?_) (fun _ => ?_)
      · refine sb_iconst d_M_group_371 ?_
        exact sb_lv [0, 1, 2, 3] rfl (s_M_group_b372 ih γ x18 x19 x20 1 (2 * (x19 - (γ 4 (γ 0 18)))) x20 hx18 hx19 hx20 (by decide) c27 hx20)
      · refine sb_iconst d_M_group_367 ?_
        refine sb_goto 372 d_M_group_368 (by decide) ?_
        exact sb_lv [0, 1, 2, 3] rfl (s_M_group_b372 ih γ x18 x19 x20 0 (2 * (x19 - (γ 4 (γ 0 18)))) x20 hx18 hx19 hx20 (by decide) c27 hx20)
set_option maxHeartbeats 4000000 in
theorem s_M_group_b273 {Γ : Ctx} : ∀ (γ : St) (x28 : Int) (x29 : Int), i32 x28 → i32 x29 → SB Γ BM mt_M_group (RmT 14 461) 0 0 (KT Γ BM mt_M_group.2.2.2) 273 [(0, vR Γ 0), (2, vI x28), (5, vI x29)] [] γ (f_M_group_b273 γ x28 x29) := by
  intro γ x28 x29 hx28 hx29
  unfold f_M_group_b273
  refine sb_aload_n 0 d_M_group_273 rfl ?_
  refine sb_cVz vf_M_nameHere (c_M_nameHere γ  ) rfl ml_M_373 (As := []) rfl rfl (Nat.le_of_ble_eq_true rfl) ⟨by decide, by decide⟩ d_M_group_274 (fun r30 γ31 hr30 => ?_)
  refine sb_if_ne 285 (z2i hr30) d_M_group_277 (by decide) (fun _ => ?_) (fun _ => ?_)
  · refine sb_aload_n 0 d_M_group_285 rfl ?_
    refine sb_iload_n 1 d_M_group_286 rfl ?_
    refine sb_cVi vf_M_variableHere (c_M_variableHere γ31 x28 hx28) rfl ml_M_376 (As := [vI x28]) rfl rfl (Nat.le_of_ble_eq_true rfl) ⟨by decide, by decide⟩ d_M_group_287 (fun r32 γ33 hr32 => ?_)
    refine sb_istore [(6, vI r32), (0, vR Γ 0), (2, vI x28), (5, vI x29)] d_M_group_290 (by decide) rfl ?_
    refine sb_iload 0 d_M_group_292 rfl ?_
    refine sb_if_lt 307 hr32 d_M_group_294 (by decide) (fun _ => ?_) (fun _ => ?_)
    · exact sb_lv [1] rfl (s_M_group_b307 γ33  )
    · refine sb_aload_n 1 d_M_group_297 rfl ?_
      refine g_M_86 d_M_group_298 ?_
      refine sb_iload 0 d_M_group_301 rfl ?_
      refine al_M_14 d_M_group_303 (fun _ c35 => ?_)
      refine sb_if_ne 320 c35 d_M_group_304 (by decide) (fun _ => ?_) (fun _ => ?_)
      · refine sb_aload_n 1 d_M_group_320 rfl ?_
        refine sb_iload 0 d_M_group_321 rfl ?_
        refine sb_cTv vf_M_shallow (c_M_shallow γ33 r32 hr32) rfl ml_M_383 (As := [vI r32]) rfl rfl (Nat.le_of_ble_eq_true rfl) ⟨by decide, by decide⟩ d_M_group_323 (fun _ γ37 => ?_)
        refine sb_aload_n 1 d_M_group_326 rfl ?_
        refine sb_cVv vf_M_take (c_M_take γ37  ) rfl ml_M_305 (As := []) rfl rfl (Nat.le_of_ble_eq_true rfl) ⟨by decide, by decide⟩ d_M_group_327 (fun _ γ39 => ?_)
        refine sb_iload_n 2 d_M_group_330 rfl ?_
        refine sb_istore [(7, vI x28), (6, vI r32), (0, vR Γ 0), (2, vI x28), (5, vI x29)] d_M_group_331 (by decide) rfl ?_
        exact sb_lv [2, 4, 1, 0] rfl (s_M_group_L333  FU γ39 x29 r32 x28 hx29 hr32 hx28)
      · exact sb_lv [1] rfl (s_M_group_b307 γ33  )
  · refine sb_aload_n 0 d_M_group_280 rfl ?_
    exact sb_cant ml_M_301 ⟨by decide, by decide⟩ d_M_group_281 d_M_group_284
set_option maxHeartbeats 4000000 in
theorem s_M_group_b236 {Γ : Ctx} : ∀ (γ : St) (x42 : Int) (x43 : Int), i32 x42 → i32 x43 → SB Γ BM mt_M_group (RmT 14 461) 0 0 (KT Γ BM mt_M_group.2.2.2) 236 [(0, vR Γ 0), (1, vI x42), (2, vI x43)] [] γ (f_M_group_b236 γ x42 x43) := by
  intro γ x42 x43 hx42 hx43
  unfold f_M_group_b236
  refine sb_iload_n 1 d_M_group_236 rfl ?_
  refine sb_if_eq 250 hx42 d_M_group_237 (by decide) (fun _ => ?_) (fun _ => ?_)
  · exact st_v rfl d_M_group_250
  · refine sb_aload_n 0 d_M_group_240 rfl ?_
    refine sb_ldcS (k := 7) (by decide) rfl d_M_group_241 ?_
    refine sb_cVz vf_M_is (c_M_is γ 7 (by decide)) rfl ml_M_317 (As := [.ref (Γ.σ 7).1]) rfl rfl (Nat.le_of_ble_eq_true rfl) ⟨by decide, by decide⟩ d_M_group_244 (fun r44 γ45 hr44 => ?_)
    refine sb_if_ne 251 (z2i hr44) d_M_group_247 (by decide) (fun _ => ?_) (fun _ => ?_)
    · refine sb_aload_n 0 d_M_group_251 rfl ?_
      refine sb_cVv vf_M_take (c_M_take γ45  ) rfl ml_M_305 (As := []) rfl rfl (Nat.le_of_ble_eq_true rfl) ⟨by decide, by decide⟩ d_M_group_252 (fun _ γ47 => ?_)
      refine sb_aload_n 0 d_M_group_255 rfl ?_
      refine sb_ldcS (k := 8) (by decide) rfl d_M_group_256 ?_
      refine sb_cVz vf_M_is (c_M_is γ47 8 (by decide)) rfl ml_M_317 (As := [.ref (Γ.σ 8).1]) rfl rfl (Nat.le_of_ble_eq_true rfl) ⟨by decide, by decide⟩ d_M_group_259 (fun r48 γ49 hr48 => ?_)
      refine sb_istore [(5, vI r48), (0, vR Γ 0), (1, vI x42), (2, vI x43)] d_M_group_262 (by decide) rfl ?_
      refine sb_iload 0 d_M_group_264 rfl ?_
      refine sb_if_eq 273 (z2i hr48) d_M_group_266 (by decide) (fun _ => ?_) (fun _ => ?_)
      · exact sb_lv [1, 3, 0] rfl (s_M_group_b273 γ49 x43 r48 hx43 (z2i hr48))
      · refine sb_aload_n 1 d_M_group_269 rfl ?_
        refine sb_cVv vf_M_take (c_M_take γ49  ) rfl ml_M_305 (As := []) rfl rfl (Nat.le_of_ble_eq_true rfl) ⟨by decide, by decide⟩ d_M_group_270 (fun _ γ51 => ?_)
        exact sb_lv [1, 3, 0] rfl (s_M_group_b273 γ51 x43 r48 hx43 (z2i hr48))
    · exact st_v rfl d_M_group_250
set_option maxHeartbeats 4000000 in
theorem s_M_group_L212 {Γ : Ctx} {x236 : St → Int → Int → Option Res} (hx236 : ∀ (γ : St) (x61 : Int) (x62 : Int), i32 x61 → i32 x62 → SB Γ BM mt_M_group (RmT 14 461) 0 0 (KT Γ BM mt_M_group.2.2.2) 236 [(0, vR Γ 0), (1, vI x61), (2, vI x62)] [] γ (x236 γ x61 x62)) : ∀ (n : Nat) (γ : St) (x52 : Int) (x53 : Int) (x54 : Int) (x55 : Int), i32 x52 → i32 x53 → i32 x54 → i32 x55 → SB Γ BM mt_M_group (RmT 14 461) 0 0 (KT Γ BM mt_M_group.2.2.2) 212 [(0, vR Γ 0), (1, vI x52), (2, vI x53), (4, vI x54), (5, vI x55)] [] γ (f_M_group_L212 x236 n γ x52 x53 x54 x55) := by
  intro n
  induction n with
  | zero => intros; exact sb_none
  | succ n ih =>
    intro γ x52 x53 x54 x55 hx52 hx53 hx54 hx55
    unfold f_M_group_L212
    refine sb_iload 4 d_M_group_212 rfl ?_
    refine sb_aload_n 0 d_M_group_214 rfl ?_
    refine g_M_71 d_M_group_215 (fun c56 => ?_)
    refine sb_icmp_ge 236 hx55 c56 d_M_group_218 (by decide) (fun _ => ?_) (fun _ => ?_)
    · exact sb_lv [0, 1, 2] rfl (hx236 γ x52 x53 hx52 hx53)
    · refine sb_aload_n 0 d_M_group_221 rfl ?_
      refine g_M_86 d_M_group_222 ?_
      refine sb_iload 4 d_M_group_225 rfl ?_
      refine sb_iload 3 d_M_group_227 rfl ?_
      refine sb_chk (fun c58 => ?_)
      refine as_M_14 c58 d_M_group_229 (fun _ => ?_)
      refine sb_aps (fun γ59 => ?_)
      refine sb_iinc 4 [(5, vI (x55 + 1)), (0, vR Γ 0), (1, vI x52), (2, vI x53), (4, vI x54)] d_M_group_230 rfl (by decide) rfl ?_
      refine sb_chk (fun c60 => ?_)
      refine sb_goto 212 d_M_group_233 (by decide) ?_
      exact sb_lv [1, 2, 3, 4, 0] rfl (ih γ59 x52 x53 x54 (x55 + 1) hx52 hx53 hx54 c60)
set_option maxHeartbeats 4000000 in
theorem s_M_group_b205 {Γ : Ctx} : ∀ (γ : St) (x63 : Int) (x64 : Int) (x65 : Int), i32 x63 → i32 x64 → i32 x65 → SB Γ BM mt_M_group (RmT 14 461) 0 0 (KT Γ BM mt_M_group.2.2.2) 205 [(0, vR Γ 0), (1, vI x63), (2, vI x64), (4, vI x65)] [] γ (f_M_group_b205 γ x63 x64 x65) := by
  intro γ x63 x64 x65 hx63 hx64 hx65
  unfold f_M_group_b205
  refine sb_aload_n 0 d_M_group_205 rfl ?_
  refine sb_cVv vf_M_take (c_M_take γ  ) rfl ml_M_305 (As := []) rfl rfl (Nat.le_of_ble_eq_true rfl) ⟨by decide, by decide⟩ d_M_group_206 (fun _ γ67 => ?_)
  refine sb_iload_n 2 d_M_group_209 rfl ?_
  refine sb_istore [(5, vI x64), (0, vR Γ 0), (1, vI x63), (2, vI x64), (4, vI x65)] d_M_group_210 (by decide) rfl ?_
  exact sb_lv [1, 2, 3, 4, 0] rfl (s_M_group_L212 (s_M_group_b236) FU γ67 x63 x64 x65 x64 hx63 hx64 hx65 hx64)
set_option maxHeartbeats 4000000 in
theorem s_M_group_b170 {Γ : Ctx} : ∀ (γ : St) (x68 : Int) (x69 : Int), i32 x68 → i32 x69 → SB Γ BM mt_M_group (RmT 14 461) 0 0 (KT Γ BM mt_M_group.2.2.2) 170 [(0, vR Γ 0), (1, vI x68), (2, vI x69)] [] γ (f_M_group_b170 γ x68 x69) := by
  intro γ x68 x69 hx68 hx69
  unfold f_M_group_b170
  refine sb_aload_n 0 d_M_group_170 rfl ?_
  refine sb_bipush d_M_group_171 (by decide) ?_
  refine sb_cTv vf_M_must (c_M_must γ 58 (by decide)) rfl ml_M_379 (As := [vI 58]) rfl rfl (Nat.le_of_ble_eq_true rfl) ⟨by decide, by decide⟩ d_M_group_173 (fun _ γ71 => ?_)
  refine sb_aload_n 0 d_M_group_176 rfl ?_
  refine sb_ldcS (k := 6) (by decide) rfl d_M_group_177 ?_
  refine sb_cVz vf_M_is (c_M_is γ71 6 (by decide)) rfl ml_M_317 (As := [.ref (Γ.σ 6).1]) rfl rfl (Nat.le_of_ble_eq_true rfl) ⟨by decide, by decide⟩ d_M_group_180 (fun r72 γ73 hr72 => ?_)
  refine sb_istore [(4, vI r72), (0, vR Γ 0), (1, vI x68), (2, vI x69)] d_M_group_183 (by decide) rfl ?_
  refine sb_iload 0 d_M_group_185 rfl ?_
  refine sb_if_ne 205 (z2i hr72) d_M_group_187 (by decide) (fun _ => ?_) (fun _ => ?_)
  · exact sb_lv [1, 2, 3, 0] rfl (s_M_group_b205 γ73 x68 x69 r72 hx68 hx69 (z2i hr72))
  · refine sb_aload_n 1 d_M_group_190 rfl ?_
    refine sb_ldcS (k := 5) (by decide) rfl d_M_group_191 ?_
    refine sb_cVz vf_M_is (c_M_is γ73 5 (by decide)) rfl ml_M_317 (As := [.ref (Γ.σ 5).1]) rfl rfl (Nat.le_of_ble_eq_true rfl) ⟨by decide, by decide⟩ d_M_group_194 (fun r74 γ75 hr74 => ?_)
    refine sb_if_ne 205 (z2i hr74) d_M_group_197 (by decide) (fun _ => ?_) (fun _ => ?_)
    · exact sb_lv [1, 2, 3, 0] rfl (s_M_group_b205 γ75 x68 x69 r72 hx68 hx69 (z2i hr72))
    · refine sb_aload_n 1 d_M_group_200 rfl ?_
      exact sb_cant ml_M_301 ⟨by decide, by decide⟩ d_M_group_201 d_M_group_204
set_option maxHeartbeats 4000000 in
theorem s_M_group_b158 {Γ : Ctx} {k7 : St → Int → Int → Int → Option Res} {x18 : St → Option Res} {x34 : St → Option Res} {x66 : St → Option Res} {x170 : St → Int → Int → Option Res} (hk7 : ∀ (γ : St) (x83 : Int) (x84 : Int) (x85 : Int), i32 x83 → i32 x84 → i32 x85 → SB Γ BM mt_M_group (RmT 14 461) 0 0 (KT Γ BM mt_M_group.2.2.2) 7 [(0, vR Γ 0), (1, vI x83), (2, vI x84), (3, vI x85)] [] γ (k7 γ x83 x84 x85)) (hx18 : ∀ (γ : St), SB Γ BM mt_M_group (RmT 14 461) 0 0 (KT Γ BM mt_M_group.2.2.2) 18 [(0, vR Γ 0)] [] γ (x18 γ )) (hx34 : ∀ (γ : St), SB Γ BM mt_M_group (RmT 14 461) 0 0 (KT Γ BM mt_M_group.2.2.2) 34 [(0, vR Γ 0)] [] γ (x34 γ )) (hx66 : ∀ (γ : St), SB Γ BM mt_M_group (RmT 14 461) 0 0 (KT Γ BM mt_M_group.2.2.2) 66 [(0, vR Γ 0)] [] γ (x66 γ )) (hx170 : ∀ (γ : St) (x86 : Int) (x87 : Int), i32 x86 → i32 x87 → SB Γ BM mt_M_group (RmT 14 461) 0 0 (KT Γ BM mt_M_group.2.2.2) 170 [(0, vR Γ 0), (1, vI x86), (2, vI x87)] [] γ (x170 γ x86 x87)) : ∀ (γ : St) (x78 : Int) (x79 : Int) (x80 : Int), i32 x78 → i32 x79 → i32 x80 → SB Γ BM mt_M_group (RmT 14 461) 0 0 (KT Γ BM mt_M_group.2.2.2) 158 [(0, vR Γ 0), (1, vI x78), (2, vI x79)] [vI x80] γ (f_M_group_b158 k7 x18 x34 x66 x170 γ x78 x79 x80) := by
  intro γ x78 x79 x80 hx78 hx79 hx80
  unfold f_M_group_b158
  refine sb_istore_n [(3, vI x80), (0, vR Γ 0), (1, vI x78), (2, vI x79)] d_M_group_158 (by decide) rfl ?_
  refine sb_iload_n 0 d_M_group_159 rfl ?_
  refine sb_if_eq 7 hx80 d_M_group_160 (by decide) (fun _ => ?_) (fun _ => ?_)
  · exact sb_lv [1, 2, 3, 0] rfl (hk7 γ x78 x79 x80 hx78 hx79 hx80)
  · refine sb_aload_n 1 d_M_group_163 rfl ?_
    refine sb_cVv vf_M_take (c_M_take γ  ) rfl ml_M_305 (As := []) rfl rfl (Nat.le_of_ble_eq_true rfl) ⟨by decide, by decide⟩ d_M_group_164 (fun _ γ82 => ?_)
    refine sb_goto 7 d_M_group_167 (by decide) ?_
    exact sb_lv [1, 2, 3, 0] rfl (hk7 γ82 x78 x79 x80 hx78 hx79 hx80)
set_option maxHeartbeats 4000000 in
theorem s_M_group_L7 {Γ : Ctx} {x18 : St → Option Res} {x34 : St → Option Res} {x66 : St → Option Res} {x170 : St → Int → Int → Option Res} (hx18 : ∀ (γ : St), SB Γ BM mt_M_group (RmT 14 461) 0 0 (KT Γ BM mt_M_group.2.2.2) 18 [(0, vR Γ 0)] [] γ (x18 γ )) (hx34 : ∀ (γ : St), SB Γ BM mt_M_group (RmT 14 461) 0 0 (KT Γ BM mt_M_group.2.2.2) 34 [(0, vR Γ 0)] [] γ (x34 γ )) (hx66 : ∀ (γ : St), SB Γ BM mt_M_group (RmT 14 461) 0 0 (KT Γ BM mt_M_group.2.2.2) 66 [(0, vR Γ 0)] [] γ (x66 γ )) (hx170 : ∀ (γ : St) (x124 : Int) (x125 : Int), i32 x124 → i32 x125 → SB Γ BM mt_M_group (RmT 14 461) 0 0 (KT Γ BM mt_M_group.2.2.2) 170 [(0, vR Γ 0), (1, vI x124), (2, vI x125)] [] γ (x170 γ x124 x125)) : ∀ (n : Nat) (γ : St) (x88 : Int) (x89 : Int) (x90 : Int), i32 x88 → i32 x89 → i32 x90 → SB Γ BM mt_M_group (RmT 14 461) 0 0 (KT Γ BM mt_M_group.2.2.2) 7 [(0, vR Γ 0), (1, vI x88), (2, vI x89), (3, vI x90)] [] γ (f_M_group_L7 x18 x34 x66 x170 n γ x88 x89 x90) := by
  intro n
  induction n with
  | zero => intros; exact sb_none
  | succ n ih =>
    intro γ x88 x89 x90 hx88 hx89 hx90
    unfold f_M_group_L7
    refine sb_iload_n 3 d_M_group_7 rfl ?_
    refine sb_if_eq 170 hx90 d_M_group_8 (by decide) (fun _ => ?_) (fun _ => ?_)
    · exact sb_lv [0, 1, 2] rfl (hx170 γ x88 x89 hx88 hx89)
    · refine sb_aload_n 0 d_M_group_11 rfl ?_
      refine sb_cVz vf_M_nameHere (c_M_nameHere γ  ) rfl ml_M_373 (As := []) rfl rfl (Nat.le_of_ble_eq_true rfl) ⟨by decide, by decide⟩ d_M_group_12 (fun r91 γ92 hr91 => ?_)
      refine sb_if_ne 23 (z2i hr91) d_M_group_15 (by decide) (fun _ => ?_) (fun _ => ?_)
      · refine sb_aload_n 0 d_M_group_23 rfl ?_
        refine sb_aload_n 0 d_M_group_24 rfl ?_
        refine g_M_71 d_M_group_25 (fun c93 => ?_)
        refine sb_cVi vf_M_variableHere (c_M_variableHere γ92 (γ92 0 19) c93) rfl ml_M_376 (As := [vI (γ92 0 19)]) rfl rfl (Nat.le_of_ble_eq_true rfl) ⟨by decide, by decide⟩ d_M_group_28 (fun r94 γ95 hr94 => ?_)
        refine sb_if_lt 47 hr94 d_M_group_31 (by decide) (fun _ => ?_) (fun _ => ?_)
        · refine sb_aload_n 0 d_M_group_47 rfl ?_
          refine g_M_71 d_M_group_48 (fun c96 => ?_)
          refine sb_aload_n 0 d_M_group_51 rfl ?_
          refine g_M_50 d_M_group_52 ?_
          refine sb_aload_n 0 d_M_group_55 rfl ?_
          refine g_M_68 d_M_group_56 (fun c98 => ?_)
          refine al_M_4 d_M_group_59 (fun _ c99 => ?_)
          refine sb_isub d_M_group_60 ?_
          refine sb_chk (fun c100 => ?_)
          refine sb_bipush d_M_group_61 (by decide) ?_
          refine sb_icmp_ne 79 c100 (by decide) d_M_group_63 (by decide) (fun _ => ?_) (fun _ => ?_)
          · refine sb_aload_n 0 d_M_group_79 rfl ?_
            refine g_M_74 d_M_group_80 ?_
            refine sb_aload_n 0 d_M_group_83 rfl ?_
            refine g_M_71 d_M_group_84 (fun c102 => ?_)
            refine sb_aload_n 0 d_M_group_87 rfl ?_
            refine g_M_33 d_M_group_88 (fun c103 => ?_)
            refine as_M_10 c103 d_M_group_91 (fun _ => ?_)
            refine sb_aps (fun γ104 => ?_)
            refine sb_aload_n 0 d_M_group_92 rfl ?_
            refine g_M_77 d_M_group_93 ?_
            refine sb_aload_n 0 d_M_group_96 rfl ?_
            refine g_M_71 d_M_group_97 (fun c106 => ?_)
            refine sb_aload_n 0 d_M_group_100 rfl ?_
            refine g_M_36 d_M_group_101 (fun c107 => ?_)
            refine sb_aload_n 0 d_M_group_104 rfl ?_
            refine g_M_33 d_M_group_105 (fun c108 => ?_)
            refine sb_isub d_M_group_108 ?_
            refine sb_chk (fun c109 => ?_)
            refine as_M_11 c109 d_M_group_109 (fun _ => ?_)
            refine sb_aps (fun γ110 => ?_)
            refine sb_aload_n 0 d_M_group_110 rfl ?_
            refine g_M_80 d_M_group_111 ?_
            refine sb_aload_n 0 d_M_group_114 rfl ?_
            refine g_M_71 d_M_group_115 (fun c112 => ?_)
            refine sb_iconst d_M_group_118 ?_
            refine as_M_12 (by decide) d_M_group_119 (fun _ => ?_)
            refine sb_aps (fun γ113 => ?_)
            refine sb_aload_n 0 d_M_group_120 rfl ?_
            refine g_M_83 d_M_group_121 ?_
            refine sb_aload_n 0 d_M_group_124 rfl ?_
            refine g_M_71 d_M_group_125 (fun c115 => ?_)
            refine sb_iconst d_M_group_128 ?_
            refine as_M_13 (by decide) d_M_group_129 (fun _ => ?_)
            refine sb_aps (fun γ116 => ?_)
            refine sb_aload_n 0 d_M_group_130 rfl ?_
            refine sb_dup d_M_group_131 rfl ?_
            refine g_M_71 d_M_group_132 (fun c117 => ?_)
            refine sb_iconst d_M_group_135 ?_
            refine sb_iadd d_M_group_136 ?_
            refine sb_chk (fun c118 => ?_)
            refine p_M_71 c118 d_M_group_137 ?_
            refine sb_aps (fun γ119 => ?_)
            refine sb_aload_n 0 d_M_group_140 rfl ?_
            refine sb_cVv vf_M_take (c_M_take γ119  ) rfl ml_M_305 (As := []) rfl rfl (Nat.le_of_ble_eq_true rfl) ⟨by decide, by decide⟩ d_M_group_141 (fun _ γ121 => ?_)
            refine sb_aload_n 0 d_M_group_144 rfl ?_
            refine sb_cVi vf_M_peek (c_M_peek γ121  ) rfl ml_M_292 (As := []) rfl rfl (Nat.le_of_ble_eq_true rfl) ⟨by decide, by decide⟩ d_M_group_145 (fun r122 γ123 hr122 => ?_)
            refine sb_bipush d_M_group_148 (by decide) ?_
            refine sb_icmp_ne 157 hr122 (by decide) d_M_group_150 (by decide) (fun _ => ?_) (fun _ => ?_)
            · refine sb_iconst d_M_group_157 ?_
              exact sb_lv [0, 1, 2] rfl (s_M_group_b158 ih hx18 hx34 hx66 hx170 γ123 x88 x89 0 hx88 hx89 (by decide))
            · refine sb_iconst d_M_group_153 ?_
              refine sb_goto 158 d_M_group_154 (by decide) ?_
              exact sb_lv [0, 1, 2] rfl (s_M_group_b158 ih hx18 hx34 hx66 hx170 γ123 x88 x89 1 hx88 hx89 (by decide))
          · exact sb_lv [0] rfl (hx66 γ95  )
        · exact sb_lv [0] rfl (hx34 γ95  )
      · exact sb_lv [0] rfl (hx18 γ92  )
set_option maxHeartbeats 4000000 in
theorem c_M_group {Γ : Ctx} (γ : St) (a0 : Int) (ha0 : i32 a0) : TC Γ BM y_M_group mt_M_group 14 461 [vR Γ 0, vI a0] γ (f_M_group γ a0) := by
  refine tc_of (by decide) rfl (Nat.le_of_ble_eq_true rfl) ?_
  show SB Γ BM mt_M_group (RmT 14 461) 0 0 (KT Γ BM mt_M_group.2.2.2) 0 [(0, vR Γ 0), (1, vI a0)] [] γ _
  unfold f_M_group
  refine sb_aload_n 0 d_M_group_0 rfl ?_
  refine g_M_71 d_M_group_1 (fun c126 => ?_)
  refine sb_istore_n [(2, vI (γ 0 19)), (0, vR Γ 0), (1, vI a0)] d_M_group_4 (by decide) rfl ?_
  refine sb_nme (e := γ 0 19) (fun x127 => [(2, vI x127), (0, vR Γ 0), (1, vI a0)]) c126 (fun x127 hx127 => ?_)
  refine sb_iconst d_M_group_5 ?_
  refine sb_istore_n [(3, vI 1), (2, vI x127), (0, vR Γ 0), (1, vI a0)] d_M_group_6 (by decide) rfl ?_
  exact sb_lv [2, 3, 1, 0] rfl (s_M_group_L7 (s_M_group_b18) (s_M_group_b34) (s_M_group_b66) (s_M_group_b170) FU γ a0 x127 1 ha0 hx127 (by decide))
theorem d_M_groups_0 : decode b_M_groups 0 = .ok (.aload_n 0, 1) := by decide +kernel
theorem d_M_groups_1 : decode b_M_groups 1 = .ok (.bipush 40, 2) := by decide +kernel
theorem d_M_groups_3 : decode b_M_groups 3 = .ok (.invokevirtual 379, 3) := by decide +kernel
theorem d_M_groups_6 : decode b_M_groups 6 = .ok (.aload_n 0, 1) := by decide +kernel
theorem d_M_groups_7 : decode b_M_groups 7 = .ok (.iconst 0, 1) := by decide +kernel
theorem d_M_groups_8 : decode b_M_groups 8 = .ok (.invokevirtual 386, 3) := by decide +kernel
theorem d_M_groups_11 : decode b_M_groups 11 = .ok (.aload_n 0, 1) := by decide +kernel
theorem d_M_groups_12 : decode b_M_groups 12 = .ok (.invokevirtual 292, 3) := by decide +kernel
theorem d_M_groups_15 : decode b_M_groups 15 = .ok (.bipush 59, 2) := by decide +kernel
theorem d_M_groups_17 : decode b_M_groups 17 = .ok (.if_icmp .ne 15, 3) := by decide +kernel
theorem d_M_groups_20 : decode b_M_groups 20 = .ok (.aload_n 0, 1) := by decide +kernel
theorem d_M_groups_21 : decode b_M_groups 21 = .ok (.invokevirtual 305, 3) := by decide +kernel
theorem d_M_groups_24 : decode b_M_groups 24 = .ok (.aload_n 0, 1) := by decide +kernel
theorem d_M_groups_25 : decode b_M_groups 25 = .ok (.iconst 0, 1) := by decide +kernel
theorem d_M_groups_26 : decode b_M_groups 26 = .ok (.invokevirtual 386, 3) := by decide +kernel
theorem d_M_groups_29 : decode b_M_groups 29 = .ok (.goto (-18), 3) := by decide +kernel
theorem d_M_groups_32 : decode b_M_groups 32 = .ok (.aload_n 0, 1) := by decide +kernel
theorem d_M_groups_33 : decode b_M_groups 33 = .ok (.bipush 41, 2) := by decide +kernel
theorem d_M_groups_35 : decode b_M_groups 35 = .ok (.invokevirtual 379, 3) := by decide +kernel
theorem d_M_groups_38 : decode b_M_groups 38 = .ok (.return_, 1) := by decide +kernel
abbrev mt_M_groups : MT := (R_M, b_M_groups, 1, none)
theorem vf_M_groups : VF y_M_groups mt_M_groups 12 0 := ⟨im_M_groups, se_M_groups, in_M, co_M_groups, by decide +kernel, _, _, rfl⟩
def f_M_groups_b32 (γ : St) : Option Res :=
  bndT (f_M_must γ 41) fun _ γ2 =>
  some (.inr 0, γ2)
def f_M_groups_L11 (x32 : St → Option Res) : Nat → St → Option Res
  | 0, _ => none
  | n + 1, γ =>
  bndN (f_M_peek γ) fun r3 γ4 =>
  if r3 ≠ 59 then
  (x32 γ4 )
  else
  (bndN (f_M_take γ4) fun _ γ6 =>
  bndT (f_M_group γ6 0) fun _ γ8 =>
  (f_M_groups_L11 x32 n) γ8 )
def f_M_groups (γ : St) : Option Res :=
  bndT (f_M_must γ 40) fun _ γ10 =>
  bndT (f_M_group γ10 0) fun _ γ12 =>
  f_M_groups_L11 (f_M_groups_b32) FU γ12 
set_option maxHeartbeats 4000000 in
theorem s_M_groups_b32 {Γ : Ctx} : ∀ (γ : St), SB Γ BM mt_M_groups (RmT 15 488) 0 0 (KT Γ BM mt_M_groups.2.2.2) 32 [(0, vR Γ 0)] [] γ (f_M_groups_b32 γ ) := by
  intro γ
  unfold f_M_groups_b32
  refine sb_aload_n 0 d_M_groups_32 rfl ?_
  refine sb_bipush d_M_groups_33 (by decide) ?_
  refine sb_cTv vf_M_must (c_M_must γ 41 (by decide)) rfl ml_M_379 (As := [vI 41]) rfl rfl (Nat.le_of_ble_eq_true rfl) ⟨by decide, by decide⟩ d_M_groups_35 (fun _ γ2 => ?_)
  exact st_v rfl d_M_groups_38
set_option maxHeartbeats 4000000 in
theorem s_M_groups_L11 {Γ : Ctx} {x32 : St → Option Res} (hx32 : ∀ (γ : St), SB Γ BM mt_M_groups (RmT 15 488) 0 0 (KT Γ BM mt_M_groups.2.2.2) 32 [(0, vR Γ 0)] [] γ (x32 γ )) : ∀ (n : Nat) (γ : St), SB Γ BM mt_M_groups (RmT 15 488) 0 0 (KT Γ BM mt_M_groups.2.2.2) 11 [(0, vR Γ 0)] [] γ (f_M_groups_L11 x32 n γ ) := by
  intro n
  induction n with
  | zero => intros; exact sb_none
  | succ n ih =>
    intro γ
    unfold f_M_groups_L11
    refine sb_aload_n 0 d_M_groups_11 rfl ?_
    refine sb_cVi vf_M_peek (c_M_peek γ  ) rfl ml_M_292 (As := []) rfl rfl (Nat.le_of_ble_eq_true rfl) ⟨by decide, by decide⟩ d_M_groups_12 (fun r3 γ4 hr3 => ?_)
    refine sb_bipush d_M_groups_15 (by decide) ?_
    refine sb_icmp_ne 32 hr3 (by decide) d_M_groups_17 (by decide) (fun _ => ?_) (fun _ => ?_)
    · exact sb_lv [0] rfl (hx32 γ4  )
    · refine sb_aload_n 0 d_M_groups_20 rfl ?_
      refine sb_cVv vf_M_take (c_M_take γ4  ) rfl ml_M_305 (As := []) rfl rfl (Nat.le_of_ble_eq_true rfl) ⟨by decide, by decide⟩ d_M_groups_21 (fun _ γ6 => ?_)
      refine sb_aload_n 0 d_M_groups_24 rfl ?_
      refine sb_iconst d_M_groups_25 ?_
      refine sb_cTv vf_M_group (c_M_group γ6 0 (by decide)) rfl ml_M_386 (As := [vI 0]) rfl rfl (Nat.le_of_ble_eq_true rfl) ⟨by decide, by decide⟩ d_M_groups_26 (fun _ γ8 => ?_)
      refine sb_goto 11 d_M_groups_29 (by decide) ?_
      exact sb_lv [0] rfl (ih γ8  )
set_option maxHeartbeats 4000000 in
theorem c_M_groups {Γ : Ctx} (γ : St) : TC Γ BM y_M_groups mt_M_groups 15 488 [vR Γ 0] γ (f_M_groups γ) := by
  refine tc_of (by decide) rfl (Nat.le_of_ble_eq_true rfl) ?_
  show SB Γ BM mt_M_groups (RmT 15 488) 0 0 (KT Γ BM mt_M_groups.2.2.2) 0 [(0, vR Γ 0)] [] γ _
  unfold f_M_groups
  refine sb_aload_n 0 d_M_groups_0 rfl ?_
  refine sb_bipush d_M_groups_1 (by decide) ?_
  refine sb_cTv vf_M_must (c_M_must γ 40 (by decide)) rfl ml_M_379 (As := [vI 40]) rfl rfl (Nat.le_of_ble_eq_true rfl) ⟨by decide, by decide⟩ d_M_groups_3 (fun _ γ10 => ?_)
  refine sb_aload_n 0 d_M_groups_6 rfl ?_
  refine sb_iconst d_M_groups_7 ?_
  refine sb_cTv vf_M_group (c_M_group γ10 0 (by decide)) rfl ml_M_386 (As := [vI 0]) rfl rfl (Nat.le_of_ble_eq_true rfl) ⟨by decide, by decide⟩ d_M_groups_8 (fun _ γ12 => ?_)
  exact sb_lv [0] rfl (s_M_groups_L11 (s_M_groups_b32) FU γ12  )
theorem d_M_left_0 : decode b_M_left 0 = .ok (.aload_n 0, 1) := by decide +kernel
theorem d_M_left_1 : decode b_M_left 1 = .ok (.invokevirtual 373, 3) := by decide +kernel
theorem d_M_left_4 : decode b_M_left 4 = .ok (.ifCond .ne 8, 3) := by decide +kernel
theorem d_M_left_7 : decode b_M_left 7 = .ok (.aload_n 0, 1) := by decide +kernel
theorem d_M_left_8 : decode b_M_left 8 = .ok (.invokevirtual 301, 3) := by decide +kernel
theorem d_M_left_11 : decode b_M_left 11 = .ok (.athrow, 1) := by decide +kernel
theorem d_M_left_12 : decode b_M_left 12 = .ok (.aload_n 0, 1) := by decide +kernel
theorem d_M_left_13 : decode b_M_left 13 = .ok (.aload_n 0, 1) := by decide +kernel
theorem d_M_left_14 : decode b_M_left 14 = .ok (.getfield 71, 3) := by decide +kernel
theorem d_M_left_17 : decode b_M_left 17 = .ok (.invokevirtual 376, 3) := by decide +kernel
theorem d_M_left_20 : decode b_M_left 20 = .ok (.istore_n 1, 1) := by decide +kernel
theorem d_M_left_21 : decode b_M_left 21 = .ok (.iload_n 1, 1) := by decide +kernel
theorem d_M_left_22 : decode b_M_left 22 = .ok (.aload_n 0, 1) := by decide +kernel
theorem d_M_left_23 : decode b_M_left 23 = .ok (.getfield 50, 3) := by decide +kernel
theorem d_M_left_26 : decode b_M_left 26 = .ok (.aload_n 0, 1) := by decide +kernel
theorem d_M_left_27 : decode b_M_left 27 = .ok (.getfield 68, 3) := by decide +kernel
theorem d_M_left_30 : decode b_M_left 30 = .ok (.iaload, 1) := by decide +kernel
theorem d_M_left_31 : decode b_M_left 31 = .ok (.aload_n 0, 1) := by decide +kernel
theorem d_M_left_32 : decode b_M_left 32 = .ok (.getfield 53, 3) := by decide +kernel
theorem d_M_left_35 : decode b_M_left 35 = .ok (.aload_n 0, 1) := by decide +kernel
theorem d_M_left_36 : decode b_M_left 36 = .ok (.getfield 68, 3) := by decide +kernel
theorem d_M_left_39 : decode b_M_left 39 = .ok (.iaload, 1) := by decide +kernel
theorem d_M_left_40 : decode b_M_left 40 = .ok (.iadd, 1) := by decide +kernel
theorem d_M_left_41 : decode b_M_left 41 = .ok (.if_icmp .ge 16, 3) := by decide +kernel
theorem d_M_left_44 : decode b_M_left 44 = .ok (.new 296, 3) := by decide +kernel
theorem d_M_left_47 : decode b_M_left 47 = .ok (.dup, 1) := by decide +kernel
theorem d_M_left_48 : decode b_M_left 48 = .ok (.iconst 2, 1) := by decide +kernel
theorem d_M_left_49 : decode b_M_left 49 = .ok (.aload_n 0, 1) := by decide +kernel
theorem d_M_left_50 : decode b_M_left 50 = .ok (.getfield 33, 3) := by decide +kernel
theorem d_M_left_53 : decode b_M_left 53 = .ok (.invokespecial 298, 3) := by decide +kernel
theorem d_M_left_56 : decode b_M_left 56 = .ok (.athrow, 1) := by decide +kernel
theorem d_M_left_57 : decode b_M_left 57 = .ok (.aload_n 0, 1) := by decide +kernel
theorem d_M_left_58 : decode b_M_left 58 = .ok (.invokevirtual 305, 3) := by decide +kernel
theorem d_M_left_61 : decode b_M_left 61 = .ok (.aload_n 0, 1) := by decide +kernel
theorem d_M_left_62 : decode b_M_left 62 = .ok (.getfield 83, 3) := by decide +kernel
theorem d_M_left_65 : decode b_M_left 65 = .ok (.iload_n 1, 1) := by decide +kernel
theorem d_M_left_66 : decode b_M_left 66 = .ok (.dup2, 1) := by decide +kernel
theorem d_M_left_67 : decode b_M_left 67 = .ok (.iaload, 1) := by decide +kernel
theorem d_M_left_68 : decode b_M_left 68 = .ok (.iconst 1, 1) := by decide +kernel
theorem d_M_left_69 : decode b_M_left 69 = .ok (.iadd, 1) := by decide +kernel
theorem d_M_left_70 : decode b_M_left 70 = .ok (.iastore, 1) := by decide +kernel
theorem d_M_left_71 : decode b_M_left 71 = .ok (.iload_n 1, 1) := by decide +kernel
theorem d_M_left_72 : decode b_M_left 72 = .ok (.aload_n 0, 1) := by decide +kernel
theorem d_M_left_73 : decode b_M_left 73 = .ok (.getfield 50, 3) := by decide +kernel
theorem d_M_left_76 : decode b_M_left 76 = .ok (.aload_n 0, 1) := by decide +kernel
theorem d_M_left_77 : decode b_M_left 77 = .ok (.getfield 68, 3) := by decide +kernel
theorem d_M_left_80 : decode b_M_left 80 = .ok (.iaload, 1) := by decide +kernel
theorem d_M_left_81 : decode b_M_left 81 = .ok (.isub, 1) := by decide +kernel
theorem d_M_left_82 : decode b_M_left 82 = .ok (.ireturn, 1) := by decide +kernel
abbrev mt_M_left : MT := (R_M, b_M_left, 2, some .int)
theorem vf_M_left : VF y_M_left mt_M_left 12 0 := ⟨im_M_left, se_M_left, in_M, co_M_left, by decide +kernel, _, _, rfl⟩
def f_M_left (γ : St) : Option Res :=
  bndN (f_M_nameHere γ) fun r1 γ2 =>
  if r1 ≠ 0 then
  (bndN (f_M_variableHere γ2 (γ2 0 19)) fun r4 γ5 =>
  chk (inb (γ5 0 18) 61) (chk (inb (γ5 0 18) 60) (chk (i32 ((γ5 4 (γ5 0 18)) + (γ5 5 (γ5 0 18)))) (if ((γ5 4 (γ5 0 18)) + (γ5 5 (γ5 0 18))) ≤ r4 then
  (bndN (f_M_take γ5) fun _ γ14 =>
  chk (inb r4 6000) (chk (i32 ((γ14 13 r4) + 1)) (chk (inb r4 6000) (ap (setA γ14 13 r4 ((γ14 13 r4) + 1)) fun γ18 =>
  chk (inb (γ18 0 18) 61) (chk (i32 (r4 - (γ18 4 (γ18 0 18)))) (some (.inr (r4 - (γ18 4 (γ18 0 18))), γ18)))))))
  else
  (some (.inl (2, γ5 0 7), γ5))))))
  else
  (bndN (f_M_cant γ2) fun p24 γ25 => some (.inl (1, p24), γ25))
set_option maxHeartbeats 4000000 in
theorem c_M_left {Γ : Ctx} (γ : St) : TC Γ BM y_M_left mt_M_left 13 440 [vR Γ 0] γ (f_M_left γ) := by
  refine tc_of (by decide) rfl (Nat.le_of_ble_eq_true rfl) ?_
  show SB Γ BM mt_M_left (RmT 13 440) 0 0 (KT Γ BM mt_M_left.2.2.2) 0 [(0, vR Γ 0)] [] γ _
  unfold f_M_left
  refine sb_aload_n 0 d_M_left_0 rfl ?_
  refine sb_cVz vf_M_nameHere (c_M_nameHere γ  ) rfl ml_M_373 (As := []) rfl rfl (Nat.le_of_ble_eq_true rfl) ⟨by decide, by decide⟩ d_M_left_1 (fun r1 γ2 hr1 => ?_)
  refine sb_if_ne 12 (z2i hr1) d_M_left_4 (by decide) (fun _ => ?_) (fun _ => ?_)
  · refine sb_aload_n 0 d_M_left_12 rfl ?_
    refine sb_aload_n 0 d_M_left_13 rfl ?_
    refine g_M_71 d_M_left_14 (fun c3 => ?_)
    refine sb_cVi vf_M_variableHere (c_M_variableHere γ2 (γ2 0 19) c3) rfl ml_M_376 (As := [vI (γ2 0 19)]) rfl rfl (Nat.le_of_ble_eq_true rfl) ⟨by decide, by decide⟩ d_M_left_17 (fun r4 γ5 hr4 => ?_)
    refine sb_istore_n [(1, vI r4), (0, vR Γ 0)] d_M_left_20 (by decide) rfl ?_
    refine sb_iload_n 0 d_M_left_21 rfl ?_
    refine sb_aload_n 1 d_M_left_22 rfl ?_
    refine g_M_50 d_M_left_23 ?_
    refine sb_aload_n 1 d_M_left_26 rfl ?_
    refine g_M_68 d_M_left_27 (fun c7 => ?_)
    refine al_M_4 d_M_left_30 (fun _ c8 => ?_)
    refine sb_aload_n 1 d_M_left_31 rfl ?_
    refine g_M_53 d_M_left_32 ?_
    refine sb_aload_n 1 d_M_left_35 rfl ?_
    refine g_M_68 d_M_left_36 (fun c10 => ?_)
    refine al_M_5 d_M_left_39 (fun _ c11 => ?_)
    refine sb_iadd d_M_left_40 ?_
    refine sb_chk (fun c12 => ?_)
    refine sb_icmp_ge 57 hr4 c12 d_M_left_41 (by decide) (fun _ => ?_) (fun _ => ?_)
    · refine sb_aload_n 1 d_M_left_57 rfl ?_
      refine sb_cVv vf_M_take (c_M_take γ5  ) rfl ml_M_305 (As := []) rfl rfl (Nat.le_of_ble_eq_true rfl) ⟨by decide, by decide⟩ d_M_left_58 (fun _ γ14 => ?_)
      refine sb_aload_n 1 d_M_left_61 rfl ?_
      refine g_M_83 d_M_left_62 ?_
      refine sb_iload_n 0 d_M_left_65 rfl ?_
      refine sb_dup2 d_M_left_66 rfl rfl ?_
      refine al_M_13 d_M_left_67 (fun _ c16 => ?_)
      refine sb_iconst d_M_left_68 ?_
      refine sb_iadd d_M_left_69 ?_
      refine sb_chk (fun c17 => ?_)
      refine as_M_13 c17 d_M_left_70 (fun _ => ?_)
      refine sb_aps (fun γ18 => ?_)
      refine sb_iload_n 0 d_M_left_71 rfl ?_
      refine sb_aload_n 1 d_M_left_72 rfl ?_
      refine g_M_50 d_M_left_73 ?_
      refine sb_aload_n 1 d_M_left_76 rfl ?_
      refine g_M_68 d_M_left_77 (fun c20 => ?_)
      refine al_M_4 d_M_left_80 (fun _ c21 => ?_)
      refine sb_isub d_M_left_81 ?_
      refine sb_chk (fun c22 => ?_)
      exact st_i rfl c22 d_M_left_82
    · refine sb_bd (j := 0) (i := 7) rfl (fun c23 => ?_)
      exact sb_thr rfl d_M_left_44 d_M_left_47 (pu_iconst d_M_left_48) (pu_fld kf_M 1 7 rfl rfl rfl (by decide) fl_M_33 d_M_left_49 d_M_left_50) d_M_left_53 d_M_left_56 (by decide) c23 ⟨by decide, by decide⟩
  · refine sb_aload_n 0 d_M_left_7 rfl ?_
    exact sb_cant ml_M_301 ⟨by decide, by decide⟩ d_M_left_8 d_M_left_11
theorem d_M_make_0 : decode b_M_make 0 = .ok (.aload_n 0, 1) := by decide +kernel
theorem d_M_make_1 : decode b_M_make 1 = .ok (.dup, 1) := by decide +kernel
theorem d_M_make_2 : decode b_M_make 2 = .ok (.getfield 136, 3) := by decide +kernel
theorem d_M_make_5 : decode b_M_make 5 = .ok (.dup_x1, 1) := by decide +kernel
theorem d_M_make_6 : decode b_M_make 6 = .ok (.iconst 1, 1) := by decide +kernel
theorem d_M_make_7 : decode b_M_make 7 = .ok (.iadd, 1) := by decide +kernel
theorem d_M_make_8 : decode b_M_make 8 = .ok (.putfield 136, 3) := by decide +kernel
theorem d_M_make_11 : decode b_M_make 11 = .ok (.istore 5, 2) := by decide +kernel
theorem d_M_make_13 : decode b_M_make 13 = .ok (.aload_n 0, 1) := by decide +kernel
theorem d_M_make_14 : decode b_M_make 14 = .ok (.getfield 112, 3) := by decide +kernel
theorem d_M_make_17 : decode b_M_make 17 = .ok (.iload 5, 2) := by decide +kernel
theorem d_M_make_19 : decode b_M_make 19 = .ok (.iload_n 1, 1) := by decide +kernel
theorem d_M_make_20 : decode b_M_make 20 = .ok (.iastore, 1) := by decide +kernel
theorem d_M_make_21 : decode b_M_make 21 = .ok (.aload_n 0, 1) := by decide +kernel
theorem d_M_make_22 : decode b_M_make 22 = .ok (.getfield 115, 3) := by decide +kernel
theorem d_M_make_25 : decode b_M_make 25 = .ok (.iload 5, 2) := by decide +kernel
theorem d_M_make_27 : decode b_M_make 27 = .ok (.iload_n 2, 1) := by decide +kernel
theorem d_M_make_28 : decode b_M_make 28 = .ok (.iastore, 1) := by decide +kernel
theorem d_M_make_29 : decode b_M_make 29 = .ok (.aload_n 0, 1) := by decide +kernel
theorem d_M_make_30 : decode b_M_make 30 = .ok (.getfield 118, 3) := by decide +kernel
theorem d_M_make_33 : decode b_M_make 33 = .ok (.iload 5, 2) := by decide +kernel
theorem d_M_make_35 : decode b_M_make 35 = .ok (.iload_n 3, 1) := by decide +kernel
theorem d_M_make_36 : decode b_M_make 36 = .ok (.iastore, 1) := by decide +kernel
theorem d_M_make_37 : decode b_M_make 37 = .ok (.aload_n 0, 1) := by decide +kernel
theorem d_M_make_38 : decode b_M_make 38 = .ok (.getfield 121, 3) := by decide +kernel
theorem d_M_make_41 : decode b_M_make 41 = .ok (.iload 5, 2) := by decide +kernel
theorem d_M_make_43 : decode b_M_make 43 = .ok (.iconst (-1), 1) := by decide +kernel
theorem d_M_make_44 : decode b_M_make 44 = .ok (.iastore, 1) := by decide +kernel
theorem d_M_make_45 : decode b_M_make 45 = .ok (.aload_n 0, 1) := by decide +kernel
theorem d_M_make_46 : decode b_M_make 46 = .ok (.getfield 124, 3) := by decide +kernel
theorem d_M_make_49 : decode b_M_make 49 = .ok (.iload 5, 2) := by decide +kernel
theorem d_M_make_51 : decode b_M_make 51 = .ok (.bipush (-2), 2) := by decide +kernel
theorem d_M_make_53 : decode b_M_make 53 = .ok (.iastore, 1) := by decide +kernel
theorem d_M_make_54 : decode b_M_make 54 = .ok (.aload_n 0, 1) := by decide +kernel
theorem d_M_make_55 : decode b_M_make 55 = .ok (.getfield 130, 3) := by decide +kernel
theorem d_M_make_58 : decode b_M_make 58 = .ok (.iload 5, 2) := by decide +kernel
theorem d_M_make_60 : decode b_M_make 60 = .ok (.iload 4, 2) := by decide +kernel
theorem d_M_make_62 : decode b_M_make 62 = .ok (.iastore, 1) := by decide +kernel
theorem d_M_make_63 : decode b_M_make 63 = .ok (.aload_n 0, 1) := by decide +kernel
theorem d_M_make_64 : decode b_M_make 64 = .ok (.getfield 133, 3) := by decide +kernel
theorem d_M_make_67 : decode b_M_make 67 = .ok (.iload 5, 2) := by decide +kernel
theorem d_M_make_69 : decode b_M_make 69 = .ok (.iconst 1, 1) := by decide +kernel
theorem d_M_make_70 : decode b_M_make 70 = .ok (.iastore, 1) := by decide +kernel
theorem d_M_make_71 : decode b_M_make 71 = .ok (.iload_n 3, 1) := by decide +kernel
theorem d_M_make_72 : decode b_M_make 72 = .ok (.istore 6, 2) := by decide +kernel
theorem d_M_make_74 : decode b_M_make 74 = .ok (.iload 6, 2) := by decide +kernel
theorem d_M_make_76 : decode b_M_make 76 = .ok (.ifCond .lt 58, 3) := by decide +kernel
theorem d_M_make_79 : decode b_M_make 79 = .ok (.aload_n 0, 1) := by decide +kernel
theorem d_M_make_80 : decode b_M_make 80 = .ok (.getfield 130, 3) := by decide +kernel
theorem d_M_make_83 : decode b_M_make 83 = .ok (.iload 5, 2) := by decide +kernel
theorem d_M_make_85 : decode b_M_make 85 = .ok (.dup2, 1) := by decide +kernel
theorem d_M_make_86 : decode b_M_make 86 = .ok (.iaload, 1) := by decide +kernel
theorem d_M_make_87 : decode b_M_make 87 = .ok (.aload_n 0, 1) := by decide +kernel
theorem d_M_make_88 : decode b_M_make 88 = .ok (.getfield 130, 3) := by decide +kernel
theorem d_M_make_91 : decode b_M_make 91 = .ok (.iload 6, 2) := by decide +kernel
theorem d_M_make_93 : decode b_M_make 93 = .ok (.iaload, 1) := by decide +kernel
theorem d_M_make_94 : decode b_M_make 94 = .ok (.iadd, 1) := by decide +kernel
theorem d_M_make_95 : decode b_M_make 95 = .ok (.iastore, 1) := by decide +kernel
theorem d_M_make_96 : decode b_M_make 96 = .ok (.aload_n 0, 1) := by decide +kernel
theorem d_M_make_97 : decode b_M_make 97 = .ok (.getfield 133, 3) := by decide +kernel
theorem d_M_make_100 : decode b_M_make 100 = .ok (.iload 5, 2) := by decide +kernel
theorem d_M_make_102 : decode b_M_make 102 = .ok (.aload_n 0, 1) := by decide +kernel
theorem d_M_make_103 : decode b_M_make 103 = .ok (.getfield 133, 3) := by decide +kernel
theorem d_M_make_106 : decode b_M_make 106 = .ok (.iload 5, 2) := by decide +kernel
theorem d_M_make_108 : decode b_M_make 108 = .ok (.iaload, 1) := by decide +kernel
theorem d_M_make_109 : decode b_M_make 109 = .ok (.aload_n 0, 1) := by decide +kernel
theorem d_M_make_110 : decode b_M_make 110 = .ok (.getfield 133, 3) := by decide +kernel
theorem d_M_make_113 : decode b_M_make 113 = .ok (.iload 6, 2) := by decide +kernel
theorem d_M_make_115 : decode b_M_make 115 = .ok (.iaload, 1) := by decide +kernel
theorem d_M_make_116 : decode b_M_make 116 = .ok (.iconst 1, 1) := by decide +kernel
theorem d_M_make_117 : decode b_M_make 117 = .ok (.iadd, 1) := by decide +kernel
theorem d_M_make_118 : decode b_M_make 118 = .ok (.invokestatic 415, 3) := by decide +kernel
theorem d_M_make_121 : decode b_M_make 121 = .ok (.iastore, 1) := by decide +kernel
theorem d_M_make_122 : decode b_M_make 122 = .ok (.aload_n 0, 1) := by decide +kernel
theorem d_M_make_123 : decode b_M_make 123 = .ok (.getfield 121, 3) := by decide +kernel
theorem d_M_make_126 : decode b_M_make 126 = .ok (.iload 6, 2) := by decide +kernel
theorem d_M_make_128 : decode b_M_make 128 = .ok (.iaload, 1) := by decide +kernel
theorem d_M_make_129 : decode b_M_make 129 = .ok (.istore 6, 2) := by decide +kernel
theorem d_M_make_131 : decode b_M_make 131 = .ok (.goto (-57), 3) := by decide +kernel
theorem d_M_make_134 : decode b_M_make 134 = .ok (.aload_n 0, 1) := by decide +kernel
theorem d_M_make_135 : decode b_M_make 135 = .ok (.getfield 133, 3) := by decide +kernel
theorem d_M_make_138 : decode b_M_make 138 = .ok (.iload 5, 2) := by decide +kernel
theorem d_M_make_140 : decode b_M_make 140 = .ok (.iaload, 1) := by decide +kernel
theorem d_M_make_141 : decode b_M_make 141 = .ok (.sipush 200, 3) := by decide +kernel
theorem d_M_make_144 : decode b_M_make 144 = .ok (.if_icmp .le 21, 3) := by decide +kernel
theorem d_M_make_147 : decode b_M_make 147 = .ok (.aload_n 0, 1) := by decide +kernel
theorem d_M_make_148 : decode b_M_make 148 = .ok (.invokevirtual 292, 3) := by decide +kernel
theorem d_M_make_151 : decode b_M_make 151 = .ok (.pop, 1) := by decide +kernel
theorem d_M_make_152 : decode b_M_make 152 = .ok (.new 296, 3) := by decide +kernel
theorem d_M_make_155 : decode b_M_make 155 = .ok (.dup, 1) := by decide +kernel
theorem d_M_make_156 : decode b_M_make 156 = .ok (.iconst 3, 1) := by decide +kernel
theorem d_M_make_157 : decode b_M_make 157 = .ok (.aload_n 0, 1) := by decide +kernel
theorem d_M_make_158 : decode b_M_make 158 = .ok (.getfield 33, 3) := by decide +kernel
theorem d_M_make_161 : decode b_M_make 161 = .ok (.invokespecial 298, 3) := by decide +kernel
theorem d_M_make_164 : decode b_M_make 164 = .ok (.athrow, 1) := by decide +kernel
theorem d_M_make_165 : decode b_M_make 165 = .ok (.iload_n 1, 1) := by decide +kernel
theorem d_M_make_166 : decode b_M_make 166 = .ok (.bipush 24, 2) := by decide +kernel
theorem d_M_make_168 : decode b_M_make 168 = .ok (.if_icmp .eq 14, 3) := by decide +kernel
theorem d_M_make_171 : decode b_M_make 171 = .ok (.iload_n 1, 1) := by decide +kernel
theorem d_M_make_172 : decode b_M_make 172 = .ok (.iconst 5, 1) := by decide +kernel
theorem d_M_make_173 : decode b_M_make 173 = .ok (.if_icmp .eq 9, 3) := by decide +kernel
theorem d_M_make_176 : decode b_M_make 176 = .ok (.iload_n 1, 1) := by decide +kernel
theorem d_M_make_177 : decode b_M_make 177 = .ok (.bipush 25, 2) := by decide +kernel
theorem d_M_make_179 : decode b_M_make 179 = .ok (.if_icmp .ne 24, 3) := by decide +kernel
theorem d_M_make_182 : decode b_M_make 182 = .ok (.aload_n 0, 1) := by decide +kernel
theorem d_M_make_183 : decode b_M_make 183 = .ok (.getfield 127, 3) := by decide +kernel
theorem d_M_make_186 : decode b_M_make 186 = .ok (.iload 5, 2) := by decide +kernel
theorem d_M_make_188 : decode b_M_make 188 = .ok (.aload_n 0, 1) := by decide +kernel
theorem d_M_make_189 : decode b_M_make 189 = .ok (.getfield 65, 3) := by decide +kernel
theorem d_M_make_192 : decode b_M_make 192 = .ok (.aload_n 0, 1) := by decide +kernel
theorem d_M_make_193 : decode b_M_make 193 = .ok (.getfield 68, 3) := by decide +kernel
theorem d_M_make_196 : decode b_M_make 196 = .ok (.dup2, 1) := by decide +kernel
theorem d_M_make_197 : decode b_M_make 197 = .ok (.iaload, 1) := by decide +kernel
theorem d_M_make_198 : decode b_M_make 198 = .ok (.dup_x2, 1) := by decide +kernel
theorem d_M_make_199 : decode b_M_make 199 = .ok (.iconst 1, 1) := by decide +kernel
theorem d_M_make_200 : decode b_M_make 200 = .ok (.iadd, 1) := by decide +kernel
theorem d_M_make_201 : decode b_M_make 201 = .ok (.iastore, 1) := by decide +kernel
theorem d_M_make_202 : decode b_M_make 202 = .ok (.iastore, 1) := by decide +kernel
theorem d_M_make_203 : decode b_M_make 203 = .ok (.iload_n 1, 1) := by decide +kernel
theorem d_M_make_204 : decode b_M_make 204 = .ok (.bipush 6, 2) := by decide +kernel
theorem d_M_make_206 : decode b_M_make 206 = .ok (.if_icmp .ne 32, 3) := by decide +kernel
theorem d_M_make_209 : decode b_M_make 209 = .ok (.aload_n 0, 1) := by decide +kernel
theorem d_M_make_210 : decode b_M_make 210 = .ok (.getfield 127, 3) := by decide +kernel
theorem d_M_make_213 : decode b_M_make 213 = .ok (.iload 5, 2) := by decide +kernel
theorem d_M_make_215 : decode b_M_make 215 = .ok (.aload_n 0, 1) := by decide +kernel
theorem d_M_make_216 : decode b_M_make 216 = .ok (.getfield 65, 3) := by decide +kernel
theorem d_M_make_219 : decode b_M_make 219 = .ok (.aload_n 0, 1) := by decide +kernel
theorem d_M_make_220 : decode b_M_make 220 = .ok (.getfield 68, 3) := by decide +kernel
theorem d_M_make_223 : decode b_M_make 223 = .ok (.iaload, 1) := by decide +kernel
theorem d_M_make_224 : decode b_M_make 224 = .ok (.iastore, 1) := by decide +kernel
theorem d_M_make_225 : decode b_M_make 225 = .ok (.aload_n 0, 1) := by decide +kernel
theorem d_M_make_226 : decode b_M_make 226 = .ok (.getfield 65, 3) := by decide +kernel
theorem d_M_make_229 : decode b_M_make 229 = .ok (.aload_n 0, 1) := by decide +kernel
theorem d_M_make_230 : decode b_M_make 230 = .ok (.getfield 68, 3) := by decide +kernel
theorem d_M_make_233 : decode b_M_make 233 = .ok (.dup2, 1) := by decide +kernel
theorem d_M_make_234 : decode b_M_make 234 = .ok (.iaload, 1) := by decide +kernel
theorem d_M_make_235 : decode b_M_make 235 = .ok (.iconst 2, 1) := by decide +kernel
theorem d_M_make_236 : decode b_M_make 236 = .ok (.iadd, 1) := by decide +kernel
theorem d_M_make_237 : decode b_M_make 237 = .ok (.iastore, 1) := by decide +kernel
theorem d_M_make_238 : decode b_M_make 238 = .ok (.iload 5, 2) := by decide +kernel
theorem d_M_make_240 : decode b_M_make 240 = .ok (.ireturn, 1) := by decide +kernel
abbrev mt_M_make : MT := (R_M, b_M_make, 7, some .int)
theorem vf_M_make : VF y_M_make mt_M_make 12 4 := ⟨im_M_make, se_M_make, in_M, co_M_make, by decide +kernel, _, _, rfl⟩
def f_M_make_b203 (γ : St) (x1 : Int) (x2 : Int) : Option Res :=
  if x1 ≠ 6 then
  (some (.inr x2, γ))
  else
  (chk (inb (γ 0 18) 60) (chk (inb x2 66000) (ap (setA γ 25 x2 (γ 9 (γ 0 18))) fun γ7 =>
  chk (inb (γ7 0 18) 60) (chk (i32 ((γ7 9 (γ7 0 18)) + 2)) (chk (inb (γ7 0 18) 60) (ap (setA γ7 9 (γ7 0 18) ((γ7 9 (γ7 0 18)) + 2)) fun γ12 =>
  some (.inr x2, γ12)))))))
def f_M_make_b182 (γ : St) (x13 : Int) (x14 : Int) : Option Res :=
  chk (inb (γ 0 18) 60) (chk (i32 ((γ 9 (γ 0 18)) + 1)) (chk (inb (γ 0 18) 60) (ap (setA γ 9 (γ 0 18) ((γ 9 (γ 0 18)) + 1)) fun γ20 =>
  chk (inb x14 66000) (ap (setA γ20 25 x14 (γ 9 (γ 0 18))) fun γ21 =>
  f_M_make_b203 γ21 x13 x14))))
def f_M_make_b134 (γ : St) (x22 : Int) (x23 : Int) : Option Res :=
  chk (inb x23 66000) (if (γ 27 x23) ≤ 200 then
  (if x22 = 24 then
  (f_M_make_b182 γ x22 x23)
  else
  (if x22 = 5 then
  (f_M_make_b182 γ x22 x23)
  else
  (if x22 ≠ 25 then
  (f_M_make_b203 γ x22 x23)
  else
  (f_M_make_b182 γ x22 x23))))
  else
  (bndN (f_M_peek γ) fun r26 γ27 =>
  some (.inl (3, γ27 0 7), γ27)))
def f_M_make_L74 (x134 : St → Int → Int → Option Res) : Nat → St → Int → Int → Int → Option Res
  | 0, _, _, _, _ => none
  | n + 1, γ, x29, x30, x31 =>
  if x31 < 0 then
  (x134 γ x29 x30)
  else
  (chk (inb x30 66000) (chk (inb x31 66000) (chk (i32 ((γ 26 x30) + (γ 26 x31))) (chk (inb x30 66000) (ap (setA γ 26 x30 ((γ 26 x30) + (γ 26 x31))) fun γ37 =>
  chk (inb x30 66000) (chk (inb x31 66000) (chk (i32 ((γ37 27 x31) + 1)) (chk (inb x30 66000) (ap (setA γ37 27 x30 (max (γ37 27 x30) ((γ37 27 x31) + 1))) fun γ44 =>
  chk (inb x31 66000) (ap (γ44 23 x31) fun x47 =>
  (f_M_make_L74 x134 n) γ44 x29 x30 x47))))))))))
def f_M_make (γ : St) (a0 : Int) (a1 : Int) (a2 : Int) (a3 : Int) : Option Res :=
  chk (i32 ((γ 0 40) + 1)) (ap (setA γ 0 40 ((γ 0 40) + 1)) fun γ52 =>
  ap (γ 0 40) fun x53 =>
  chk (inb x53 66000) (ap (setA γ52 20 x53 a0) fun γ55 =>
  chk (inb x53 66000) (ap (setA γ55 21 x53 a1) fun γ57 =>
  chk (inb x53 66000) (ap (setA γ57 22 x53 a2) fun γ59 =>
  chk (inb x53 66000) (ap (setA γ59 23 x53 (-1)) fun γ61 =>
  chk (inb x53 66000) (ap (setA γ61 24 x53 (-2)) fun γ63 =>
  chk (inb x53 66000) (ap (setA γ63 26 x53 a3) fun γ65 =>
  chk (inb x53 66000) (ap (setA γ65 27 x53 1) fun γ67 =>
  f_M_make_L74 (f_M_make_b134) FU γ67 a0 x53 a2))))))))
set_option maxHeartbeats 4000000 in
theorem s_M_make_b203 {Γ : Ctx} : ∀ (γ : St) (x1 : Int) (x2 : Int), i32 x1 → i32 x2 → SB Γ BM mt_M_make (RmT 9 303) 0 0 (KT Γ BM mt_M_make.2.2.2) 203 [(0, vR Γ 0), (1, vI x1), (5, vI x2)] [] γ (f_M_make_b203 γ x1 x2) := by
  intro γ x1 x2 hx1 hx2
  unfold f_M_make_b203
  refine sb_iload_n 1 d_M_make_203 rfl ?_
  refine sb_bipush d_M_make_204 (by decide) ?_
  refine sb_icmp_ne 238 hx1 (by decide) d_M_make_206 (by decide) (fun _ => ?_) (fun _ => ?_)
  · refine sb_iload 2 d_M_make_238 rfl ?_
    exact st_i rfl hx2 d_M_make_240
  · refine sb_aload_n 0 d_M_make_209 rfl ?_
    refine g_M_127 d_M_make_210 ?_
    refine sb_iload 2 d_M_make_213 rfl ?_
    refine sb_aload_n 0 d_M_make_215 rfl ?_
    refine g_M_65 d_M_make_216 ?_
    refine sb_aload_n 0 d_M_make_219 rfl ?_
    refine g_M_68 d_M_make_220 (fun c5 => ?_)
    refine al_M_9 d_M_make_223 (fun _ c6 => ?_)
    refine as_M_25 c6 d_M_make_224 (fun _ => ?_)
    refine sb_aps (fun γ7 => ?_)
    refine sb_aload_n 0 d_M_make_225 rfl ?_
    refine g_M_65 d_M_make_226 ?_
    refine sb_aload_n 0 d_M_make_229 rfl ?_
    refine g_M_68 d_M_make_230 (fun c9 => ?_)
    refine sb_dup2 d_M_make_233 rfl rfl ?_
    refine al_M_9 d_M_make_234 (fun _ c10 => ?_)
    refine sb_iconst d_M_make_235 ?_
    refine sb_iadd d_M_make_236 ?_
    refine sb_chk (fun c11 => ?_)
    refine as_M_9 c11 d_M_make_237 (fun _ => ?_)
    refine sb_aps (fun γ12 => ?_)
    refine sb_iload 2 d_M_make_238 rfl ?_
    exact st_i rfl hx2 d_M_make_240
set_option maxHeartbeats 4000000 in
theorem s_M_make_b182 {Γ : Ctx} : ∀ (γ : St) (x13 : Int) (x14 : Int), i32 x13 → i32 x14 → SB Γ BM mt_M_make (RmT 9 303) 0 0 (KT Γ BM mt_M_make.2.2.2) 182 [(0, vR Γ 0), (1, vI x13), (5, vI x14)] [] γ (f_M_make_b182 γ x13 x14) := by
  intro γ x13 x14 hx13 hx14
  unfold f_M_make_b182
  refine sb_aload_n 0 d_M_make_182 rfl ?_
  refine g_M_127 d_M_make_183 ?_
  refine sb_iload 2 d_M_make_186 rfl ?_
  refine sb_aload_n 0 d_M_make_188 rfl ?_
  refine g_M_65 d_M_make_189 ?_
  refine sb_aload_n 0 d_M_make_192 rfl ?_
  refine g_M_68 d_M_make_193 (fun c17 => ?_)
  refine sb_dup2 d_M_make_196 rfl rfl ?_
  refine al_M_9 d_M_make_197 (fun _ c18 => ?_)
  refine sb_dup_x2 d_M_make_198 rfl rfl rfl ?_
  refine sb_iconst d_M_make_199 ?_
  refine sb_iadd d_M_make_200 ?_
  refine sb_chk (fun c19 => ?_)
  refine as_M_9 c19 d_M_make_201 (fun _ => ?_)
  refine sb_aps (fun γ20 => ?_)
  refine as_M_25 c18 d_M_make_202 (fun _ => ?_)
  refine sb_aps (fun γ21 => ?_)
  exact sb_lv [0, 1, 2] rfl (s_M_make_b203 γ21 x13 x14 hx13 hx14)
set_option maxHeartbeats 4000000 in
theorem s_M_make_b134 {Γ : Ctx} : ∀ (γ : St) (x22 : Int) (x23 : Int), i32 x22 → i32 x23 → SB Γ BM mt_M_make (RmT 9 303) 0 0 (KT Γ BM mt_M_make.2.2.2) 134 [(0, vR Γ 0), (1, vI x22), (5, vI x23)] [] γ (f_M_make_b134 γ x22 x23) := by
  intro γ x22 x23 hx22 hx23
  unfold f_M_make_b134
  refine sb_aload_n 0 d_M_make_134 rfl ?_
  refine g_M_133 d_M_make_135 ?_
  refine sb_iload 2 d_M_make_138 rfl ?_
  refine al_M_27 d_M_make_140 (fun _ c25 => ?_)
  refine sb_sipush d_M_make_141 (by decide) ?_
  refine sb_icmp_le 165 c25 (by decide) d_M_make_144 (by decide) (fun _ => ?_) (fun _ => ?_)
  · refine sb_iload_n 1 d_M_make_165 rfl ?_
    refine sb_bipush d_M_make_166 (by decide) ?_
    refine sb_icmp_eq 182 hx22 (by decide) d_M_make_168 (by decide) (fun _ => ?_) (fun _ => ?_)
    · exact sb_lv [0, 1, 2] rfl (s_M_make_b182 γ x22 x23 hx22 hx23)
    · refine sb_iload_n 1 d_M_make_171 rfl ?_
      refine sb_iconst d_M_make_172 ?_
      refine sb_icmp_eq 182 hx22 (by decide) d_M_make_173 (by decide) (fun _ => ?_) (fun _ => ?_)
      · exact sb_lv [0, 1, 2] rfl (s_M_make_b182 γ x22 x23 hx22 hx23)
      · refine sb_iload_n 1 d_M_make_176 rfl ?_
        refine sb_bipush d_M_make_177 (by decide) ?_
        refine sb_icmp_ne 203 hx22 (by decide) d_M_make_179 (by decide) (fun _ => ?_) (fun _ => ?_)
        · exact sb_lv [0, 1, 2] rfl (s_M_make_b203 γ x22 x23 hx22 hx23)
        · exact sb_lv [0, 1, 2] rfl (s_M_make_b182 γ x22 x23 hx22 hx23)
  · refine sb_aload_n 0 d_M_make_147 rfl ?_
    refine sb_cVi vf_M_peek (c_M_peek γ  ) rfl ml_M_292 (As := []) rfl rfl (Nat.le_of_ble_eq_true rfl) ⟨by decide, by decide⟩ d_M_make_148 (fun r26 γ27 hr26 => ?_)
    refine sb_pop d_M_make_151 rfl ?_
    refine sb_bd (j := 0) (i := 7) rfl (fun c28 => ?_)
    exact sb_thr rfl d_M_make_152 d_M_make_155 (pu_iconst d_M_make_156) (pu_fld kf_M 0 7 rfl rfl rfl (by decide) fl_M_33 d_M_make_157 d_M_make_158) d_M_make_161 d_M_make_164 (by decide) c28 ⟨by decide, by decide⟩
set_option maxHeartbeats 4000000 in
theorem s_M_make_L74 {Γ : Ctx} {x134 : St → Int → Int → Option Res} (hx134 : ∀ (γ : St) (x48 : Int) (x49 : Int), i32 x48 → i32 x49 → SB Γ BM mt_M_make (RmT 9 303) 0 0 (KT Γ BM mt_M_make.2.2.2) 134 [(0, vR Γ 0), (1, vI x48), (5, vI x49)] [] γ (x134 γ x48 x49)) : ∀ (n : Nat) (γ : St) (x29 : Int) (x30 : Int) (x31 : Int), i32 x29 → i32 x30 → i32 x31 → SB Γ BM mt_M_make (RmT 9 303) 0 0 (KT Γ BM mt_M_make.2.2.2) 74 [(0, vR Γ 0), (1, vI x29), (5, vI x30), (6, vI x31)] [] γ (f_M_make_L74 x134 n γ x29 x30 x31) := by
  intro n
  induction n with
  | zero => intros; exact sb_none
  | succ n ih =>
    intro γ x29 x30 x31 hx29 hx30 hx31
    unfold f_M_make_L74
    refine sb_iload 3 d_M_make_74 rfl ?_
    refine sb_if_lt 134 hx31 d_M_make_76 (by decide) (fun _ => ?_) (fun _ => ?_)
    · exact sb_lv [0, 1, 2] rfl (hx134 γ x29 x30 hx29 hx30)
    · refine sb_aload_n 0 d_M_make_79 rfl ?_
      refine g_M_130 d_M_make_80 ?_
      refine sb_iload 2 d_M_make_83 rfl ?_
      refine sb_dup2 d_M_make_85 rfl rfl ?_
      refine al_M_26 d_M_make_86 (fun _ c33 => ?_)
      refine sb_aload_n 0 d_M_make_87 rfl ?_
      refine g_M_130 d_M_make_88 ?_
      refine sb_iload 3 d_M_make_91 rfl ?_
      refine al_M_26 d_M_make_93 (fun _ c35 => ?_)
      refine sb_iadd d_M_make_94 ?_
      refine sb_chk (fun c36 => ?_)
      refine as_M_26 c36 d_M_make_95 (fun _ => ?_)
      refine sb_aps (fun γ37 => ?_)
      refine sb_aload_n 0 d_M_make_96 rfl ?_
      refine g_M_133 d_M_make_97 ?_
      refine sb_iload 2 d_M_make_100 rfl ?_
      refine sb_aload_n 0 d_M_make_102 rfl ?_
      refine g_M_133 d_M_make_103 ?_
      refine sb_iload 2 d_M_make_106 rfl ?_
      refine al_M_27 d_M_make_108 (fun _ c40 => ?_)
      refine sb_aload_n 0 d_M_make_109 rfl ?_
      refine g_M_133 d_M_make_110 ?_
      refine sb_iload 3 d_M_make_113 rfl ?_
      refine al_M_27 d_M_make_115 (fun _ c42 => ?_)
      refine sb_iconst d_M_make_116 ?_
      refine sb_iadd d_M_make_117 ?_
      refine sb_chk (fun c43 => ?_)
      refine sb_mmax c40 c43 ml_M_415 sm_java_lang_Math_max in_java_lang_Math co_java_lang_Math_max ⟨by first | decide | (simp only [RmT, RmN]; omega), by first | exact Nat.le_of_ble_eq_true rfl | (simp [RmT, RmN, Value.category] <;> omega)⟩ d_M_make_118 ?_
      refine as_M_27 ((mm_b c40 c43).1) d_M_make_121 (fun _ => ?_)
      refine sb_aps (fun γ44 => ?_)
      refine sb_aload_n 0 d_M_make_122 rfl ?_
      refine g_M_121 d_M_make_123 ?_
      refine sb_iload 3 d_M_make_126 rfl ?_
      refine al_M_23 d_M_make_128 (fun _ c46 => ?_)
      refine sb_istore [(6, vI (γ44 23 x31)), (0, vR Γ 0), (1, vI x29), (5, vI x30)] d_M_make_129 (by decide) rfl ?_
      refine sb_nme (e := γ44 23 x31) (fun x47 => [(6, vI x47), (0, vR Γ 0), (1, vI x29), (5, vI x30)]) c46 (fun x47 hx47 => ?_)
      refine sb_goto 74 d_M_make_131 (by decide) ?_
      exact sb_lv [1, 2, 3, 0] rfl (ih γ44 x29 x30 x47 hx29 hx30 hx47)
set_option maxHeartbeats 4000000 in
theorem c_M_make {Γ : Ctx} (γ : St) (a0 : Int) (a1 : Int) (a2 : Int) (a3 : Int) (ha0 : i32 a0) (ha1 : i32 a1) (ha2 : i32 a2) (ha3 : i32 a3) : TC Γ BM y_M_make mt_M_make 9 303 [vR Γ 0, vI a0, vI a1, vI a2, vI a3] γ (f_M_make γ a0 a1 a2 a3) := by
  refine tc_of (by decide) rfl (Nat.le_of_ble_eq_true rfl) ?_
  show SB Γ BM mt_M_make (RmT 9 303) 0 0 (KT Γ BM mt_M_make.2.2.2) 0 [(0, vR Γ 0), (1, vI a0), (2, vI a1), (3, vI a2), (4, vI a3)] [] γ _
  unfold f_M_make
  refine sb_aload_n 0 d_M_make_0 rfl ?_
  refine sb_dup d_M_make_1 rfl ?_
  refine g_M_136 d_M_make_2 (fun c50 => ?_)
  refine sb_dup_x1 d_M_make_5 rfl rfl ?_
  refine sb_iconst d_M_make_6 ?_
  refine sb_iadd d_M_make_7 ?_
  refine sb_chk (fun c51 => ?_)
  refine p_M_136 c51 d_M_make_8 ?_
  refine sb_aps (fun γ52 => ?_)
  refine sb_istore [(5, vI (γ 0 40)), (0, vR Γ 0), (1, vI a0), (2, vI a1), (3, vI a2), (4, vI a3)] d_M_make_11 (by decide) rfl ?_
  refine sb_nme (e := γ 0 40) (fun x53 => [(5, vI x53), (0, vR Γ 0), (1, vI a0), (2, vI a1), (3, vI a2), (4, vI a3)]) c50 (fun x53 hx53 => ?_)
  refine sb_aload_n 1 d_M_make_13 rfl ?_
  refine g_M_112 d_M_make_14 ?_
  refine sb_iload 0 d_M_make_17 rfl ?_
  refine sb_iload_n 2 d_M_make_19 rfl ?_
  refine as_M_20 ha0 d_M_make_20 (fun _ => ?_)
  refine sb_aps (fun γ55 => ?_)
  refine sb_aload_n 1 d_M_make_21 rfl ?_
  refine g_M_115 d_M_make_22 ?_
  refine sb_iload 0 d_M_make_25 rfl ?_
  refine sb_iload_n 3 d_M_make_27 rfl ?_
  refine as_M_21 ha1 d_M_make_28 (fun _ => ?_)
  refine sb_aps (fun γ57 => ?_)
  refine sb_aload_n 1 d_M_make_29 rfl ?_
  refine g_M_118 d_M_make_30 ?_
  refine sb_iload 0 d_M_make_33 rfl ?_
  refine sb_iload_n 4 d_M_make_35 rfl ?_
  refine as_M_22 ha2 d_M_make_36 (fun _ => ?_)
  refine sb_aps (fun γ59 => ?_)
  refine sb_aload_n 1 d_M_make_37 rfl ?_
  refine g_M_121 d_M_make_38 ?_
  refine sb_iload 0 d_M_make_41 rfl ?_
  refine sb_iconst d_M_make_43 ?_
  refine as_M_23 (by decide) d_M_make_44 (fun _ => ?_)
  refine sb_aps (fun γ61 => ?_)
  refine sb_aload_n 1 d_M_make_45 rfl ?_
  refine g_M_124 d_M_make_46 ?_
  refine sb_iload 0 d_M_make_49 rfl ?_
  refine sb_bipush d_M_make_51 (by decide) ?_
  refine as_M_24 (by decide) d_M_make_53 (fun _ => ?_)
  refine sb_aps (fun γ63 => ?_)
  refine sb_aload_n 1 d_M_make_54 rfl ?_
  refine g_M_130 d_M_make_55 ?_
  refine sb_iload 0 d_M_make_58 rfl ?_
  refine sb_iload 5 d_M_make_60 rfl ?_
  refine as_M_26 ha3 d_M_make_62 (fun _ => ?_)
  refine sb_aps (fun γ65 => ?_)
  refine sb_aload_n 1 d_M_make_63 rfl ?_
  refine g_M_133 d_M_make_64 ?_
  refine sb_iload 0 d_M_make_67 rfl ?_
  refine sb_iconst d_M_make_69 ?_
  refine as_M_27 (by decide) d_M_make_70 (fun _ => ?_)
  refine sb_aps (fun γ67 => ?_)
  refine sb_iload_n 4 d_M_make_71 rfl ?_
  refine sb_istore [(6, vI a2), (5, vI x53), (0, vR Γ 0), (1, vI a0), (2, vI a1), (3, vI a2), (4, vI a3)] d_M_make_72 (by decide) rfl ?_
  exact sb_lv [2, 3, 1, 0] rfl (s_M_make_L74 (s_M_make_b134) FU γ67 a0 x53 a2 ha0 hx53 ha2)
theorem d_M_two_0 : decode b_M_two 0 = .ok (.aload_n 0, 1) := by decide +kernel
theorem d_M_two_1 : decode b_M_two 1 = .ok (.getfield 121, 3) := by decide +kernel
theorem d_M_two_4 : decode b_M_two 4 = .ok (.iload_n 2, 1) := by decide +kernel
theorem d_M_two_5 : decode b_M_two 5 = .ok (.iload_n 3, 1) := by decide +kernel
theorem d_M_two_6 : decode b_M_two 6 = .ok (.iastore, 1) := by decide +kernel
theorem d_M_two_7 : decode b_M_two 7 = .ok (.aload_n 0, 1) := by decide +kernel
theorem d_M_two_8 : decode b_M_two 8 = .ok (.iload_n 1, 1) := by decide +kernel
theorem d_M_two_9 : decode b_M_two 9 = .ok (.iconst 0, 1) := by decide +kernel
theorem d_M_two_10 : decode b_M_two 10 = .ok (.iload_n 2, 1) := by decide +kernel
theorem d_M_two_11 : decode b_M_two 11 = .ok (.iconst 1, 1) := by decide +kernel
theorem d_M_two_12 : decode b_M_two 12 = .ok (.invokevirtual 420, 3) := by decide +kernel
theorem d_M_two_15 : decode b_M_two 15 = .ok (.ireturn, 1) := by decide +kernel
abbrev mt_M_two : MT := (R_M, b_M_two, 4, some .int)
theorem vf_M_two : VF y_M_two mt_M_two 12 3 := ⟨im_M_two, se_M_two, in_M, co_M_two, by decide +kernel, _, _, rfl⟩
def f_M_two (γ : St) (a0 : Int) (a1 : Int) (a2 : Int) : Option Res :=
  chk (inb a1 66000) (ap (setA γ 23 a1 a2) fun γ2 =>
  bndT (f_M_make γ2 a0 0 a1 1) fun r3 γ4 =>
  some (.inr r3, γ4))
set_option maxHeartbeats 4000000 in
theorem c_M_two {Γ : Ctx} (γ : St) (a0 : Int) (a1 : Int) (a2 : Int) (ha0 : i32 a0) (ha1 : i32 a1) (ha2 : i32 a2) : TC Γ BM y_M_two mt_M_two 10 329 [vR Γ 0, vI a0, vI a1, vI a2] γ (f_M_two γ a0 a1 a2) := by
  refine tc_of (by decide) rfl (Nat.le_of_ble_eq_true rfl) ?_
  show SB Γ BM mt_M_two (RmT 10 329) 0 0 (KT Γ BM mt_M_two.2.2.2) 0 [(0, vR Γ 0), (1, vI a0), (2, vI a1), (3, vI a2)] [] γ _
  unfold f_M_two
  refine sb_aload_n 0 d_M_two_0 rfl ?_
  refine g_M_121 d_M_two_1 ?_
  refine sb_iload_n 2 d_M_two_4 rfl ?_
  refine sb_iload_n 3 d_M_two_5 rfl ?_
  refine as_M_23 ha2 d_M_two_6 (fun _ => ?_)
  refine sb_aps (fun γ2 => ?_)
  refine sb_aload_n 0 d_M_two_7 rfl ?_
  refine sb_iload_n 1 d_M_two_8 rfl ?_
  refine sb_iconst d_M_two_9 ?_
  refine sb_iload_n 2 d_M_two_10 rfl ?_
  refine sb_iconst d_M_two_11 ?_
  refine sb_cTi vf_M_make (c_M_make γ2 a0 0 a1 1 ha0 (by decide) ha1 (by decide)) rfl ml_M_420 (As := [vI a0, vI 0, vI a1, vI 1]) rfl rfl (Nat.le_of_ble_eq_true rfl) ⟨by decide, by decide⟩ d_M_two_12 (fun r3 γ4 hr3 => ?_)
  exact st_i rfl hr3 d_M_two_15
