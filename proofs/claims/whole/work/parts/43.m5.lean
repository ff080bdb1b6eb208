/-! the reference as functions: equations, types, clocks, nodes -/
theorem d_M_equation_0 : decode b_M_equation 0 = .ok (.aload_n 0, 1) := by decide +kernel
theorem d_M_equation_1 : decode b_M_equation 1 = .ok (.invokevirtual 292, 3) := by decide +kernel
theorem d_M_equation_4 : decode b_M_equation 4 = .ok (.pop, 1) := by decide +kernel
theorem d_M_equation_5 : decode b_M_equation 5 = .ok (.aload_n 0, 1) := by decide +kernel
theorem d_M_equation_6 : decode b_M_equation 6 = .ok (.getfield 90, 3) := by decide +kernel
theorem d_M_equation_9 : decode b_M_equation 9 = .ok (.aload_n 0, 1) := by decide +kernel
theorem d_M_equation_10 : decode b_M_equation 10 = .ok (.getfield 106, 3) := by decide +kernel
theorem d_M_equation_13 : decode b_M_equation 13 = .ok (.aload_n 0, 1) := by decide +kernel
theorem d_M_equation_14 : decode b_M_equation 14 = .ok (.getfield 33, 3) := by decide +kernel
theorem d_M_equation_17 : decode b_M_equation 17 = .ok (.iastore, 1) := by decide +kernel
theorem d_M_equation_18 : decode b_M_equation 18 = .ok (.aload_n 0, 1) := by decide +kernel
theorem d_M_equation_19 : decode b_M_equation 19 = .ok (.getfield 93, 3) := by decide +kernel
theorem d_M_equation_22 : decode b_M_equation 22 = .ok (.aload_n 0, 1) := by decide +kernel
theorem d_M_equation_23 : decode b_M_equation 23 = .ok (.getfield 106, 3) := by decide +kernel
theorem d_M_equation_26 : decode b_M_equation 26 = .ok (.aload_n 0, 1) := by decide +kernel
theorem d_M_equation_27 : decode b_M_equation 27 = .ok (.getfield 109, 3) := by decide +kernel
theorem d_M_equation_30 : decode b_M_equation 30 = .ok (.iastore, 1) := by decide +kernel
theorem d_M_equation_31 : decode b_M_equation 31 = .ok (.aload_n 0, 1) := by decide +kernel
theorem d_M_equation_32 : decode b_M_equation 32 = .ok (.getfield 103, 3) := by decide +kernel
theorem d_M_equation_35 : decode b_M_equation 35 = .ok (.aload_n 0, 1) := by decide +kernel
theorem d_M_equation_36 : decode b_M_equation 36 = .ok (.getfield 106, 3) := by decide +kernel
theorem d_M_equation_39 : decode b_M_equation 39 = .ok (.aload_n 0, 1) := by decide +kernel
theorem d_M_equation_40 : decode b_M_equation 40 = .ok (.getfield 136, 3) := by decide +kernel
theorem d_M_equation_43 : decode b_M_equation 43 = .ok (.iastore, 1) := by decide +kernel
theorem d_M_equation_44 : decode b_M_equation 44 = .ok (.aload_n 0, 1) := by decide +kernel
theorem d_M_equation_45 : decode b_M_equation 45 = .ok (.invokevirtual 292, 3) := by decide +kernel
theorem d_M_equation_48 : decode b_M_equation 48 = .ok (.bipush 40, 2) := by decide +kernel
theorem d_M_equation_50 : decode b_M_equation 50 = .ok (.if_icmp .eq 46, 3) := by decide +kernel
theorem d_M_equation_53 : decode b_M_equation 53 = .ok (.aload_n 0, 1) := by decide +kernel
theorem d_M_equation_54 : decode b_M_equation 54 = .ok (.getfield 100, 3) := by decide +kernel
theorem d_M_equation_57 : decode b_M_equation 57 = .ok (.aload_n 0, 1) := by decide +kernel
theorem d_M_equation_58 : decode b_M_equation 58 = .ok (.dup, 1) := by decide +kernel
theorem d_M_equation_59 : decode b_M_equation 59 = .ok (.getfield 109, 3) := by decide +kernel
theorem d_M_equation_62 : decode b_M_equation 62 = .ok (.dup_x1, 1) := by decide +kernel
theorem d_M_equation_63 : decode b_M_equation 63 = .ok (.iconst 1, 1) := by decide +kernel
theorem d_M_equation_64 : decode b_M_equation 64 = .ok (.iadd, 1) := by decide +kernel
theorem d_M_equation_65 : decode b_M_equation 65 = .ok (.putfield 109, 3) := by decide +kernel
theorem d_M_equation_68 : decode b_M_equation 68 = .ok (.aload_n 0, 1) := by decide +kernel
theorem d_M_equation_69 : decode b_M_equation 69 = .ok (.invokevirtual 406, 3) := by decide +kernel
theorem d_M_equation_72 : decode b_M_equation 72 = .ok (.iastore, 1) := by decide +kernel
theorem d_M_equation_73 : decode b_M_equation 73 = .ok (.aload_n 0, 1) := by decide +kernel
theorem d_M_equation_74 : decode b_M_equation 74 = .ok (.bipush 61, 2) := by decide +kernel
theorem d_M_equation_76 : decode b_M_equation 76 = .ok (.invokevirtual 379, 3) := by decide +kernel
theorem d_M_equation_79 : decode b_M_equation 79 = .ok (.aload_n 0, 1) := by decide +kernel
theorem d_M_equation_80 : decode b_M_equation 80 = .ok (.getfield 96, 3) := by decide +kernel
theorem d_M_equation_83 : decode b_M_equation 83 = .ok (.aload_n 0, 1) := by decide +kernel
theorem d_M_equation_84 : decode b_M_equation 84 = .ok (.getfield 106, 3) := by decide +kernel
theorem d_M_equation_87 : decode b_M_equation 87 = .ok (.aload_n 0, 1) := by decide +kernel
theorem d_M_equation_88 : decode b_M_equation 88 = .ok (.iconst 0, 1) := by decide +kernel
theorem d_M_equation_89 : decode b_M_equation 89 = .ok (.invokevirtual 409, 3) := by decide +kernel
theorem d_M_equation_92 : decode b_M_equation 92 = .ok (.iastore, 1) := by decide +kernel
theorem d_M_equation_93 : decode b_M_equation 93 = .ok (.goto 128, 3) := by decide +kernel
theorem d_M_equation_96 : decode b_M_equation 96 = .ok (.aload_n 0, 1) := by decide +kernel
theorem d_M_equation_97 : decode b_M_equation 97 = .ok (.invokevirtual 305, 3) := by decide +kernel
theorem d_M_equation_100 : decode b_M_equation 100 = .ok (.aload_n 0, 1) := by decide +kernel
theorem d_M_equation_101 : decode b_M_equation 101 = .ok (.getfield 100, 3) := by decide +kernel
theorem d_M_equation_104 : decode b_M_equation 104 = .ok (.aload_n 0, 1) := by decide +kernel
theorem d_M_equation_105 : decode b_M_equation 105 = .ok (.dup, 1) := by decide +kernel
theorem d_M_equation_106 : decode b_M_equation 106 = .ok (.getfield 109, 3) := by decide +kernel
theorem d_M_equation_109 : decode b_M_equation 109 = .ok (.dup_x1, 1) := by decide +kernel
theorem d_M_equation_110 : decode b_M_equation 110 = .ok (.iconst 1, 1) := by decide +kernel
theorem d_M_equation_111 : decode b_M_equation 111 = .ok (.iadd, 1) := by decide +kernel
theorem d_M_equation_112 : decode b_M_equation 112 = .ok (.putfield 109, 3) := by decide +kernel
theorem d_M_equation_115 : decode b_M_equation 115 = .ok (.aload_n 0, 1) := by decide +kernel
theorem d_M_equation_116 : decode b_M_equation 116 = .ok (.invokevirtual 406, 3) := by decide +kernel
theorem d_M_equation_119 : decode b_M_equation 119 = .ok (.iastore, 1) := by decide +kernel
theorem d_M_equation_120 : decode b_M_equation 120 = .ok (.aload_n 0, 1) := by decide +kernel
theorem d_M_equation_121 : decode b_M_equation 121 = .ok (.invokevirtual 292, 3) := by decide +kernel
theorem d_M_equation_124 : decode b_M_equation 124 = .ok (.bipush 44, 2) := by decide +kernel
theorem d_M_equation_126 : decode b_M_equation 126 = .ok (.if_icmp .ne 30, 3) := by decide +kernel
theorem d_M_equation_129 : decode b_M_equation 129 = .ok (.aload_n 0, 1) := by decide +kernel
theorem d_M_equation_130 : decode b_M_equation 130 = .ok (.invokevirtual 305, 3) := by decide +kernel
theorem d_M_equation_133 : decode b_M_equation 133 = .ok (.aload_n 0, 1) := by decide +kernel
theorem d_M_equation_134 : decode b_M_equation 134 = .ok (.getfield 100, 3) := by decide +kernel
theorem d_M_equation_137 : decode b_M_equation 137 = .ok (.aload_n 0, 1) := by decide +kernel
theorem d_M_equation_138 : decode b_M_equation 138 = .ok (.dup, 1) := by decide +kernel
theorem d_M_equation_139 : decode b_M_equation 139 = .ok (.getfield 109, 3) := by decide +kernel
theorem d_M_equation_142 : decode b_M_equation 142 = .ok (.dup_x1, 1) := by decide +kernel
theorem d_M_equation_143 : decode b_M_equation 143 = .ok (.iconst 1, 1) := by decide +kernel
theorem d_M_equation_144 : decode b_M_equation 144 = .ok (.iadd, 1) := by decide +kernel
theorem d_M_equation_145 : decode b_M_equation 145 = .ok (.putfield 109, 3) := by decide +kernel
theorem d_M_equation_148 : decode b_M_equation 148 = .ok (.aload_n 0, 1) := by decide +kernel
theorem d_M_equation_149 : decode b_M_equation 149 = .ok (.invokevirtual 406, 3) := by decide +kernel
theorem d_M_equation_152 : decode b_M_equation 152 = .ok (.iastore, 1) := by decide +kernel
theorem d_M_equation_153 : decode b_M_equation 153 = .ok (.goto (-33), 3) := by decide +kernel
theorem d_M_equation_156 : decode b_M_equation 156 = .ok (.aload_n 0, 1) := by decide +kernel
theorem d_M_equation_157 : decode b_M_equation 157 = .ok (.bipush 41, 2) := by decide +kernel
theorem d_M_equation_159 : decode b_M_equation 159 = .ok (.invokevirtual 379, 3) := by decide +kernel
theorem d_M_equation_162 : decode b_M_equation 162 = .ok (.aload_n 0, 1) := by decide +kernel
theorem d_M_equation_163 : decode b_M_equation 163 = .ok (.bipush 61, 2) := by decide +kernel
theorem d_M_equation_165 : decode b_M_equation 165 = .ok (.invokevirtual 379, 3) := by decide +kernel
theorem d_M_equation_168 : decode b_M_equation 168 = .ok (.aload_n 0, 1) := by decide +kernel
theorem d_M_equation_169 : decode b_M_equation 169 = .ok (.invokevirtual 373, 3) := by decide +kernel
theorem d_M_equation_172 : decode b_M_equation 172 = .ok (.ifCond .ne 8, 3) := by decide +kernel
theorem d_M_equation_175 : decode b_M_equation 175 = .ok (.aload_n 0, 1) := by decide +kernel
theorem d_M_equation_176 : decode b_M_equation 176 = .ok (.invokevirtual 301, 3) := by decide +kernel
theorem d_M_equation_179 : decode b_M_equation 179 = .ok (.athrow, 1) := by decide +kernel
theorem d_M_equation_180 : decode b_M_equation 180 = .ok (.aload_n 0, 1) := by decide +kernel
theorem d_M_equation_181 : decode b_M_equation 181 = .ok (.invokevirtual 394, 3) := by decide +kernel
theorem d_M_equation_184 : decode b_M_equation 184 = .ok (.istore_n 1, 1) := by decide +kernel
theorem d_M_equation_185 : decode b_M_equation 185 = .ok (.iload_n 1, 1) := by decide +kernel
theorem d_M_equation_186 : decode b_M_equation 186 = .ok (.ifCond .ge 16, 3) := by decide +kernel
theorem d_M_equation_189 : decode b_M_equation 189 = .ok (.new 296, 3) := by decide +kernel
theorem d_M_equation_192 : decode b_M_equation 192 = .ok (.dup, 1) := by decide +kernel
theorem d_M_equation_193 : decode b_M_equation 193 = .ok (.iconst 2, 1) := by decide +kernel
theorem d_M_equation_194 : decode b_M_equation 194 = .ok (.aload_n 0, 1) := by decide +kernel
theorem d_M_equation_195 : decode b_M_equation 195 = .ok (.getfield 33, 3) := by decide +kernel
theorem d_M_equation_198 : decode b_M_equation 198 = .ok (.invokespecial 298, 3) := by decide +kernel
theorem d_M_equation_201 : decode b_M_equation 201 = .ok (.athrow, 1) := by decide +kernel
theorem d_M_equation_202 : decode b_M_equation 202 = .ok (.aload_n 0, 1) := by decide +kernel
theorem d_M_equation_203 : decode b_M_equation 203 = .ok (.invokevirtual 305, 3) := by decide +kernel
theorem d_M_equation_206 : decode b_M_equation 206 = .ok (.aload_n 0, 1) := by decide +kernel
theorem d_M_equation_207 : decode b_M_equation 207 = .ok (.getfield 96, 3) := by decide +kernel
theorem d_M_equation_210 : decode b_M_equation 210 = .ok (.aload_n 0, 1) := by decide +kernel
theorem d_M_equation_211 : decode b_M_equation 211 = .ok (.getfield 106, 3) := by decide +kernel
theorem d_M_equation_214 : decode b_M_equation 214 = .ok (.aload_n 0, 1) := by decide +kernel
theorem d_M_equation_215 : decode b_M_equation 215 = .ok (.iload_n 1, 1) := by decide +kernel
theorem d_M_equation_216 : decode b_M_equation 216 = .ok (.iconst 0, 1) := by decide +kernel
theorem d_M_equation_217 : decode b_M_equation 217 = .ok (.invokevirtual 412, 3) := by decide +kernel
theorem d_M_equation_220 : decode b_M_equation 220 = .ok (.iastore, 1) := by decide +kernel
theorem d_M_equation_221 : decode b_M_equation 221 = .ok (.aload_n 0, 1) := by decide +kernel
theorem d_M_equation_222 : decode b_M_equation 222 = .ok (.bipush 59, 2) := by decide +kernel
theorem d_M_equation_224 : decode b_M_equation 224 = .ok (.invokevirtual 379, 3) := by decide +kernel
theorem d_M_equation_227 : decode b_M_equation 227 = .ok (.aload_n 0, 1) := by decide +kernel
theorem d_M_equation_228 : decode b_M_equation 228 = .ok (.dup, 1) := by decide +kernel
theorem d_M_equation_229 : decode b_M_equation 229 = .ok (.getfield 106, 3) := by decide +kernel
theorem d_M_equation_232 : decode b_M_equation 232 = .ok (.iconst 1, 1) := by decide +kernel
theorem d_M_equation_233 : decode b_M_equation 233 = .ok (.iadd, 1) := by decide +kernel
theorem d_M_equation_234 : decode b_M_equation 234 = .ok (.putfield 106, 3) := by decide +kernel
theorem d_M_equation_237 : decode b_M_equation 237 = .ok (.aload_n 0, 1) := by decide +kernel
theorem d_M_equation_238 : decode b_M_equation 238 = .ok (.getfield 93, 3) := by decide +kernel
theorem d_M_equation_241 : decode b_M_equation 241 = .ok (.aload_n 0, 1) := by decide +kernel
theorem d_M_equation_242 : decode b_M_equation 242 = .ok (.getfield 106, 3) := by decide +kernel
theorem d_M_equation_245 : decode b_M_equation 245 = .ok (.aload_n 0, 1) := by decide +kernel
theorem d_M_equation_246 : decode b_M_equation 246 = .ok (.getfield 109, 3) := by decide +kernel
theorem d_M_equation_249 : decode b_M_equation 249 = .ok (.iastore, 1) := by decide +kernel
theorem d_M_equation_250 : decode b_M_equation 250 = .ok (.return_, 1) := by decide +kernel
abbrev mt_M_equation : MT := (R_M, b_M_equation, 2, none)
theorem vf_M_equation : VF y_M_equation mt_M_equation 12 0 := ⟨im_M_equation, se_M_equation, in_M, co_M_equation, by decide +kernel, _, _, rfl⟩
def f_M_equation_b221 (γ : St) : Option Res :=
  bndT (f_M_must γ 59) fun _ γ2 =>
  chk (i32 ((γ2 0 30) + 1)) (ap (setA γ2 0 30 ((γ2 0 30) + 1)) fun γ5 =>
  chk (inb (γ5 0 30) 17001) (ap (setA γ5 16 (γ5 0 30) (γ5 0 31)) fun γ9 =>
  some (.inr 0, γ9)))
def f_M_equation_b156 (γ : St) : Option Res :=
  bndT (f_M_must γ 41) fun _ γ11 =>
  bndT (f_M_must γ11 61) fun _ γ13 =>
  bndN (f_M_nameHere γ13) fun r14 γ15 =>
  if r14 ≠ 0 then
  (bndN (f_M_nodeHere γ15) fun r16 γ17 =>
  if 0 ≤ r16 then
  (bndN (f_M_take γ17) fun _ γ19 =>
  bndT (F_M_call γ19 r16 0) fun r22 γ23 =>
  chk (inb (γ19 0 30) 17000) (ap (setA γ23 17 (γ19 0 30) r22) fun γ24 =>
  f_M_equation_b221 γ24 ))
  else
  (some (.inl (2, γ17 0 7), γ17)))
  else
  (bndN (f_M_cant γ15) fun p26 γ27 => some (.inl (1, p26), γ27))
def f_M_equation_L120 (x156 : St → Option Res) : Nat → St → Option Res
  | 0, _ => none
  | n + 1, γ =>
  bndN (f_M_peek γ) fun r28 γ29 =>
  if r28 ≠ 44 then
  (x156 γ29 )
  else
  (bndN (f_M_take γ29) fun _ γ31 =>
  chk (i32 ((γ31 0 31) + 1)) (ap (setA γ31 0 31 ((γ31 0 31) + 1)) fun γ35 =>
  bndT (f_M_left γ35) fun r36 γ37 =>
  chk (inb (γ31 0 31) 66000) (ap (setA γ37 18 (γ31 0 31) r36) fun γ38 =>
  (f_M_equation_L120 x156 n) γ38 )))
def f_M_equation (γ : St) : Option Res :=
  bndN (f_M_peek γ) fun r39 γ40 =>
  chk (inb (γ40 0 30) 17000) (ap (setA γ40 15 (γ40 0 30) (γ40 0 7)) fun γ44 =>
  chk (inb (γ44 0 30) 17001) (ap (setA γ44 16 (γ44 0 30) (γ44 0 31)) fun γ48 =>
  chk (inb (γ48 0 30) 17000) (ap (setA γ48 19 (γ48 0 30) (γ48 0 40)) fun γ52 =>
  bndN (f_M_peek γ52) fun r53 γ54 =>
  if r53 = 40 then
  (bndN (f_M_take γ54) fun _ γ56 =>
  chk (i32 ((γ56 0 31) + 1)) (ap (setA γ56 0 31 ((γ56 0 31) + 1)) fun γ60 =>
  bndT (f_M_left γ60) fun r61 γ62 =>
  chk (inb (γ56 0 31) 66000) (ap (setA γ62 18 (γ56 0 31) r61) fun γ63 =>
  f_M_equation_L120 (f_M_equation_b156) FU γ63 )))
  else
  (chk (i32 ((γ54 0 31) + 1)) (ap (setA γ54 0 31 ((γ54 0 31) + 1)) fun γ67 =>
  bndT (f_M_left γ67) fun r68 γ69 =>
  chk (inb (γ54 0 31) 66000) (ap (setA γ69 18 (γ54 0 31) r68) fun γ70 =>
  bndT (f_M_must γ70 61) fun _ γ72 =>
  bndT (F_M_expression γ72 0) fun r75 γ76 =>
  chk (inb (γ72 0 30) 17000) (ap (setA γ76 17 (γ72 0 30) r75) fun γ77 =>
  f_M_equation_b221 γ77 )))))))
set_option maxHeartbeats 4000000 in
theorem s_M_equation_b221 {Γ : Ctx} : ∀ (γ : St), SB Γ BM mt_M_equation (RmT 915 63486) 0 0 (KT Γ BM mt_M_equation.2.2.2) 221 [(0, vR Γ 0)] [] γ (f_M_equation_b221 γ ) := by
  intro γ
  unfold f_M_equation_b221
  refine sb_aload_n 0 d_M_equation_221 rfl ?_
  refine sb_bipush d_M_equation_222 (by decide) ?_
  refine sb_cTv vf_M_must (c_M_must γ 59 (by decide)) rfl ml_M_379 (As := [vI 59]) rfl rfl (Nat.le_of_ble_eq_true rfl) ⟨by decide, by decide⟩ d_M_equation_224 (fun _ γ2 => ?_)
  refine sb_aload_n 0 d_M_equation_227 rfl ?_
  refine sb_dup d_M_equation_228 rfl ?_
  refine g_M_106 d_M_equation_229 (fun c3 => ?_)
  refine sb_iconst d_M_equation_232 ?_
  refine sb_iadd d_M_equation_233 ?_
  refine sb_chk (fun c4 => ?_)
  refine p_M_106 c4 d_M_equation_234 ?_
  refine sb_aps (fun γ5 => ?_)
  refine sb_aload_n 0 d_M_equation_237 rfl ?_
  refine g_M_93 d_M_equation_238 ?_
  refine sb_aload_n 0 d_M_equation_241 rfl ?_
  refine g_M_106 d_M_equation_242 (fun c7 => ?_)
  refine sb_aload_n 0 d_M_equation_245 rfl ?_
  refine g_M_109 d_M_equation_246 (fun c8 => ?_)
  refine as_M_16 c8 d_M_equation_249 (fun _ => ?_)
  refine sb_aps (fun γ9 => ?_)
  exact st_v rfl d_M_equation_250
set_option maxHeartbeats 4000000 in
theorem s_M_equation_b156 {Γ : Ctx} : ∀ (γ : St), SB Γ BM mt_M_equation (RmT 915 63486) 0 0 (KT Γ BM mt_M_equation.2.2.2) 156 [(0, vR Γ 0)] [] γ (f_M_equation_b156 γ ) := by
  intro γ
  unfold f_M_equation_b156
  refine sb_aload_n 0 d_M_equation_156 rfl ?_
  refine sb_bipush d_M_equation_157 (by decide) ?_
  refine sb_cTv vf_M_must (c_M_must γ 41 (by decide)) rfl ml_M_379 (As := [vI 41]) rfl rfl (Nat.le_of_ble_eq_true rfl) ⟨by decide, by decide⟩ d_M_equation_159 (fun _ γ11 => ?_)
  refine sb_aload_n 0 d_M_equation_162 rfl ?_
  refine sb_bipush d_M_equation_163 (by decide) ?_
  refine sb_cTv vf_M_must (c_M_must γ11 61 (by decide)) rfl ml_M_379 (As := [vI 61]) rfl rfl (Nat.le_of_ble_eq_true rfl) ⟨by decide, by decide⟩ d_M_equation_165 (fun _ γ13 => ?_)
  refine sb_aload_n 0 d_M_equation_168 rfl ?_
  refine sb_cVz vf_M_nameHere (c_M_nameHere γ13  ) rfl ml_M_373 (As := []) rfl rfl (Nat.le_of_ble_eq_true rfl) ⟨by decide, by decide⟩ d_M_equation_169 (fun r14 γ15 hr14 => ?_)
  refine sb_if_ne 180 (z2i hr14) d_M_equation_172 (by decide) (fun _ => ?_) (fun _ => ?_)
  · refine sb_aload_n 0 d_M_equation_180 rfl ?_
    refine sb_cVi vf_M_nodeHere (c_M_nodeHere γ15  ) rfl ml_M_394 (As := []) rfl rfl (Nat.le_of_ble_eq_true rfl) ⟨by decide, by decide⟩ d_M_equation_181 (fun r16 γ17 hr16 => ?_)
    refine sb_istore_n [(1, vI r16), (0, vR Γ 0)] d_M_equation_184 (by decide) rfl ?_
    refine sb_iload_n 0 d_M_equation_185 rfl ?_
    refine sb_if_ge 202 hr16 d_M_equation_186 (by decide) (fun _ => ?_) (fun _ => ?_)
    · refine sb_aload_n 1 d_M_equation_202 rfl ?_
      refine sb_cVv vf_M_take (c_M_take γ17  ) rfl ml_M_305 (As := []) rfl rfl (Nat.le_of_ble_eq_true rfl) ⟨by decide, by decide⟩ d_M_equation_203 (fun _ γ19 => ?_)
      refine sb_aload_n 1 d_M_equation_206 rfl ?_
      refine g_M_96 d_M_equation_207 ?_
      refine sb_aload_n 1 d_M_equation_210 rfl ?_
      refine g_M_106 d_M_equation_211 (fun c21 => ?_)
      refine sb_aload_n 1 d_M_equation_214 rfl ?_
      refine sb_iload_n 0 d_M_equation_215 rfl ?_
      refine sb_iconst d_M_equation_216 ?_
      refine sb_cTi vf_M_call (C_M_call γ19 r16 0 hr16 (by decide)) rfl ml_M_412 (As := [vI r16, vI 0]) rfl rfl (Nat.le_of_ble_eq_true rfl) ⟨by decide, by decide⟩ d_M_equation_217 (fun r22 γ23 hr22 => ?_)
      refine as_M_17 hr22 d_M_equation_220 (fun _ => ?_)
      refine sb_aps (fun γ24 => ?_)
      exact sb_lv [1] rfl (s_M_equation_b221 γ24  )
    · refine sb_bd (j := 0) (i := 7) rfl (fun c25 => ?_)
      exact sb_thr rfl d_M_equation_189 d_M_equation_192 (pu_iconst d_M_equation_193) (pu_fld kf_M 1 7 rfl rfl rfl (by decide) fl_M_33 d_M_equation_194 d_M_equation_195) d_M_equation_198 d_M_equation_201 (by decide) c25 ⟨by decide, by decide⟩
  · refine sb_aload_n 0 d_M_equation_175 rfl ?_
    exact sb_cant ml_M_301 ⟨by decide, by decide⟩ d_M_equation_176 d_M_equation_179
set_option maxHeartbeats 4000000 in
theorem s_M_equation_L120 {Γ : Ctx} {x156 : St → Option Res} (hx156 : ∀ (γ : St), SB Γ BM mt_M_equation (RmT 915 63486) 0 0 (KT Γ BM mt_M_equation.2.2.2) 156 [(0, vR Γ 0)] [] γ (x156 γ )) : ∀ (n : Nat) (γ : St), SB Γ BM mt_M_equation (RmT 915 63486) 0 0 (KT Γ BM mt_M_equation.2.2.2) 120 [(0, vR Γ 0)] [] γ (f_M_equation_L120 x156 n γ ) := by
  intro n
  induction n with
  | zero => intros; exact sb_none
  | succ n ih =>
    intro γ
    unfold f_M_equation_L120
    refine sb_aload_n 0 d_M_equation_120 rfl ?_
    refine sb_cVi vf_M_peek (c_M_peek γ  ) rfl ml_M_292 (As := []) rfl rfl (Nat.le_of_ble_eq_true rfl) ⟨by decide, by decide⟩ d_M_equation_121 (fun r28 γ29 hr28 => ?_)
    refine sb_bipush d_M_equation_124 (by decide) ?_
    refine sb_icmp_ne 156 hr28 (by decide) d_M_equation_126 (by decide) (fun _ => ?_) (fun _ => ?_)
    · exact sb_lv [0] rfl (hx156 γ29  )
    · refine sb_aload_n 0 d_M_equation_129 rfl ?_
      refine sb_cVv vf_M_take (c_M_take γ29  ) rfl ml_M_305 (As := []) rfl rfl (Nat.le_of_ble_eq_true rfl) ⟨by decide, by decide⟩ d_M_equation_130 (fun _ γ31 => ?_)
      refine sb_aload_n 0 d_M_equation_133 rfl ?_
      refine g_M_100 d_M_equation_134 ?_
      refine sb_aload_n 0 d_M_equation_137 rfl ?_
      refine sb_dup d_M_equation_138 rfl ?_
      refine g_M_109 d_M_equation_139 (fun c33 => ?_)
      refine sb_dup_x1 d_M_equation_142 rfl rfl ?_
      refine sb_iconst d_M_equation_143 ?_
      refine sb_iadd d_M_equation_144 ?_
      refine sb_chk (fun c34 => ?_)
      refine p_M_109 c34 d_M_equation_145 ?_
      refine sb_aps (fun γ35 => ?_)
      refine sb_aload_n 0 d_M_equation_148 rfl ?_
      refine sb_cTi vf_M_left (c_M_left γ35  ) rfl ml_M_406 (As := []) rfl rfl (Nat.le_of_ble_eq_true rfl) ⟨by decide, by decide⟩ d_M_equation_149 (fun r36 γ37 hr36 => ?_)
      refine as_M_18 hr36 d_M_equation_152 (fun _ => ?_)
      refine sb_aps (fun γ38 => ?_)
      refine sb_goto 120 d_M_equation_153 (by decide) ?_
      exact sb_lv [0] rfl (ih γ38  )
set_option maxHeartbeats 4000000 in
theorem c_M_equation {Γ : Ctx} (γ : St) : TC Γ BM y_M_equation mt_M_equation 915 63486 [vR Γ 0] γ (f_M_equation γ) := by
  refine tc_of (by decide) rfl (Nat.le_of_ble_eq_true rfl) ?_
  show SB Γ BM mt_M_equation (RmT 915 63486) 0 0 (KT Γ BM mt_M_equation.2.2.2) 0 [(0, vR Γ 0)] [] γ _
  unfold f_M_equation
  refine sb_aload_n 0 d_M_equation_0 rfl ?_
  refine sb_cVi vf_M_peek (c_M_peek γ  ) rfl ml_M_292 (As := []) rfl rfl (Nat.le_of_ble_eq_true rfl) ⟨by decide, by decide⟩ d_M_equation_1 (fun r39 γ40 hr39 => ?_)
  refine sb_pop d_M_equation_4 rfl ?_
  refine sb_aload_n 0 d_M_equation_5 rfl ?_
  refine g_M_90 d_M_equation_6 ?_
  refine sb_aload_n 0 d_M_equation_9 rfl ?_
  refine g_M_106 d_M_equation_10 (fun c42 => ?_)
  refine sb_aload_n 0 d_M_equation_13 rfl ?_
  refine g_M_33 d_M_equation_14 (fun c43 => ?_)
  refine as_M_15 c43 d_M_equation_17 (fun _ => ?_)
  refine sb_aps (fun γ44 => ?_)
  refine sb_aload_n 0 d_M_equation_18 rfl ?_
  refine g_M_93 d_M_equation_19 ?_
  refine sb_aload_n 0 d_M_equation_22 rfl ?_
  refine g_M_106 d_M_equation_23 (fun c46 => ?_)
  refine sb_aload_n 0 d_M_equation_26 rfl ?_
  refine g_M_109 d_M_equation_27 (fun c47 => ?_)
  refine as_M_16 c47 d_M_equation_30 (fun _ => ?_)
  refine sb_aps (fun γ48 => ?_)
  refine sb_aload_n 0 d_M_equation_31 rfl ?_
  refine g_M_103 d_M_equation_32 ?_
  refine sb_aload_n 0 d_M_equation_35 rfl ?_
  refine g_M_106 d_M_equation_36 (fun c50 => ?_)
  refine sb_aload_n 0 d_M_equation_39 rfl ?_
  refine g_M_136 d_M_equation_40 (fun c51 => ?_)
  refine as_M_19 c51 d_M_equation_43 (fun _ => ?_)
  refine sb_aps (fun γ52 => ?_)
  refine sb_aload_n 0 d_M_equation_44 rfl ?_
  refine sb_cVi vf_M_peek (c_M_peek γ52  ) rfl ml_M_292 (As := []) rfl rfl (Nat.le_of_ble_eq_true rfl) ⟨by decide, by decide⟩ d_M_equation_45 (fun r53 γ54 hr53 => ?_)
  refine sb_bipush d_M_equation_48 (by decide) ?_
  refine sb_icmp_eq 96 hr53 (by decide) d_M_equation_50 (by decide) (fun _ => ?_) (fun _ => ?_)
  · refine sb_aload_n 0 d_M_equation_96 rfl ?_
    refine sb_cVv vf_M_take (c_M_take γ54  ) rfl ml_M_305 (As := []) rfl rfl (Nat.le_of_ble_eq_true rfl) ⟨by decide, by decide⟩ d_M_equation_97 (fun _ γ56 => ?_)
    refine sb_aload_n 0 d_M_equation_100 rfl ?_
    refine g_M_100 d_M_equation_101 ?_
    refine sb_aload_n 0 d_M_equation_104 rfl ?_
    refine sb_dup d_M_equation_105 rfl ?_
    refine g_M_109 d_M_equation_106 (fun c58 => ?_)
    refine sb_dup_x1 d_M_equation_109 rfl rfl ?_
    refine sb_iconst d_M_equation_110 ?_
    refine sb_iadd d_M_equation_111 ?_
    refine sb_chk (fun c59 => ?_)
    refine p_M_109 c59 d_M_equation_112 ?_
    refine sb_aps (fun γ60 => ?_)
    refine sb_aload_n 0 d_M_equation_115 rfl ?_
    refine sb_cTi vf_M_left (c_M_left γ60  ) rfl ml_M_406 (As := []) rfl rfl (Nat.le_of_ble_eq_true rfl) ⟨by decide, by decide⟩ d_M_equation_116 (fun r61 γ62 hr61 => ?_)
    refine as_M_18 hr61 d_M_equation_119 (fun _ => ?_)
    refine sb_aps (fun γ63 => ?_)
    exact sb_lv [0] rfl (s_M_equation_L120 (s_M_equation_b156) FU γ63  )
  · refine sb_aload_n 0 d_M_equation_53 rfl ?_
    refine g_M_100 d_M_equation_54 ?_
    refine sb_aload_n 0 d_M_equation_57 rfl ?_
    refine sb_dup d_M_equation_58 rfl ?_
    refine g_M_109 d_M_equation_59 (fun c65 => ?_)
    refine sb_dup_x1 d_M_equation_62 rfl rfl ?_
    refine sb_iconst d_M_equation_63 ?_
    refine sb_iadd d_M_equation_64 ?_
    refine sb_chk (fun c66 => ?_)
    refine p_M_109 c66 d_M_equation_65 ?_
    refine sb_aps (fun γ67 => ?_)
    refine sb_aload_n 0 d_M_equation_68 rfl ?_
    refine sb_cTi vf_M_left (c_M_left γ67  ) rfl ml_M_406 (As := []) rfl rfl (Nat.le_of_ble_eq_true rfl) ⟨by decide, by decide⟩ d_M_equation_69 (fun r68 γ69 hr68 => ?_)
    refine as_M_18 hr68 d_M_equation_72 (fun _ => ?_)
    refine sb_aps (fun γ70 => ?_)
    refine sb_aload_n 0 d_M_equation_73 rfl ?_
    refine sb_bipush d_M_equation_74 (by decide) ?_
    refine sb_cTv vf_M_must (c_M_must γ70 61 (by decide)) rfl ml_M_379 (As := [vI 61]) rfl rfl (Nat.le_of_ble_eq_true rfl) ⟨by decide, by decide⟩ d_M_equation_76 (fun _ γ72 => ?_)
    refine sb_aload_n 0 d_M_equation_79 rfl ?_
    refine g_M_96 d_M_equation_80 ?_
    refine sb_aload_n 0 d_M_equation_83 rfl ?_
    refine g_M_106 d_M_equation_84 (fun c74 => ?_)
    refine sb_aload_n 0 d_M_equation_87 rfl ?_
    refine sb_iconst d_M_equation_88 ?_
    refine sb_cTi vf_M_expression (C_M_expression γ72 0 (by decide)) rfl ml_M_409 (As := [vI 0]) rfl rfl (Nat.le_of_ble_eq_true rfl) ⟨by decide, by decide⟩ d_M_equation_89 (fun r75 γ76 hr75 => ?_)
    refine as_M_17 hr75 d_M_equation_92 (fun _ => ?_)
    refine sb_aps (fun γ77 => ?_)
    refine sb_goto 221 d_M_equation_93 (by decide) ?_
    exact sb_lv [0] rfl (s_M_equation_b221 γ77  )
theorem d_M_type_0 : decode b_M_type 0 = .ok (.iload_n 1, 1) := by decide +kernel
theorem d_M_type_1 : decode b_M_type 1 = .ok (.ifCond .ne 16, 3) := by decide +kernel
theorem d_M_type_4 : decode b_M_type 4 = .ok (.new 296, 3) := by decide +kernel
theorem d_M_type_7 : decode b_M_type 7 = .ok (.dup, 1) := by decide +kernel
theorem d_M_type_8 : decode b_M_type 8 = .ok (.iconst 4, 1) := by decide +kernel
theorem d_M_type_9 : decode b_M_type 9 = .ok (.aload_n 0, 1) := by decide +kernel
theorem d_M_type_10 : decode b_M_type 10 = .ok (.getfield 142, 3) := by decide +kernel
theorem d_M_type_13 : decode b_M_type 13 = .ok (.invokespecial 298, 3) := by decide +kernel
theorem d_M_type_16 : decode b_M_type 16 = .ok (.athrow, 1) := by decide +kernel
theorem d_M_type_17 : decode b_M_type 17 = .ok (.return_, 1) := by decide +kernel
abbrev mt_M_type : MT := (R_M, b_M_type, 2, none)
theorem vf_M_type : VF y_M_type mt_M_type 12 1 := ⟨im_M_type, se_M_type, in_M, co_M_type, by decide +kernel, _, _, rfl⟩
def f_M_type (γ : St) (a0 : Int) : Option Res :=
  if a0 ≠ 0 then
  (some (.inr 0, γ))
  else
  (some (.inl (4, γ 0 42), γ))
set_option maxHeartbeats 4000000 in
theorem c_M_type {Γ : Ctx} (γ : St) (a0 : Int) (ha0 : i32 a0) : TC Γ BM y_M_type mt_M_type 6 240 [vR Γ 0, vI a0] γ (f_M_type γ a0) := by
  refine tc_of (by decide) rfl (Nat.le_of_ble_eq_true rfl) ?_
  show SB Γ BM mt_M_type (RmT 6 240) 0 0 (KT Γ BM mt_M_type.2.2.2) 0 [(0, vR Γ 0), (1, vI a0)] [] γ _
  unfold f_M_type
  refine sb_iload_n 1 d_M_type_0 rfl ?_
  refine sb_if_ne 17 ha0 d_M_type_1 (by decide) (fun _ => ?_) (fun _ => ?_)
  · exact st_v rfl d_M_type_17
  · refine sb_bd (j := 0) (i := 42) rfl (fun c1 => ?_)
    exact sb_thr rfl d_M_type_4 d_M_type_7 (pu_iconst d_M_type_8) (pu_fld kf_M 0 42 rfl rfl rfl (by decide) fl_M_142 d_M_type_9 d_M_type_10) d_M_type_13 d_M_type_16 (by decide) c1 ⟨by decide, by decide⟩
theorem d_M_look_0 : decode b_M_look 0 = .ok (.iconst 0, 1) := by decide +kernel
theorem d_M_look_1 : decode b_M_look 1 = .ok (.istore_n 3, 1) := by decide +kernel
theorem d_M_look_2 : decode b_M_look 2 = .ok (.aload_n 0, 1) := by decide +kernel
theorem d_M_look_3 : decode b_M_look 3 = .ok (.getfield 118, 3) := by decide +kernel
theorem d_M_look_6 : decode b_M_look 6 = .ok (.iload_n 1, 1) := by decide +kernel
theorem d_M_look_7 : decode b_M_look 7 = .ok (.iaload, 1) := by decide +kernel
theorem d_M_look_8 : decode b_M_look 8 = .ok (.istore 4, 2) := by decide +kernel
theorem d_M_look_10 : decode b_M_look 10 = .ok (.iload 4, 2) := by decide +kernel
theorem d_M_look_12 : decode b_M_look 12 = .ok (.ifCond .lt 18, 3) := by decide +kernel
theorem d_M_look_15 : decode b_M_look 15 = .ok (.iinc 3 1, 3) := by decide +kernel
theorem d_M_look_18 : decode b_M_look 18 = .ok (.aload_n 0, 1) := by decide +kernel
theorem d_M_look_19 : decode b_M_look 19 = .ok (.getfield 121, 3) := by decide +kernel
theorem d_M_look_22 : decode b_M_look 22 = .ok (.iload 4, 2) := by decide +kernel
theorem d_M_look_24 : decode b_M_look 24 = .ok (.iaload, 1) := by decide +kernel
theorem d_M_look_25 : decode b_M_look 25 = .ok (.istore 4, 2) := by decide +kernel
theorem d_M_look_27 : decode b_M_look 27 = .ok (.goto (-17), 3) := by decide +kernel
theorem d_M_look_30 : decode b_M_look 30 = .ok (.aload_n 0, 1) := by decide +kernel
theorem d_M_look_31 : decode b_M_look 31 = .ok (.getfield 118, 3) := by decide +kernel
theorem d_M_look_34 : decode b_M_look 34 = .ok (.iload_n 1, 1) := by decide +kernel
theorem d_M_look_35 : decode b_M_look 35 = .ok (.iaload, 1) := by decide +kernel
theorem d_M_look_36 : decode b_M_look 36 = .ok (.istore 4, 2) := by decide +kernel
theorem d_M_look_38 : decode b_M_look 38 = .ok (.iload 4, 2) := by decide +kernel
theorem d_M_look_40 : decode b_M_look 40 = .ok (.ifCond .ge 7, 3) := by decide +kernel
theorem d_M_look_43 : decode b_M_look 43 = .ok (.iconst (-1), 1) := by decide +kernel
theorem d_M_look_44 : decode b_M_look 44 = .ok (.goto 10, 3) := by decide +kernel
theorem d_M_look_47 : decode b_M_look 47 = .ok (.aload_n 0, 1) := by decide +kernel
theorem d_M_look_48 : decode b_M_look 48 = .ok (.getfield 121, 3) := by decide +kernel
theorem d_M_look_51 : decode b_M_look 51 = .ok (.iload 4, 2) := by decide +kernel
theorem d_M_look_53 : decode b_M_look 53 = .ok (.iaload, 1) := by decide +kernel
theorem d_M_look_54 : decode b_M_look 54 = .ok (.istore 5, 2) := by decide +kernel
theorem d_M_look_56 : decode b_M_look 56 = .ok (.aload_n 0, 1) := by decide +kernel
theorem d_M_look_57 : decode b_M_look 57 = .ok (.getfield 112, 3) := by decide +kernel
theorem d_M_look_60 : decode b_M_look 60 = .ok (.iload_n 1, 1) := by decide +kernel
theorem d_M_look_61 : decode b_M_look 61 = .ok (.iaload, 1) := by decide +kernel
theorem d_M_look_62 : decode b_M_look 62 = .ok (.iconst 3, 1) := by decide +kernel
theorem d_M_look_63 : decode b_M_look 63 = .ok (.if_icmp .ne 132, 3) := by decide +kernel
theorem d_M_look_66 : decode b_M_look 66 = .ok (.aload_n 0, 1) := by decide +kernel
theorem d_M_look_67 : decode b_M_look 67 = .ok (.getfield 115, 3) := by decide +kernel
theorem d_M_look_70 : decode b_M_look 70 = .ok (.iload_n 1, 1) := by decide +kernel
theorem d_M_look_71 : decode b_M_look 71 = .ok (.iaload, 1) := by decide +kernel
theorem d_M_look_72 : decode b_M_look 72 = .ok (.istore 6, 2) := by decide +kernel
theorem d_M_look_74 : decode b_M_look 74 = .ok (.iload_n 3, 1) := by decide +kernel
theorem d_M_look_75 : decode b_M_look 75 = .ok (.aload_n 0, 1) := by decide +kernel
theorem d_M_look_76 : decode b_M_look 76 = .ok (.getfield 53, 3) := by decide +kernel
theorem d_M_look_79 : decode b_M_look 79 = .ok (.iload 6, 2) := by decide +kernel
theorem d_M_look_81 : decode b_M_look 81 = .ok (.iaload, 1) := by decide +kernel
theorem d_M_look_82 : decode b_M_look 82 = .ok (.if_icmp .ne 14, 3) := by decide +kernel
theorem d_M_look_85 : decode b_M_look 85 = .ok (.iload_n 2, 1) := by decide +kernel
theorem d_M_look_86 : decode b_M_look 86 = .ok (.aload_n 0, 1) := by decide +kernel
theorem d_M_look_87 : decode b_M_look 87 = .ok (.getfield 56, 3) := by decide +kernel
theorem d_M_look_90 : decode b_M_look 90 = .ok (.iload 6, 2) := by decide +kernel
theorem d_M_look_92 : decode b_M_look 92 = .ok (.iaload, 1) := by decide +kernel
theorem d_M_look_93 : decode b_M_look 93 = .ok (.if_icmp .eq 16, 3) := by decide +kernel
theorem d_M_look_96 : decode b_M_look 96 = .ok (.new 296, 3) := by decide +kernel
theorem d_M_look_99 : decode b_M_look 99 = .ok (.dup, 1) := by decide +kernel
theorem d_M_look_100 : decode b_M_look 100 = .ok (.iconst 5, 1) := by decide +kernel
theorem d_M_look_101 : decode b_M_look 101 = .ok (.aload_n 0, 1) := by decide +kernel
theorem d_M_look_102 : decode b_M_look 102 = .ok (.getfield 142, 3) := by decide +kernel
theorem d_M_look_105 : decode b_M_look 105 = .ok (.invokespecial 298, 3) := by decide +kernel
theorem d_M_look_108 : decode b_M_look 108 = .ok (.athrow, 1) := by decide +kernel
theorem d_M_look_109 : decode b_M_look 109 = .ok (.aload_n 0, 1) := by decide +kernel
theorem d_M_look_110 : decode b_M_look 110 = .ok (.getfield 50, 3) := by decide +kernel
theorem d_M_look_113 : decode b_M_look 113 = .ok (.iload 6, 2) := by decide +kernel
theorem d_M_look_115 : decode b_M_look 115 = .ok (.iaload, 1) := by decide +kernel
theorem d_M_look_116 : decode b_M_look 116 = .ok (.istore 7, 2) := by decide +kernel
theorem d_M_look_118 : decode b_M_look 118 = .ok (.iload 4, 2) := by decide +kernel
theorem d_M_look_120 : decode b_M_look 120 = .ok (.istore 8, 2) := by decide +kernel
theorem d_M_look_122 : decode b_M_look 122 = .ok (.iload 8, 2) := by decide +kernel
theorem d_M_look_124 : decode b_M_look 124 = .ok (.ifCond .lt 44, 3) := by decide +kernel
theorem d_M_look_127 : decode b_M_look 127 = .ok (.aload_n 0, 1) := by decide +kernel
theorem d_M_look_128 : decode b_M_look 128 = .ok (.aload_n 0, 1) := by decide +kernel
theorem d_M_look_129 : decode b_M_look 129 = .ok (.getfield 139, 3) := by decide +kernel
theorem d_M_look_132 : decode b_M_look 132 = .ok (.iload 8, 2) := by decide +kernel
theorem d_M_look_134 : decode b_M_look 134 = .ok (.baload, 1) := by decide +kernel
theorem d_M_look_135 : decode b_M_look 135 = .ok (.aload_n 0, 1) := by decide +kernel
theorem d_M_look_136 : decode b_M_look 136 = .ok (.getfield 86, 3) := by decide +kernel
theorem d_M_look_139 : decode b_M_look 139 = .ok (.iload 7, 2) := by decide +kernel
theorem d_M_look_141 : decode b_M_look 141 = .ok (.iinc 7 1, 3) := by decide +kernel
theorem d_M_look_144 : decode b_M_look 144 = .ok (.baload, 1) := by decide +kernel
theorem d_M_look_145 : decode b_M_look 145 = .ok (.if_icmp .ne 7, 3) := by decide +kernel
theorem d_M_look_148 : decode b_M_look 148 = .ok (.iconst 1, 1) := by decide +kernel
theorem d_M_look_149 : decode b_M_look 149 = .ok (.goto 4, 3) := by decide +kernel
theorem d_M_look_152 : decode b_M_look 152 = .ok (.iconst 0, 1) := by decide +kernel
theorem d_M_look_153 : decode b_M_look 153 = .ok (.invokevirtual 458, 3) := by decide +kernel
theorem d_M_look_156 : decode b_M_look 156 = .ok (.aload_n 0, 1) := by decide +kernel
theorem d_M_look_157 : decode b_M_look 157 = .ok (.getfield 121, 3) := by decide +kernel
theorem d_M_look_160 : decode b_M_look 160 = .ok (.iload 8, 2) := by decide +kernel
theorem d_M_look_162 : decode b_M_look 162 = .ok (.iaload, 1) := by decide +kernel
theorem d_M_look_163 : decode b_M_look 163 = .ok (.istore 8, 2) := by decide +kernel
theorem d_M_look_165 : decode b_M_look 165 = .ok (.goto (-43), 3) := by decide +kernel
theorem d_M_look_168 : decode b_M_look 168 = .ok (.aload_n 0, 1) := by decide +kernel
theorem d_M_look_169 : decode b_M_look 169 = .ok (.getfield 139, 3) := by decide +kernel
theorem d_M_look_172 : decode b_M_look 172 = .ok (.iload_n 1, 1) := by decide +kernel
theorem d_M_look_173 : decode b_M_look 173 = .ok (.aload_n 0, 1) := by decide +kernel
theorem d_M_look_174 : decode b_M_look 174 = .ok (.getfield 86, 3) := by decide +kernel
theorem d_M_look_177 : decode b_M_look 177 = .ok (.aload_n 0, 1) := by decide +kernel
theorem d_M_look_178 : decode b_M_look 178 = .ok (.getfield 50, 3) := by decide +kernel
theorem d_M_look_181 : decode b_M_look 181 = .ok (.iload 6, 2) := by decide +kernel
theorem d_M_look_183 : decode b_M_look 183 = .ok (.iaload, 1) := by decide +kernel
theorem d_M_look_184 : decode b_M_look 184 = .ok (.aload_n 0, 1) := by decide +kernel
theorem d_M_look_185 : decode b_M_look 185 = .ok (.getfield 53, 3) := by decide +kernel
theorem d_M_look_188 : decode b_M_look 188 = .ok (.iload 6, 2) := by decide +kernel
theorem d_M_look_190 : decode b_M_look 190 = .ok (.iaload, 1) := by decide +kernel
theorem d_M_look_191 : decode b_M_look 191 = .ok (.iadd, 1) := by decide +kernel
theorem d_M_look_192 : decode b_M_look 192 = .ok (.baload, 1) := by decide +kernel
theorem d_M_look_193 : decode b_M_look 193 = .ok (.bastore, 1) := by decide +kernel
theorem d_M_look_194 : decode b_M_look 194 = .ok (.return_, 1) := by decide +kernel
theorem d_M_look_195 : decode b_M_look 195 = .ok (.aload_n 0, 1) := by decide +kernel
theorem d_M_look_196 : decode b_M_look 196 = .ok (.getfield 112, 3) := by decide +kernel
theorem d_M_look_199 : decode b_M_look 199 = .ok (.iload_n 1, 1) := by decide +kernel
theorem d_M_look_200 : decode b_M_look 200 = .ok (.iaload, 1) := by decide +kernel
theorem d_M_look_201 : decode b_M_look 201 = .ok (.tableswitch 463 0 23 #[111, 121, 131, 463, 161, 218, 218, 260, 260, 260, 260, 299, 299, 335, 335, 335, 335, 374, 374, 374, 374, 374, 413, 442], 111) := by decide +kernel
theorem d_M_look_312 : decode b_M_look 312 = .ok (.aload_n 0, 1) := by decide +kernel
theorem d_M_look_313 : decode b_M_look 313 = .ok (.getfield 139, 3) := by decide +kernel
theorem d_M_look_316 : decode b_M_look 316 = .ok (.iload_n 1, 1) := by decide +kernel
theorem d_M_look_317 : decode b_M_look 317 = .ok (.iconst 0, 1) := by decide +kernel
theorem d_M_look_318 : decode b_M_look 318 = .ok (.bastore, 1) := by decide +kernel
theorem d_M_look_319 : decode b_M_look 319 = .ok (.goto 358, 3) := by decide +kernel
theorem d_M_look_322 : decode b_M_look 322 = .ok (.aload_n 0, 1) := by decide +kernel
theorem d_M_look_323 : decode b_M_look 323 = .ok (.getfield 139, 3) := by decide +kernel
theorem d_M_look_326 : decode b_M_look 326 = .ok (.iload_n 1, 1) := by decide +kernel
theorem d_M_look_327 : decode b_M_look 327 = .ok (.iconst 1, 1) := by decide +kernel
theorem d_M_look_328 : decode b_M_look 328 = .ok (.bastore, 1) := by decide +kernel
theorem d_M_look_329 : decode b_M_look 329 = .ok (.goto 348, 3) := by decide +kernel
theorem d_M_look_332 : decode b_M_look 332 = .ok (.aload_n 0, 1) := by decide +kernel
theorem d_M_look_333 : decode b_M_look 333 = .ok (.getfield 139, 3) := by decide +kernel
theorem d_M_look_336 : decode b_M_look 336 = .ok (.iload_n 1, 1) := by decide +kernel
theorem d_M_look_337 : decode b_M_look 337 = .ok (.aload_n 0, 1) := by decide +kernel
theorem d_M_look_338 : decode b_M_look 338 = .ok (.getfield 86, 3) := by decide +kernel
theorem d_M_look_341 : decode b_M_look 341 = .ok (.aload_n 0, 1) := by decide +kernel
theorem d_M_look_342 : decode b_M_look 342 = .ok (.getfield 50, 3) := by decide +kernel
theorem d_M_look_345 : decode b_M_look 345 = .ok (.aload_n 0, 1) := by decide +kernel
theorem d_M_look_346 : decode b_M_look 346 = .ok (.getfield 68, 3) := by decide +kernel
theorem d_M_look_349 : decode b_M_look 349 = .ok (.iaload, 1) := by decide +kernel
theorem d_M_look_350 : decode b_M_look 350 = .ok (.aload_n 0, 1) := by decide +kernel
theorem d_M_look_351 : decode b_M_look 351 = .ok (.getfield 115, 3) := by decide +kernel
theorem d_M_look_354 : decode b_M_look 354 = .ok (.iload_n 1, 1) := by decide +kernel
theorem d_M_look_355 : decode b_M_look 355 = .ok (.iaload, 1) := by decide +kernel
theorem d_M_look_356 : decode b_M_look 356 = .ok (.iadd, 1) := by decide +kernel
theorem d_M_look_357 : decode b_M_look 357 = .ok (.baload, 1) := by decide +kernel
theorem d_M_look_358 : decode b_M_look 358 = .ok (.bastore, 1) := by decide +kernel
theorem d_M_look_359 : decode b_M_look 359 = .ok (.goto 318, 3) := by decide +kernel
theorem d_M_look_362 : decode b_M_look 362 = .ok (.aload_n 0, 1) := by decide +kernel
theorem d_M_look_363 : decode b_M_look 363 = .ok (.aload_n 0, 1) := by decide +kernel
theorem d_M_look_364 : decode b_M_look 364 = .ok (.getfield 139, 3) := by decide +kernel
theorem d_M_look_367 : decode b_M_look 367 = .ok (.iload 4, 2) := by decide +kernel
theorem d_M_look_369 : decode b_M_look 369 = .ok (.baload, 1) := by decide +kernel
theorem d_M_look_370 : decode b_M_look 370 = .ok (.ifCond .eq 29, 3) := by decide +kernel
theorem d_M_look_373 : decode b_M_look 373 = .ok (.aload_n 0, 1) := by decide +kernel
theorem d_M_look_374 : decode b_M_look 374 = .ok (.getfield 139, 3) := by decide +kernel
theorem d_M_look_377 : decode b_M_look 377 = .ok (.iload 5, 2) := by decide +kernel
theorem d_M_look_379 : decode b_M_look 379 = .ok (.baload, 1) := by decide +kernel
theorem d_M_look_380 : decode b_M_look 380 = .ok (.aload_n 0, 1) := by decide +kernel
theorem d_M_look_381 : decode b_M_look 381 = .ok (.getfield 139, 3) := by decide +kernel
theorem d_M_look_384 : decode b_M_look 384 = .ok (.aload_n 0, 1) := by decide +kernel
theorem d_M_look_385 : decode b_M_look 385 = .ok (.getfield 121, 3) := by decide +kernel
theorem d_M_look_388 : decode b_M_look 388 = .ok (.iload 5, 2) := by decide +kernel
theorem d_M_look_390 : decode b_M_look 390 = .ok (.iaload, 1) := by decide +kernel
theorem d_M_look_391 : decode b_M_look 391 = .ok (.baload, 1) := by decide +kernel
theorem d_M_look_392 : decode b_M_look 392 = .ok (.if_icmp .ne 7, 3) := by decide +kernel
theorem d_M_look_395 : decode b_M_look 395 = .ok (.iconst 1, 1) := by decide +kernel
theorem d_M_look_396 : decode b_M_look 396 = .ok (.goto 4, 3) := by decide +kernel
theorem d_M_look_399 : decode b_M_look 399 = .ok (.iconst 0, 1) := by decide +kernel
theorem d_M_look_400 : decode b_M_look 400 = .ok (.invokevirtual 458, 3) := by decide +kernel
theorem d_M_look_403 : decode b_M_look 403 = .ok (.aload_n 0, 1) := by decide +kernel
theorem d_M_look_404 : decode b_M_look 404 = .ok (.getfield 139, 3) := by decide +kernel
theorem d_M_look_407 : decode b_M_look 407 = .ok (.iload_n 1, 1) := by decide +kernel
theorem d_M_look_408 : decode b_M_look 408 = .ok (.aload_n 0, 1) := by decide +kernel
theorem d_M_look_409 : decode b_M_look 409 = .ok (.getfield 139, 3) := by decide +kernel
theorem d_M_look_412 : decode b_M_look 412 = .ok (.iload 5, 2) := by decide +kernel
theorem d_M_look_414 : decode b_M_look 414 = .ok (.baload, 1) := by decide +kernel
theorem d_M_look_415 : decode b_M_look 415 = .ok (.bastore, 1) := by decide +kernel
theorem d_M_look_416 : decode b_M_look 416 = .ok (.goto 261, 3) := by decide +kernel
theorem d_M_look_419 : decode b_M_look 419 = .ok (.aload_n 0, 1) := by decide +kernel
theorem d_M_look_420 : decode b_M_look 420 = .ok (.aload_n 0, 1) := by decide +kernel
theorem d_M_look_421 : decode b_M_look 421 = .ok (.getfield 139, 3) := by decide +kernel
theorem d_M_look_424 : decode b_M_look 424 = .ok (.iload 4, 2) := by decide +kernel
theorem d_M_look_426 : decode b_M_look 426 = .ok (.baload, 1) := by decide +kernel
theorem d_M_look_427 : decode b_M_look 427 = .ok (.aload_n 0, 1) := by decide +kernel
theorem d_M_look_428 : decode b_M_look 428 = .ok (.getfield 139, 3) := by decide +kernel
theorem d_M_look_431 : decode b_M_look 431 = .ok (.iload 5, 2) := by decide +kernel
theorem d_M_look_433 : decode b_M_look 433 = .ok (.baload, 1) := by decide +kernel
theorem d_M_look_434 : decode b_M_look 434 = .ok (.if_icmp .ne 7, 3) := by decide +kernel
theorem d_M_look_437 : decode b_M_look 437 = .ok (.iconst 1, 1) := by decide +kernel
theorem d_M_look_438 : decode b_M_look 438 = .ok (.goto 4, 3) := by decide +kernel
theorem d_M_look_441 : decode b_M_look 441 = .ok (.iconst 0, 1) := by decide +kernel
theorem d_M_look_442 : decode b_M_look 442 = .ok (.invokevirtual 458, 3) := by decide +kernel
theorem d_M_look_445 : decode b_M_look 445 = .ok (.aload_n 0, 1) := by decide +kernel
theorem d_M_look_446 : decode b_M_look 446 = .ok (.getfield 139, 3) := by decide +kernel
theorem d_M_look_449 : decode b_M_look 449 = .ok (.iload_n 1, 1) := by decide +kernel
theorem d_M_look_450 : decode b_M_look 450 = .ok (.aload_n 0, 1) := by decide +kernel
theorem d_M_look_451 : decode b_M_look 451 = .ok (.getfield 139, 3) := by decide +kernel
theorem d_M_look_454 : decode b_M_look 454 = .ok (.iload 4, 2) := by decide +kernel
theorem d_M_look_456 : decode b_M_look 456 = .ok (.baload, 1) := by decide +kernel
theorem d_M_look_457 : decode b_M_look 457 = .ok (.bastore, 1) := by decide +kernel
theorem d_M_look_458 : decode b_M_look 458 = .ok (.goto 219, 3) := by decide +kernel
theorem d_M_look_461 : decode b_M_look 461 = .ok (.aload_n 0, 1) := by decide +kernel
theorem d_M_look_462 : decode b_M_look 462 = .ok (.aload_n 0, 1) := by decide +kernel
theorem d_M_look_463 : decode b_M_look 463 = .ok (.getfield 139, 3) := by decide +kernel
theorem d_M_look_466 : decode b_M_look 466 = .ok (.iload 4, 2) := by decide +kernel
theorem d_M_look_468 : decode b_M_look 468 = .ok (.baload, 1) := by decide +kernel
theorem d_M_look_469 : decode b_M_look 469 = .ok (.ifCond .eq 17, 3) := by decide +kernel
theorem d_M_look_472 : decode b_M_look 472 = .ok (.aload_n 0, 1) := by decide +kernel
theorem d_M_look_473 : decode b_M_look 473 = .ok (.getfield 139, 3) := by decide +kernel
theorem d_M_look_476 : decode b_M_look 476 = .ok (.iload 5, 2) := by decide +kernel
theorem d_M_look_478 : decode b_M_look 478 = .ok (.baload, 1) := by decide +kernel
theorem d_M_look_479 : decode b_M_look 479 = .ok (.ifCond .eq 7, 3) := by decide +kernel
theorem d_M_look_482 : decode b_M_look 482 = .ok (.iconst 1, 1) := by decide +kernel
theorem d_M_look_483 : decode b_M_look 483 = .ok (.goto 4, 3) := by decide +kernel
theorem d_M_look_486 : decode b_M_look 486 = .ok (.iconst 0, 1) := by decide +kernel
theorem d_M_look_487 : decode b_M_look 487 = .ok (.invokevirtual 458, 3) := by decide +kernel
theorem d_M_look_490 : decode b_M_look 490 = .ok (.aload_n 0, 1) := by decide +kernel
theorem d_M_look_491 : decode b_M_look 491 = .ok (.getfield 139, 3) := by decide +kernel
theorem d_M_look_494 : decode b_M_look 494 = .ok (.iload_n 1, 1) := by decide +kernel
theorem d_M_look_495 : decode b_M_look 495 = .ok (.iconst 1, 1) := by decide +kernel
theorem d_M_look_496 : decode b_M_look 496 = .ok (.bastore, 1) := by decide +kernel
theorem d_M_look_497 : decode b_M_look 497 = .ok (.goto 180, 3) := by decide +kernel
theorem d_M_look_500 : decode b_M_look 500 = .ok (.aload_n 0, 1) := by decide +kernel
theorem d_M_look_501 : decode b_M_look 501 = .ok (.aload_n 0, 1) := by decide +kernel
theorem d_M_look_502 : decode b_M_look 502 = .ok (.getfield 139, 3) := by decide +kernel
theorem d_M_look_505 : decode b_M_look 505 = .ok (.iload 4, 2) := by decide +kernel
theorem d_M_look_507 : decode b_M_look 507 = .ok (.baload, 1) := by decide +kernel
theorem d_M_look_508 : decode b_M_look 508 = .ok (.aload_n 0, 1) := by decide +kernel
theorem d_M_look_509 : decode b_M_look 509 = .ok (.getfield 139, 3) := by decide +kernel
theorem d_M_look_512 : decode b_M_look 512 = .ok (.iload 5, 2) := by decide +kernel
theorem d_M_look_514 : decode b_M_look 514 = .ok (.baload, 1) := by decide +kernel
theorem d_M_look_515 : decode b_M_look 515 = .ok (.if_icmp .ne 7, 3) := by decide +kernel
theorem d_M_look_518 : decode b_M_look 518 = .ok (.iconst 1, 1) := by decide +kernel
theorem d_M_look_519 : decode b_M_look 519 = .ok (.goto 4, 3) := by decide +kernel
theorem d_M_look_522 : decode b_M_look 522 = .ok (.iconst 0, 1) := by decide +kernel
theorem d_M_look_523 : decode b_M_look 523 = .ok (.invokevirtual 458, 3) := by decide +kernel
theorem d_M_look_526 : decode b_M_look 526 = .ok (.aload_n 0, 1) := by decide +kernel
theorem d_M_look_527 : decode b_M_look 527 = .ok (.getfield 139, 3) := by decide +kernel
theorem d_M_look_530 : decode b_M_look 530 = .ok (.iload_n 1, 1) := by decide +kernel
theorem d_M_look_531 : decode b_M_look 531 = .ok (.iconst 1, 1) := by decide +kernel
theorem d_M_look_532 : decode b_M_look 532 = .ok (.bastore, 1) := by decide +kernel
theorem d_M_look_533 : decode b_M_look 533 = .ok (.goto 144, 3) := by decide +kernel
theorem d_M_look_536 : decode b_M_look 536 = .ok (.aload_n 0, 1) := by decide +kernel
theorem d_M_look_537 : decode b_M_look 537 = .ok (.aload_n 0, 1) := by decide +kernel
theorem d_M_look_538 : decode b_M_look 538 = .ok (.getfield 139, 3) := by decide +kernel
theorem d_M_look_541 : decode b_M_look 541 = .ok (.iload 4, 2) := by decide +kernel
theorem d_M_look_543 : decode b_M_look 543 = .ok (.baload, 1) := by decide +kernel
theorem d_M_look_544 : decode b_M_look 544 = .ok (.ifCond .ne 17, 3) := by decide +kernel
theorem d_M_look_547 : decode b_M_look 547 = .ok (.aload_n 0, 1) := by decide +kernel
theorem d_M_look_548 : decode b_M_look 548 = .ok (.getfield 139, 3) := by decide +kernel
theorem d_M_look_551 : decode b_M_look 551 = .ok (.iload 5, 2) := by decide +kernel
theorem d_M_look_553 : decode b_M_look 553 = .ok (.baload, 1) := by decide +kernel
theorem d_M_look_554 : decode b_M_look 554 = .ok (.ifCond .ne 7, 3) := by decide +kernel
theorem d_M_look_557 : decode b_M_look 557 = .ok (.iconst 1, 1) := by decide +kernel
theorem d_M_look_558 : decode b_M_look 558 = .ok (.goto 4, 3) := by decide +kernel
theorem d_M_look_561 : decode b_M_look 561 = .ok (.iconst 0, 1) := by decide +kernel
theorem d_M_look_562 : decode b_M_look 562 = .ok (.invokevirtual 458, 3) := by decide +kernel
theorem d_M_look_565 : decode b_M_look 565 = .ok (.aload_n 0, 1) := by decide +kernel
theorem d_M_look_566 : decode b_M_look 566 = .ok (.getfield 139, 3) := by decide +kernel
theorem d_M_look_569 : decode b_M_look 569 = .ok (.iload_n 1, 1) := by decide +kernel
theorem d_M_look_570 : decode b_M_look 570 = .ok (.iconst 1, 1) := by decide +kernel
theorem d_M_look_571 : decode b_M_look 571 = .ok (.bastore, 1) := by decide +kernel
theorem d_M_look_572 : decode b_M_look 572 = .ok (.goto 105, 3) := by decide +kernel
theorem d_M_look_575 : decode b_M_look 575 = .ok (.aload_n 0, 1) := by decide +kernel
theorem d_M_look_576 : decode b_M_look 576 = .ok (.aload_n 0, 1) := by decide +kernel
theorem d_M_look_577 : decode b_M_look 577 = .ok (.getfield 139, 3) := by decide +kernel
theorem d_M_look_580 : decode b_M_look 580 = .ok (.iload 4, 2) := by decide +kernel
theorem d_M_look_582 : decode b_M_look 582 = .ok (.baload, 1) := by decide +kernel
theorem d_M_look_583 : decode b_M_look 583 = .ok (.ifCond .ne 17, 3) := by decide +kernel
theorem d_M_look_586 : decode b_M_look 586 = .ok (.aload_n 0, 1) := by decide +kernel
theorem d_M_look_587 : decode b_M_look 587 = .ok (.getfield 139, 3) := by decide +kernel
theorem d_M_look_590 : decode b_M_look 590 = .ok (.iload 5, 2) := by decide +kernel
theorem d_M_look_592 : decode b_M_look 592 = .ok (.baload, 1) := by decide +kernel
theorem d_M_look_593 : decode b_M_look 593 = .ok (.ifCond .ne 7, 3) := by decide +kernel
theorem d_M_look_596 : decode b_M_look 596 = .ok (.iconst 1, 1) := by decide +kernel
theorem d_M_look_597 : decode b_M_look 597 = .ok (.goto 4, 3) := by decide +kernel
theorem d_M_look_600 : decode b_M_look 600 = .ok (.iconst 0, 1) := by decide +kernel
theorem d_M_look_601 : decode b_M_look 601 = .ok (.invokevirtual 458, 3) := by decide +kernel
theorem d_M_look_604 : decode b_M_look 604 = .ok (.aload_n 0, 1) := by decide +kernel
theorem d_M_look_605 : decode b_M_look 605 = .ok (.getfield 139, 3) := by decide +kernel
theorem d_M_look_608 : decode b_M_look 608 = .ok (.iload_n 1, 1) := by decide +kernel
theorem d_M_look_609 : decode b_M_look 609 = .ok (.iconst 0, 1) := by decide +kernel
theorem d_M_look_610 : decode b_M_look 610 = .ok (.bastore, 1) := by decide +kernel
theorem d_M_look_611 : decode b_M_look 611 = .ok (.goto 66, 3) := by decide +kernel
theorem d_M_look_614 : decode b_M_look 614 = .ok (.aload_n 0, 1) := by decide +kernel
theorem d_M_look_615 : decode b_M_look 615 = .ok (.aload_n 0, 1) := by decide +kernel
theorem d_M_look_616 : decode b_M_look 616 = .ok (.getfield 139, 3) := by decide +kernel
theorem d_M_look_619 : decode b_M_look 619 = .ok (.iload 4, 2) := by decide +kernel
theorem d_M_look_621 : decode b_M_look 621 = .ok (.baload, 1) := by decide +kernel
theorem d_M_look_622 : decode b_M_look 622 = .ok (.ifCond .ne 7, 3) := by decide +kernel
theorem d_M_look_625 : decode b_M_look 625 = .ok (.iconst 1, 1) := by decide +kernel
theorem d_M_look_626 : decode b_M_look 626 = .ok (.goto 4, 3) := by decide +kernel
theorem d_M_look_629 : decode b_M_look 629 = .ok (.iconst 0, 1) := by decide +kernel
theorem d_M_look_630 : decode b_M_look 630 = .ok (.invokevirtual 458, 3) := by decide +kernel
theorem d_M_look_633 : decode b_M_look 633 = .ok (.aload_n 0, 1) := by decide +kernel
theorem d_M_look_634 : decode b_M_look 634 = .ok (.getfield 139, 3) := by decide +kernel
theorem d_M_look_637 : decode b_M_look 637 = .ok (.iload_n 1, 1) := by decide +kernel
theorem d_M_look_638 : decode b_M_look 638 = .ok (.iconst 0, 1) := by decide +kernel
theorem d_M_look_639 : decode b_M_look 639 = .ok (.bastore, 1) := by decide +kernel
theorem d_M_look_640 : decode b_M_look 640 = .ok (.goto 37, 3) := by decide +kernel
theorem d_M_look_643 : decode b_M_look 643 = .ok (.aload_n 0, 1) := by decide +kernel
theorem d_M_look_644 : decode b_M_look 644 = .ok (.aload_n 0, 1) := by decide +kernel
theorem d_M_look_645 : decode b_M_look 645 = .ok (.getfield 139, 3) := by decide +kernel
theorem d_M_look_648 : decode b_M_look 648 = .ok (.iload 4, 2) := by decide +kernel
theorem d_M_look_650 : decode b_M_look 650 = .ok (.baload, 1) := by decide +kernel
theorem d_M_look_651 : decode b_M_look 651 = .ok (.invokevirtual 458, 3) := by decide +kernel
theorem d_M_look_654 : decode b_M_look 654 = .ok (.aload_n 0, 1) := by decide +kernel
theorem d_M_look_655 : decode b_M_look 655 = .ok (.getfield 139, 3) := by decide +kernel
theorem d_M_look_658 : decode b_M_look 658 = .ok (.iload_n 1, 1) := by decide +kernel
theorem d_M_look_659 : decode b_M_look 659 = .ok (.iconst 1, 1) := by decide +kernel
theorem d_M_look_660 : decode b_M_look 660 = .ok (.bastore, 1) := by decide +kernel
theorem d_M_look_661 : decode b_M_look 661 = .ok (.goto 16, 3) := by decide +kernel
theorem d_M_look_664 : decode b_M_look 664 = .ok (.aload_n 0, 1) := by decide +kernel
theorem d_M_look_665 : decode b_M_look 665 = .ok (.getfield 139, 3) := by decide +kernel
theorem d_M_look_668 : decode b_M_look 668 = .ok (.iload_n 1, 1) := by decide +kernel
theorem d_M_look_669 : decode b_M_look 669 = .ok (.aload_n 0, 1) := by decide +kernel
theorem d_M_look_670 : decode b_M_look 670 = .ok (.getfield 139, 3) := by decide +kernel
theorem d_M_look_673 : decode b_M_look 673 = .ok (.iload 4, 2) := by decide +kernel
theorem d_M_look_675 : decode b_M_look 675 = .ok (.baload, 1) := by decide +kernel
theorem d_M_look_676 : decode b_M_look 676 = .ok (.bastore, 1) := by decide +kernel
theorem d_M_look_677 : decode b_M_look 677 = .ok (.return_, 1) := by decide +kernel
abbrev mt_M_look : MT := (R_M, b_M_look, 9, none)
theorem vf_M_look : VF y_M_look mt_M_look 12 2 := ⟨im_M_look, se_M_look, in_M, co_M_look, by decide +kernel, _, _, rfl⟩
def f_M_look_b96 (γ : St) : Option Res :=
  some (.inl (5, γ 0 42), γ)
def f_M_look_b168 (γ : St) (x2 : Int) (x3 : Int) : Option Res :=
  chk (inb x3 61) (chk (inb x3 60) (chk (i32 ((γ 4 x3) + (γ 5 x3))) (chk (inb ((γ 4 x3) + (γ 5 x3)) 6000) (chk ((γ 14 ((γ 4 x3) + (γ 5 x3))) = 0 ∨ (γ 14 ((γ 4 x3) + (γ 5 x3))) = 1) (chk (inb x2 66000) (ap (setA γ 28 x2 (γ 14 ((γ 4 x3) + (γ 5 x3)))) fun γ13 =>
  some (.inr 0, γ13)))))))
def f_M_look_b153 (k122 : St → Int → Int → Int → Int → Option Res) (x168 : St → Int → Int → Option Res) (γ : St) (x14 : Int) (x15 : Int) (x16 : Int) (x17 : Int) (x18 : Int) : Option Res :=
  bndT (f_M_type γ x18) fun _ γ20 =>
  chk (inb x17 66000) (ap (γ20 23 x17) fun x23 =>
  k122 γ20 x14 x15 x16 x23)
def f_M_look_L122 (x168 : St → Int → Int → Option Res) : Nat → St → Int → Int → Int → Int → Option Res
  | 0, _, _, _, _, _ => none
  | n + 1, γ, x30, x31, x32, x33 =>
  if x33 < 0 then
  (x168 γ x30 x31)
  else
  (chk (inb x33 66000) (chk (i32 (x32 + 1)) (chk (inb x32 6000) (if (γ 28 x33) ≠ (γ 14 x32) then
  (f_M_look_b153 (f_M_look_L122 x168 n) x168 γ x30 x31 (x32 + 1) x33 0)
  else
  (f_M_look_b153 (f_M_look_L122 x168 n) x168 γ x30 x31 (x32 + 1) x33 1)))))
def f_M_look_b400 (γ : St) (x41 : Int) (x42 : Int) (x43 : Int) : Option Res :=
  bndT (f_M_type γ x43) fun _ γ45 =>
  chk (inb x42 66000) (chk ((γ45 28 x42) = 0 ∨ (γ45 28 x42) = 1) (chk (inb x41 66000) (ap (setA γ45 28 x41 (γ45 28 x42)) fun γ50 =>
  some (.inr 0, γ50))))
def f_M_look_b399 (γ : St) (x51 : Int) (x52 : Int) : Option Res :=
  f_M_look_b400 γ x51 x52 0
def f_M_look_b442 (γ : St) (x53 : Int) (x54 : Int) (x55 : Int) : Option Res :=
  bndT (f_M_type γ x55) fun _ γ57 =>
  chk (inb x54 66000) (chk ((γ57 28 x54) = 0 ∨ (γ57 28 x54) = 1) (chk (inb x53 66000) (ap (setA γ57 28 x53 (γ57 28 x54)) fun γ62 =>
  some (.inr 0, γ62))))
def f_M_look_b487 (γ : St) (x63 : Int) (x64 : Int) : Option Res :=
  bndT (f_M_type γ x64) fun _ γ66 =>
  chk (inb x63 66000) (ap (setA γ66 28 x63 1) fun γ68 =>
  some (.inr 0, γ68))
def f_M_look_b486 (γ : St) (x69 : Int) : Option Res :=
  f_M_look_b487 γ x69 0
def f_M_look_b523 (γ : St) (x70 : Int) (x71 : Int) : Option Res :=
  bndT (f_M_type γ x71) fun _ γ73 =>
  chk (inb x70 66000) (ap (setA γ73 28 x70 1) fun γ75 =>
  some (.inr 0, γ75))
def f_M_look_b562 (γ : St) (x76 : Int) (x77 : Int) : Option Res :=
  bndT (f_M_type γ x77) fun _ γ79 =>
  chk (inb x76 66000) (ap (setA γ79 28 x76 1) fun γ81 =>
  some (.inr 0, γ81))
def f_M_look_b561 (γ : St) (x82 : Int) : Option Res :=
  f_M_look_b562 γ x82 0
def f_M_look_b601 (γ : St) (x83 : Int) (x84 : Int) : Option Res :=
  bndT (f_M_type γ x84) fun _ γ86 =>
  chk (inb x83 66000) (ap (setA γ86 28 x83 0) fun γ88 =>
  some (.inr 0, γ88))
def f_M_look_b600 (γ : St) (x89 : Int) : Option Res :=
  f_M_look_b601 γ x89 0
def f_M_look_b630 (γ : St) (x90 : Int) (x91 : Int) : Option Res :=
  bndT (f_M_type γ x91) fun _ γ93 =>
  chk (inb x90 66000) (ap (setA γ93 28 x90 0) fun γ95 =>
  some (.inr 0, γ95))
def f_M_look_b54 (γ : St) (x96 : Int) (x97 : Int) (x98 : Int) (x99 : Int) (x100 : Int) : Option Res :=
  chk (inb x96 66000) (if (γ 20 x96) ≠ 3 then
  (chk (inb x96 66000) (if (γ 20 x96) = 0 then
  (chk (inb x96 66000) (ap (setA γ 28 x96 0) fun γ106 =>
  some (.inr 0, γ106)))
  else if (γ 20 x96) = 1 then
  (chk (inb x96 66000) (ap (setA γ 28 x96 1) fun γ109 =>
  some (.inr 0, γ109)))
  else if (γ 20 x96) = 2 then
  (chk (inb (γ 0 18) 61) (chk (inb x96 66000) (chk (i32 ((γ 4 (γ 0 18)) + (γ 21 x96))) (chk (inb ((γ 4 (γ 0 18)) + (γ 21 x96)) 6000) (chk ((γ 14 ((γ 4 (γ 0 18)) + (γ 21 x96))) = 0 ∨ (γ 14 ((γ 4 (γ 0 18)) + (γ 21 x96))) = 1) (chk (inb x96 66000) (ap (setA γ 28 x96 (γ 14 ((γ 4 (γ 0 18)) + (γ 21 x96)))) fun γ121 =>
  some (.inr 0, γ121))))))))
  else if (γ 20 x96) = 4 then
  (chk (inb x99 66000) (if (γ 28 x99) = 0 then
  (f_M_look_b399 γ x96 x100)
  else
  (chk (inb x100 66000) (chk (inb x100 66000) (chk (inb (γ 23 x100) 66000) (if (γ 28 x100) ≠ (γ 28 (γ 23 x100)) then
  (f_M_look_b399 γ x96 x100)
  else
  (f_M_look_b400 γ x96 x100 1)))))))
  else if (γ 20 x96) = 5 then
  (chk (inb x99 66000) (chk (inb x100 66000) (if (γ 28 x99) ≠ (γ 28 x100) then
  (f_M_look_b442 γ x96 x99 0)
  else
  (f_M_look_b442 γ x96 x99 1))))
  else if (γ 20 x96) = 6 then
  (chk (inb x99 66000) (chk (inb x100 66000) (if (γ 28 x99) ≠ (γ 28 x100) then
  (f_M_look_b442 γ x96 x99 0)
  else
  (f_M_look_b442 γ x96 x99 1))))
  else if (γ 20 x96) = 7 then
  (chk (inb x99 66000) (if (γ 28 x99) = 0 then
  (f_M_look_b486 γ x96)
  else
  (chk (inb x100 66000) (if (γ 28 x100) = 0 then
  (f_M_look_b486 γ x96)
  else
  (f_M_look_b487 γ x96 1)))))
  else if (γ 20 x96) = 8 then
  (chk (inb x99 66000) (if (γ 28 x99) = 0 then
  (f_M_look_b486 γ x96)
  else
  (chk (inb x100 66000) (if (γ 28 x100) = 0 then
  (f_M_look_b486 γ x96)
  else
  (f_M_look_b487 γ x96 1)))))
  else if (γ 20 x96) = 9 then
  (chk (inb x99 66000) (if (γ 28 x99) = 0 then
  (f_M_look_b486 γ x96)
  else
  (chk (inb x100 66000) (if (γ 28 x100) = 0 then
  (f_M_look_b486 γ x96)
  else
  (f_M_look_b487 γ x96 1)))))
  else if (γ 20 x96) = 10 then
  (chk (inb x99 66000) (if (γ 28 x99) = 0 then
  (f_M_look_b486 γ x96)
  else
  (chk (inb x100 66000) (if (γ 28 x100) = 0 then
  (f_M_look_b486 γ x96)
  else
  (f_M_look_b487 γ x96 1)))))
  else if (γ 20 x96) = 11 then
  (chk (inb x99 66000) (chk (inb x100 66000) (if (γ 28 x99) ≠ (γ 28 x100) then
  (f_M_look_b523 γ x96 0)
  else
  (f_M_look_b523 γ x96 1))))
  else if (γ 20 x96) = 12 then
  (chk (inb x99 66000) (chk (inb x100 66000) (if (γ 28 x99) ≠ (γ 28 x100) then
  (f_M_look_b523 γ x96 0)
  else
  (f_M_look_b523 γ x96 1))))
  else if (γ 20 x96) = 13 then
  (chk (inb x99 66000) (if (γ 28 x99) ≠ 0 then
  (f_M_look_b561 γ x96)
  else
  (chk (inb x100 66000) (if (γ 28 x100) ≠ 0 then
  (f_M_look_b561 γ x96)
  else
  (f_M_look_b562 γ x96 1)))))
  else if (γ 20 x96) = 14 then
  (chk (inb x99 66000) (if (γ 28 x99) ≠ 0 then
  (f_M_look_b561 γ x96)
  else
  (chk (inb x100 66000) (if (γ 28 x100) ≠ 0 then
  (f_M_look_b561 γ x96)
  else
  (f_M_look_b562 γ x96 1)))))
  else if (γ 20 x96) = 15 then
  (chk (inb x99 66000) (if (γ 28 x99) ≠ 0 then
  (f_M_look_b561 γ x96)
  else
  (chk (inb x100 66000) (if (γ 28 x100) ≠ 0 then
  (f_M_look_b561 γ x96)
  else
  (f_M_look_b562 γ x96 1)))))
  else if (γ 20 x96) = 16 then
  (chk (inb x99 66000) (if (γ 28 x99) ≠ 0 then
  (f_M_look_b561 γ x96)
  else
  (chk (inb x100 66000) (if (γ 28 x100) ≠ 0 then
  (f_M_look_b561 γ x96)
  else
  (f_M_look_b562 γ x96 1)))))
  else if (γ 20 x96) = 17 then
  (chk (inb x99 66000) (if (γ 28 x99) ≠ 0 then
  (f_M_look_b600 γ x96)
  else
  (chk (inb x100 66000) (if (γ 28 x100) ≠ 0 then
  (f_M_look_b600 γ x96)
  else
  (f_M_look_b601 γ x96 1)))))
  else if (γ 20 x96) = 18 then
  (chk (inb x99 66000) (if (γ 28 x99) ≠ 0 then
  (f_M_look_b600 γ x96)
  else
  (chk (inb x100 66000) (if (γ 28 x100) ≠ 0 then
  (f_M_look_b600 γ x96)
  else
  (f_M_look_b601 γ x96 1)))))
  else if (γ 20 x96) = 19 then
  (chk (inb x99 66000) (if (γ 28 x99) ≠ 0 then
  (f_M_look_b600 γ x96)
  else
  (chk (inb x100 66000) (if (γ 28 x100) ≠ 0 then
  (f_M_look_b600 γ x96)
  else
  (f_M_look_b601 γ x96 1)))))
  else if (γ 20 x96) = 20 then
  (chk (inb x99 66000) (if (γ 28 x99) ≠ 0 then
  (f_M_look_b600 γ x96)
  else
  (chk (inb x100 66000) (if (γ 28 x100) ≠ 0 then
  (f_M_look_b600 γ x96)
  else
  (f_M_look_b601 γ x96 1)))))
  else if (γ 20 x96) = 21 then
  (chk (inb x99 66000) (if (γ 28 x99) ≠ 0 then
  (f_M_look_b600 γ x96)
  else
  (chk (inb x100 66000) (if (γ 28 x100) ≠ 0 then
  (f_M_look_b600 γ x96)
  else
  (f_M_look_b601 γ x96 1)))))
  else if (γ 20 x96) = 22 then
  (chk (inb x99 66000) (if (γ 28 x99) ≠ 0 then
  (f_M_look_b630 γ x96 0)
  else
  (f_M_look_b630 γ x96 1)))
  else if (γ 20 x96) = 23 then
  (chk (inb x99 66000) (bndT (f_M_type γ (γ 28 x99)) fun _ γ223 =>
  chk (inb x96 66000) (ap (setA γ223 28 x96 1) fun γ225 =>
  some (.inr 0, γ225))))
  else (chk (inb x99 66000) (chk ((γ 28 x99) = 0 ∨ (γ 28 x99) = 1) (chk (inb x96 66000) (ap (setA γ 28 x96 (γ 28 x99)) fun γ231 =>
  some (.inr 0, γ231)))))))
  else
  (chk (inb x96 66000) (ap (γ 21 x96) fun x235 =>
  chk (inb x235 60) (if x98 ≠ (γ 5 x235) then
  (f_M_look_b96 γ )
  else
  (chk (inb x235 60) (if x97 = (γ 6 x235) then
  (chk (inb x235 61) (ap (γ 4 x235) fun x242 =>
  f_M_look_L122 (f_M_look_b168) FU γ x96 x235 x242 x99))
  else
  (f_M_look_b96 γ )))))))
def f_M_look_b30 (γ : St) (x243 : Int) (x244 : Int) (x245 : Int) : Option Res :=
  chk (inb x243 66000) (ap (γ 22 x243) fun x248 =>
  if 0 ≤ x248 then
  (chk (inb x248 66000) (f_M_look_b54 γ x243 x244 x245 x248 (γ 23 x248)))
  else
  (f_M_look_b54 γ x243 x244 x245 x248 (-1)))
def f_M_look_L10 (x30 : St → Int → Int → Int → Option Res) : Nat → St → Int → Int → Int → Int → Option Res
  | 0, _, _, _, _, _ => none
  | n + 1, γ, x251, x252, x253, x254 =>
  if x254 < 0 then
  (x30 γ x251 x252 x253)
  else
  (chk (i32 (x253 + 1)) (chk (inb x254 66000) (ap (γ 23 x254) fun x258 =>
  (f_M_look_L10 x30 n) γ x251 x252 (x253 + 1) x258)))
def f_M_look (γ : St) (a0 : Int) (a1 : Int) : Option Res :=
  chk (inb a0 66000) (ap (γ 22 a0) fun x264 =>
  f_M_look_L10 (f_M_look_b30) FU γ a0 a1 0 x264)
set_option maxHeartbeats 4000000 in
theorem s_M_look_b96 {Γ : Ctx} : ∀ (γ : St), SB Γ BM mt_M_look (RmT 7 261) 0 0 (KT Γ BM mt_M_look.2.2.2) 96 [(0, vR Γ 0)] [] γ (f_M_look_b96 γ ) := by
  intro γ
  unfold f_M_look_b96
  refine sb_bd (j := 0) (i := 42) rfl (fun c1 => ?_)
  exact sb_thr rfl d_M_look_96 d_M_look_99 (pu_iconst d_M_look_100) (pu_fld kf_M 0 42 rfl rfl rfl (by decide) fl_M_142 d_M_look_101 d_M_look_102) d_M_look_105 d_M_look_108 (by decide) c1 ⟨by decide, by decide⟩
set_option maxHeartbeats 4000000 in
theorem s_M_look_b168 {Γ : Ctx} : ∀ (γ : St) (x2 : Int) (x3 : Int), i32 x2 → i32 x3 → SB Γ BM mt_M_look (RmT 7 261) 0 0 (KT Γ BM mt_M_look.2.2.2) 168 [(0, vR Γ 0), (1, vI x2), (6, vI x3)] [] γ (f_M_look_b168 γ x2 x3) := by
  intro γ x2 x3 hx2 hx3
  unfold f_M_look_b168
  refine sb_aload_n 0 d_M_look_168 rfl ?_
  refine g_M_139 d_M_look_169 ?_
  refine sb_iload_n 1 d_M_look_172 rfl ?_
  refine sb_aload_n 0 d_M_look_173 rfl ?_
  refine g_M_86 d_M_look_174 ?_
  refine sb_aload_n 0 d_M_look_177 rfl ?_
  refine g_M_50 d_M_look_178 ?_
  refine sb_iload 2 d_M_look_181 rfl ?_
  refine al_M_4 d_M_look_183 (fun _ c7 => ?_)
  refine sb_aload_n 0 d_M_look_184 rfl ?_
  refine g_M_53 d_M_look_185 ?_
  refine sb_iload 2 d_M_look_188 rfl ?_
  refine al_M_5 d_M_look_190 (fun _ c9 => ?_)
  refine sb_iadd d_M_look_191 ?_
  refine sb_chk (fun c10 => ?_)
  refine al_M_14 d_M_look_192 (fun _ c11 => ?_)
  refine sb_chk (fun c12 => ?_)
  refine as_M_28 c12 d_M_look_193 (fun _ => ?_)
  refine sb_aps (fun γ13 => ?_)
  exact st_v rfl d_M_look_194
set_option maxHeartbeats 4000000 in
theorem s_M_look_b153 {Γ : Ctx} {k122 : St → Int → Int → Int → Int → Option Res} {x168 : St → Int → Int → Option Res} (hk122 : ∀ (γ : St) (x24 : Int) (x25 : Int) (x26 : Int) (x27 : Int), i32 x24 → i32 x25 → i32 x26 → i32 x27 → SB Γ BM mt_M_look (RmT 7 261) 0 0 (KT Γ BM mt_M_look.2.2.2) 122 [(0, vR Γ 0), (1, vI x24), (6, vI x25), (7, vI x26), (8, vI x27)] [] γ (k122 γ x24 x25 x26 x27)) (hx168 : ∀ (γ : St) (x28 : Int) (x29 : Int), i32 x28 → i32 x29 → SB Γ BM mt_M_look (RmT 7 261) 0 0 (KT Γ BM mt_M_look.2.2.2) 168 [(0, vR Γ 0), (1, vI x28), (6, vI x29)] [] γ (x168 γ x28 x29)) : ∀ (γ : St) (x14 : Int) (x15 : Int) (x16 : Int) (x17 : Int) (x18 : Int), i32 x14 → i32 x15 → i32 x16 → i32 x17 → i32 x18 → SB Γ BM mt_M_look (RmT 7 261) 0 0 (KT Γ BM mt_M_look.2.2.2) 153 [(0, vR Γ 0), (1, vI x14), (6, vI x15), (7, vI x16), (8, vI x17)] [vI x18, vR Γ 0] γ (f_M_look_b153 k122 x168 γ x14 x15 x16 x17 x18) := by
  intro γ x14 x15 x16 x17 x18 hx14 hx15 hx16 hx17 hx18
  unfold f_M_look_b153
  refine sb_cTv vf_M_type (c_M_type γ x18 hx18) rfl ml_M_458 (As := [vI x18]) rfl rfl (Nat.le_of_ble_eq_true rfl) ⟨by decide, by decide⟩ d_M_look_153 (fun _ γ20 => ?_)
  refine sb_aload_n 0 d_M_look_156 rfl ?_
  refine g_M_121 d_M_look_157 ?_
  refine sb_iload 4 d_M_look_160 rfl ?_
  refine al_M_23 d_M_look_162 (fun _ c22 => ?_)
  refine sb_istore [(8, vI (γ20 23 x17)), (0, vR Γ 0), (1, vI x14), (6, vI x15), (7, vI x16)] d_M_look_163 (by decide) rfl ?_
  refine sb_nme (e := γ20 23 x17) (fun x23 => [(8, vI x23), (0, vR Γ 0), (1, vI x14), (6, vI x15), (7, vI x16)]) c22 (fun x23 hx23 => ?_)
  refine sb_goto 122 d_M_look_165 (by decide) ?_
  exact sb_lv [1, 2, 3, 4, 0] rfl (hk122 γ20 x14 x15 x16 x23 hx14 hx15 hx16 hx23)
set_option maxHeartbeats 4000000 in
theorem s_M_look_L122 {Γ : Ctx} {x168 : St → Int → Int → Option Res} (hx168 : ∀ (γ : St) (x39 : Int) (x40 : Int), i32 x39 → i32 x40 → SB Γ BM mt_M_look (RmT 7 261) 0 0 (KT Γ BM mt_M_look.2.2.2) 168 [(0, vR Γ 0), (1, vI x39), (6, vI x40)] [] γ (x168 γ x39 x40)) : ∀ (n : Nat) (γ : St) (x30 : Int) (x31 : Int) (x32 : Int) (x33 : Int), i32 x30 → i32 x31 → i32 x32 → i32 x33 → SB Γ BM mt_M_look (RmT 7 261) 0 0 (KT Γ BM mt_M_look.2.2.2) 122 [(0, vR Γ 0), (1, vI x30), (6, vI x31), (7, vI x32), (8, vI x33)] [] γ (f_M_look_L122 x168 n γ x30 x31 x32 x33) := by
  intro n
  induction n with
  | zero => intros; exact sb_none
  | succ n ih =>
    intro γ x30 x31 x32 x33 hx30 hx31 hx32 hx33
    unfold f_M_look_L122
    refine sb_iload 4 d_M_look_122 rfl ?_
    refine sb_if_lt 168 hx33 d_M_look_124 (by decide) (fun _ => ?_) (fun _ => ?_)
    · exact sb_lv [0, 1, 2] rfl (hx168 γ x30 x31 hx30 hx31)
    · refine sb_aload_n 0 d_M_look_127 rfl ?_
      refine sb_aload_n 0 d_M_look_128 rfl ?_
      refine g_M_139 d_M_look_129 ?_
      refine sb_iload 4 d_M_look_132 rfl ?_
      refine al_M_28 d_M_look_134 (fun _ c35 => ?_)
      refine sb_aload_n 0 d_M_look_135 rfl ?_
      refine g_M_86 d_M_look_136 ?_
      refine sb_iload 3 d_M_look_139 rfl ?_
      refine sb_iinc 3 [(7, vI (x32 + 1)), (0, vR Γ 0), (1, vI x30), (6, vI x31), (8, vI x33)] d_M_look_141 rfl (by decide) rfl ?_
      refine sb_chk (fun c37 => ?_)
      refine al_M_14 d_M_look_144 (fun _ c38 => ?_)
      refine sb_icmp_ne 152 c35 c38 d_M_look_145 (by decide) (fun _ => ?_) (fun _ => ?_)
      · refine sb_iconst d_M_look_152 ?_
        exact sb_lv [1, 2, 3, 0, 4] rfl (s_M_look_b153 ih hx168 γ x30 x31 (x32 + 1) x33 0 hx30 hx31 c37 hx33 (by decide))
      · refine sb_iconst d_M_look_148 ?_
        refine sb_goto 153 d_M_look_149 (by decide) ?_
        exact sb_lv [1, 2, 3, 0, 4] rfl (s_M_look_b153 ih hx168 γ x30 x31 (x32 + 1) x33 1 hx30 hx31 c37 hx33 (by decide))
set_option maxHeartbeats 4000000 in
theorem s_M_look_b400 {Γ : Ctx} : ∀ (γ : St) (x41 : Int) (x42 : Int) (x43 : Int), i32 x41 → i32 x42 → i32 x43 → SB Γ BM mt_M_look (RmT 7 261) 0 0 (KT Γ BM mt_M_look.2.2.2) 400 [(0, vR Γ 0), (1, vI x41), (5, vI x42)] [vI x43, vR Γ 0] γ (f_M_look_b400 γ x41 x42 x43) := by
  intro γ x41 x42 x43 hx41 hx42 hx43
  unfold f_M_look_b400
  refine sb_cTv vf_M_type (c_M_type γ x43 hx43) rfl ml_M_458 (As := [vI x43]) rfl rfl (Nat.le_of_ble_eq_true rfl) ⟨by decide, by decide⟩ d_M_look_400 (fun _ γ45 => ?_)
  refine sb_aload_n 0 d_M_look_403 rfl ?_
  refine g_M_139 d_M_look_404 ?_
  refine sb_iload_n 1 d_M_look_407 rfl ?_
  refine sb_aload_n 0 d_M_look_408 rfl ?_
  refine g_M_139 d_M_look_409 ?_
  refine sb_iload 2 d_M_look_412 rfl ?_
  refine al_M_28 d_M_look_414 (fun _ c48 => ?_)
  refine sb_chk (fun c49 => ?_)
  refine as_M_28 c49 d_M_look_415 (fun _ => ?_)
  refine sb_aps (fun γ50 => ?_)
  refine sb_goto 677 d_M_look_416 (by decide) ?_
  exact st_v rfl d_M_look_677
set_option maxHeartbeats 4000000 in
theorem s_M_look_b399 {Γ : Ctx} : ∀ (γ : St) (x51 : Int) (x52 : Int), i32 x51 → i32 x52 → SB Γ BM mt_M_look (RmT 7 261) 0 0 (KT Γ BM mt_M_look.2.2.2) 399 [(0, vR Γ 0), (1, vI x51), (5, vI x52)] [vR Γ 0] γ (f_M_look_b399 γ x51 x52) := by
  intro γ x51 x52 hx51 hx52
  unfold f_M_look_b399
  refine sb_iconst d_M_look_399 ?_
  exact sb_lv [0, 1, 2] rfl (s_M_look_b400 γ x51 x52 0 hx51 hx52 (by decide))
set_option maxHeartbeats 4000000 in
theorem s_M_look_b442 {Γ : Ctx} : ∀ (γ : St) (x53 : Int) (x54 : Int) (x55 : Int), i32 x53 → i32 x54 → i32 x55 → SB Γ BM mt_M_look (RmT 7 261) 0 0 (KT Γ BM mt_M_look.2.2.2) 442 [(0, vR Γ 0), (1, vI x53), (4, vI x54)] [vI x55, vR Γ 0] γ (f_M_look_b442 γ x53 x54 x55) := by
  intro γ x53 x54 x55 hx53 hx54 hx55
  unfold f_M_look_b442
  refine sb_cTv vf_M_type (c_M_type γ x55 hx55) rfl ml_M_458 (As := [vI x55]) rfl rfl (Nat.le_of_ble_eq_true rfl) ⟨by decide, by decide⟩ d_M_look_442 (fun _ γ57 => ?_)
  refine sb_aload_n 0 d_M_look_445 rfl ?_
  refine g_M_139 d_M_look_446 ?_
  refine sb_iload_n 1 d_M_look_449 rfl ?_
  refine sb_aload_n 0 d_M_look_450 rfl ?_
  refine g_M_139 d_M_look_451 ?_
  refine sb_iload 2 d_M_look_454 rfl ?_
  refine al_M_28 d_M_look_456 (fun _ c60 => ?_)
  refine sb_chk (fun c61 => ?_)
  refine as_M_28 c61 d_M_look_457 (fun _ => ?_)
  refine sb_aps (fun γ62 => ?_)
  refine sb_goto 677 d_M_look_458 (by decide) ?_
  exact st_v rfl d_M_look_677
set_option maxHeartbeats 4000000 in
theorem s_M_look_b487 {Γ : Ctx} : ∀ (γ : St) (x63 : Int) (x64 : Int), i32 x63 → i32 x64 → SB Γ BM mt_M_look (RmT 7 261) 0 0 (KT Γ BM mt_M_look.2.2.2) 487 [(0, vR Γ 0), (1, vI x63)] [vI x64, vR Γ 0] γ (f_M_look_b487 γ x63 x64) := by
  intro γ x63 x64 hx63 hx64
  unfold f_M_look_b487
  refine sb_cTv vf_M_type (c_M_type γ x64 hx64) rfl ml_M_458 (As := [vI x64]) rfl rfl (Nat.le_of_ble_eq_true rfl) ⟨by decide, by decide⟩ d_M_look_487 (fun _ γ66 => ?_)
  refine sb_aload_n 0 d_M_look_490 rfl ?_
  refine g_M_139 d_M_look_491 ?_
  refine sb_iload_n 1 d_M_look_494 rfl ?_
  refine sb_iconst d_M_look_495 ?_
  refine as_M_28 (by decide) d_M_look_496 (fun _ => ?_)
  refine sb_aps (fun γ68 => ?_)
  refine sb_goto 677 d_M_look_497 (by decide) ?_
  exact st_v rfl d_M_look_677
set_option maxHeartbeats 4000000 in
theorem s_M_look_b486 {Γ : Ctx} : ∀ (γ : St) (x69 : Int), i32 x69 → SB Γ BM mt_M_look (RmT 7 261) 0 0 (KT Γ BM mt_M_look.2.2.2) 486 [(0, vR Γ 0), (1, vI x69)] [vR Γ 0] γ (f_M_look_b486 γ x69) := by
  intro γ x69 hx69
  unfold f_M_look_b486
  refine sb_iconst d_M_look_486 ?_
  exact sb_lv [0, 1] rfl (s_M_look_b487 γ x69 0 hx69 (by decide))
set_option maxHeartbeats 4000000 in
theorem s_M_look_b523 {Γ : Ctx} : ∀ (γ : St) (x70 : Int) (x71 : Int), i32 x70 → i32 x71 → SB Γ BM mt_M_look (RmT 7 261) 0 0 (KT Γ BM mt_M_look.2.2.2) 523 [(0, vR Γ 0), (1, vI x70)] [vI x71, vR Γ 0] γ (f_M_look_b523 γ x70 x71) := by
  intro γ x70 x71 hx70 hx71
  unfold f_M_look_b523
  refine sb_cTv vf_M_type (c_M_type γ x71 hx71) rfl ml_M_458 (As := [vI x71]) rfl rfl (Nat.le_of_ble_eq_true rfl) ⟨by decide, by decide⟩ d_M_look_523 (fun _ γ73 => ?_)
  refine sb_aload_n 0 d_M_look_526 rfl ?_
  refine g_M_139 d_M_look_527 ?_
  refine sb_iload_n 1 d_M_look_530 rfl ?_
  refine sb_iconst d_M_look_531 ?_
  refine as_M_28 (by decide) d_M_look_532 (fun _ => ?_)
  refine sb_aps (fun γ75 => ?_)
  refine sb_goto 677 d_M_look_533 (by decide) ?_
  exact st_v rfl d_M_look_677
set_option maxHeartbeats 4000000 in
theorem s_M_look_b562 {Γ : Ctx} : ∀ (γ : St) (x76 : Int) (x77 : Int), i32 x76 → i32 x77 → SB Γ BM mt_M_look (RmT 7 261) 0 0 (KT Γ BM mt_M_look.2.2.2) 562 [(0, vR Γ 0), (1, vI x76)] [vI x77, vR Γ 0] γ (f_M_look_b562 γ x76 x77) := by
  intro γ x76 x77 hx76 hx77
  unfold f_M_look_b562
  refine sb_cTv vf_M_type (c_M_type γ x77 hx77) rfl ml_M_458 (As := [vI x77]) rfl rfl (Nat.le_of_ble_eq_true rfl) ⟨by decide, by decide⟩ d_M_look_562 (fun _ γ79 => ?_)
  refine sb_aload_n 0 d_M_look_565 rfl ?_
  refine g_M_139 d_M_look_566 ?_
  refine sb_iload_n 1 d_M_look_569 rfl ?_
  refine sb_iconst d_M_look_570 ?_
  refine as_M_28 (by decide) d_M_look_571 (fun _ => ?_)
  refine sb_aps (fun γ81 => ?_)
  refine sb_goto 677 d_M_look_572 (by decide) ?_
  exact st_v rfl d_M_look_677
set_option maxHeartbeats 4000000 in
theorem s_M_look_b561 {Γ : Ctx} : ∀ (γ : St) (x82 : Int), i32 x82 → SB Γ BM mt_M_look (RmT 7 261) 0 0 (KT Γ BM mt_M_look.2.2.2) 561 [(0, vR Γ 0), (1, vI x82)] [vR Γ 0] γ (f_M_look_b561 γ x82) := by
  intro γ x82 hx82
  unfold f_M_look_b561
  refine sb_iconst d_M_look_561 ?_
  exact sb_lv [0, 1] rfl (s_M_look_b562 γ x82 0 hx82 (by decide))
set_option maxHeartbeats 4000000 in
theorem s_M_look_b601 {Γ : Ctx} : ∀ (γ : St) (x83 : Int) (x84 : Int), i32 x83 → i32 x84 → SB Γ BM mt_M_look (RmT 7 261) 0 0 (KT Γ BM mt_M_look.2.2.2) 601 [(0, vR Γ 0), (1, vI x83)] [vI x84, vR Γ 0] γ (f_M_look_b601 γ x83 x84) := by
  intro γ x83 x84 hx83 hx84
  unfold f_M_look_b601
  refine sb_cTv vf_M_type (c_M_type γ x84 hx84) rfl ml_M_458 (As := [vI x84]) rfl rfl (Nat.le_of_ble_eq_true rfl) ⟨by decide, by decide⟩ d_M_look_601 (fun _ γ86 => ?_)
  refine sb_aload_n 0 d_M_look_604 rfl ?_
  refine g_M_139 d_M_look_605 ?_
  refine sb_iload_n 1 d_M_look_608 rfl ?_
  refine sb_iconst d_M_look_609 ?_
  refine as_M_28 (by decide) d_M_look_610 (fun _ => ?_)
  refine sb_aps (fun γ88 => ?_)
  refine sb_goto 677 d_M_look_611 (by decide) ?_
  exact st_v rfl d_M_look_677
set_option maxHeartbeats 4000000 in
theorem s_M_look_b600 {Γ : Ctx} : ∀ (γ : St) (x89 : Int), i32 x89 → SB Γ BM mt_M_look (RmT 7 261) 0 0 (KT Γ BM mt_M_look.2.2.2) 600 [(0, vR Γ 0), (1, vI x89)] [vR Γ 0] γ (f_M_look_b600 γ x89) := by
  intro γ x89 hx89
  unfold f_M_look_b600
  refine sb_iconst d_M_look_600 ?_
  exact sb_lv [0, 1] rfl (s_M_look_b601 γ x89 0 hx89 (by decide))
set_option maxHeartbeats 4000000 in
theorem s_M_look_b630 {Γ : Ctx} : ∀ (γ : St) (x90 : Int) (x91 : Int), i32 x90 → i32 x91 → SB Γ BM mt_M_look (RmT 7 261) 0 0 (KT Γ BM mt_M_look.2.2.2) 630 [(0, vR Γ 0), (1, vI x90)] [vI x91, vR Γ 0] γ (f_M_look_b630 γ x90 x91) := by
  intro γ x90 x91 hx90 hx91
  unfold f_M_look_b630
  refine sb_cTv vf_M_type (c_M_type γ x91 hx91) rfl ml_M_458 (As := [vI x91]) rfl rfl (Nat.le_of_ble_eq_true rfl) ⟨by decide, by decide⟩ d_M_look_630 (fun _ γ93 => ?_)
  refine sb_aload_n 0 d_M_look_633 rfl ?_
  refine g_M_139 d_M_look_634 ?_
  refine sb_iload_n 1 d_M_look_637 rfl ?_
  refine sb_iconst d_M_look_638 ?_
  refine as_M_28 (by decide) d_M_look_639 (fun _ => ?_)
  refine sb_aps (fun γ95 => ?_)
  refine sb_goto 677 d_M_look_640 (by decide) ?_
  exact st_v rfl d_M_look_677
set_option maxHeartbeats 4000000 in
theorem s_M_look_b54 {Γ : Ctx} : ∀ (γ : St) (x96 : Int) (x97 : Int) (x98 : Int) (x99 : Int) (x100 : Int), i32 x96 → i32 x97 → i32 x98 → i32 x99 → i32 x100 → SB Γ BM mt_M_look (RmT 7 261) 0 0 (KT Γ BM mt_M_look.2.2.2) 54 [(0, vR Γ 0), (1, vI x96), (2, vI x97), (3, vI x98), (4, vI x99)] [vI x100] γ (f_M_look_b54 γ x96 x97 x98 x99 x100) := by
  intro γ x96 x97 x98 x99 x100 hx96 hx97 hx98 hx99 hx100
  unfold f_M_look_b54
  refine sb_istore [(5, vI x100), (0, vR Γ 0), (1, vI x96), (2, vI x97), (3, vI x98), (4, vI x99)] d_M_look_54 (by decide) rfl ?_
  refine sb_aload_n 1 d_M_look_56 rfl ?_
  refine g_M_112 d_M_look_57 ?_
  refine sb_iload_n 2 d_M_look_60 rfl ?_
  refine al_M_20 d_M_look_61 (fun _ c102 => ?_)
  refine sb_iconst d_M_look_62 ?_
  refine sb_icmp_ne 195 c102 (by decide) d_M_look_63 (by decide) (fun _ => ?_) (fun _ => ?_)
  · refine sb_aload_n 1 d_M_look_195 rfl ?_
    refine g_M_112 d_M_look_196 ?_
    refine sb_iload_n 2 d_M_look_199 rfl ?_
    refine al_M_20 d_M_look_200 (fun _ c104 => ?_)
    refine sb_tc (off := 111) 0 312 c104 d_M_look_201 (by decide) (by decide) (fun _ => ?_) (fun n107 => ?_)
    · refine sb_aload_n 1 d_M_look_312 rfl ?_
      refine g_M_139 d_M_look_313 ?_
      refine sb_iload_n 2 d_M_look_316 rfl ?_
      refine sb_iconst d_M_look_317 ?_
      refine as_M_28 (by decide) d_M_look_318 (fun _ => ?_)
      refine sb_aps (fun γ106 => ?_)
      refine sb_goto 677 d_M_look_319 (by decide) ?_
      exact st_v rfl d_M_look_677
    refine sb_tc (off := 121) 1 322 c104 d_M_look_201 (by decide) (by decide) (fun _ => ?_) (fun n110 => ?_)
    · refine sb_aload_n 1 d_M_look_322 rfl ?_
      refine g_M_139 d_M_look_323 ?_
      refine sb_iload_n 2 d_M_look_326 rfl ?_
      refine sb_iconst d_M_look_327 ?_
      refine as_M_28 (by decide) d_M_look_328 (fun _ => ?_)
      refine sb_aps (fun γ109 => ?_)
      refine sb_goto 677 d_M_look_329 (by decide) ?_
      exact st_v rfl d_M_look_677
    refine sb_tc (off := 131) 2 332 c104 d_M_look_201 (by decide) (by decide) (fun _ => ?_) (fun n122 => ?_)
    · refine sb_aload_n 1 d_M_look_332 rfl ?_
      refine g_M_139 d_M_look_333 ?_
      refine sb_iload_n 2 d_M_look_336 rfl ?_
      refine sb_aload_n 1 d_M_look_337 rfl ?_
      refine g_M_86 d_M_look_338 ?_
      refine sb_aload_n 1 d_M_look_341 rfl ?_
      refine g_M_50 d_M_look_342 ?_
      refine sb_aload_n 1 d_M_look_345 rfl ?_
      refine g_M_68 d_M_look_346 (fun c114 => ?_)
      refine al_M_4 d_M_look_349 (fun _ c115 => ?_)
      refine sb_aload_n 1 d_M_look_350 rfl ?_
      refine g_M_115 d_M_look_351 ?_
      refine sb_iload_n 2 d_M_look_354 rfl ?_
      refine al_M_21 d_M_look_355 (fun _ c117 => ?_)
      refine sb_iadd d_M_look_356 ?_
      refine sb_chk (fun c118 => ?_)
      refine al_M_14 d_M_look_357 (fun _ c119 => ?_)
      refine sb_chk (fun c120 => ?_)
      refine as_M_28 c120 d_M_look_358 (fun _ => ?_)
      refine sb_aps (fun γ121 => ?_)
      refine sb_goto 677 d_M_look_359 (by decide) ?_
      exact st_v rfl d_M_look_677
    refine sb_tc (off := 161) 4 362 c104 d_M_look_201 (by decide) (by decide) (fun _ => ?_) (fun n131 => ?_)
    · refine sb_aload_n 1 d_M_look_362 rfl ?_
      refine sb_aload_n 1 d_M_look_363 rfl ?_
      refine g_M_139 d_M_look_364 ?_
      refine sb_iload 5 d_M_look_367 rfl ?_
      refine al_M_28 d_M_look_369 (fun _ c124 => ?_)
      refine sb_if_eq 399 c124 d_M_look_370 (by decide) (fun _ => ?_) (fun _ => ?_)
      · exact sb_lv [1, 2, 0] rfl (s_M_look_b399 γ x96 x100 hx96 hx100)
      · refine sb_aload_n 1 d_M_look_373 rfl ?_
        refine g_M_139 d_M_look_374 ?_
        refine sb_iload 0 d_M_look_377 rfl ?_
        refine al_M_28 d_M_look_379 (fun _ c126 => ?_)
        refine sb_aload_n 1 d_M_look_380 rfl ?_
        refine g_M_139 d_M_look_381 ?_
        refine sb_aload_n 1 d_M_look_384 rfl ?_
        refine g_M_121 d_M_look_385 ?_
        refine sb_iload 0 d_M_look_388 rfl ?_
        refine al_M_23 d_M_look_390 (fun _ c129 => ?_)
        refine al_M_28 d_M_look_391 (fun _ c130 => ?_)
        refine sb_icmp_ne 399 c126 c130 d_M_look_392 (by decide) (fun _ => ?_) (fun _ => ?_)
        · exact sb_lv [1, 2, 0] rfl (s_M_look_b399 γ x96 x100 hx96 hx100)
        · refine sb_iconst d_M_look_395 ?_
          refine sb_goto 400 d_M_look_396 (by decide) ?_
          exact sb_lv [1, 2, 0] rfl (s_M_look_b400 γ x96 x100 1 hx96 hx100 (by decide))
    refine sb_tc (off := 218) 5 419 c104 d_M_look_201 (by decide) (by decide) (fun _ => ?_) (fun n136 => ?_)
    · refine sb_aload_n 1 d_M_look_419 rfl ?_
      refine sb_aload_n 1 d_M_look_420 rfl ?_
      refine g_M_139 d_M_look_421 ?_
      refine sb_iload 5 d_M_look_424 rfl ?_
      refine al_M_28 d_M_look_426 (fun _ c133 => ?_)
      refine sb_aload_n 1 d_M_look_427 rfl ?_
      refine g_M_139 d_M_look_428 ?_
      refine sb_iload 0 d_M_look_431 rfl ?_
      refine al_M_28 d_M_look_433 (fun _ c135 => ?_)
      refine sb_icmp_ne 441 c133 c135 d_M_look_434 (by decide) (fun _ => ?_) (fun _ => ?_)
      · refine sb_iconst d_M_look_441 ?_
        exact sb_lv [1, 2, 5] rfl (s_M_look_b442 γ x96 x99 0 hx96 hx99 (by decide))
      · refine sb_iconst d_M_look_437 ?_
        refine sb_goto 442 d_M_look_438 (by decide) ?_
        exact sb_lv [1, 2, 5] rfl (s_M_look_b442 γ x96 x99 1 hx96 hx99 (by decide))
    refine sb_tc (off := 218) 6 419 c104 d_M_look_201 (by decide) (by decide) (fun _ => ?_) (fun n141 => ?_)
    · refine sb_aload_n 1 d_M_look_419 rfl ?_
      refine sb_aload_n 1 d_M_look_420 rfl ?_
      refine g_M_139 d_M_look_421 ?_
      refine sb_iload 5 d_M_look_424 rfl ?_
      refine al_M_28 d_M_look_426 (fun _ c138 => ?_)
      refine sb_aload_n 1 d_M_look_427 rfl ?_
      refine g_M_139 d_M_look_428 ?_
      refine sb_iload 0 d_M_look_431 rfl ?_
      refine al_M_28 d_M_look_433 (fun _ c140 => ?_)
      refine sb_icmp_ne 441 c138 c140 d_M_look_434 (by decide) (fun _ => ?_) (fun _ => ?_)
      · refine sb_iconst d_M_look_441 ?_
        exact sb_lv [1, 2, 5] rfl (s_M_look_b442 γ x96 x99 0 hx96 hx99 (by decide))
      · refine sb_iconst d_M_look_437 ?_
        refine sb_goto 442 d_M_look_438 (by decide) ?_
        exact sb_lv [1, 2, 5] rfl (s_M_look_b442 γ x96 x99 1 hx96 hx99 (by decide))
    refine sb_tc (off := 260) 7 461 c104 d_M_look_201 (by decide) (by decide) (fun _ => ?_) (fun n146 => ?_)
    · refine sb_aload_n 1 d_M_look_461 rfl ?_
      refine sb_aload_n 1 d_M_look_462 rfl ?_
      refine g_M_139 d_M_look_463 ?_
      refine sb_iload 5 d_M_look_466 rfl ?_
      refine al_M_28 d_M_look_468 (fun _ c143 => ?_)
      refine sb_if_eq 486 c143 d_M_look_469 (by decide) (fun _ => ?_) (fun _ => ?_)
      · exact sb_lv [1, 2] rfl (s_M_look_b486 γ x96 hx96)
      · refine sb_aload_n 1 d_M_look_472 rfl ?_
        refine g_M_139 d_M_look_473 ?_
        refine sb_iload 0 d_M_look_476 rfl ?_
        refine al_M_28 d_M_look_478 (fun _ c145 => ?_)
        refine sb_if_eq 486 c145 d_M_look_479 (by decide) (fun _ => ?_) (fun _ => ?_)
        · exact sb_lv [1, 2] rfl (s_M_look_b486 γ x96 hx96)
        · refine sb_iconst d_M_look_482 ?_
          refine sb_goto 487 d_M_look_483 (by decide) ?_
          exact sb_lv [1, 2] rfl (s_M_look_b487 γ x96 1 hx96 (by decide))
    refine sb_tc (off := 260) 8 461 c104 d_M_look_201 (by decide) (by decide) (fun _ => ?_) (fun n151 => ?_)
    · refine sb_aload_n 1 d_M_look_461 rfl ?_
      refine sb_aload_n 1 d_M_look_462 rfl ?_
      refine g_M_139 d_M_look_463 ?_
      refine sb_iload 5 d_M_look_466 rfl ?_
      refine al_M_28 d_M_look_468 (fun _ c148 => ?_)
      refine sb_if_eq 486 c148 d_M_look_469 (by decide) (fun _ => ?_) (fun _ => ?_)
      · exact sb_lv [1, 2] rfl (s_M_look_b486 γ x96 hx96)
      · refine sb_aload_n 1 d_M_look_472 rfl ?_
        refine g_M_139 d_M_look_473 ?_
        refine sb_iload 0 d_M_look_476 rfl ?_
        refine al_M_28 d_M_look_478 (fun _ c150 => ?_)
        refine sb_if_eq 486 c150 d_M_look_479 (by decide) (fun _ => ?_) (fun _ => ?_)
        · exact sb_lv [1, 2] rfl (s_M_look_b486 γ x96 hx96)
        · refine sb_iconst d_M_look_482 ?_
          refine sb_goto 487 d_M_look_483 (by decide) ?_
          exact sb_lv [1, 2] rfl (s_M_look_b487 γ x96 1 hx96 (by decide))
    refine sb_tc (off := 260) 9 461 c104 d_M_look_201 (by decide) (by decide) (fun _ => ?_) (fun n156 => ?_)
    · refine sb_aload_n 1 d_M_look_461 rfl ?_
      refine sb_aload_n 1 d_M_look_462 rfl ?_
      refine g_M_139 d_M_look_463 ?_
      refine sb_iload 5 d_M_look_466 rfl ?_
      refine al_M_28 d_M_look_468 (fun _ c153 => ?_)
      refine sb_if_eq 486 c153 d_M_look_469 (by decide) (fun _ => ?_) (fun _ => ?_)
      · exact sb_lv [1, 2] rfl (s_M_look_b486 γ x96 hx96)
      · refine sb_aload_n 1 d_M_look_472 rfl ?_
        refine g_M_139 d_M_look_473 ?_
        refine sb_iload 0 d_M_look_476 rfl ?_
        refine al_M_28 d_M_look_478 (fun _ c155 => ?_)
        refine sb_if_eq 486 c155 d_M_look_479 (by decide) (fun _ => ?_) (fun _ => ?_)
        · exact sb_lv [1, 2] rfl (s_M_look_b486 γ x96 hx96)
        · refine sb_iconst d_M_look_482 ?_
          refine sb_goto 487 d_M_look_483 (by decide) ?_
          exact sb_lv [1, 2] rfl (s_M_look_b487 γ x96 1 hx96 (by decide))
    refine sb_tc (off := 260) 10 461 c104 d_M_look_201 (by decide) (by decide) (fun _ => ?_) (fun n161 => ?_)
    · refine sb_aload_n 1 d_M_look_461 rfl ?_
      refine sb_aload_n 1 d_M_look_462 rfl ?_
      refine g_M_139 d_M_look_463 ?_
      refine sb_iload 5 d_M_look_466 rfl ?_
      refine al_M_28 d_M_look_468 (fun _ c158 => ?_)
      refine sb_if_eq 486 c158 d_M_look_469 (by decide) (fun _ => ?_) (fun _ => ?_)
      · exact sb_lv [1, 2] rfl (s_M_look_b486 γ x96 hx96)
      · refine sb_aload_n 1 d_M_look_472 rfl ?_
        refine g_M_139 d_M_look_473 ?_
        refine sb_iload 0 d_M_look_476 rfl ?_
        refine al_M_28 d_M_look_478 (fun _ c160 => ?_)
        refine sb_if_eq 486 c160 d_M_look_479 (by decide) (fun _ => ?_) (fun _ => ?_)
        · exact sb_lv [1, 2] rfl (s_M_look_b486 γ x96 hx96)
        · refine sb_iconst d_M_look_482 ?_
          refine sb_goto 487 d_M_look_483 (by decide) ?_
          exact sb_lv [1, 2] rfl (s_M_look_b487 γ x96 1 hx96 (by decide))
    refine sb_tc (off := 299) 11 500 c104 d_M_look_201 (by decide) (by decide) (fun _ => ?_) (fun n166 => ?_)
    · refine sb_aload_n 1 d_M_look_500 rfl ?_
      refine sb_aload_n 1 d_M_look_501 rfl ?_
      refine g_M_139 d_M_look_502 ?_
      refine sb_iload 5 d_M_look_505 rfl ?_
      refine al_M_28 d_M_look_507 (fun _ c163 => ?_)
      refine sb_aload_n 1 d_M_look_508 rfl ?_
      refine g_M_139 d_M_look_509 ?_
      refine sb_iload 0 d_M_look_512 rfl ?_
      refine al_M_28 d_M_look_514 (fun _ c165 => ?_)
      refine sb_icmp_ne 522 c163 c165 d_M_look_515 (by decide) (fun _ => ?_) (fun _ => ?_)
      · refine sb_iconst d_M_look_522 ?_
        exact sb_lv [1, 2] rfl (s_M_look_b523 γ x96 0 hx96 (by decide))
      · refine sb_iconst d_M_look_518 ?_
        refine sb_goto 523 d_M_look_519 (by decide) ?_
        exact sb_lv [1, 2] rfl (s_M_look_b523 γ x96 1 hx96 (by decide))
    refine sb_tc (off := 299) 12 500 c104 d_M_look_201 (by decide) (by decide) (fun _ => ?_) (fun n171 => ?_)
    · refine sb_aload_n 1 d_M_look_500 rfl ?_
      refine sb_aload_n 1 d_M_look_501 rfl ?_
      refine g_M_139 d_M_look_502 ?_
      refine sb_iload 5 d_M_look_505 rfl ?_
      refine al_M_28 d_M_look_507 (fun _ c168 => ?_)
      refine sb_aload_n 1 d_M_look_508 rfl ?_
      refine g_M_139 d_M_look_509 ?_
      refine sb_iload 0 d_M_look_512 rfl ?_
      refine al_M_28 d_M_look_514 (fun _ c170 => ?_)
      refine sb_icmp_ne 522 c168 c170 d_M_look_515 (by decide) (fun _ => ?_) (fun _ => ?_)
      · refine sb_iconst d_M_look_522 ?_
        exact sb_lv [1, 2] rfl (s_M_look_b523 γ x96 0 hx96 (by decide))
      · refine sb_iconst d_M_look_518 ?_
        refine sb_goto 523 d_M_look_519 (by decide) ?_
        exact sb_lv [1, 2] rfl (s_M_look_b523 γ x96 1 hx96 (by decide))
    refine sb_tc (off := 335) 13 536 c104 d_M_look_201 (by decide) (by decide) (fun _ => ?_) (fun n176 => ?_)
    · refine sb_aload_n 1 d_M_look_536 rfl ?_
      refine sb_aload_n 1 d_M_look_537 rfl ?_
      refine g_M_139 d_M_look_538 ?_
      refine sb_iload 5 d_M_look_541 rfl ?_
      refine al_M_28 d_M_look_543 (fun _ c173 => ?_)
      refine sb_if_ne 561 c173 d_M_look_544 (by decide) (fun _ => ?_) (fun _ => ?_)
      · exact sb_lv [1, 2] rfl (s_M_look_b561 γ x96 hx96)
      · refine sb_aload_n 1 d_M_look_547 rfl ?_
        refine g_M_139 d_M_look_548 ?_
        refine sb_iload 0 d_M_look_551 rfl ?_
        refine al_M_28 d_M_look_553 (fun _ c175 => ?_)
        refine sb_if_ne 561 c175 d_M_look_554 (by decide) (fun _ => ?_) (fun _ => ?_)
        · exact sb_lv [1, 2] rfl (s_M_look_b561 γ x96 hx96)
        · refine sb_iconst d_M_look_557 ?_
          refine sb_goto 562 d_M_look_558 (by decide) ?_
          exact sb_lv [1, 2] rfl (s_M_look_b562 γ x96 1 hx96 (by decide))
    refine sb_tc (off := 335) 14 536 c104 d_M_look_201 (by decide) (by decide) (fun _ => ?_) (fun n181 => ?_)
    · refine sb_aload_n 1 d_M_look_536 rfl ?_
      refine sb_aload_n 1 d_M_look_537 rfl ?_
      refine g_M_139 d_M_look_538 ?_
      refine sb_iload 5 d_M_look_541 rfl ?_
      refine al_M_28 d_M_look_543 (fun _ c178 => ?_)
      refine sb_if_ne 561 c178 d_M_look_544 (by decide) (fun _ => ?_) (fun _ => ?_)
      · exact sb_lv [1, 2] rfl (s_M_look_b561 γ x96 hx96)
      · refine sb_aload_n 1 d_M_look_547 rfl ?_
        refine g_M_139 d_M_look_548 ?_
        refine sb_iload 0 d_M_look_551 rfl ?_
        refine al_M_28 d_M_look_553 (fun _ c180 => ?_)
        refine sb_if_ne 561 c180 d_M_look_554 (by decide) (fun _ => ?_) (fun _ => ?_)
        · exact sb_lv [1, 2] rfl (s_M_look_b561 γ x96 hx96)
        · refine sb_iconst d_M_look_557 ?_
          refine sb_goto 562 d_M_look_558 (by decide) ?_
          exact sb_lv [1, 2] rfl (s_M_look_b562 γ x96 1 hx96 (by decide))
    refine sb_tc (off := 335) 15 536 c104 d_M_look_201 (by decide) (by decide) (fun _ => ?_) (fun n186 => ?_)
    · refine sb_aload_n 1 d_M_look_536 rfl ?_
      refine sb_aload_n 1 d_M_look_537 rfl ?_
      refine g_M_139 d_M_look_538 ?_
      refine sb_iload 5 d_M_look_541 rfl ?_
      refine al_M_28 d_M_look_543 (fun _ c183 => ?_)
      refine sb_if_ne 561 c183 d_M_look_544 (by decide) (fun _ => ?_) (fun _ => ?_)
      · exact sb_lv [1, 2] rfl (s_M_look_b561 γ x96 hx96)
      · refine sb_aload_n 1 d_M_look_547 rfl ?_
        refine g_M_139 d_M_look_548 ?_
        refine sb_iload 0 d_M_look_551 rfl ?_
        refine al_M_28 d_M_look_553 (fun _ c185 => ?_)
        refine sb_if_ne 561 c185 d_M_look_554 (by decide) (fun _ => ?_) (fun _ => ?_)
        · exact sb_lv [1, 2] rfl (s_M_look_b561 γ x96 hx96)
        · refine sb_iconst d_M_look_557 ?_
          refine sb_goto 562 d_M_look_558 (by decide) ?_
          exact sb_lv [1, 2] rfl (s_M_look_b562 γ x96 1 hx96 (by decide))
    refine sb_tc (off := 335) 16 536 c104 d_M_look_201 (by decide) (by decide) (fun _ => ?_) (fun n191 => ?_)
    · refine sb_aload_n 1 d_M_look_536 rfl ?_
      refine sb_aload_n 1 d_M_look_537 rfl ?_
      refine g_M_139 d_M_look_538 ?_
      refine sb_iload 5 d_M_look_541 rfl ?_
      refine al_M_28 d_M_look_543 (fun _ c188 => ?_)
      refine sb_if_ne 561 c188 d_M_look_544 (by decide) (fun _ => ?_) (fun _ => ?_)
      · exact sb_lv [1, 2] rfl (s_M_look_b561 γ x96 hx96)
      · refine sb_aload_n 1 d_M_look_547 rfl ?_
        refine g_M_139 d_M_look_548 ?_
        refine sb_iload 0 d_M_look_551 rfl ?_
        refine al_M_28 d_M_look_553 (fun _ c190 => ?_)
        refine sb_if_ne 561 c190 d_M_look_554 (by decide) (fun _ => ?_) (fun _ => ?_)
        · exact sb_lv [1, 2] rfl (s_M_look_b561 γ x96 hx96)
        · refine sb_iconst d_M_look_557 ?_
          refine sb_goto 562 d_M_look_558 (by decide) ?_
          exact sb_lv [1, 2] rfl (s_M_look_b562 γ x96 1 hx96 (by decide))
    refine sb_tc (off := 374) 17 575 c104 d_M_look_201 (by decide) (by decide) (fun _ => ?_) (fun n196 => ?_)
    · refine sb_aload_n 1 d_M_look_575 rfl ?_
      refine sb_aload_n 1 d_M_look_576 rfl ?_
      refine g_M_139 d_M_look_577 ?_
      refine sb_iload 5 d_M_look_580 rfl ?_
      refine al_M_28 d_M_look_582 (fun _ c193 => ?_)
      refine sb_if_ne 600 c193 d_M_look_583 (by decide) (fun _ => ?_) (fun _ => ?_)
      · exact sb_lv [1, 2] rfl (s_M_look_b600 γ x96 hx96)
      · refine sb_aload_n 1 d_M_look_586 rfl ?_
        refine g_M_139 d_M_look_587 ?_
        refine sb_iload 0 d_M_look_590 rfl ?_
        refine al_M_28 d_M_look_592 (fun _ c195 => ?_)
        refine sb_if_ne 600 c195 d_M_look_593 (by decide) (fun _ => ?_) (fun _ => ?_)
        · exact sb_lv [1, 2] rfl (s_M_look_b600 γ x96 hx96)
        · refine sb_iconst d_M_look_596 ?_
          refine sb_goto 601 d_M_look_597 (by decide) ?_
          exact sb_lv [1, 2] rfl (s_M_look_b601 γ x96 1 hx96 (by decide))
    refine sb_tc (off := 374) 18 575 c104 d_M_look_201 (by decide) (by decide) (fun _ => ?_) (fun n201 => ?_)
    · refine sb_aload_n 1 d_M_look_575 rfl ?_
      refine sb_aload_n 1 d_M_look_576 rfl ?_
      refine g_M_139 d_M_look_577 ?_
      refine sb_iload 5 d_M_look_580 rfl ?_
      refine al_M_28 d_M_look_582 (fun _ c198 => ?_)
      refine sb_if_ne 600 c198 d_M_look_583 (by decide) (fun _ => ?_) (fun _ => ?_)
      · exact sb_lv [1, 2] rfl (s_M_look_b600 γ x96 hx96)
      · refine sb_aload_n 1 d_M_look_586 rfl ?_
        refine g_M_139 d_M_look_587 ?_
        refine sb_iload 0 d_M_look_590 rfl ?_
        refine al_M_28 d_M_look_592 (fun _ c200 => ?_)
        refine sb_if_ne 600 c200 d_M_look_593 (by decide) (fun _ => ?_) (fun _ => ?_)
        · exact sb_lv [1, 2] rfl (s_M_look_b600 γ x96 hx96)
        · refine sb_iconst d_M_look_596 ?_
          refine sb_goto 601 d_M_look_597 (by decide) ?_
          exact sb_lv [1, 2] rfl (s_M_look_b601 γ x96 1 hx96 (by decide))
    refine sb_tc (off := 374) 19 575 c104 d_M_look_201 (by decide) (by decide) (fun _ => ?_) (fun n206 => ?_)
    · refine sb_aload_n 1 d_M_look_575 rfl ?_
      refine sb_aload_n 1 d_M_look_576 rfl ?_
      refine g_M_139 d_M_look_577 ?_
      refine sb_iload 5 d_M_look_580 rfl ?_
      refine al_M_28 d_M_look_582 (fun _ c203 => ?_)
      refine sb_if_ne 600 c203 d_M_look_583 (by decide) (fun _ => ?_) (fun _ => ?_)
      · exact sb_lv [1, 2] rfl (s_M_look_b600 γ x96 hx96)
      · refine sb_aload_n 1 d_M_look_586 rfl ?_
        refine g_M_139 d_M_look_587 ?_
        refine sb_iload 0 d_M_look_590 rfl ?_
        refine al_M_28 d_M_look_592 (fun _ c205 => ?_)
        refine sb_if_ne 600 c205 d_M_look_593 (by decide) (fun _ => ?_) (fun _ => ?_)
        · exact sb_lv [1, 2] rfl (s_M_look_b600 γ x96 hx96)
        · refine sb_iconst d_M_look_596 ?_
          refine sb_goto 601 d_M_look_597 (by decide) ?_
          exact sb_lv [1, 2] rfl (s_M_look_b601 γ x96 1 hx96 (by decide))
    refine sb_tc (off := 374) 20 575 c104 d_M_look_201 (by decide) (by decide) (fun _ => ?_) (fun n211 => ?_)
    · refine sb_aload_n 1 d_M_look_575 rfl ?_
      refine sb_aload_n 1 d_M_look_576 rfl ?_
      refine g_M_139 d_M_look_577 ?_
      refine sb_iload 5 d_M_look_580 rfl ?_
      refine al_M_28 d_M_look_582 (fun _ c208 => ?_)
      refine sb_if_ne 600 c208 d_M_look_583 (by decide) (fun _ => ?_) (fun _ => ?_)
      · exact sb_lv [1, 2] rfl (s_M_look_b600 γ x96 hx96)
      · refine sb_aload_n 1 d_M_look_586 rfl ?_
        refine g_M_139 d_M_look_587 ?_
        refine sb_iload 0 d_M_look_590 rfl ?_
        refine al_M_28 d_M_look_592 (fun _ c210 => ?_)
        refine sb_if_ne 600 c210 d_M_look_593 (by decide) (fun _ => ?_) (fun _ => ?_)
        · exact sb_lv [1, 2] rfl (s_M_look_b600 γ x96 hx96)
        · refine sb_iconst d_M_look_596 ?_
          refine sb_goto 601 d_M_look_597 (by decide) ?_
          exact sb_lv [1, 2] rfl (s_M_look_b601 γ x96 1 hx96 (by decide))
    refine sb_tc (off := 374) 21 575 c104 d_M_look_201 (by decide) (by decide) (fun _ => ?_) (fun n216 => ?_)
    · refine sb_aload_n 1 d_M_look_575 rfl ?_
      refine sb_aload_n 1 d_M_look_576 rfl ?_
      refine g_M_139 d_M_look_577 ?_
      refine sb_iload 5 d_M_look_580 rfl ?_
      refine al_M_28 d_M_look_582 (fun _ c213 => ?_)
      refine sb_if_ne 600 c213 d_M_look_583 (by decide) (fun _ => ?_) (fun _ => ?_)
      · exact sb_lv [1, 2] rfl (s_M_look_b600 γ x96 hx96)
      · refine sb_aload_n 1 d_M_look_586 rfl ?_
        refine g_M_139 d_M_look_587 ?_
        refine sb_iload 0 d_M_look_590 rfl ?_
        refine al_M_28 d_M_look_592 (fun _ c215 => ?_)
        refine sb_if_ne 600 c215 d_M_look_593 (by decide) (fun _ => ?_) (fun _ => ?_)
        · exact sb_lv [1, 2] rfl (s_M_look_b600 γ x96 hx96)
        · refine sb_iconst d_M_look_596 ?_
          refine sb_goto 601 d_M_look_597 (by decide) ?_
          exact sb_lv [1, 2] rfl (s_M_look_b601 γ x96 1 hx96 (by decide))
    refine sb_tc (off := 413) 22 614 c104 d_M_look_201 (by decide) (by decide) (fun _ => ?_) (fun n219 => ?_)
    · refine sb_aload_n 1 d_M_look_614 rfl ?_
      refine sb_aload_n 1 d_M_look_615 rfl ?_
      refine g_M_139 d_M_look_616 ?_
      refine sb_iload 5 d_M_look_619 rfl ?_
      refine al_M_28 d_M_look_621 (fun _ c218 => ?_)
      refine sb_if_ne 629 c218 d_M_look_622 (by decide) (fun _ => ?_) (fun _ => ?_)
      · refine sb_iconst d_M_look_629 ?_
        exact sb_lv [1, 2] rfl (s_M_look_b630 γ x96 0 hx96 (by decide))
      · refine sb_iconst d_M_look_625 ?_
        refine sb_goto 630 d_M_look_626 (by decide) ?_
        exact sb_lv [1, 2] rfl (s_M_look_b630 γ x96 1 hx96 (by decide))
    refine sb_tc (off := 442) 23 643 c104 d_M_look_201 (by decide) (by decide) (fun _ => ?_) (fun n226 => ?_)
    · refine sb_aload_n 1 d_M_look_643 rfl ?_
      refine sb_aload_n 1 d_M_look_644 rfl ?_
      refine g_M_139 d_M_look_645 ?_
      refine sb_iload 5 d_M_look_648 rfl ?_
      refine al_M_28 d_M_look_650 (fun _ c221 => ?_)
      refine sb_cTv vf_M_type (c_M_type γ (γ 28 x99) c221) rfl ml_M_458 (As := [vI (γ 28 x99)]) rfl rfl (Nat.le_of_ble_eq_true rfl) ⟨by decide, by decide⟩ d_M_look_651 (fun _ γ223 => ?_)
      refine sb_aload_n 1 d_M_look_654 rfl ?_
      refine g_M_139 d_M_look_655 ?_
      refine sb_iload_n 2 d_M_look_658 rfl ?_
      refine sb_iconst d_M_look_659 ?_
      refine as_M_28 (by decide) d_M_look_660 (fun _ => ?_)
      refine sb_aps (fun γ225 => ?_)
      refine sb_goto 677 d_M_look_661 (by decide) ?_
      exact st_v rfl d_M_look_677
    refine sb_tg (off := 463) 3 664 c104 d_M_look_201 (by decide) (by decide) (fun _ => ?_) (fun n232 => ?_)
    · refine sb_aload_n 1 d_M_look_664 rfl ?_
      refine g_M_139 d_M_look_665 ?_
      refine sb_iload_n 2 d_M_look_668 rfl ?_
      refine sb_aload_n 1 d_M_look_669 rfl ?_
      refine g_M_139 d_M_look_670 ?_
      refine sb_iload 5 d_M_look_673 rfl ?_
      refine al_M_28 d_M_look_675 (fun _ c229 => ?_)
      refine sb_chk (fun c230 => ?_)
      refine as_M_28 c230 d_M_look_676 (fun _ => ?_)
      refine sb_aps (fun γ231 => ?_)
      exact st_v rfl d_M_look_677
    refine sb_td 664 c104 d_M_look_201 (by omega) (by decide) ?_
    refine sb_aload_n 1 d_M_look_664 rfl ?_
    refine g_M_139 d_M_look_665 ?_
    refine sb_iload_n 2 d_M_look_668 rfl ?_
    refine sb_aload_n 1 d_M_look_669 rfl ?_
    refine g_M_139 d_M_look_670 ?_
    refine sb_iload 5 d_M_look_673 rfl ?_
    refine al_M_28 d_M_look_675 (fun _ c229 => ?_)
    refine sb_chk (fun c230 => ?_)
    refine as_M_28 c230 d_M_look_676 (fun _ => ?_)
    refine sb_aps (fun γ231 => ?_)
    exact st_v rfl d_M_look_677
  · refine sb_aload_n 1 d_M_look_66 rfl ?_
    refine g_M_115 d_M_look_67 ?_
    refine sb_iload_n 2 d_M_look_70 rfl ?_
    refine al_M_21 d_M_look_71 (fun _ c234 => ?_)
    refine sb_istore [(6, vI (γ 21 x96)), (5, vI x100), (0, vR Γ 0), (1, vI x96), (2, vI x97), (3, vI x98), (4, vI x99)] d_M_look_72 (by decide) rfl ?_
    refine sb_nme (e := γ 21 x96) (fun x235 => [(6, vI x235), (5, vI x100), (0, vR Γ 0), (1, vI x96), (2, vI x97), (3, vI x98), (4, vI x99)]) c234 (fun x235 hx235 => ?_)
    refine sb_iload_n 5 d_M_look_74 rfl ?_
    refine sb_aload_n 2 d_M_look_75 rfl ?_
    refine g_M_53 d_M_look_76 ?_
    refine sb_iload 0 d_M_look_79 rfl ?_
    refine al_M_5 d_M_look_81 (fun _ c237 => ?_)
    refine sb_icmp_ne 96 hx98 c237 d_M_look_82 (by decide) (fun _ => ?_) (fun _ => ?_)
    · exact sb_lv [2] rfl (s_M_look_b96 γ  )
    · refine sb_iload_n 4 d_M_look_85 rfl ?_
      refine sb_aload_n 2 d_M_look_86 rfl ?_
      refine g_M_56 d_M_look_87 ?_
      refine sb_iload 0 d_M_look_90 rfl ?_
      refine al_M_6 d_M_look_92 (fun _ c239 => ?_)
      refine sb_icmp_eq 109 hx97 c239 d_M_look_93 (by decide) (fun _ => ?_) (fun _ => ?_)
      · refine sb_aload_n 2 d_M_look_109 rfl ?_
        refine g_M_50 d_M_look_110 ?_
        refine sb_iload 0 d_M_look_113 rfl ?_
        refine al_M_4 d_M_look_115 (fun _ c241 => ?_)
        refine sb_istore [(7, vI (γ 4 x235)), (6, vI x235), (5, vI x100), (0, vR Γ 0), (1, vI x96), (2, vI x97), (3, vI x98), (4, vI x99)] d_M_look_116 (by decide) rfl ?_
        refine sb_nme (e := γ 4 x235) (fun x242 => [(7, vI x242), (6, vI x235), (5, vI x100), (0, vR Γ 0), (1, vI x96), (2, vI x97), (3, vI x98), (4, vI x99)]) c241 (fun x242 hx242 => ?_)
        refine sb_iload 7 d_M_look_118 rfl ?_
        refine sb_istore [(8, vI x99), (7, vI x242), (6, vI x235), (5, vI x100), (0, vR Γ 0), (1, vI x96), (2, vI x97), (3, vI x98), (4, vI x99)] d_M_look_120 (by decide) rfl ?_
        exact sb_lv [4, 5, 2, 1, 0] rfl (s_M_look_L122 (s_M_look_b168) FU γ x96 x235 x242 x99 hx96 hx235 hx242 hx99)
      · exact sb_lv [2] rfl (s_M_look_b96 γ  )
set_option maxHeartbeats 4000000 in
theorem s_M_look_b30 {Γ : Ctx} : ∀ (γ : St) (x243 : Int) (x244 : Int) (x245 : Int), i32 x243 → i32 x244 → i32 x245 → SB Γ BM mt_M_look (RmT 7 261) 0 0 (KT Γ BM mt_M_look.2.2.2) 30 [(0, vR Γ 0), (1, vI x243), (2, vI x244), (3, vI x245)] [] γ (f_M_look_b30 γ x243 x244 x245) := by
  intro γ x243 x244 x245 hx243 hx244 hx245
  unfold f_M_look_b30
  refine sb_aload_n 0 d_M_look_30 rfl ?_
  refine g_M_118 d_M_look_31 ?_
  refine sb_iload_n 1 d_M_look_34 rfl ?_
  refine al_M_22 d_M_look_35 (fun _ c247 => ?_)
  refine sb_istore [(4, vI (γ 22 x243)), (0, vR Γ 0), (1, vI x243), (2, vI x244), (3, vI x245)] d_M_look_36 (by decide) rfl ?_
  refine sb_nme (e := γ 22 x243) (fun x248 => [(4, vI x248), (0, vR Γ 0), (1, vI x243), (2, vI x244), (3, vI x245)]) c247 (fun x248 hx248 => ?_)
  refine sb_iload 0 d_M_look_38 rfl ?_
  refine sb_if_ge 47 hx248 d_M_look_40 (by decide) (fun _ => ?_) (fun _ => ?_)
  · refine sb_aload_n 1 d_M_look_47 rfl ?_
    refine g_M_121 d_M_look_48 ?_
    refine sb_iload 0 d_M_look_51 rfl ?_
    refine al_M_23 d_M_look_53 (fun _ c250 => ?_)
    exact sb_lv [1, 2, 3, 4, 0] rfl (s_M_look_b54 γ x243 x244 x245 x248 (γ 23 x248) hx243 hx244 hx245 hx248 c250)
  · refine sb_iconst d_M_look_43 ?_
    refine sb_goto 54 d_M_look_44 (by decide) ?_
    exact sb_lv [1, 2, 3, 4, 0] rfl (s_M_look_b54 γ x243 x244 x245 x248 (-1) hx243 hx244 hx245 hx248 (by decide))
set_option maxHeartbeats 4000000 in
theorem s_M_look_L10 {Γ : Ctx} {x30 : St → Int → Int → Int → Option Res} (hx30 : ∀ (γ : St) (x259 : Int) (x260 : Int) (x261 : Int), i32 x259 → i32 x260 → i32 x261 → SB Γ BM mt_M_look (RmT 7 261) 0 0 (KT Γ BM mt_M_look.2.2.2) 30 [(0, vR Γ 0), (1, vI x259), (2, vI x260), (3, vI x261)] [] γ (x30 γ x259 x260 x261)) : ∀ (n : Nat) (γ : St) (x251 : Int) (x252 : Int) (x253 : Int) (x254 : Int), i32 x251 → i32 x252 → i32 x253 → i32 x254 → SB Γ BM mt_M_look (RmT 7 261) 0 0 (KT Γ BM mt_M_look.2.2.2) 10 [(0, vR Γ 0), (1, vI x251), (2, vI x252), (3, vI x253), (4, vI x254)] [] γ (f_M_look_L10 x30 n γ x251 x252 x253 x254) := by
  intro n
  induction n with
  | zero => intros; exact sb_none
  | succ n ih =>
    intro γ x251 x252 x253 x254 hx251 hx252 hx253 hx254
    unfold f_M_look_L10
    refine sb_iload 4 d_M_look_10 rfl ?_
    refine sb_if_lt 30 hx254 d_M_look_12 (by decide) (fun _ => ?_) (fun _ => ?_)
    · exact sb_lv [0, 1, 2, 3] rfl (hx30 γ x251 x252 x253 hx251 hx252 hx253)
    · refine sb_iinc 3 [(3, vI (x253 + 1)), (0, vR Γ 0), (1, vI x251), (2, vI x252), (4, vI x254)] d_M_look_15 rfl (by decide) rfl ?_
      refine sb_chk (fun c255 => ?_)
      refine sb_aload_n 1 d_M_look_18 rfl ?_
      refine g_M_121 d_M_look_19 ?_
      refine sb_iload 4 d_M_look_22 rfl ?_
      refine al_M_23 d_M_look_24 (fun _ c257 => ?_)
      refine sb_istore [(4, vI (γ 23 x254)), (3, vI (x253 + 1)), (0, vR Γ 0), (1, vI x251), (2, vI x252)] d_M_look_25 (by decide) rfl ?_
      refine sb_nme (e := γ 23 x254) (fun x258 => [(4, vI x258), (3, vI (x253 + 1)), (0, vR Γ 0), (1, vI x251), (2, vI x252)]) c257 (fun x258 hx258 => ?_)
      refine sb_goto 10 d_M_look_27 (by decide) ?_
      exact sb_lv [2, 3, 4, 1, 0] rfl (ih γ x251 x252 (x253 + 1) x258 hx251 hx252 c255 hx258)
set_option maxHeartbeats 4000000 in
theorem c_M_look {Γ : Ctx} (γ : St) (a0 : Int) (a1 : Int) (ha0 : i32 a0) (ha1 : i32 a1) : TC Γ BM y_M_look mt_M_look 7 261 [vR Γ 0, vI a0, vI a1] γ (f_M_look γ a0 a1) := by
  refine tc_of (by decide) rfl (Nat.le_of_ble_eq_true rfl) ?_
  show SB Γ BM mt_M_look (RmT 7 261) 0 0 (KT Γ BM mt_M_look.2.2.2) 0 [(0, vR Γ 0), (1, vI a0), (2, vI a1)] [] γ _
  unfold f_M_look
  refine sb_iconst d_M_look_0 ?_
  refine sb_istore_n [(3, vI 0), (0, vR Γ 0), (1, vI a0), (2, vI a1)] d_M_look_1 (by decide) rfl ?_
  refine sb_aload_n 1 d_M_look_2 rfl ?_
  refine g_M_118 d_M_look_3 ?_
  refine sb_iload_n 2 d_M_look_6 rfl ?_
  refine al_M_22 d_M_look_7 (fun _ c263 => ?_)
  refine sb_istore [(4, vI (γ 22 a0)), (3, vI 0), (0, vR Γ 0), (1, vI a0), (2, vI a1)] d_M_look_8 (by decide) rfl ?_
  refine sb_nme (e := γ 22 a0) (fun x264 => [(4, vI x264), (3, vI 0), (0, vR Γ 0), (1, vI a0), (2, vI a1)]) c263 (fun x264 hx264 => ?_)
  exact sb_lv [2, 3, 4, 1, 0] rfl (s_M_look_L10 (s_M_look_b30) FU γ a0 a1 0 x264 ha0 ha1 (by decide) hx264)
theorem d_M_clockOfVariable_0 : decode b_M_clockOfVariable 0 = .ok (.aload_n 0, 1) := by decide +kernel
theorem d_M_clockOfVariable_1 : decode b_M_clockOfVariable 1 = .ok (.getfield 80, 3) := by decide +kernel
theorem d_M_clockOfVariable_4 : decode b_M_clockOfVariable 4 = .ok (.aload_n 0, 1) := by decide +kernel
theorem d_M_clockOfVariable_5 : decode b_M_clockOfVariable 5 = .ok (.getfield 50, 3) := by decide +kernel
theorem d_M_clockOfVariable_8 : decode b_M_clockOfVariable 8 = .ok (.aload_n 0, 1) := by decide +kernel
theorem d_M_clockOfVariable_9 : decode b_M_clockOfVariable 9 = .ok (.getfield 68, 3) := by decide +kernel
theorem d_M_clockOfVariable_12 : decode b_M_clockOfVariable 12 = .ok (.iaload, 1) := by decide +kernel
theorem d_M_clockOfVariable_13 : decode b_M_clockOfVariable 13 = .ok (.iload_n 1, 1) := by decide +kernel
theorem d_M_clockOfVariable_14 : decode b_M_clockOfVariable 14 = .ok (.iadd, 1) := by decide +kernel
theorem d_M_clockOfVariable_15 : decode b_M_clockOfVariable 15 = .ok (.iaload, 1) := by decide +kernel
theorem d_M_clockOfVariable_16 : decode b_M_clockOfVariable 16 = .ok (.ireturn, 1) := by decide +kernel
abbrev mt_M_clockOfVariable : MT := (R_M, b_M_clockOfVariable, 2, some .int)
theorem vf_M_clockOfVariable : VF y_M_clockOfVariable mt_M_clockOfVariable 12 1 := ⟨im_M_clockOfVariable, se_M_clockOfVariable, in_M, co_M_clockOfVariable, by decide +kernel, _, _, rfl⟩
def f_M_clockOfVariable (γ : St) (a0 : Int) : Option (Int × St) :=
  chk (inb (γ 0 18) 61) (chk (i32 ((γ 4 (γ 0 18)) + a0)) (chk (inb ((γ 4 (γ 0 18)) + a0) 6000) (some (γ 12 ((γ 4 (γ 0 18)) + a0), γ))))
set_option maxHeartbeats 4000000 in
theorem c_M_clockOfVariable {Γ : Ctx} (γ : St) (a0 : Int) (ha0 : i32 a0) : NC Γ BM y_M_clockOfVariable mt_M_clockOfVariable 6 240 [vR Γ 0, vI a0] γ (f_M_clockOfVariable γ a0) := by
  refine nc_of (by decide) rfl (Nat.le_of_ble_eq_true rfl) ?_
  show SB Γ BM mt_M_clockOfVariable (RmN 6 240) 0 0 (KN Γ BM mt_M_clockOfVariable.2.2.2) 0 [(0, vR Γ 0), (1, vI a0)] [] γ _
  unfold f_M_clockOfVariable
  refine sb_aload_n 0 d_M_clockOfVariable_0 rfl ?_
  refine g_M_80 d_M_clockOfVariable_1 ?_
  refine sb_aload_n 0 d_M_clockOfVariable_4 rfl ?_
  refine g_M_50 d_M_clockOfVariable_5 ?_
  refine sb_aload_n 0 d_M_clockOfVariable_8 rfl ?_
  refine g_M_68 d_M_clockOfVariable_9 (fun c3 => ?_)
  refine al_M_4 d_M_clockOfVariable_12 (fun _ c4 => ?_)
  refine sb_iload_n 1 d_M_clockOfVariable_13 rfl ?_
  refine sb_iadd d_M_clockOfVariable_14 ?_
  refine sb_chk (fun c5 => ?_)
  refine al_M_12 d_M_clockOfVariable_15 (fun _ c6 => ?_)
  exact sn_i rfl c6 d_M_clockOfVariable_16
theorem d_M_together_0 : decode b_M_together 0 = .ok (.iload_n 1, 1) := by decide +kernel
theorem d_M_together_1 : decode b_M_together 1 = .ok (.bipush (-2), 2) := by decide +kernel
theorem d_M_together_3 : decode b_M_together 3 = .ok (.if_icmp .ne 5, 3) := by decide +kernel
theorem d_M_together_6 : decode b_M_together 6 = .ok (.iload_n 2, 1) := by decide +kernel
theorem d_M_together_7 : decode b_M_together 7 = .ok (.ireturn, 1) := by decide +kernel
theorem d_M_together_8 : decode b_M_together 8 = .ok (.iload_n 2, 1) := by decide +kernel
theorem d_M_together_9 : decode b_M_together 9 = .ok (.bipush (-2), 2) := by decide +kernel
theorem d_M_together_11 : decode b_M_together 11 = .ok (.if_icmp .eq 22, 3) := by decide +kernel
theorem d_M_together_14 : decode b_M_together 14 = .ok (.iload_n 1, 1) := by decide +kernel
theorem d_M_together_15 : decode b_M_together 15 = .ok (.iload_n 2, 1) := by decide +kernel
theorem d_M_together_16 : decode b_M_together 16 = .ok (.if_icmp .eq 17, 3) := by decide +kernel
theorem d_M_together_19 : decode b_M_together 19 = .ok (.new 296, 3) := by decide +kernel
theorem d_M_together_22 : decode b_M_together 22 = .ok (.dup, 1) := by decide +kernel
theorem d_M_together_23 : decode b_M_together 23 = .ok (.bipush 6, 2) := by decide +kernel
theorem d_M_together_25 : decode b_M_together 25 = .ok (.aload_n 0, 1) := by decide +kernel
theorem d_M_together_26 : decode b_M_together 26 = .ok (.getfield 142, 3) := by decide +kernel
theorem d_M_together_29 : decode b_M_together 29 = .ok (.invokespecial 298, 3) := by decide +kernel
theorem d_M_together_32 : decode b_M_together 32 = .ok (.athrow, 1) := by decide +kernel
theorem d_M_together_33 : decode b_M_together 33 = .ok (.iload_n 1, 1) := by decide +kernel
theorem d_M_together_34 : decode b_M_together 34 = .ok (.ireturn, 1) := by decide +kernel
abbrev mt_M_together : MT := (R_M, b_M_together, 3, some .int)
theorem vf_M_together : VF y_M_together mt_M_together 12 2 := ⟨im_M_together, se_M_together, in_M, co_M_together, by decide +kernel, _, _, rfl⟩
def f_M_together (γ : St) (a0 : Int) (a1 : Int) : Option Res :=
  if a0 ≠ (-2) then
  (if a1 = (-2) then
  (some (.inr a0, γ))
  else
  (if a0 = a1 then
  (some (.inr a0, γ))
  else
  (some (.inl (6, γ 0 42), γ))))
  else
  (some (.inr a1, γ))
set_option maxHeartbeats 4000000 in
theorem c_M_together {Γ : Ctx} (γ : St) (a0 : Int) (a1 : Int) (ha0 : i32 a0) (ha1 : i32 a1) : TC Γ BM y_M_together mt_M_together 6 240 [vR Γ 0, vI a0, vI a1] γ (f_M_together γ a0 a1) := by
  refine tc_of (by decide) rfl (Nat.le_of_ble_eq_true rfl) ?_
  show SB Γ BM mt_M_together (RmT 6 240) 0 0 (KT Γ BM mt_M_together.2.2.2) 0 [(0, vR Γ 0), (1, vI a0), (2, vI a1)] [] γ _
  unfold f_M_together
  refine sb_iload_n 1 d_M_together_0 rfl ?_
  refine sb_bipush d_M_together_1 (by decide) ?_
  refine sb_icmp_ne 8 ha0 (by decide) d_M_together_3 (by decide) (fun _ => ?_) (fun _ => ?_)
  · refine sb_iload_n 2 d_M_together_8 rfl ?_
    refine sb_bipush d_M_together_9 (by decide) ?_
    refine sb_icmp_eq 33 ha1 (by decide) d_M_together_11 (by decide) (fun _ => ?_) (fun _ => ?_)
    · refine sb_iload_n 1 d_M_together_33 rfl ?_
      exact st_i rfl ha0 d_M_together_34
    · refine sb_iload_n 1 d_M_together_14 rfl ?_
      refine sb_iload_n 2 d_M_together_15 rfl ?_
      refine sb_icmp_eq 33 ha0 ha1 d_M_together_16 (by decide) (fun _ => ?_) (fun _ => ?_)
      · refine sb_iload_n 1 d_M_together_33 rfl ?_
        exact st_i rfl ha0 d_M_together_34
      · refine sb_bd (j := 0) (i := 42) rfl (fun c1 => ?_)
        exact sb_thr rfl d_M_together_19 d_M_together_22 (pu_bipush d_M_together_23 (by decide)) (pu_fld kf_M 0 42 rfl rfl rfl (by decide) fl_M_142 d_M_together_25 d_M_together_26) d_M_together_29 d_M_together_32 (by decide) c1 ⟨by decide, by decide⟩
  · refine sb_iload_n 2 d_M_together_6 rfl ?_
    exact st_i rfl ha1 d_M_together_7
theorem d_M_lookAtClock_0 : decode b_M_lookAtClock 0 = .ok (.aload_n 0, 1) := by decide +kernel
theorem d_M_lookAtClock_1 : decode b_M_lookAtClock 1 = .ok (.getfield 118, 3) := by decide +kernel
theorem d_M_lookAtClock_4 : decode b_M_lookAtClock 4 = .ok (.iload_n 1, 1) := by decide +kernel
theorem d_M_lookAtClock_5 : decode b_M_lookAtClock 5 = .ok (.iaload, 1) := by decide +kernel
theorem d_M_lookAtClock_6 : decode b_M_lookAtClock 6 = .ok (.istore_n 2, 1) := by decide +kernel
theorem d_M_lookAtClock_7 : decode b_M_lookAtClock 7 = .ok (.bipush (-2), 2) := by decide +kernel
theorem d_M_lookAtClock_9 : decode b_M_lookAtClock 9 = .ok (.istore_n 3, 1) := by decide +kernel
theorem d_M_lookAtClock_10 : decode b_M_lookAtClock 10 = .ok (.aload_n 0, 1) := by decide +kernel
theorem d_M_lookAtClock_11 : decode b_M_lookAtClock 11 = .ok (.getfield 112, 3) := by decide +kernel
theorem d_M_lookAtClock_14 : decode b_M_lookAtClock 14 = .ok (.iload_n 1, 1) := by decide +kernel
theorem d_M_lookAtClock_15 : decode b_M_lookAtClock 15 = .ok (.iaload, 1) := by decide +kernel
theorem d_M_lookAtClock_16 : decode b_M_lookAtClock 16 = .ok (.iconst 2, 1) := by decide +kernel
theorem d_M_lookAtClock_17 : decode b_M_lookAtClock 17 = .ok (.if_icmp .ne 17, 3) := by decide +kernel
theorem d_M_lookAtClock_20 : decode b_M_lookAtClock 20 = .ok (.aload_n 0, 1) := by decide +kernel
theorem d_M_lookAtClock_21 : decode b_M_lookAtClock 21 = .ok (.aload_n 0, 1) := by decide +kernel
theorem d_M_lookAtClock_22 : decode b_M_lookAtClock 22 = .ok (.getfield 115, 3) := by decide +kernel
theorem d_M_lookAtClock_25 : decode b_M_lookAtClock 25 = .ok (.iload_n 1, 1) := by decide +kernel
theorem d_M_lookAtClock_26 : decode b_M_lookAtClock 26 = .ok (.iaload, 1) := by decide +kernel
theorem d_M_lookAtClock_27 : decode b_M_lookAtClock 27 = .ok (.invokevirtual 464, 3) := by decide +kernel
theorem d_M_lookAtClock_30 : decode b_M_lookAtClock 30 = .ok (.istore_n 3, 1) := by decide +kernel
theorem d_M_lookAtClock_31 : decode b_M_lookAtClock 31 = .ok (.goto 130, 3) := by decide +kernel
theorem d_M_lookAtClock_34 : decode b_M_lookAtClock 34 = .ok (.aload_n 0, 1) := by decide +kernel
theorem d_M_lookAtClock_35 : decode b_M_lookAtClock 35 = .ok (.getfield 112, 3) := by decide +kernel
theorem d_M_lookAtClock_38 : decode b_M_lookAtClock 38 = .ok (.iload_n 1, 1) := by decide +kernel
theorem d_M_lookAtClock_39 : decode b_M_lookAtClock 39 = .ok (.iaload, 1) := by decide +kernel
theorem d_M_lookAtClock_40 : decode b_M_lookAtClock 40 = .ok (.bipush 26, 2) := by decide +kernel
theorem d_M_lookAtClock_42 : decode b_M_lookAtClock 42 = .ok (.if_icmp .ne 36, 3) := by decide +kernel
theorem d_M_lookAtClock_45 : decode b_M_lookAtClock 45 = .ok (.aload_n 0, 1) := by decide +kernel
theorem d_M_lookAtClock_46 : decode b_M_lookAtClock 46 = .ok (.aload_n 0, 1) := by decide +kernel
theorem d_M_lookAtClock_47 : decode b_M_lookAtClock 47 = .ok (.getfield 124, 3) := by decide +kernel
theorem d_M_lookAtClock_50 : decode b_M_lookAtClock 50 = .ok (.iload_n 2, 1) := by decide +kernel
theorem d_M_lookAtClock_51 : decode b_M_lookAtClock 51 = .ok (.iaload, 1) := by decide +kernel
theorem d_M_lookAtClock_52 : decode b_M_lookAtClock 52 = .ok (.aload_n 0, 1) := by decide +kernel
theorem d_M_lookAtClock_53 : decode b_M_lookAtClock 53 = .ok (.aload_n 0, 1) := by decide +kernel
theorem d_M_lookAtClock_54 : decode b_M_lookAtClock 54 = .ok (.getfield 115, 3) := by decide +kernel
theorem d_M_lookAtClock_57 : decode b_M_lookAtClock 57 = .ok (.iload_n 1, 1) := by decide +kernel
theorem d_M_lookAtClock_58 : decode b_M_lookAtClock 58 = .ok (.iaload, 1) := by decide +kernel
theorem d_M_lookAtClock_59 : decode b_M_lookAtClock 59 = .ok (.iconst 2, 1) := by decide +kernel
theorem d_M_lookAtClock_60 : decode b_M_lookAtClock 60 = .ok (.idiv, 1) := by decide +kernel
theorem d_M_lookAtClock_61 : decode b_M_lookAtClock 61 = .ok (.invokevirtual 464, 3) := by decide +kernel
theorem d_M_lookAtClock_64 : decode b_M_lookAtClock 64 = .ok (.invokevirtual 467, 3) := by decide +kernel
theorem d_M_lookAtClock_67 : decode b_M_lookAtClock 67 = .ok (.pop, 1) := by decide +kernel
theorem d_M_lookAtClock_68 : decode b_M_lookAtClock 68 = .ok (.aload_n 0, 1) := by decide +kernel
theorem d_M_lookAtClock_69 : decode b_M_lookAtClock 69 = .ok (.getfield 115, 3) := by decide +kernel
theorem d_M_lookAtClock_72 : decode b_M_lookAtClock 72 = .ok (.iload_n 1, 1) := by decide +kernel
theorem d_M_lookAtClock_73 : decode b_M_lookAtClock 73 = .ok (.iaload, 1) := by decide +kernel
theorem d_M_lookAtClock_74 : decode b_M_lookAtClock 74 = .ok (.istore_n 3, 1) := by decide +kernel
theorem d_M_lookAtClock_75 : decode b_M_lookAtClock 75 = .ok (.goto 86, 3) := by decide +kernel
theorem d_M_lookAtClock_78 : decode b_M_lookAtClock 78 = .ok (.aload_n 0, 1) := by decide +kernel
theorem d_M_lookAtClock_79 : decode b_M_lookAtClock 79 = .ok (.getfield 112, 3) := by decide +kernel
theorem d_M_lookAtClock_82 : decode b_M_lookAtClock 82 = .ok (.iload_n 1, 1) := by decide +kernel
theorem d_M_lookAtClock_83 : decode b_M_lookAtClock 83 = .ok (.iaload, 1) := by decide +kernel
theorem d_M_lookAtClock_84 : decode b_M_lookAtClock 84 = .ok (.bipush 25, 2) := by decide +kernel
theorem d_M_lookAtClock_86 : decode b_M_lookAtClock 86 = .ok (.if_icmp .ne 42, 3) := by decide +kernel
theorem d_M_lookAtClock_89 : decode b_M_lookAtClock 89 = .ok (.aload_n 0, 1) := by decide +kernel
theorem d_M_lookAtClock_90 : decode b_M_lookAtClock 90 = .ok (.getfield 124, 3) := by decide +kernel
theorem d_M_lookAtClock_93 : decode b_M_lookAtClock 93 = .ok (.iload_n 2, 1) := by decide +kernel
theorem d_M_lookAtClock_94 : decode b_M_lookAtClock 94 = .ok (.iaload, 1) := by decide +kernel
theorem d_M_lookAtClock_95 : decode b_M_lookAtClock 95 = .ok (.ifCond .ge 17, 3) := by decide +kernel
theorem d_M_lookAtClock_98 : decode b_M_lookAtClock 98 = .ok (.new 296, 3) := by decide +kernel
theorem d_M_lookAtClock_101 : decode b_M_lookAtClock 101 = .ok (.dup, 1) := by decide +kernel
theorem d_M_lookAtClock_102 : decode b_M_lookAtClock 102 = .ok (.bipush 6, 2) := by decide +kernel
theorem d_M_lookAtClock_104 : decode b_M_lookAtClock 104 = .ok (.aload_n 0, 1) := by decide +kernel
theorem d_M_lookAtClock_105 : decode b_M_lookAtClock 105 = .ok (.getfield 142, 3) := by decide +kernel
theorem d_M_lookAtClock_108 : decode b_M_lookAtClock 108 = .ok (.invokespecial 298, 3) := by decide +kernel
theorem d_M_lookAtClock_111 : decode b_M_lookAtClock 111 = .ok (.athrow, 1) := by decide +kernel
theorem d_M_lookAtClock_112 : decode b_M_lookAtClock 112 = .ok (.aload_n 0, 1) := by decide +kernel
theorem d_M_lookAtClock_113 : decode b_M_lookAtClock 113 = .ok (.aload_n 0, 1) := by decide +kernel
theorem d_M_lookAtClock_114 : decode b_M_lookAtClock 114 = .ok (.getfield 124, 3) := by decide +kernel
theorem d_M_lookAtClock_117 : decode b_M_lookAtClock 117 = .ok (.iload_n 2, 1) := by decide +kernel
theorem d_M_lookAtClock_118 : decode b_M_lookAtClock 118 = .ok (.iaload, 1) := by decide +kernel
theorem d_M_lookAtClock_119 : decode b_M_lookAtClock 119 = .ok (.iconst 2, 1) := by decide +kernel
theorem d_M_lookAtClock_120 : decode b_M_lookAtClock 120 = .ok (.idiv, 1) := by decide +kernel
theorem d_M_lookAtClock_121 : decode b_M_lookAtClock 121 = .ok (.invokevirtual 464, 3) := by decide +kernel
theorem d_M_lookAtClock_124 : decode b_M_lookAtClock 124 = .ok (.istore_n 3, 1) := by decide +kernel
theorem d_M_lookAtClock_125 : decode b_M_lookAtClock 125 = .ok (.goto 36, 3) := by decide +kernel
theorem d_M_lookAtClock_128 : decode b_M_lookAtClock 128 = .ok (.iload_n 2, 1) := by decide +kernel
theorem d_M_lookAtClock_129 : decode b_M_lookAtClock 129 = .ok (.istore 4, 2) := by decide +kernel
theorem d_M_lookAtClock_131 : decode b_M_lookAtClock 131 = .ok (.iload 4, 2) := by decide +kernel
theorem d_M_lookAtClock_133 : decode b_M_lookAtClock 133 = .ok (.ifCond .lt 28, 3) := by decide +kernel
theorem d_M_lookAtClock_136 : decode b_M_lookAtClock 136 = .ok (.aload_n 0, 1) := by decide +kernel
theorem d_M_lookAtClock_137 : decode b_M_lookAtClock 137 = .ok (.iload_n 3, 1) := by decide +kernel
theorem d_M_lookAtClock_138 : decode b_M_lookAtClock 138 = .ok (.aload_n 0, 1) := by decide +kernel
theorem d_M_lookAtClock_139 : decode b_M_lookAtClock 139 = .ok (.getfield 124, 3) := by decide +kernel
theorem d_M_lookAtClock_142 : decode b_M_lookAtClock 142 = .ok (.iload 4, 2) := by decide +kernel
theorem d_M_lookAtClock_144 : decode b_M_lookAtClock 144 = .ok (.iaload, 1) := by decide +kernel
theorem d_M_lookAtClock_145 : decode b_M_lookAtClock 145 = .ok (.invokevirtual 467, 3) := by decide +kernel
theorem d_M_lookAtClock_148 : decode b_M_lookAtClock 148 = .ok (.istore_n 3, 1) := by decide +kernel
theorem d_M_lookAtClock_149 : decode b_M_lookAtClock 149 = .ok (.aload_n 0, 1) := by decide +kernel
theorem d_M_lookAtClock_150 : decode b_M_lookAtClock 150 = .ok (.getfield 121, 3) := by decide +kernel
theorem d_M_lookAtClock_153 : decode b_M_lookAtClock 153 = .ok (.iload 4, 2) := by decide +kernel
theorem d_M_lookAtClock_155 : decode b_M_lookAtClock 155 = .ok (.iaload, 1) := by decide +kernel
theorem d_M_lookAtClock_156 : decode b_M_lookAtClock 156 = .ok (.istore 4, 2) := by decide +kernel
theorem d_M_lookAtClock_158 : decode b_M_lookAtClock 158 = .ok (.goto (-27), 3) := by decide +kernel
theorem d_M_lookAtClock_161 : decode b_M_lookAtClock 161 = .ok (.aload_n 0, 1) := by decide +kernel
theorem d_M_lookAtClock_162 : decode b_M_lookAtClock 162 = .ok (.getfield 124, 3) := by decide +kernel
theorem d_M_lookAtClock_165 : decode b_M_lookAtClock 165 = .ok (.iload_n 1, 1) := by decide +kernel
theorem d_M_lookAtClock_166 : decode b_M_lookAtClock 166 = .ok (.iload_n 3, 1) := by decide +kernel
theorem d_M_lookAtClock_167 : decode b_M_lookAtClock 167 = .ok (.iastore, 1) := by decide +kernel
theorem d_M_lookAtClock_168 : decode b_M_lookAtClock 168 = .ok (.return_, 1) := by decide +kernel
abbrev mt_M_lookAtClock : MT := (R_M, b_M_lookAtClock, 5, none)
theorem vf_M_lookAtClock : VF y_M_lookAtClock mt_M_lookAtClock 12 1 := ⟨im_M_lookAtClock, se_M_lookAtClock, in_M, co_M_lookAtClock, by decide +kernel, _, _, rfl⟩
def f_M_lookAtClock_b161 (γ : St) (x1 : Int) (x2 : Int) : Option Res :=
  chk (inb x1 66000) (ap (setA γ 24 x1 x2) fun γ4 =>
  some (.inr 0, γ4))
def f_M_lookAtClock_L131 (x161 : St → Int → Int → Option Res) : Nat → St → Int → Int → Int → Option Res
  | 0, _, _, _, _ => none
  | n + 1, γ, x5, x6, x7 =>
  if x7 < 0 then
  (x161 γ x5 x6)
  else
  (chk (inb x7 66000) (bndT (f_M_together γ x6 (γ 24 x7)) fun r10 γ11 =>
  chk (inb x7 66000) (ap (γ11 23 x7) fun x14 =>
  (f_M_lookAtClock_L131 x161 n) γ11 x5 r10 x14)))
def f_M_lookAtClock (γ : St) (a0 : Int) : Option Res :=
  chk (inb a0 66000) (ap (γ 22 a0) fun x19 =>
  chk (inb a0 66000) (if (γ 20 a0) ≠ 2 then
  (chk (inb a0 66000) (if (γ 20 a0) ≠ 26 then
  (chk (inb a0 66000) (if (γ 20 a0) ≠ 25 then
  (f_M_lookAtClock_L131 (f_M_lookAtClock_b161) FU γ a0 (-2) x19)
  else
  (chk (inb x19 66000) (if 0 ≤ (γ 24 x19) then
  (chk (inb x19 66000) (chk ((2 : Int) ≠ 0) (bndN (f_M_clockOfVariable γ (idiv (γ 24 x19) 2)) fun r30 γ31 =>
  f_M_lookAtClock_b161 γ31 a0 r30)))
  else
  (some (.inl (6, γ 0 42), γ))))))
  else
  (chk (inb x19 66000) (chk (inb a0 66000) (chk ((2 : Int) ≠ 0) (bndN (f_M_clockOfVariable γ (idiv (γ 21 a0) 2)) fun r37 γ38 =>
  bndT (f_M_together γ38 (γ 24 x19) r37) fun r39 γ40 =>
  chk (inb a0 66000) (ap (γ40 21 a0) fun x43 =>
  f_M_lookAtClock_b161 γ40 a0 x43)))))))
  else
  (chk (inb a0 66000) (bndN (f_M_clockOfVariable γ (γ 21 a0)) fun r46 γ47 =>
  f_M_lookAtClock_b161 γ47 a0 r46))))
set_option maxHeartbeats 4000000 in
theorem s_M_lookAtClock_b161 {Γ : Ctx} : ∀ (γ : St) (x1 : Int) (x2 : Int), i32 x1 → i32 x2 → SB Γ BM mt_M_lookAtClock (RmT 7 262) 0 0 (KT Γ BM mt_M_lookAtClock.2.2.2) 161 [(0, vR Γ 0), (1, vI x1), (3, vI x2)] [] γ (f_M_lookAtClock_b161 γ x1 x2) := by
  intro γ x1 x2 hx1 hx2
  unfold f_M_lookAtClock_b161
  refine sb_aload_n 0 d_M_lookAtClock_161 rfl ?_
  refine g_M_124 d_M_lookAtClock_162 ?_
  refine sb_iload_n 1 d_M_lookAtClock_165 rfl ?_
  refine sb_iload_n 2 d_M_lookAtClock_166 rfl ?_
  refine as_M_24 hx2 d_M_lookAtClock_167 (fun _ => ?_)
  refine sb_aps (fun γ4 => ?_)
  exact st_v rfl d_M_lookAtClock_168
set_option maxHeartbeats 4000000 in
theorem s_M_lookAtClock_L131 {Γ : Ctx} {x161 : St → Int → Int → Option Res} (hx161 : ∀ (γ : St) (x15 : Int) (x16 : Int), i32 x15 → i32 x16 → SB Γ BM mt_M_lookAtClock (RmT 7 262) 0 0 (KT Γ BM mt_M_lookAtClock.2.2.2) 161 [(0, vR Γ 0), (1, vI x15), (3, vI x16)] [] γ (x161 γ x15 x16)) : ∀ (n : Nat) (γ : St) (x5 : Int) (x6 : Int) (x7 : Int), i32 x5 → i32 x6 → i32 x7 → SB Γ BM mt_M_lookAtClock (RmT 7 262) 0 0 (KT Γ BM mt_M_lookAtClock.2.2.2) 131 [(0, vR Γ 0), (1, vI x5), (3, vI x6), (4, vI x7)] [] γ (f_M_lookAtClock_L131 x161 n γ x5 x6 x7) := by
  intro n
  induction n with
  | zero => intros; exact sb_none
  | succ n ih =>
    intro γ x5 x6 x7 hx5 hx6 hx7
    unfold f_M_lookAtClock_L131
    refine sb_iload 3 d_M_lookAtClock_131 rfl ?_
    refine sb_if_lt 161 hx7 d_M_lookAtClock_133 (by decide) (fun _ => ?_) (fun _ => ?_)
    · exact sb_lv [0, 1, 2] rfl (hx161 γ x5 x6 hx5 hx6)
    · refine sb_aload_n 0 d_M_lookAtClock_136 rfl ?_
      refine sb_iload_n 2 d_M_lookAtClock_137 rfl ?_
      refine sb_aload_n 0 d_M_lookAtClock_138 rfl ?_
      refine g_M_124 d_M_lookAtClock_139 ?_
      refine sb_iload 3 d_M_lookAtClock_142 rfl ?_
      refine al_M_24 d_M_lookAtClock_144 (fun _ c9 => ?_)
      refine sb_cTi vf_M_together (c_M_together γ x6 (γ 24 x7) hx6 c9) rfl ml_M_467 (As := [vI x6, vI (γ 24 x7)]) rfl rfl (Nat.le_of_ble_eq_true rfl) ⟨by decide, by decide⟩ d_M_lookAtClock_145 (fun r10 γ11 hr10 => ?_)
      refine sb_istore_n [(3, vI r10), (0, vR Γ 0), (1, vI x5), (4, vI x7)] d_M_lookAtClock_148 (by decide) rfl ?_
      refine sb_aload_n 1 d_M_lookAtClock_149 rfl ?_
      refine g_M_121 d_M_lookAtClock_150 ?_
      refine sb_iload 3 d_M_lookAtClock_153 rfl ?_
      refine al_M_23 d_M_lookAtClock_155 (fun _ c13 => ?_)
      refine sb_istore [(4, vI (γ11 23 x7)), (3, vI r10), (0, vR Γ 0), (1, vI x5)] d_M_lookAtClock_156 (by decide) rfl ?_
      refine sb_nme (e := γ11 23 x7) (fun x14 => [(4, vI x14), (3, vI r10), (0, vR Γ 0), (1, vI x5)]) c13 (fun x14 hx14 => ?_)
      refine sb_goto 131 d_M_lookAtClock_158 (by decide) ?_
      exact sb_lv [2, 3, 1, 0] rfl (ih γ11 x5 r10 x14 hx5 hr10 hx14)
set_option maxHeartbeats 4000000 in
theorem c_M_lookAtClock {Γ : Ctx} (γ : St) (a0 : Int) (ha0 : i32 a0) : TC Γ BM y_M_lookAtClock mt_M_lookAtClock 7 262 [vR Γ 0, vI a0] γ (f_M_lookAtClock γ a0) := by
  refine tc_of (by decide) rfl (Nat.le_of_ble_eq_true rfl) ?_
  show SB Γ BM mt_M_lookAtClock (RmT 7 262) 0 0 (KT Γ BM mt_M_lookAtClock.2.2.2) 0 [(0, vR Γ 0), (1, vI a0)] [] γ _
  unfold f_M_lookAtClock
  refine sb_aload_n 0 d_M_lookAtClock_0 rfl ?_
  refine g_M_118 d_M_lookAtClock_1 ?_
  refine sb_iload_n 1 d_M_lookAtClock_4 rfl ?_
  refine al_M_22 d_M_lookAtClock_5 (fun _ c18 => ?_)
  refine sb_istore_n [(2, vI (γ 22 a0)), (0, vR Γ 0), (1, vI a0)] d_M_lookAtClock_6 (by decide) rfl ?_
  refine sb_nme (e := γ 22 a0) (fun x19 => [(2, vI x19), (0, vR Γ 0), (1, vI a0)]) c18 (fun x19 hx19 => ?_)
  refine sb_bipush d_M_lookAtClock_7 (by decide) ?_
  refine sb_istore_n [(3, vI (-2)), (2, vI x19), (0, vR Γ 0), (1, vI a0)] d_M_lookAtClock_9 (by decide) rfl ?_
  refine sb_aload_n 2 d_M_lookAtClock_10 rfl ?_
  refine g_M_112 d_M_lookAtClock_11 ?_
  refine sb_iload_n 3 d_M_lookAtClock_14 rfl ?_
  refine al_M_20 d_M_lookAtClock_15 (fun _ c21 => ?_)
  refine sb_iconst d_M_lookAtClock_16 ?_
  refine sb_icmp_ne 34 c21 (by decide) d_M_lookAtClock_17 (by decide) (fun _ => ?_) (fun _ => ?_)
  · refine sb_aload_n 2 d_M_lookAtClock_34 rfl ?_
    refine g_M_112 d_M_lookAtClock_35 ?_
    refine sb_iload_n 3 d_M_lookAtClock_38 rfl ?_
    refine al_M_20 d_M_lookAtClock_39 (fun _ c23 => ?_)
    refine sb_bipush d_M_lookAtClock_40 (by decide) ?_
    refine sb_icmp_ne 78 c23 (by decide) d_M_lookAtClock_42 (by decide) (fun _ => ?_) (fun _ => ?_)
    · refine sb_aload_n 2 d_M_lookAtClock_78 rfl ?_
      refine g_M_112 d_M_lookAtClock_79 ?_
      refine sb_iload_n 3 d_M_lookAtClock_82 rfl ?_
      refine al_M_20 d_M_lookAtClock_83 (fun _ c25 => ?_)
      refine sb_bipush d_M_lookAtClock_84 (by decide) ?_
      refine sb_icmp_ne 128 c25 (by decide) d_M_lookAtClock_86 (by decide) (fun _ => ?_) (fun _ => ?_)
      · refine sb_iload_n 1 d_M_lookAtClock_128 rfl ?_
        refine sb_istore [(4, vI x19), (3, vI (-2)), (2, vI x19), (0, vR Γ 0), (1, vI a0)] d_M_lookAtClock_129 (by decide) rfl ?_
        exact sb_lv [3, 4, 1, 0] rfl (s_M_lookAtClock_L131 (s_M_lookAtClock_b161) FU γ a0 (-2) x19 ha0 (by decide) hx19)
      · refine sb_aload_n 2 d_M_lookAtClock_89 rfl ?_
        refine g_M_124 d_M_lookAtClock_90 ?_
        refine sb_iload_n 1 d_M_lookAtClock_93 rfl ?_
        refine al_M_24 d_M_lookAtClock_94 (fun _ c27 => ?_)
        refine sb_if_ge 112 c27 d_M_lookAtClock_95 (by decide) (fun _ => ?_) (fun _ => ?_)
        · refine sb_aload_n 2 d_M_lookAtClock_112 rfl ?_
          refine sb_aload_n 2 d_M_lookAtClock_113 rfl ?_
          refine g_M_124 d_M_lookAtClock_114 ?_
          refine sb_iload_n 1 d_M_lookAtClock_117 rfl ?_
          refine al_M_24 d_M_lookAtClock_118 (fun _ c29 => ?_)
          refine sb_iconst d_M_lookAtClock_119 ?_
          refine sb_idiv (by decide) d_M_lookAtClock_120 (fun _ => ?_)
          refine sb_cVi vf_M_clockOfVariable (c_M_clockOfVariable γ (idiv (γ 24 x19) 2) (idiv_b _ _)) rfl ml_M_464 (As := [vI (idiv (γ 24 x19) 2)]) rfl rfl (Nat.le_of_ble_eq_true rfl) ⟨by decide, by decide⟩ d_M_lookAtClock_121 (fun r30 γ31 hr30 => ?_)
          refine sb_istore_n [(3, vI r30), (2, vI x19), (0, vR Γ 0), (1, vI a0)] d_M_lookAtClock_124 (by decide) rfl ?_
          refine sb_goto 161 d_M_lookAtClock_125 (by decide) ?_
          exact sb_lv [2, 3, 0] rfl (s_M_lookAtClock_b161 γ31 a0 r30 ha0 hr30)
        · refine sb_bd (j := 0) (i := 42) rfl (fun c32 => ?_)
          exact sb_thr rfl d_M_lookAtClock_98 d_M_lookAtClock_101 (pu_bipush d_M_lookAtClock_102 (by decide)) (pu_fld kf_M 2 42 rfl rfl rfl (by decide) fl_M_142 d_M_lookAtClock_104 d_M_lookAtClock_105) d_M_lookAtClock_108 d_M_lookAtClock_111 (by decide) c32 ⟨by decide, by decide⟩
    · refine sb_aload_n 2 d_M_lookAtClock_45 rfl ?_
      refine sb_aload_n 2 d_M_lookAtClock_46 rfl ?_
      refine g_M_124 d_M_lookAtClock_47 ?_
      refine sb_iload_n 1 d_M_lookAtClock_50 rfl ?_
      refine al_M_24 d_M_lookAtClock_51 (fun _ c34 => ?_)
      refine sb_aload_n 2 d_M_lookAtClock_52 rfl ?_
      refine sb_aload_n 2 d_M_lookAtClock_53 rfl ?_
      refine g_M_115 d_M_lookAtClock_54 ?_
      refine sb_iload_n 3 d_M_lookAtClock_57 rfl ?_
      refine al_M_21 d_M_lookAtClock_58 (fun _ c36 => ?_)
      refine sb_iconst d_M_lookAtClock_59 ?_
      refine sb_idiv (by decide) d_M_lookAtClock_60 (fun _ => ?_)
      refine sb_cVi vf_M_clockOfVariable (c_M_clockOfVariable γ (idiv (γ 21 a0) 2) (idiv_b _ _)) rfl ml_M_464 (As := [vI (idiv (γ 21 a0) 2)]) rfl rfl (Nat.le_of_ble_eq_true rfl) ⟨by decide, by decide⟩ d_M_lookAtClock_61 (fun r37 γ38 hr37 => ?_)
      refine sb_cTi vf_M_together (c_M_together γ38 (γ 24 x19) r37 c34 hr37) rfl ml_M_467 (As := [vI (γ 24 x19), vI r37]) rfl rfl (Nat.le_of_ble_eq_true rfl) ⟨by decide, by decide⟩ d_M_lookAtClock_64 (fun r39 γ40 hr39 => ?_)
      refine sb_pop d_M_lookAtClock_67 rfl ?_
      refine sb_aload_n 2 d_M_lookAtClock_68 rfl ?_
      refine g_M_115 d_M_lookAtClock_69 ?_
      refine sb_iload_n 3 d_M_lookAtClock_72 rfl ?_
      refine al_M_21 d_M_lookAtClock_73 (fun _ c42 => ?_)
      refine sb_istore_n [(3, vI (γ40 21 a0)), (2, vI x19), (0, vR Γ 0), (1, vI a0)] d_M_lookAtClock_74 (by decide) rfl ?_
      refine sb_nme (e := γ40 21 a0) (fun x43 => [(3, vI x43), (2, vI x19), (0, vR Γ 0), (1, vI a0)]) c42 (fun x43 hx43 => ?_)
      refine sb_goto 161 d_M_lookAtClock_75 (by decide) ?_
      exact sb_lv [2, 3, 0] rfl (s_M_lookAtClock_b161 γ40 a0 x43 ha0 hx43)
  · refine sb_aload_n 2 d_M_lookAtClock_20 rfl ?_
    refine sb_aload_n 2 d_M_lookAtClock_21 rfl ?_
    refine g_M_115 d_M_lookAtClock_22 ?_
    refine sb_iload_n 3 d_M_lookAtClock_25 rfl ?_
    refine al_M_21 d_M_lookAtClock_26 (fun _ c45 => ?_)
    refine sb_cVi vf_M_clockOfVariable (c_M_clockOfVariable γ (γ 21 a0) c45) rfl ml_M_464 (As := [vI (γ 21 a0)]) rfl rfl (Nat.le_of_ble_eq_true rfl) ⟨by decide, by decide⟩ d_M_lookAtClock_27 (fun r46 γ47 hr46 => ?_)
    refine sb_istore_n [(3, vI r46), (2, vI x19), (0, vR Γ 0), (1, vI a0)] d_M_lookAtClock_30 (by decide) rfl ?_
    refine sb_goto 161 d_M_lookAtClock_31 (by decide) ?_
    exact sb_lv [2, 3, 0] rfl (s_M_lookAtClock_b161 γ47 a0 r46 ha0 hr46)
theorem d_M_judge_0 : decode b_M_judge 0 = .ok (.aload_n 0, 1) := by decide +kernel
theorem d_M_judge_1 : decode b_M_judge 1 = .ok (.aload_n 0, 1) := by decide +kernel
theorem d_M_judge_2 : decode b_M_judge 2 = .ok (.getfield 90, 3) := by decide +kernel
theorem d_M_judge_5 : decode b_M_judge 5 = .ok (.iload_n 1, 1) := by decide +kernel
theorem d_M_judge_6 : decode b_M_judge 6 = .ok (.iaload, 1) := by decide +kernel
theorem d_M_judge_7 : decode b_M_judge 7 = .ok (.putfield 142, 3) := by decide +kernel
theorem d_M_judge_10 : decode b_M_judge 10 = .ok (.aload_n 0, 1) := by decide +kernel
theorem d_M_judge_11 : decode b_M_judge 11 = .ok (.getfield 96, 3) := by decide +kernel
theorem d_M_judge_14 : decode b_M_judge 14 = .ok (.iload_n 1, 1) := by decide +kernel
theorem d_M_judge_15 : decode b_M_judge 15 = .ok (.iaload, 1) := by decide +kernel
theorem d_M_judge_16 : decode b_M_judge 16 = .ok (.istore_n 2, 1) := by decide +kernel
theorem d_M_judge_17 : decode b_M_judge 17 = .ok (.aload_n 0, 1) := by decide +kernel
theorem d_M_judge_18 : decode b_M_judge 18 = .ok (.getfield 93, 3) := by decide +kernel
theorem d_M_judge_21 : decode b_M_judge 21 = .ok (.iload_n 1, 1) := by decide +kernel
theorem d_M_judge_22 : decode b_M_judge 22 = .ok (.iconst 1, 1) := by decide +kernel
theorem d_M_judge_23 : decode b_M_judge 23 = .ok (.iadd, 1) := by decide +kernel
theorem d_M_judge_24 : decode b_M_judge 24 = .ok (.iaload, 1) := by decide +kernel
theorem d_M_judge_25 : decode b_M_judge 25 = .ok (.aload_n 0, 1) := by decide +kernel
theorem d_M_judge_26 : decode b_M_judge 26 = .ok (.getfield 93, 3) := by decide +kernel
theorem d_M_judge_29 : decode b_M_judge 29 = .ok (.iload_n 1, 1) := by decide +kernel
theorem d_M_judge_30 : decode b_M_judge 30 = .ok (.iaload, 1) := by decide +kernel
theorem d_M_judge_31 : decode b_M_judge 31 = .ok (.isub, 1) := by decide +kernel
theorem d_M_judge_32 : decode b_M_judge 32 = .ok (.istore_n 3, 1) := by decide +kernel
theorem d_M_judge_33 : decode b_M_judge 33 = .ok (.aload_n 0, 1) := by decide +kernel
theorem d_M_judge_34 : decode b_M_judge 34 = .ok (.getfield 8, 3) := by decide +kernel
theorem d_M_judge_37 : decode b_M_judge 37 = .ok (.aload_n 0, 1) := by decide +kernel
theorem d_M_judge_38 : decode b_M_judge 38 = .ok (.getfield 142, 3) := by decide +kernel
theorem d_M_judge_41 : decode b_M_judge 41 = .ok (.baload, 1) := by decide +kernel
theorem d_M_judge_42 : decode b_M_judge 42 = .ok (.bipush 40, 2) := by decide +kernel
theorem d_M_judge_44 : decode b_M_judge 44 = .ok (.if_icmp .ne 7, 3) := by decide +kernel
theorem d_M_judge_47 : decode b_M_judge 47 = .ok (.iconst 1, 1) := by decide +kernel
theorem d_M_judge_48 : decode b_M_judge 48 = .ok (.goto 4, 3) := by decide +kernel
theorem d_M_judge_51 : decode b_M_judge 51 = .ok (.iconst 0, 1) := by decide +kernel
theorem d_M_judge_52 : decode b_M_judge 52 = .ok (.istore 4, 2) := by decide +kernel
theorem d_M_judge_54 : decode b_M_judge 54 = .ok (.aload_n 0, 1) := by decide +kernel
theorem d_M_judge_55 : decode b_M_judge 55 = .ok (.getfield 103, 3) := by decide +kernel
theorem d_M_judge_58 : decode b_M_judge 58 = .ok (.iload_n 1, 1) := by decide +kernel
theorem d_M_judge_59 : decode b_M_judge 59 = .ok (.iaload, 1) := by decide +kernel
theorem d_M_judge_60 : decode b_M_judge 60 = .ok (.istore 5, 2) := by decide +kernel
theorem d_M_judge_62 : decode b_M_judge 62 = .ok (.iload 5, 2) := by decide +kernel
theorem d_M_judge_64 : decode b_M_judge 64 = .ok (.iload_n 2, 1) := by decide +kernel
theorem d_M_judge_65 : decode b_M_judge 65 = .ok (.if_icmp .gt 31, 3) := by decide +kernel
theorem d_M_judge_68 : decode b_M_judge 68 = .ok (.aload_n 0, 1) := by decide +kernel
theorem d_M_judge_69 : decode b_M_judge 69 = .ok (.iload 5, 2) := by decide +kernel
theorem d_M_judge_71 : decode b_M_judge 71 = .ok (.iload 5, 2) := by decide +kernel
theorem d_M_judge_73 : decode b_M_judge 73 = .ok (.iload_n 2, 1) := by decide +kernel
theorem d_M_judge_74 : decode b_M_judge 74 = .ok (.if_icmp .ne 12, 3) := by decide +kernel
theorem d_M_judge_77 : decode b_M_judge 77 = .ok (.iload 4, 2) := by decide +kernel
theorem d_M_judge_79 : decode b_M_judge 79 = .ok (.ifCond .eq 7, 3) := by decide +kernel
theorem d_M_judge_82 : decode b_M_judge 82 = .ok (.iload_n 3, 1) := by decide +kernel
theorem d_M_judge_83 : decode b_M_judge 83 = .ok (.goto 4, 3) := by decide +kernel
theorem d_M_judge_86 : decode b_M_judge 86 = .ok (.iconst 1, 1) := by decide +kernel
theorem d_M_judge_87 : decode b_M_judge 87 = .ok (.invokevirtual 455, 3) := by decide +kernel
theorem d_M_judge_90 : decode b_M_judge 90 = .ok (.iinc 5 1, 3) := by decide +kernel
theorem d_M_judge_93 : decode b_M_judge 93 = .ok (.goto (-31), 3) := by decide +kernel
theorem d_M_judge_96 : decode b_M_judge 96 = .ok (.iconst 0, 1) := by decide +kernel
theorem d_M_judge_97 : decode b_M_judge 97 = .ok (.istore 5, 2) := by decide +kernel
theorem d_M_judge_99 : decode b_M_judge 99 = .ok (.iload 5, 2) := by decide +kernel
theorem d_M_judge_101 : decode b_M_judge 101 = .ok (.iload_n 3, 1) := by decide +kernel
theorem d_M_judge_102 : decode b_M_judge 102 = .ok (.if_icmp .ge 95, 3) := by decide +kernel
theorem d_M_judge_105 : decode b_M_judge 105 = .ok (.aload_n 0, 1) := by decide +kernel
theorem d_M_judge_106 : decode b_M_judge 106 = .ok (.aload_n 0, 1) := by decide +kernel
theorem d_M_judge_107 : decode b_M_judge 107 = .ok (.getfield 86, 3) := by decide +kernel
theorem d_M_judge_110 : decode b_M_judge 110 = .ok (.aload_n 0, 1) := by decide +kernel
theorem d_M_judge_111 : decode b_M_judge 111 = .ok (.getfield 50, 3) := by decide +kernel
theorem d_M_judge_114 : decode b_M_judge 114 = .ok (.aload_n 0, 1) := by decide +kernel
theorem d_M_judge_115 : decode b_M_judge 115 = .ok (.getfield 68, 3) := by decide +kernel
theorem d_M_judge_118 : decode b_M_judge 118 = .ok (.iaload, 1) := by decide +kernel
theorem d_M_judge_119 : decode b_M_judge 119 = .ok (.aload_n 0, 1) := by decide +kernel
theorem d_M_judge_120 : decode b_M_judge 120 = .ok (.getfield 100, 3) := by decide +kernel
theorem d_M_judge_123 : decode b_M_judge 123 = .ok (.aload_n 0, 1) := by decide +kernel
theorem d_M_judge_124 : decode b_M_judge 124 = .ok (.getfield 93, 3) := by decide +kernel
theorem d_M_judge_127 : decode b_M_judge 127 = .ok (.iload_n 1, 1) := by decide +kernel
theorem d_M_judge_128 : decode b_M_judge 128 = .ok (.iaload, 1) := by decide +kernel
theorem d_M_judge_129 : decode b_M_judge 129 = .ok (.iload 5, 2) := by decide +kernel
theorem d_M_judge_131 : decode b_M_judge 131 = .ok (.iadd, 1) := by decide +kernel
theorem d_M_judge_132 : decode b_M_judge 132 = .ok (.iaload, 1) := by decide +kernel
theorem d_M_judge_133 : decode b_M_judge 133 = .ok (.iadd, 1) := by decide +kernel
theorem d_M_judge_134 : decode b_M_judge 134 = .ok (.baload, 1) := by decide +kernel
theorem d_M_judge_135 : decode b_M_judge 135 = .ok (.iload 4, 2) := by decide +kernel
theorem d_M_judge_137 : decode b_M_judge 137 = .ok (.ifCond .eq 37, 3) := by decide +kernel
theorem d_M_judge_140 : decode b_M_judge 140 = .ok (.aload_n 0, 1) := by decide +kernel
theorem d_M_judge_141 : decode b_M_judge 141 = .ok (.getfield 86, 3) := by decide +kernel
theorem d_M_judge_144 : decode b_M_judge 144 = .ok (.aload_n 0, 1) := by decide +kernel
theorem d_M_judge_145 : decode b_M_judge 145 = .ok (.getfield 50, 3) := by decide +kernel
theorem d_M_judge_148 : decode b_M_judge 148 = .ok (.aload_n 0, 1) := by decide +kernel
theorem d_M_judge_149 : decode b_M_judge 149 = .ok (.getfield 115, 3) := by decide +kernel
theorem d_M_judge_152 : decode b_M_judge 152 = .ok (.iload_n 2, 1) := by decide +kernel
theorem d_M_judge_153 : decode b_M_judge 153 = .ok (.iaload, 1) := by decide +kernel
theorem d_M_judge_154 : decode b_M_judge 154 = .ok (.iaload, 1) := by decide +kernel
theorem d_M_judge_155 : decode b_M_judge 155 = .ok (.aload_n 0, 1) := by decide +kernel
theorem d_M_judge_156 : decode b_M_judge 156 = .ok (.getfield 53, 3) := by decide +kernel
theorem d_M_judge_159 : decode b_M_judge 159 = .ok (.aload_n 0, 1) := by decide +kernel
theorem d_M_judge_160 : decode b_M_judge 160 = .ok (.getfield 115, 3) := by decide +kernel
theorem d_M_judge_163 : decode b_M_judge 163 = .ok (.iload_n 2, 1) := by decide +kernel
theorem d_M_judge_164 : decode b_M_judge 164 = .ok (.iaload, 1) := by decide +kernel
theorem d_M_judge_165 : decode b_M_judge 165 = .ok (.iaload, 1) := by decide +kernel
theorem d_M_judge_166 : decode b_M_judge 166 = .ok (.iadd, 1) := by decide +kernel
theorem d_M_judge_167 : decode b_M_judge 167 = .ok (.iload 5, 2) := by decide +kernel
theorem d_M_judge_169 : decode b_M_judge 169 = .ok (.iadd, 1) := by decide +kernel
theorem d_M_judge_170 : decode b_M_judge 170 = .ok (.baload, 1) := by decide +kernel
theorem d_M_judge_171 : decode b_M_judge 171 = .ok (.goto 9, 3) := by decide +kernel
theorem d_M_judge_174 : decode b_M_judge 174 = .ok (.aload_n 0, 1) := by decide +kernel
theorem d_M_judge_175 : decode b_M_judge 175 = .ok (.getfield 139, 3) := by decide +kernel
theorem d_M_judge_178 : decode b_M_judge 178 = .ok (.iload_n 2, 1) := by decide +kernel
theorem d_M_judge_179 : decode b_M_judge 179 = .ok (.baload, 1) := by decide +kernel
theorem d_M_judge_180 : decode b_M_judge 180 = .ok (.if_icmp .ne 7, 3) := by decide +kernel
theorem d_M_judge_183 : decode b_M_judge 183 = .ok (.iconst 1, 1) := by decide +kernel
theorem d_M_judge_184 : decode b_M_judge 184 = .ok (.goto 4, 3) := by decide +kernel
theorem d_M_judge_187 : decode b_M_judge 187 = .ok (.iconst 0, 1) := by decide +kernel
theorem d_M_judge_188 : decode b_M_judge 188 = .ok (.invokevirtual 458, 3) := by decide +kernel
theorem d_M_judge_191 : decode b_M_judge 191 = .ok (.iinc 5 1, 3) := by decide +kernel
theorem d_M_judge_194 : decode b_M_judge 194 = .ok (.goto (-95), 3) := by decide +kernel
theorem d_M_judge_197 : decode b_M_judge 197 = .ok (.aload_n 0, 1) := by decide +kernel
theorem d_M_judge_198 : decode b_M_judge 198 = .ok (.getfield 103, 3) := by decide +kernel
theorem d_M_judge_201 : decode b_M_judge 201 = .ok (.iload_n 1, 1) := by decide +kernel
theorem d_M_judge_202 : decode b_M_judge 202 = .ok (.iaload, 1) := by decide +kernel
theorem d_M_judge_203 : decode b_M_judge 203 = .ok (.istore 5, 2) := by decide +kernel
theorem d_M_judge_205 : decode b_M_judge 205 = .ok (.iload 5, 2) := by decide +kernel
theorem d_M_judge_207 : decode b_M_judge 207 = .ok (.iload_n 2, 1) := by decide +kernel
theorem d_M_judge_208 : decode b_M_judge 208 = .ok (.if_icmp .gt 15, 3) := by decide +kernel
theorem d_M_judge_211 : decode b_M_judge 211 = .ok (.aload_n 0, 1) := by decide +kernel
theorem d_M_judge_212 : decode b_M_judge 212 = .ok (.iload 5, 2) := by decide +kernel
theorem d_M_judge_214 : decode b_M_judge 214 = .ok (.invokevirtual 461, 3) := by decide +kernel
theorem d_M_judge_217 : decode b_M_judge 217 = .ok (.iinc 5 1, 3) := by decide +kernel
theorem d_M_judge_220 : decode b_M_judge 220 = .ok (.goto (-15), 3) := by decide +kernel
theorem d_M_judge_223 : decode b_M_judge 223 = .ok (.aload_n 0, 1) := by decide +kernel
theorem d_M_judge_224 : decode b_M_judge 224 = .ok (.getfield 124, 3) := by decide +kernel
theorem d_M_judge_227 : decode b_M_judge 227 = .ok (.iload_n 2, 1) := by decide +kernel
theorem d_M_judge_228 : decode b_M_judge 228 = .ok (.iaload, 1) := by decide +kernel
theorem d_M_judge_229 : decode b_M_judge 229 = .ok (.istore 5, 2) := by decide +kernel
theorem d_M_judge_231 : decode b_M_judge 231 = .ok (.iconst 0, 1) := by decide +kernel
theorem d_M_judge_232 : decode b_M_judge 232 = .ok (.istore 6, 2) := by decide +kernel
theorem d_M_judge_234 : decode b_M_judge 234 = .ok (.iload 6, 2) := by decide +kernel
theorem d_M_judge_236 : decode b_M_judge 236 = .ok (.iload_n 3, 1) := by decide +kernel
theorem d_M_judge_237 : decode b_M_judge 237 = .ok (.if_icmp .ge 35, 3) := by decide +kernel
theorem d_M_judge_240 : decode b_M_judge 240 = .ok (.aload_n 0, 1) := by decide +kernel
theorem d_M_judge_241 : decode b_M_judge 241 = .ok (.iload 5, 2) := by decide +kernel
theorem d_M_judge_243 : decode b_M_judge 243 = .ok (.aload_n 0, 1) := by decide +kernel
theorem d_M_judge_244 : decode b_M_judge 244 = .ok (.aload_n 0, 1) := by decide +kernel
theorem d_M_judge_245 : decode b_M_judge 245 = .ok (.getfield 100, 3) := by decide +kernel
theorem d_M_judge_248 : decode b_M_judge 248 = .ok (.aload_n 0, 1) := by decide +kernel
theorem d_M_judge_249 : decode b_M_judge 249 = .ok (.getfield 93, 3) := by decide +kernel
theorem d_M_judge_252 : decode b_M_judge 252 = .ok (.iload_n 1, 1) := by decide +kernel
theorem d_M_judge_253 : decode b_M_judge 253 = .ok (.iaload, 1) := by decide +kernel
theorem d_M_judge_254 : decode b_M_judge 254 = .ok (.iload 6, 2) := by decide +kernel
theorem d_M_judge_256 : decode b_M_judge 256 = .ok (.iadd, 1) := by decide +kernel
theorem d_M_judge_257 : decode b_M_judge 257 = .ok (.iaload, 1) := by decide +kernel
theorem d_M_judge_258 : decode b_M_judge 258 = .ok (.invokevirtual 464, 3) := by decide +kernel
theorem d_M_judge_261 : decode b_M_judge 261 = .ok (.invokevirtual 467, 3) := by decide +kernel
theorem d_M_judge_264 : decode b_M_judge 264 = .ok (.istore 5, 2) := by decide +kernel
theorem d_M_judge_266 : decode b_M_judge 266 = .ok (.iinc 6 1, 3) := by decide +kernel
theorem d_M_judge_269 : decode b_M_judge 269 = .ok (.goto (-35), 3) := by decide +kernel
theorem d_M_judge_272 : decode b_M_judge 272 = .ok (.return_, 1) := by decide +kernel
abbrev mt_M_judge : MT := (R_M, b_M_judge, 7, none)
theorem vf_M_judge : VF y_M_judge mt_M_judge 12 1 := ⟨im_M_judge, se_M_judge, in_M, co_M_judge, by decide +kernel, _, _, rfl⟩
def f_M_judge_L234 : Nat → St → Int → Int → Int → Int → Option Res
  | 0, _, _, _, _, _ => none
  | n + 1, γ, x1, x2, x3, x4 =>
  if x2 ≤ x4 then
  (some (.inr 0, γ))
  else
  (chk (inb x1 17001) (chk (i32 ((γ 16 x1) + x4)) (chk (inb ((γ 16 x1) + x4) 66000) (bndN (f_M_clockOfVariable γ (γ 18 ((γ 16 x1) + x4))) fun r10 γ11 =>
  bndT (f_M_together γ11 x3 r10) fun r12 γ13 =>
  chk (i32 (x4 + 1)) ((f_M_judge_L234 n) γ13 x1 x2 r12 (x4 + 1))))))
def f_M_judge_b223 (γ : St) (x15 : Int) (x16 : Int) (x17 : Int) : Option Res :=
  chk (inb x16 66000) (ap (γ 24 x16) fun x20 =>
  f_M_judge_L234  FU γ x15 x17 x20 0)
def f_M_judge_L205 (x223 : St → Int → Int → Int → Option Res) : Nat → St → Int → Int → Int → Int → Option Res
  | 0, _, _, _, _, _ => none
  | n + 1, γ, x21, x22, x23, x24 =>
  if x22 < x24 then
  (x223 γ x21 x22 x23)
  else
  (bndT (f_M_lookAtClock γ x24) fun _ γ26 =>
  chk (i32 (x24 + 1)) ((f_M_judge_L205 x223 n) γ26 x21 x22 x23 (x24 + 1)))
def f_M_judge_b197 (γ : St) (x31 : Int) (x32 : Int) (x33 : Int) : Option Res :=
  chk (inb x31 17000) (ap (γ 19 x31) fun x36 =>
  f_M_judge_L205 (f_M_judge_b223) FU γ x31 x32 x33 x36)
def f_M_judge_b188 (k99 : St → Int → Int → Int → Int → Int → Option Res) (x197 : St → Int → Int → Int → Option Res) (γ : St) (x37 : Int) (x38 : Int) (x39 : Int) (x40 : Int) (x41 : Int) (x42 : Int) : Option Res :=
  bndT (f_M_type γ x42) fun _ γ44 =>
  chk (i32 (x41 + 1)) (k99 γ44 x37 x38 x39 x40 (x41 + 1))
def f_M_judge_b180 (k99 : St → Int → Int → Int → Int → Int → Option Res) (x197 : St → Int → Int → Int → Option Res) (γ : St) (x54 : Int) (x55 : Int) (x56 : Int) (x57 : Int) (x58 : Int) (x59 : Int) (x60 : Int) : Option Res :=
  if x60 ≠ x59 then
  (f_M_judge_b188 k99 x197 γ x54 x55 x56 x57 x58 0)
  else
  (f_M_judge_b188 k99 x197 γ x54 x55 x56 x57 x58 1)
def f_M_judge_L99 (x197 : St → Int → Int → Int → Option Res) : Nat → St → Int → Int → Int → Int → Int → Option Res
  | 0, _, _, _, _, _, _ => none
  | n + 1, γ, x69, x70, x71, x72, x73 =>
  if x71 ≤ x73 then
  (x197 γ x69 x70 x71)
  else
  (chk (inb (γ 0 18) 61) (chk (inb x69 17001) (chk (i32 ((γ 16 x69) + x73)) (chk (inb ((γ 16 x69) + x73) 66000) (chk (i32 ((γ 4 (γ 0 18)) + (γ 18 ((γ 16 x69) + x73)))) (chk (inb ((γ 4 (γ 0 18)) + (γ 18 ((γ 16 x69) + x73))) 6000) (if x72 = 0 then
  (chk (inb x70 66000) (f_M_judge_b180 (f_M_judge_L99 x197 n) x197 γ x69 x70 x71 x72 x73 (γ 28 x70) (γ 14 ((γ 4 (γ 0 18)) + (γ 18 ((γ 16 x69) + x73))))))
  else
  (chk (inb x70 66000) (chk (inb (γ 21 x70) 61) (chk (inb x70 66000) (chk (inb (γ 21 x70) 60) (chk (i32 ((γ 4 (γ 21 x70)) + (γ 5 (γ 21 x70)))) (chk (i32 (((γ 4 (γ 21 x70)) + (γ 5 (γ 21 x70))) + x73)) (chk (inb (((γ 4 (γ 21 x70)) + (γ 5 (γ 21 x70))) + x73) 6000) (f_M_judge_b180 (f_M_judge_L99 x197 n) x197 γ x69 x70 x71 x72 x73 (γ 14 (((γ 4 (γ 21 x70)) + (γ 5 (γ 21 x70))) + x73)) (γ 14 ((γ 4 (γ 0 18)) + (γ 18 ((γ 16 x69) + x73)))))))))))))))))))
def f_M_judge_b96 (γ : St) (x102 : Int) (x103 : Int) (x104 : Int) (x105 : Int) : Option Res :=
  f_M_judge_L99 (f_M_judge_b197) FU γ x102 x103 x104 x105 0
def f_M_judge_b87 (k62 : St → Int → Int → Int → Int → Int → Option Res) (x96 : St → Int → Int → Int → Int → Option Res) (γ : St) (x106 : Int) (x107 : Int) (x108 : Int) (x109 : Int) (x110 : Int) (x111 : Int) (x112 : Int) : Option Res :=
  bndT (f_M_look γ x112 x111) fun _ γ114 =>
  chk (i32 (x110 + 1)) (k62 γ114 x106 x107 x108 x109 (x110 + 1))
def f_M_judge_b86 (k62 : St → Int → Int → Int → Int → Int → Option Res) (x96 : St → Int → Int → Int → Int → Option Res) (γ : St) (x125 : Int) (x126 : Int) (x127 : Int) (x128 : Int) (x129 : Int) (x130 : Int) : Option Res :=
  f_M_judge_b87 k62 x96 γ x125 x126 x127 x128 x129 1 x130
def f_M_judge_L62 (x96 : St → Int → Int → Int → Int → Option Res) : Nat → St → Int → Int → Int → Int → Int → Option Res
  | 0, _, _, _, _, _, _ => none
  | n + 1, γ, x140, x141, x142, x143, x144 =>
  if x141 < x144 then
  (x96 γ x140 x141 x142 x143)
  else
  (if x144 ≠ x141 then
  (f_M_judge_b86 (f_M_judge_L62 x96 n) x96 γ x140 x141 x142 x143 x144 x144)
  else
  (if x143 = 0 then
  (f_M_judge_b86 (f_M_judge_L62 x96 n) x96 γ x140 x141 x142 x143 x144 x144)
  else
  (f_M_judge_b87 (f_M_judge_L62 x96 n) x96 γ x140 x141 x142 x143 x144 x142 x144)))
def f_M_judge_b52 (γ : St) (x149 : Int) (x150 : Int) (x151 : Int) (x152 : Int) : Option Res :=
  chk (inb x149 17000) (ap (γ 19 x149) fun x155 =>
  f_M_judge_L62 (f_M_judge_b96) FU γ x149 x150 x151 x152 x155)
def f_M_judge (γ : St) (a0 : Int) : Option Res :=
  chk (inb a0 17000) (ap (setA γ 0 42 (γ 15 a0)) fun γ158 =>
  chk (inb a0 17000) (ap (γ158 17 a0) fun x161 =>
  chk (i32 (a0 + 1)) (chk (inb (a0 + 1) 17001) (chk (inb a0 17001) (chk (i32 ((γ158 16 (a0 + 1)) - (γ158 16 a0))) (ap ((γ158 16 (a0 + 1)) - (γ158 16 a0)) fun x168 =>
  chk (inb (γ158 0 42) 65536) (if (γ158 1 (γ158 0 42)) ≠ 40 then
  (f_M_judge_b52 γ158 a0 x161 x168 0)
  else
  (f_M_judge_b52 γ158 a0 x161 x168 1))))))))
set_option maxHeartbeats 4000000 in
theorem s_M_judge_L234 {Γ : Ctx} : ∀ (n : Nat) (γ : St) (x1 : Int) (x2 : Int) (x3 : Int) (x4 : Int), i32 x1 → i32 x2 → i32 x3 → i32 x4 → SB Γ BM mt_M_judge (RmT 8 289) 0 0 (KT Γ BM mt_M_judge.2.2.2) 234 [(0, vR Γ 0), (1, vI x1), (3, vI x2), (5, vI x3), (6, vI x4)] [] γ (f_M_judge_L234 n γ x1 x2 x3 x4) := by
  intro n
  induction n with
  | zero => intros; exact sb_none
  | succ n ih =>
    intro γ x1 x2 x3 x4 hx1 hx2 hx3 hx4
    unfold f_M_judge_L234
    refine sb_iload 4 d_M_judge_234 rfl ?_
    refine sb_iload_n 2 d_M_judge_236 rfl ?_
    refine sb_icmp_ge 272 hx4 hx2 d_M_judge_237 (by decide) (fun _ => ?_) (fun _ => ?_)
    · exact st_v rfl d_M_judge_272
    · refine sb_aload_n 0 d_M_judge_240 rfl ?_
      refine sb_iload 3 d_M_judge_241 rfl ?_
      refine sb_aload_n 0 d_M_judge_243 rfl ?_
      refine sb_aload_n 0 d_M_judge_244 rfl ?_
      refine g_M_100 d_M_judge_245 ?_
      refine sb_aload_n 0 d_M_judge_248 rfl ?_
      refine g_M_93 d_M_judge_249 ?_
      refine sb_iload_n 1 d_M_judge_252 rfl ?_
      refine al_M_16 d_M_judge_253 (fun _ c7 => ?_)
      refine sb_iload 4 d_M_judge_254 rfl ?_
      refine sb_iadd d_M_judge_256 ?_
      refine sb_chk (fun c8 => ?_)
      refine al_M_18 d_M_judge_257 (fun _ c9 => ?_)
      refine sb_cVi vf_M_clockOfVariable (c_M_clockOfVariable γ (γ 18 ((γ 16 x1) + x4)) c9) rfl ml_M_464 (As := [vI (γ 18 ((γ 16 x1) + x4))]) rfl rfl (Nat.le_of_ble_eq_true rfl) ⟨by decide, by decide⟩ d_M_judge_258 (fun r10 γ11 hr10 => ?_)
      refine sb_cTi vf_M_together (c_M_together γ11 x3 r10 hx3 hr10) rfl ml_M_467 (As := [vI x3, vI r10]) rfl rfl (Nat.le_of_ble_eq_true rfl) ⟨by decide, by decide⟩ d_M_judge_261 (fun r12 γ13 hr12 => ?_)
      refine sb_istore [(5, vI r12), (0, vR Γ 0), (1, vI x1), (3, vI x2), (6, vI x4)] d_M_judge_264 (by decide) rfl ?_
      refine sb_iinc 4 [(6, vI (x4 + 1)), (5, vI r12), (0, vR Γ 0), (1, vI x1), (3, vI x2)] d_M_judge_266 rfl (by decide) rfl ?_
      refine sb_chk (fun c14 => ?_)
      refine sb_goto 234 d_M_judge_269 (by decide) ?_
      exact sb_lv [2, 3, 4, 1, 0] rfl (ih γ13 x1 x2 r12 (x4 + 1) hx1 hx2 hr12 c14)
set_option maxHeartbeats 4000000 in
theorem s_M_judge_b223 {Γ : Ctx} : ∀ (γ : St) (x15 : Int) (x16 : Int) (x17 : Int), i32 x15 → i32 x16 → i32 x17 → SB Γ BM mt_M_judge (RmT 8 289) 0 0 (KT Γ BM mt_M_judge.2.2.2) 223 [(0, vR Γ 0), (1, vI x15), (2, vI x16), (3, vI x17)] [] γ (f_M_judge_b223 γ x15 x16 x17) := by
  intro γ x15 x16 x17 hx15 hx16 hx17
  unfold f_M_judge_b223
  refine sb_aload_n 0 d_M_judge_223 rfl ?_
  refine g_M_124 d_M_judge_224 ?_
  refine sb_iload_n 2 d_M_judge_227 rfl ?_
  refine al_M_24 d_M_judge_228 (fun _ c19 => ?_)
  refine sb_istore [(5, vI (γ 24 x16)), (0, vR Γ 0), (1, vI x15), (2, vI x16), (3, vI x17)] d_M_judge_229 (by decide) rfl ?_
  refine sb_nme (e := γ 24 x16) (fun x20 => [(5, vI x20), (0, vR Γ 0), (1, vI x15), (2, vI x16), (3, vI x17)]) c19 (fun x20 hx20 => ?_)
  refine sb_iconst d_M_judge_231 ?_
  refine sb_istore [(6, vI 0), (5, vI x20), (0, vR Γ 0), (1, vI x15), (2, vI x16), (3, vI x17)] d_M_judge_232 (by decide) rfl ?_
  exact sb_lv [2, 3, 5, 1, 0] rfl (s_M_judge_L234  FU γ x15 x17 x20 0 hx15 hx17 hx20 (by decide))
set_option maxHeartbeats 4000000 in
theorem s_M_judge_L205 {Γ : Ctx} {x223 : St → Int → Int → Int → Option Res} (hx223 : ∀ (γ : St) (x28 : Int) (x29 : Int) (x30 : Int), i32 x28 → i32 x29 → i32 x30 → SB Γ BM mt_M_judge (RmT 8 289) 0 0 (KT Γ BM mt_M_judge.2.2.2) 223 [(0, vR Γ 0), (1, vI x28), (2, vI x29), (3, vI x30)] [] γ (x223 γ x28 x29 x30)) : ∀ (n : Nat) (γ : St) (x21 : Int) (x22 : Int) (x23 : Int) (x24 : Int), i32 x21 → i32 x22 → i32 x23 → i32 x24 → SB Γ BM mt_M_judge (RmT 8 289) 0 0 (KT Γ BM mt_M_judge.2.2.2) 205 [(0, vR Γ 0), (1, vI x21), (2, vI x22), (3, vI x23), (5, vI x24)] [] γ (f_M_judge_L205 x223 n γ x21 x22 x23 x24) := by
  intro n
  induction n with
  | zero => intros; exact sb_none
  | succ n ih =>
    intro γ x21 x22 x23 x24 hx21 hx22 hx23 hx24
    unfold f_M_judge_L205
    refine sb_iload 4 d_M_judge_205 rfl ?_
    refine sb_iload_n 2 d_M_judge_207 rfl ?_
    refine sb_icmp_gt 223 hx24 hx22 d_M_judge_208 (by decide) (fun _ => ?_) (fun _ => ?_)
    · exact sb_lv [0, 1, 2, 3] rfl (hx223 γ x21 x22 x23 hx21 hx22 hx23)
    · refine sb_aload_n 0 d_M_judge_211 rfl ?_
      refine sb_iload 4 d_M_judge_212 rfl ?_
      refine sb_cTv vf_M_lookAtClock (c_M_lookAtClock γ x24 hx24) rfl ml_M_461 (As := [vI x24]) rfl rfl (Nat.le_of_ble_eq_true rfl) ⟨by decide, by decide⟩ d_M_judge_214 (fun _ γ26 => ?_)
      refine sb_iinc 4 [(5, vI (x24 + 1)), (0, vR Γ 0), (1, vI x21), (2, vI x22), (3, vI x23)] d_M_judge_217 rfl (by decide) rfl ?_
      refine sb_chk (fun c27 => ?_)
      refine sb_goto 205 d_M_judge_220 (by decide) ?_
      exact sb_lv [1, 2, 3, 4, 0] rfl (ih γ26 x21 x22 x23 (x24 + 1) hx21 hx22 hx23 c27)
set_option maxHeartbeats 4000000 in
theorem s_M_judge_b197 {Γ : Ctx} : ∀ (γ : St) (x31 : Int) (x32 : Int) (x33 : Int), i32 x31 → i32 x32 → i32 x33 → SB Γ BM mt_M_judge (RmT 8 289) 0 0 (KT Γ BM mt_M_judge.2.2.2) 197 [(0, vR Γ 0), (1, vI x31), (2, vI x32), (3, vI x33)] [] γ (f_M_judge_b197 γ x31 x32 x33) := by
  intro γ x31 x32 x33 hx31 hx32 hx33
  unfold f_M_judge_b197
  refine sb_aload_n 0 d_M_judge_197 rfl ?_
  refine g_M_103 d_M_judge_198 ?_
  refine sb_iload_n 1 d_M_judge_201 rfl ?_
  refine al_M_19 d_M_judge_202 (fun _ c35 => ?_)
  refine sb_istore [(5, vI (γ 19 x31)), (0, vR Γ 0), (1, vI x31), (2, vI x32), (3, vI x33)] d_M_judge_203 (by decide) rfl ?_
  refine sb_nme (e := γ 19 x31) (fun x36 => [(5, vI x36), (0, vR Γ 0), (1, vI x31), (2, vI x32), (3, vI x33)]) c35 (fun x36 hx36 => ?_)
  exact sb_lv [1, 2, 3, 4, 0] rfl (s_M_judge_L205 (s_M_judge_b223) FU γ x31 x32 x33 x36 hx31 hx32 hx33 hx36)
set_option maxHeartbeats 4000000 in
theorem s_M_judge_b188 {Γ : Ctx} {k99 : St → Int → Int → Int → Int → Int → Option Res} {x197 : St → Int → Int → Int → Option Res} (hk99 : ∀ (γ : St) (x46 : Int) (x47 : Int) (x48 : Int) (x49 : Int) (x50 : Int), i32 x46 → i32 x47 → i32 x48 → i32 x49 → i32 x50 → SB Γ BM mt_M_judge (RmT 8 289) 0 0 (KT Γ BM mt_M_judge.2.2.2) 99 [(0, vR Γ 0), (1, vI x46), (2, vI x47), (3, vI x48), (4, vI x49), (5, vI x50)] [] γ (k99 γ x46 x47 x48 x49 x50)) (hx197 : ∀ (γ : St) (x51 : Int) (x52 : Int) (x53 : Int), i32 x51 → i32 x52 → i32 x53 → SB Γ BM mt_M_judge (RmT 8 289) 0 0 (KT Γ BM mt_M_judge.2.2.2) 197 [(0, vR Γ 0), (1, vI x51), (2, vI x52), (3, vI x53)] [] γ (x197 γ x51 x52 x53)) : ∀ (γ : St) (x37 : Int) (x38 : Int) (x39 : Int) (x40 : Int) (x41 : Int) (x42 : Int), i32 x37 → i32 x38 → i32 x39 → i32 x40 → i32 x41 → i32 x42 → SB Γ BM mt_M_judge (RmT 8 289) 0 0 (KT Γ BM mt_M_judge.2.2.2) 188 [(0, vR Γ 0), (1, vI x37), (2, vI x38), (3, vI x39), (4, vI x40), (5, vI x41)] [vI x42, vR Γ 0] γ (f_M_judge_b188 k99 x197 γ x37 x38 x39 x40 x41 x42) := by
  intro γ x37 x38 x39 x40 x41 x42 hx37 hx38 hx39 hx40 hx41 hx42
  unfold f_M_judge_b188
  refine sb_cTv vf_M_type (c_M_type γ x42 hx42) rfl ml_M_458 (As := [vI x42]) rfl rfl (Nat.le_of_ble_eq_true rfl) ⟨by decide, by decide⟩ d_M_judge_188 (fun _ γ44 => ?_)
  refine sb_iinc 5 [(5, vI (x41 + 1)), (0, vR Γ 0), (1, vI x37), (2, vI x38), (3, vI x39), (4, vI x40)] d_M_judge_191 rfl (by decide) rfl ?_
  refine sb_chk (fun c45 => ?_)
  refine sb_goto 99 d_M_judge_194 (by decide) ?_
  exact sb_lv [1, 2, 3, 4, 5, 0] rfl (hk99 γ44 x37 x38 x39 x40 (x41 + 1) hx37 hx38 hx39 hx40 c45)
set_option maxHeartbeats 4000000 in
theorem s_M_judge_b180 {Γ : Ctx} {k99 : St → Int → Int → Int → Int → Int → Option Res} {x197 : St → Int → Int → Int → Option Res} (hk99 : ∀ (γ : St) (x61 : Int) (x62 : Int) (x63 : Int) (x64 : Int) (x65 : Int), i32 x61 → i32 x62 → i32 x63 → i32 x64 → i32 x65 → SB Γ BM mt_M_judge (RmT 8 289) 0 0 (KT Γ BM mt_M_judge.2.2.2) 99 [(0, vR Γ 0), (1, vI x61), (2, vI x62), (3, vI x63), (4, vI x64), (5, vI x65)] [] γ (k99 γ x61 x62 x63 x64 x65)) (hx197 : ∀ (γ : St) (x66 : Int) (x67 : Int) (x68 : Int), i32 x66 → i32 x67 → i32 x68 → SB Γ BM mt_M_judge (RmT 8 289) 0 0 (KT Γ BM mt_M_judge.2.2.2) 197 [(0, vR Γ 0), (1, vI x66), (2, vI x67), (3, vI x68)] [] γ (x197 γ x66 x67 x68)) : ∀ (γ : St) (x54 : Int) (x55 : Int) (x56 : Int) (x57 : Int) (x58 : Int) (x59 : Int) (x60 : Int), i32 x54 → i32 x55 → i32 x56 → i32 x57 → i32 x58 → i32 x59 → i32 x60 → SB Γ BM mt_M_judge (RmT 8 289) 0 0 (KT Γ BM mt_M_judge.2.2.2) 180 [(0, vR Γ 0), (1, vI x54), (2, vI x55), (3, vI x56), (4, vI x57), (5, vI x58)] [vI x59, vI x60, vR Γ 0] γ (f_M_judge_b180 k99 x197 γ x54 x55 x56 x57 x58 x59 x60) := by
  intro γ x54 x55 x56 x57 x58 x59 x60 hx54 hx55 hx56 hx57 hx58 hx59 hx60
  unfold f_M_judge_b180
  refine sb_icmp_ne 187 hx60 hx59 d_M_judge_180 (by decide) (fun _ => ?_) (fun _ => ?_)
  · refine sb_iconst d_M_judge_187 ?_
    exact sb_lv [0, 1, 2, 3, 4, 5] rfl (s_M_judge_b188 hk99 hx197 γ x54 x55 x56 x57 x58 0 hx54 hx55 hx56 hx57 hx58 (by decide))
  · refine sb_iconst d_M_judge_183 ?_
    refine sb_goto 188 d_M_judge_184 (by decide) ?_
    exact sb_lv [0, 1, 2, 3, 4, 5] rfl (s_M_judge_b188 hk99 hx197 γ x54 x55 x56 x57 x58 1 hx54 hx55 hx56 hx57 hx58 (by decide))
set_option maxHeartbeats 4000000 in
theorem s_M_judge_L99 {Γ : Ctx} {x197 : St → Int → Int → Int → Option Res} (hx197 : ∀ (γ : St) (x99 : Int) (x100 : Int) (x101 : Int), i32 x99 → i32 x100 → i32 x101 → SB Γ BM mt_M_judge (RmT 8 289) 0 0 (KT Γ BM mt_M_judge.2.2.2) 197 [(0, vR Γ 0), (1, vI x99), (2, vI x100), (3, vI x101)] [] γ (x197 γ x99 x100 x101)) : ∀ (n : Nat) (γ : St) (x69 : Int) (x70 : Int) (x71 : Int) (x72 : Int) (x73 : Int), i32 x69 → i32 x70 → i32 x71 → i32 x72 → i32 x73 → SB Γ BM mt_M_judge (RmT 8 289) 0 0 (KT Γ BM mt_M_judge.2.2.2) 99 [(0, vR Γ 0), (1, vI x69), (2, vI x70), (3, vI x71), (4, vI x72), (5, vI x73)] [] γ (f_M_judge_L99 x197 n γ x69 x70 x71 x72 x73) := by
  intro n
  induction n with
  | zero => intros; exact sb_none
  | succ n ih =>
    intro γ x69 x70 x71 x72 x73 hx69 hx70 hx71 hx72 hx73
    unfold f_M_judge_L99
    refine sb_iload 5 d_M_judge_99 rfl ?_
    refine sb_iload_n 3 d_M_judge_101 rfl ?_
    refine sb_icmp_ge 197 hx73 hx71 d_M_judge_102 (by decide) (fun _ => ?_) (fun _ => ?_)
    · exact sb_lv [0, 1, 2, 3] rfl (hx197 γ x69 x70 x71 hx69 hx70 hx71)
    · refine sb_aload_n 0 d_M_judge_105 rfl ?_
      refine sb_aload_n 0 d_M_judge_106 rfl ?_
      refine g_M_86 d_M_judge_107 ?_
      refine sb_aload_n 0 d_M_judge_110 rfl ?_
      refine g_M_50 d_M_judge_111 ?_
      refine sb_aload_n 0 d_M_judge_114 rfl ?_
      refine g_M_68 d_M_judge_115 (fun c76 => ?_)
      refine al_M_4 d_M_judge_118 (fun _ c77 => ?_)
      refine sb_aload_n 0 d_M_judge_119 rfl ?_
      refine g_M_100 d_M_judge_120 ?_
      refine sb_aload_n 0 d_M_judge_123 rfl ?_
      refine g_M_93 d_M_judge_124 ?_
      refine sb_iload_n 1 d_M_judge_127 rfl ?_
      refine al_M_16 d_M_judge_128 (fun _ c80 => ?_)
      refine sb_iload 5 d_M_judge_129 rfl ?_
      refine sb_iadd d_M_judge_131 ?_
      refine sb_chk (fun c81 => ?_)
      refine al_M_18 d_M_judge_132 (fun _ c82 => ?_)
      refine sb_iadd d_M_judge_133 ?_
      refine sb_chk (fun c83 => ?_)
      refine al_M_14 d_M_judge_134 (fun _ c84 => ?_)
      refine sb_iload 4 d_M_judge_135 rfl ?_
      refine sb_if_eq 174 hx72 d_M_judge_137 (by decide) (fun _ => ?_) (fun _ => ?_)
      · refine sb_aload_n 0 d_M_judge_174 rfl ?_
        refine g_M_139 d_M_judge_175 ?_
        refine sb_iload_n 2 d_M_judge_178 rfl ?_
        refine al_M_28 d_M_judge_179 (fun _ c86 => ?_)
        exact sb_lv [0, 1, 2, 3, 4, 5] rfl (s_M_judge_b180 ih hx197 γ x69 x70 x71 x72 x73 (γ 28 x70) (γ 14 ((γ 4 (γ 0 18)) + (γ 18 ((γ 16 x69) + x73)))) hx69 hx70 hx71 hx72 hx73 c86 c84)
      · refine sb_aload_n 0 d_M_judge_140 rfl ?_
        refine g_M_86 d_M_judge_141 ?_
        refine sb_aload_n 0 d_M_judge_144 rfl ?_
        refine g_M_50 d_M_judge_145 ?_
        refine sb_aload_n 0 d_M_judge_148 rfl ?_
        refine g_M_115 d_M_judge_149 ?_
        refine sb_iload_n 2 d_M_judge_152 rfl ?_
        refine al_M_21 d_M_judge_153 (fun _ c90 => ?_)
        refine al_M_4 d_M_judge_154 (fun _ c91 => ?_)
        refine sb_aload_n 0 d_M_judge_155 rfl ?_
        refine g_M_53 d_M_judge_156 ?_
        refine sb_aload_n 0 d_M_judge_159 rfl ?_
        refine g_M_115 d_M_judge_160 ?_
        refine sb_iload_n 2 d_M_judge_163 rfl ?_
        refine al_M_21 d_M_judge_164 (fun _ c94 => ?_)
        refine al_M_5 d_M_judge_165 (fun _ c95 => ?_)
        refine sb_iadd d_M_judge_166 ?_
        refine sb_chk (fun c96 => ?_)
        refine sb_iload 5 d_M_judge_167 rfl ?_
        refine sb_iadd d_M_judge_169 ?_
        refine sb_chk (fun c97 => ?_)
        refine al_M_14 d_M_judge_170 (fun _ c98 => ?_)
        refine sb_goto 180 d_M_judge_171 (by decide) ?_
        exact sb_lv [0, 1, 2, 3, 4, 5] rfl (s_M_judge_b180 ih hx197 γ x69 x70 x71 x72 x73 (γ 14 (((γ 4 (γ 21 x70)) + (γ 5 (γ 21 x70))) + x73)) (γ 14 ((γ 4 (γ 0 18)) + (γ 18 ((γ 16 x69) + x73)))) hx69 hx70 hx71 hx72 hx73 c98 c84)
set_option maxHeartbeats 4000000 in
theorem s_M_judge_b96 {Γ : Ctx} : ∀ (γ : St) (x102 : Int) (x103 : Int) (x104 : Int) (x105 : Int), i32 x102 → i32 x103 → i32 x104 → i32 x105 → SB Γ BM mt_M_judge (RmT 8 289) 0 0 (KT Γ BM mt_M_judge.2.2.2) 96 [(0, vR Γ 0), (1, vI x102), (2, vI x103), (3, vI x104), (4, vI x105)] [] γ (f_M_judge_b96 γ x102 x103 x104 x105) := by
  intro γ x102 x103 x104 x105 hx102 hx103 hx104 hx105
  unfold f_M_judge_b96
  refine sb_iconst d_M_judge_96 ?_
  refine sb_istore [(5, vI 0), (0, vR Γ 0), (1, vI x102), (2, vI x103), (3, vI x104), (4, vI x105)] d_M_judge_97 (by decide) rfl ?_
  exact sb_lv [1, 2, 3, 4, 5, 0] rfl (s_M_judge_L99 (s_M_judge_b197) FU γ x102 x103 x104 x105 0 hx102 hx103 hx104 hx105 (by decide))
set_option maxHeartbeats 4000000 in
theorem s_M_judge_b87 {Γ : Ctx} {k62 : St → Int → Int → Int → Int → Int → Option Res} {x96 : St → Int → Int → Int → Int → Option Res} (hk62 : ∀ (γ : St) (x116 : Int) (x117 : Int) (x118 : Int) (x119 : Int) (x120 : Int), i32 x116 → i32 x117 → i32 x118 → i32 x119 → i32 x120 → SB Γ BM mt_M_judge (RmT 8 289) 0 0 (KT Γ BM mt_M_judge.2.2.2) 62 [(0, vR Γ 0), (1, vI x116), (2, vI x117), (3, vI x118), (4, vI x119), (5, vI x120)] [] γ (k62 γ x116 x117 x118 x119 x120)) (hx96 : ∀ (γ : St) (x121 : Int) (x122 : Int) (x123 : Int) (x124 : Int), i32 x121 → i32 x122 → i32 x123 → i32 x124 → SB Γ BM mt_M_judge (RmT 8 289) 0 0 (KT Γ BM mt_M_judge.2.2.2) 96 [(0, vR Γ 0), (1, vI x121), (2, vI x122), (3, vI x123), (4, vI x124)] [] γ (x96 γ x121 x122 x123 x124)) : ∀ (γ : St) (x106 : Int) (x107 : Int) (x108 : Int) (x109 : Int) (x110 : Int) (x111 : Int) (x112 : Int), i32 x106 → i32 x107 → i32 x108 → i32 x109 → i32 x110 → i32 x111 → i32 x112 → SB Γ BM mt_M_judge (RmT 8 289) 0 0 (KT Γ BM mt_M_judge.2.2.2) 87 [(0, vR Γ 0), (1, vI x106), (2, vI x107), (3, vI x108), (4, vI x109), (5, vI x110)] [vI x111, vI x112, vR Γ 0] γ (f_M_judge_b87 k62 x96 γ x106 x107 x108 x109 x110 x111 x112) := by
  intro γ x106 x107 x108 x109 x110 x111 x112 hx106 hx107 hx108 hx109 hx110 hx111 hx112
  unfold f_M_judge_b87
  refine sb_cTv vf_M_look (c_M_look γ x112 x111 hx112 hx111) rfl ml_M_455 (As := [vI x112, vI x111]) rfl rfl (Nat.le_of_ble_eq_true rfl) ⟨by decide, by decide⟩ d_M_judge_87 (fun _ γ114 => ?_)
  refine sb_iinc 5 [(5, vI (x110 + 1)), (0, vR Γ 0), (1, vI x106), (2, vI x107), (3, vI x108), (4, vI x109)] d_M_judge_90 rfl (by decide) rfl ?_
  refine sb_chk (fun c115 => ?_)
  refine sb_goto 62 d_M_judge_93 (by decide) ?_
  exact sb_lv [1, 2, 3, 4, 5, 0] rfl (hk62 γ114 x106 x107 x108 x109 (x110 + 1) hx106 hx107 hx108 hx109 c115)
set_option maxHeartbeats 4000000 in
theorem s_M_judge_b86 {Γ : Ctx} {k62 : St → Int → Int → Int → Int → Int → Option Res} {x96 : St → Int → Int → Int → Int → Option Res} (hk62 : ∀ (γ : St) (x131 : Int) (x132 : Int) (x133 : Int) (x134 : Int) (x135 : Int), i32 x131 → i32 x132 → i32 x133 → i32 x134 → i32 x135 → SB Γ BM mt_M_judge (RmT 8 289) 0 0 (KT Γ BM mt_M_judge.2.2.2) 62 [(0, vR Γ 0), (1, vI x131), (2, vI x132), (3, vI x133), (4, vI x134), (5, vI x135)] [] γ (k62 γ x131 x132 x133 x134 x135)) (hx96 : ∀ (γ : St) (x136 : Int) (x137 : Int) (x138 : Int) (x139 : Int), i32 x136 → i32 x137 → i32 x138 → i32 x139 → SB Γ BM mt_M_judge (RmT 8 289) 0 0 (KT Γ BM mt_M_judge.2.2.2) 96 [(0, vR Γ 0), (1, vI x136), (2, vI x137), (3, vI x138), (4, vI x139)] [] γ (x96 γ x136 x137 x138 x139)) : ∀ (γ : St) (x125 : Int) (x126 : Int) (x127 : Int) (x128 : Int) (x129 : Int) (x130 : Int), i32 x125 → i32 x126 → i32 x127 → i32 x128 → i32 x129 → i32 x130 → SB Γ BM mt_M_judge (RmT 8 289) 0 0 (KT Γ BM mt_M_judge.2.2.2) 86 [(0, vR Γ 0), (1, vI x125), (2, vI x126), (3, vI x127), (4, vI x128), (5, vI x129)] [vI x130, vR Γ 0] γ (f_M_judge_b86 k62 x96 γ x125 x126 x127 x128 x129 x130) := by
  intro γ x125 x126 x127 x128 x129 x130 hx125 hx126 hx127 hx128 hx129 hx130
  unfold f_M_judge_b86
  refine sb_iconst d_M_judge_86 ?_
  exact sb_lv [0, 1, 2, 3, 4, 5] rfl (s_M_judge_b87 hk62 hx96 γ x125 x126 x127 x128 x129 1 x130 hx125 hx126 hx127 hx128 hx129 (by decide) hx130)
set_option maxHeartbeats 4000000 in
theorem s_M_judge_L62 {Γ : Ctx} {x96 : St → Int → Int → Int → Int → Option Res} (hx96 : ∀ (γ : St) (x145 : Int) (x146 : Int) (x147 : Int) (x148 : Int), i32 x145 → i32 x146 → i32 x147 → i32 x148 → SB Γ BM mt_M_judge (RmT 8 289) 0 0 (KT Γ BM mt_M_judge.2.2.2) 96 [(0, vR Γ 0), (1, vI x145), (2, vI x146), (3, vI x147), (4, vI x148)] [] γ (x96 γ x145 x146 x147 x148)) : ∀ (n : Nat) (γ : St) (x140 : Int) (x141 : Int) (x142 : Int) (x143 : Int) (x144 : Int), i32 x140 → i32 x141 → i32 x142 → i32 x143 → i32 x144 → SB Γ BM mt_M_judge (RmT 8 289) 0 0 (KT Γ BM mt_M_judge.2.2.2) 62 [(0, vR Γ 0), (1, vI x140), (2, vI x141), (3, vI x142), (4, vI x143), (5, vI x144)] [] γ (f_M_judge_L62 x96 n γ x140 x141 x142 x143 x144) := by
  intro n
  induction n with
  | zero => intros; exact sb_none
  | succ n ih =>
    intro γ x140 x141 x142 x143 x144 hx140 hx141 hx142 hx143 hx144
    unfold f_M_judge_L62
    refine sb_iload 5 d_M_judge_62 rfl ?_
    refine sb_iload_n 2 d_M_judge_64 rfl ?_
    refine sb_icmp_gt 96 hx144 hx141 d_M_judge_65 (by decide) (fun _ => ?_) (fun _ => ?_)
    · exact sb_lv [0, 1, 2, 3, 4] rfl (hx96 γ x140 x141 x142 x143 hx140 hx141 hx142 hx143)
    · refine sb_aload_n 0 d_M_judge_68 rfl ?_
      refine sb_iload 5 d_M_judge_69 rfl ?_
      refine sb_iload 5 d_M_judge_71 rfl ?_
      refine sb_iload_n 2 d_M_judge_73 rfl ?_
      refine sb_icmp_ne 86 hx144 hx141 d_M_judge_74 (by decide) (fun _ => ?_) (fun _ => ?_)
      · exact sb_lv [0, 1, 2, 3, 4, 5] rfl (s_M_judge_b86 ih hx96 γ x140 x141 x142 x143 x144 x144 hx140 hx141 hx142 hx143 hx144 hx144)
      · refine sb_iload 4 d_M_judge_77 rfl ?_
        refine sb_if_eq 86 hx143 d_M_judge_79 (by decide) (fun _ => ?_) (fun _ => ?_)
        · exact sb_lv [0, 1, 2, 3, 4, 5] rfl (s_M_judge_b86 ih hx96 γ x140 x141 x142 x143 x144 x144 hx140 hx141 hx142 hx143 hx144 hx144)
        · refine sb_iload_n 3 d_M_judge_82 rfl ?_
          refine sb_goto 87 d_M_judge_83 (by decide) ?_
          exact sb_lv [0, 1, 2, 3, 4, 5] rfl (s_M_judge_b87 ih hx96 γ x140 x141 x142 x143 x144 x142 x144 hx140 hx141 hx142 hx143 hx144 hx142 hx144)
set_option maxHeartbeats 4000000 in
theorem s_M_judge_b52 {Γ : Ctx} : ∀ (γ : St) (x149 : Int) (x150 : Int) (x151 : Int) (x152 : Int), i32 x149 → i32 x150 → i32 x151 → i32 x152 → SB Γ BM mt_M_judge (RmT 8 289) 0 0 (KT Γ BM mt_M_judge.2.2.2) 52 [(0, vR Γ 0), (1, vI x149), (2, vI x150), (3, vI x151)] [vI x152] γ (f_M_judge_b52 γ x149 x150 x151 x152) := by
  intro γ x149 x150 x151 x152 hx149 hx150 hx151 hx152
  unfold f_M_judge_b52
  refine sb_istore [(4, vI x152), (0, vR Γ 0), (1, vI x149), (2, vI x150), (3, vI x151)] d_M_judge_52 (by decide) rfl ?_
  refine sb_aload_n 1 d_M_judge_54 rfl ?_
  refine g_M_103 d_M_judge_55 ?_
  refine sb_iload_n 2 d_M_judge_58 rfl ?_
  refine al_M_19 d_M_judge_59 (fun _ c154 => ?_)
  refine sb_istore [(5, vI (γ 19 x149)), (4, vI x152), (0, vR Γ 0), (1, vI x149), (2, vI x150), (3, vI x151)] d_M_judge_60 (by decide) rfl ?_
  refine sb_nme (e := γ 19 x149) (fun x155 => [(5, vI x155), (4, vI x152), (0, vR Γ 0), (1, vI x149), (2, vI x150), (3, vI x151)]) c154 (fun x155 hx155 => ?_)
  exact sb_lv [2, 3, 4, 5, 1, 0] rfl (s_M_judge_L62 (s_M_judge_b96) FU γ x149 x150 x151 x152 x155 hx149 hx150 hx151 hx152 hx155)
set_option maxHeartbeats 4000000 in
theorem c_M_judge {Γ : Ctx} (γ : St) (a0 : Int) (ha0 : i32 a0) : TC Γ BM y_M_judge mt_M_judge 8 289 [vR Γ 0, vI a0] γ (f_M_judge γ a0) := by
  refine tc_of (by decide) rfl (Nat.le_of_ble_eq_true rfl) ?_
  show SB Γ BM mt_M_judge (RmT 8 289) 0 0 (KT Γ BM mt_M_judge.2.2.2) 0 [(0, vR Γ 0), (1, vI a0)] [] γ _
  unfold f_M_judge
  refine sb_aload_n 0 d_M_judge_0 rfl ?_
  refine sb_aload_n 0 d_M_judge_1 rfl ?_
  refine g_M_90 d_M_judge_2 ?_
  refine sb_iload_n 1 d_M_judge_5 rfl ?_
  refine al_M_15 d_M_judge_6 (fun _ c157 => ?_)
  refine p_M_142 c157 d_M_judge_7 ?_
  refine sb_aps (fun γ158 => ?_)
  refine sb_aload_n 0 d_M_judge_10 rfl ?_
  refine g_M_96 d_M_judge_11 ?_
  refine sb_iload_n 1 d_M_judge_14 rfl ?_
  refine al_M_17 d_M_judge_15 (fun _ c160 => ?_)
  refine sb_istore_n [(2, vI (γ158 17 a0)), (0, vR Γ 0), (1, vI a0)] d_M_judge_16 (by decide) rfl ?_
  refine sb_nme (e := γ158 17 a0) (fun x161 => [(2, vI x161), (0, vR Γ 0), (1, vI a0)]) c160 (fun x161 hx161 => ?_)
  refine sb_aload_n 1 d_M_judge_17 rfl ?_
  refine g_M_93 d_M_judge_18 ?_
  refine sb_iload_n 2 d_M_judge_21 rfl ?_
  refine sb_iconst d_M_judge_22 ?_
  refine sb_iadd d_M_judge_23 ?_
  refine sb_chk (fun c163 => ?_)
  refine al_M_16 d_M_judge_24 (fun _ c164 => ?_)
  refine sb_aload_n 1 d_M_judge_25 rfl ?_
  refine g_M_93 d_M_judge_26 ?_
  refine sb_iload_n 2 d_M_judge_29 rfl ?_
  refine al_M_16 d_M_judge_30 (fun _ c166 => ?_)
  refine sb_isub d_M_judge_31 ?_
  refine sb_chk (fun c167 => ?_)
  refine sb_istore_n [(3, vI ((γ158 16 (a0 + 1)) - (γ158 16 a0))), (2, vI x161), (0, vR Γ 0), (1, vI a0)] d_M_judge_32 (by decide) rfl ?_
  refine sb_nme (e := (γ158 16 (a0 + 1)) - (γ158 16 a0)) (fun x168 => [(3, vI x168), (2, vI x161), (0, vR Γ 0), (1, vI a0)]) c167 (fun x168 hx168 => ?_)
  refine sb_aload_n 2 d_M_judge_33 rfl ?_
  refine g_M_8 d_M_judge_34 ?_
  refine sb_aload_n 2 d_M_judge_37 rfl ?_
  refine g_M_142 d_M_judge_38 (fun c170 => ?_)
  refine al_M_1 d_M_judge_41 (fun _ c171 => ?_)
  refine sb_bipush d_M_judge_42 (by decide) ?_
  refine sb_icmp_ne 51 c171 (by decide) d_M_judge_44 (by decide) (fun _ => ?_) (fun _ => ?_)
  · refine sb_iconst d_M_judge_51 ?_
    exact sb_lv [2, 3, 1, 0] rfl (s_M_judge_b52 γ158 a0 x161 x168 0 ha0 hx161 hx168 (by decide))
  · refine sb_iconst d_M_judge_47 ?_
    refine sb_goto 52 d_M_judge_48 (by decide) ?_
    exact sb_lv [2, 3, 1, 0] rfl (s_M_judge_b52 γ158 a0 x161 x168 1 ha0 hx161 hx168 (by decide))
theorem d_M_node_0 : decode b_M_node 0 = .ok (.aload_n 0, 1) := by decide +kernel
theorem d_M_node_1 : decode b_M_node 1 = .ok (.ldc_w 321, 3) := by decide +kernel
theorem d_M_node_4 : decode b_M_node 4 = .ok (.invokevirtual 317, 3) := by decide +kernel
theorem d_M_node_7 : decode b_M_node 7 = .ok (.ifCond .eq 25, 3) := by decide +kernel
theorem d_M_node_10 : decode b_M_node 10 = .ok (.aload_n 0, 1) := by decide +kernel
theorem d_M_node_11 : decode b_M_node 11 = .ok (.getfield 68, 3) := by decide +kernel
theorem d_M_node_14 : decode b_M_node 14 = .ok (.bipush 59, 2) := by decide +kernel
theorem d_M_node_16 : decode b_M_node 16 = .ok (.if_icmp .ne 16, 3) := by decide +kernel
theorem d_M_node_19 : decode b_M_node 19 = .ok (.new 296, 3) := by decide +kernel
theorem d_M_node_22 : decode b_M_node 22 = .ok (.dup, 1) := by decide +kernel
theorem d_M_node_23 : decode b_M_node 23 = .ok (.iconst 3, 1) := by decide +kernel
theorem d_M_node_24 : decode b_M_node 24 = .ok (.aload_n 0, 1) := by decide +kernel
theorem d_M_node_25 : decode b_M_node 25 = .ok (.getfield 33, 3) := by decide +kernel
theorem d_M_node_28 : decode b_M_node 28 = .ok (.invokespecial 298, 3) := by decide +kernel
theorem d_M_node_31 : decode b_M_node 31 = .ok (.athrow, 1) := by decide +kernel
theorem d_M_node_32 : decode b_M_node 32 = .ok (.aload_n 0, 1) := by decide +kernel
theorem d_M_node_33 : decode b_M_node 33 = .ok (.ldc_w 321, 3) := by decide +kernel
theorem d_M_node_36 : decode b_M_node 36 = .ok (.invokevirtual 390, 3) := by decide +kernel
theorem d_M_node_39 : decode b_M_node 39 = .ok (.aload_n 0, 1) := by decide +kernel
theorem d_M_node_40 : decode b_M_node 40 = .ok (.invokevirtual 373, 3) := by decide +kernel
theorem d_M_node_43 : decode b_M_node 43 = .ok (.ifCond .ne 8, 3) := by decide +kernel
theorem d_M_node_46 : decode b_M_node 46 = .ok (.aload_n 0, 1) := by decide +kernel
theorem d_M_node_47 : decode b_M_node 47 = .ok (.invokevirtual 301, 3) := by decide +kernel
theorem d_M_node_50 : decode b_M_node 50 = .ok (.athrow, 1) := by decide +kernel
theorem d_M_node_51 : decode b_M_node 51 = .ok (.aload_n 0, 1) := by decide +kernel
theorem d_M_node_52 : decode b_M_node 52 = .ok (.invokevirtual 394, 3) := by decide +kernel
theorem d_M_node_55 : decode b_M_node 55 = .ok (.ifCond .lt 16, 3) := by decide +kernel
theorem d_M_node_58 : decode b_M_node 58 = .ok (.new 296, 3) := by decide +kernel
theorem d_M_node_61 : decode b_M_node 61 = .ok (.dup, 1) := by decide +kernel
theorem d_M_node_62 : decode b_M_node 62 = .ok (.iconst 2, 1) := by decide +kernel
theorem d_M_node_63 : decode b_M_node 63 = .ok (.aload_n 0, 1) := by decide +kernel
theorem d_M_node_64 : decode b_M_node 64 = .ok (.getfield 33, 3) := by decide +kernel
theorem d_M_node_67 : decode b_M_node 67 = .ok (.invokespecial 298, 3) := by decide +kernel
theorem d_M_node_70 : decode b_M_node 70 = .ok (.athrow, 1) := by decide +kernel
theorem d_M_node_71 : decode b_M_node 71 = .ok (.aload_n 0, 1) := by decide +kernel
theorem d_M_node_72 : decode b_M_node 72 = .ok (.getfield 43, 3) := by decide +kernel
theorem d_M_node_75 : decode b_M_node 75 = .ok (.aload_n 0, 1) := by decide +kernel
theorem d_M_node_76 : decode b_M_node 76 = .ok (.getfield 68, 3) := by decide +kernel
theorem d_M_node_79 : decode b_M_node 79 = .ok (.aload_n 0, 1) := by decide +kernel
theorem d_M_node_80 : decode b_M_node 80 = .ok (.getfield 33, 3) := by decide +kernel
theorem d_M_node_83 : decode b_M_node 83 = .ok (.iastore, 1) := by decide +kernel
theorem d_M_node_84 : decode b_M_node 84 = .ok (.aload_n 0, 1) := by decide +kernel
theorem d_M_node_85 : decode b_M_node 85 = .ok (.getfield 47, 3) := by decide +kernel
theorem d_M_node_88 : decode b_M_node 88 = .ok (.aload_n 0, 1) := by decide +kernel
theorem d_M_node_89 : decode b_M_node 89 = .ok (.getfield 68, 3) := by decide +kernel
theorem d_M_node_92 : decode b_M_node 92 = .ok (.aload_n 0, 1) := by decide +kernel
theorem d_M_node_93 : decode b_M_node 93 = .ok (.getfield 36, 3) := by decide +kernel
theorem d_M_node_96 : decode b_M_node 96 = .ok (.aload_n 0, 1) := by decide +kernel
theorem d_M_node_97 : decode b_M_node 97 = .ok (.getfield 33, 3) := by decide +kernel
theorem d_M_node_100 : decode b_M_node 100 = .ok (.isub, 1) := by decide +kernel
theorem d_M_node_101 : decode b_M_node 101 = .ok (.iastore, 1) := by decide +kernel
theorem d_M_node_102 : decode b_M_node 102 = .ok (.aload_n 0, 1) := by decide +kernel
theorem d_M_node_103 : decode b_M_node 103 = .ok (.invokevirtual 305, 3) := by decide +kernel
theorem d_M_node_106 : decode b_M_node 106 = .ok (.aload_n 0, 1) := by decide +kernel
theorem d_M_node_107 : decode b_M_node 107 = .ok (.getfield 50, 3) := by decide +kernel
theorem d_M_node_110 : decode b_M_node 110 = .ok (.aload_n 0, 1) := by decide +kernel
theorem d_M_node_111 : decode b_M_node 111 = .ok (.getfield 68, 3) := by decide +kernel
theorem d_M_node_114 : decode b_M_node 114 = .ok (.aload_n 0, 1) := by decide +kernel
theorem d_M_node_115 : decode b_M_node 115 = .ok (.getfield 71, 3) := by decide +kernel
theorem d_M_node_118 : decode b_M_node 118 = .ok (.iastore, 1) := by decide +kernel
theorem d_M_node_119 : decode b_M_node 119 = .ok (.aload_n 0, 1) := by decide +kernel
theorem d_M_node_120 : decode b_M_node 120 = .ok (.invokevirtual 397, 3) := by decide +kernel
theorem d_M_node_123 : decode b_M_node 123 = .ok (.aload_n 0, 1) := by decide +kernel
theorem d_M_node_124 : decode b_M_node 124 = .ok (.getfield 53, 3) := by decide +kernel
theorem d_M_node_127 : decode b_M_node 127 = .ok (.aload_n 0, 1) := by decide +kernel
theorem d_M_node_128 : decode b_M_node 128 = .ok (.getfield 68, 3) := by decide +kernel
theorem d_M_node_131 : decode b_M_node 131 = .ok (.aload_n 0, 1) := by decide +kernel
theorem d_M_node_132 : decode b_M_node 132 = .ok (.getfield 71, 3) := by decide +kernel
theorem d_M_node_135 : decode b_M_node 135 = .ok (.aload_n 0, 1) := by decide +kernel
theorem d_M_node_136 : decode b_M_node 136 = .ok (.getfield 50, 3) := by decide +kernel
theorem d_M_node_139 : decode b_M_node 139 = .ok (.aload_n 0, 1) := by decide +kernel
theorem d_M_node_140 : decode b_M_node 140 = .ok (.getfield 68, 3) := by decide +kernel
theorem d_M_node_143 : decode b_M_node 143 = .ok (.iaload, 1) := by decide +kernel
theorem d_M_node_144 : decode b_M_node 144 = .ok (.isub, 1) := by decide +kernel
theorem d_M_node_145 : decode b_M_node 145 = .ok (.iastore, 1) := by decide +kernel
theorem d_M_node_146 : decode b_M_node 146 = .ok (.aload_n 0, 1) := by decide +kernel
theorem d_M_node_147 : decode b_M_node 147 = .ok (.ldc_w 323, 3) := by decide +kernel
theorem d_M_node_150 : decode b_M_node 150 = .ok (.invokevirtual 390, 3) := by decide +kernel
theorem d_M_node_153 : decode b_M_node 153 = .ok (.aload_n 0, 1) := by decide +kernel
theorem d_M_node_154 : decode b_M_node 154 = .ok (.invokevirtual 397, 3) := by decide +kernel
theorem d_M_node_157 : decode b_M_node 157 = .ok (.aload_n 0, 1) := by decide +kernel
theorem d_M_node_158 : decode b_M_node 158 = .ok (.getfield 56, 3) := by decide +kernel
theorem d_M_node_161 : decode b_M_node 161 = .ok (.aload_n 0, 1) := by decide +kernel
theorem d_M_node_162 : decode b_M_node 162 = .ok (.getfield 68, 3) := by decide +kernel
theorem d_M_node_165 : decode b_M_node 165 = .ok (.aload_n 0, 1) := by decide +kernel
theorem d_M_node_166 : decode b_M_node 166 = .ok (.getfield 71, 3) := by decide +kernel
theorem d_M_node_169 : decode b_M_node 169 = .ok (.aload_n 0, 1) := by decide +kernel
theorem d_M_node_170 : decode b_M_node 170 = .ok (.getfield 50, 3) := by decide +kernel
theorem d_M_node_173 : decode b_M_node 173 = .ok (.aload_n 0, 1) := by decide +kernel
theorem d_M_node_174 : decode b_M_node 174 = .ok (.getfield 68, 3) := by decide +kernel
theorem d_M_node_177 : decode b_M_node 177 = .ok (.iaload, 1) := by decide +kernel
theorem d_M_node_178 : decode b_M_node 178 = .ok (.isub, 1) := by decide +kernel
theorem d_M_node_179 : decode b_M_node 179 = .ok (.aload_n 0, 1) := by decide +kernel
theorem d_M_node_180 : decode b_M_node 180 = .ok (.getfield 53, 3) := by decide +kernel
theorem d_M_node_183 : decode b_M_node 183 = .ok (.aload_n 0, 1) := by decide +kernel
theorem d_M_node_184 : decode b_M_node 184 = .ok (.getfield 68, 3) := by decide +kernel
theorem d_M_node_187 : decode b_M_node 187 = .ok (.iaload, 1) := by decide +kernel
theorem d_M_node_188 : decode b_M_node 188 = .ok (.isub, 1) := by decide +kernel
theorem d_M_node_189 : decode b_M_node 189 = .ok (.iastore, 1) := by decide +kernel
theorem d_M_node_190 : decode b_M_node 190 = .ok (.aload_n 0, 1) := by decide +kernel
theorem d_M_node_191 : decode b_M_node 191 = .ok (.bipush 59, 2) := by decide +kernel
theorem d_M_node_193 : decode b_M_node 193 = .ok (.invokevirtual 379, 3) := by decide +kernel
theorem d_M_node_196 : decode b_M_node 196 = .ok (.aload_n 0, 1) := by decide +kernel
theorem d_M_node_197 : decode b_M_node 197 = .ok (.ldc_w 325, 3) := by decide +kernel
theorem d_M_node_200 : decode b_M_node 200 = .ok (.invokevirtual 317, 3) := by decide +kernel
theorem d_M_node_203 : decode b_M_node 203 = .ok (.ifCond .eq 39, 3) := by decide +kernel
theorem d_M_node_206 : decode b_M_node 206 = .ok (.aload_n 0, 1) := by decide +kernel
theorem d_M_node_207 : decode b_M_node 207 = .ok (.invokevirtual 305, 3) := by decide +kernel
theorem d_M_node_210 : decode b_M_node 210 = .ok (.aload_n 0, 1) := by decide +kernel
theorem d_M_node_211 : decode b_M_node 211 = .ok (.iconst 1, 1) := by decide +kernel
theorem d_M_node_212 : decode b_M_node 212 = .ok (.invokevirtual 386, 3) := by decide +kernel
theorem d_M_node_215 : decode b_M_node 215 = .ok (.aload_n 0, 1) := by decide +kernel
theorem d_M_node_216 : decode b_M_node 216 = .ok (.bipush 59, 2) := by decide +kernel
theorem d_M_node_218 : decode b_M_node 218 = .ok (.invokevirtual 379, 3) := by decide +kernel
theorem d_M_node_221 : decode b_M_node 221 = .ok (.aload_n 0, 1) := by decide +kernel
theorem d_M_node_222 : decode b_M_node 222 = .ok (.invokevirtual 373, 3) := by decide +kernel
theorem d_M_node_225 : decode b_M_node 225 = .ok (.ifCond .eq 17, 3) := by decide +kernel
theorem d_M_node_228 : decode b_M_node 228 = .ok (.aload_n 0, 1) := by decide +kernel
theorem d_M_node_229 : decode b_M_node 229 = .ok (.iconst 1, 1) := by decide +kernel
theorem d_M_node_230 : decode b_M_node 230 = .ok (.invokevirtual 386, 3) := by decide +kernel
theorem d_M_node_233 : decode b_M_node 233 = .ok (.aload_n 0, 1) := by decide +kernel
theorem d_M_node_234 : decode b_M_node 234 = .ok (.bipush 59, 2) := by decide +kernel
theorem d_M_node_236 : decode b_M_node 236 = .ok (.invokevirtual 379, 3) := by decide +kernel
theorem d_M_node_239 : decode b_M_node 239 = .ok (.goto (-18), 3) := by decide +kernel
theorem d_M_node_242 : decode b_M_node 242 = .ok (.aload_n 0, 1) := by decide +kernel
theorem d_M_node_243 : decode b_M_node 243 = .ok (.getfield 50, 3) := by decide +kernel
theorem d_M_node_246 : decode b_M_node 246 = .ok (.aload_n 0, 1) := by decide +kernel
theorem d_M_node_247 : decode b_M_node 247 = .ok (.getfield 68, 3) := by decide +kernel
theorem d_M_node_250 : decode b_M_node 250 = .ok (.iconst 1, 1) := by decide +kernel
theorem d_M_node_251 : decode b_M_node 251 = .ok (.iadd, 1) := by decide +kernel
theorem d_M_node_252 : decode b_M_node 252 = .ok (.aload_n 0, 1) := by decide +kernel
theorem d_M_node_253 : decode b_M_node 253 = .ok (.getfield 71, 3) := by decide +kernel
theorem d_M_node_256 : decode b_M_node 256 = .ok (.iastore, 1) := by decide +kernel
theorem d_M_node_257 : decode b_M_node 257 = .ok (.aload_n 0, 1) := by decide +kernel
theorem d_M_node_258 : decode b_M_node 258 = .ok (.ldc_w 327, 3) := by decide +kernel
theorem d_M_node_261 : decode b_M_node 261 = .ok (.invokevirtual 390, 3) := by decide +kernel
theorem d_M_node_264 : decode b_M_node 264 = .ok (.aload_n 0, 1) := by decide +kernel
theorem d_M_node_265 : decode b_M_node 265 = .ok (.getfield 59, 3) := by decide +kernel
theorem d_M_node_268 : decode b_M_node 268 = .ok (.aload_n 0, 1) := by decide +kernel
theorem d_M_node_269 : decode b_M_node 269 = .ok (.getfield 68, 3) := by decide +kernel
theorem d_M_node_272 : decode b_M_node 272 = .ok (.aload_n 0, 1) := by decide +kernel
theorem d_M_node_273 : decode b_M_node 273 = .ok (.getfield 106, 3) := by decide +kernel
theorem d_M_node_276 : decode b_M_node 276 = .ok (.iastore, 1) := by decide +kernel
theorem d_M_node_277 : decode b_M_node 277 = .ok (.aload_n 0, 1) := by decide +kernel
theorem d_M_node_278 : decode b_M_node 278 = .ok (.getfield 62, 3) := by decide +kernel
theorem d_M_node_281 : decode b_M_node 281 = .ok (.aload_n 0, 1) := by decide +kernel
theorem d_M_node_282 : decode b_M_node 282 = .ok (.getfield 68, 3) := by decide +kernel
theorem d_M_node_285 : decode b_M_node 285 = .ok (.iconst 0, 1) := by decide +kernel
theorem d_M_node_286 : decode b_M_node 286 = .ok (.iastore, 1) := by decide +kernel
theorem d_M_node_287 : decode b_M_node 287 = .ok (.aload_n 0, 1) := by decide +kernel
theorem d_M_node_288 : decode b_M_node 288 = .ok (.getfield 65, 3) := by decide +kernel
theorem d_M_node_291 : decode b_M_node 291 = .ok (.aload_n 0, 1) := by decide +kernel
theorem d_M_node_292 : decode b_M_node 292 = .ok (.getfield 68, 3) := by decide +kernel
theorem d_M_node_295 : decode b_M_node 295 = .ok (.iconst 0, 1) := by decide +kernel
theorem d_M_node_296 : decode b_M_node 296 = .ok (.iastore, 1) := by decide +kernel
theorem d_M_node_297 : decode b_M_node 297 = .ok (.aload_n 0, 1) := by decide +kernel
theorem d_M_node_298 : decode b_M_node 298 = .ok (.invokevirtual 400, 3) := by decide +kernel
theorem d_M_node_301 : decode b_M_node 301 = .ok (.aload_n 0, 1) := by decide +kernel
theorem d_M_node_302 : decode b_M_node 302 = .ok (.ldc_w 329, 3) := by decide +kernel
theorem d_M_node_305 : decode b_M_node 305 = .ok (.invokevirtual 317, 3) := by decide +kernel
theorem d_M_node_308 : decode b_M_node 308 = .ok (.ifCond .eq (-11), 3) := by decide +kernel
theorem d_M_node_311 : decode b_M_node 311 = .ok (.aload_n 0, 1) := by decide +kernel
theorem d_M_node_312 : decode b_M_node 312 = .ok (.getfield 33, 3) := by decide +kernel
theorem d_M_node_315 : decode b_M_node 315 = .ok (.istore_n 1, 1) := by decide +kernel
theorem d_M_node_316 : decode b_M_node 316 = .ok (.aload_n 0, 1) := by decide +kernel
theorem d_M_node_317 : decode b_M_node 317 = .ok (.getfield 59, 3) := by decide +kernel
theorem d_M_node_320 : decode b_M_node 320 = .ok (.aload_n 0, 1) := by decide +kernel
theorem d_M_node_321 : decode b_M_node 321 = .ok (.getfield 68, 3) := by decide +kernel
theorem d_M_node_324 : decode b_M_node 324 = .ok (.iconst 1, 1) := by decide +kernel
theorem d_M_node_325 : decode b_M_node 325 = .ok (.iadd, 1) := by decide +kernel
theorem d_M_node_326 : decode b_M_node 326 = .ok (.aload_n 0, 1) := by decide +kernel
theorem d_M_node_327 : decode b_M_node 327 = .ok (.getfield 106, 3) := by decide +kernel
theorem d_M_node_330 : decode b_M_node 330 = .ok (.iastore, 1) := by decide +kernel
theorem d_M_node_331 : decode b_M_node 331 = .ok (.aload_n 0, 1) := by decide +kernel
theorem d_M_node_332 : decode b_M_node 332 = .ok (.getfield 50, 3) := by decide +kernel
theorem d_M_node_335 : decode b_M_node 335 = .ok (.aload_n 0, 1) := by decide +kernel
theorem d_M_node_336 : decode b_M_node 336 = .ok (.getfield 68, 3) := by decide +kernel
theorem d_M_node_339 : decode b_M_node 339 = .ok (.iaload, 1) := by decide +kernel
theorem d_M_node_340 : decode b_M_node 340 = .ok (.aload_n 0, 1) := by decide +kernel
theorem d_M_node_341 : decode b_M_node 341 = .ok (.getfield 53, 3) := by decide +kernel
theorem d_M_node_344 : decode b_M_node 344 = .ok (.aload_n 0, 1) := by decide +kernel
theorem d_M_node_345 : decode b_M_node 345 = .ok (.getfield 68, 3) := by decide +kernel
theorem d_M_node_348 : decode b_M_node 348 = .ok (.iaload, 1) := by decide +kernel
theorem d_M_node_349 : decode b_M_node 349 = .ok (.iadd, 1) := by decide +kernel
theorem d_M_node_350 : decode b_M_node 350 = .ok (.istore_n 2, 1) := by decide +kernel
theorem d_M_node_351 : decode b_M_node 351 = .ok (.iload_n 2, 1) := by decide +kernel
theorem d_M_node_352 : decode b_M_node 352 = .ok (.aload_n 0, 1) := by decide +kernel
theorem d_M_node_353 : decode b_M_node 353 = .ok (.getfield 71, 3) := by decide +kernel
theorem d_M_node_356 : decode b_M_node 356 = .ok (.if_icmp .ge 29, 3) := by decide +kernel
theorem d_M_node_359 : decode b_M_node 359 = .ok (.aload_n 0, 1) := by decide +kernel
theorem d_M_node_360 : decode b_M_node 360 = .ok (.getfield 83, 3) := by decide +kernel
theorem d_M_node_363 : decode b_M_node 363 = .ok (.iload_n 2, 1) := by decide +kernel
theorem d_M_node_364 : decode b_M_node 364 = .ok (.iaload, 1) := by decide +kernel
theorem d_M_node_365 : decode b_M_node 365 = .ok (.iconst 1, 1) := by decide +kernel
theorem d_M_node_366 : decode b_M_node 366 = .ok (.if_icmp .eq 13, 3) := by decide +kernel
theorem d_M_node_369 : decode b_M_node 369 = .ok (.new 296, 3) := by decide +kernel
theorem d_M_node_372 : decode b_M_node 372 = .ok (.dup, 1) := by decide +kernel
theorem d_M_node_373 : decode b_M_node 373 = .ok (.iconst 2, 1) := by decide +kernel
theorem d_M_node_374 : decode b_M_node 374 = .ok (.iload_n 1, 1) := by decide +kernel
theorem d_M_node_375 : decode b_M_node 375 = .ok (.invokespecial 298, 3) := by decide +kernel
theorem d_M_node_378 : decode b_M_node 378 = .ok (.athrow, 1) := by decide +kernel
theorem d_M_node_379 : decode b_M_node 379 = .ok (.iinc 2 1, 3) := by decide +kernel
theorem d_M_node_382 : decode b_M_node 382 = .ok (.goto (-31), 3) := by decide +kernel
theorem d_M_node_385 : decode b_M_node 385 = .ok (.aload_n 0, 1) := by decide +kernel
theorem d_M_node_386 : decode b_M_node 386 = .ok (.invokevirtual 305, 3) := by decide +kernel
theorem d_M_node_389 : decode b_M_node 389 = .ok (.aload_n 0, 1) := by decide +kernel
theorem d_M_node_390 : decode b_M_node 390 = .ok (.getfield 59, 3) := by decide +kernel
theorem d_M_node_393 : decode b_M_node 393 = .ok (.aload_n 0, 1) := by decide +kernel
theorem d_M_node_394 : decode b_M_node 394 = .ok (.getfield 68, 3) := by decide +kernel
theorem d_M_node_397 : decode b_M_node 397 = .ok (.iaload, 1) := by decide +kernel
theorem d_M_node_398 : decode b_M_node 398 = .ok (.istore_n 2, 1) := by decide +kernel
theorem d_M_node_399 : decode b_M_node 399 = .ok (.iload_n 2, 1) := by decide +kernel
theorem d_M_node_400 : decode b_M_node 400 = .ok (.aload_n 0, 1) := by decide +kernel
theorem d_M_node_401 : decode b_M_node 401 = .ok (.getfield 106, 3) := by decide +kernel
theorem d_M_node_404 : decode b_M_node 404 = .ok (.if_icmp .ge 14, 3) := by decide +kernel
theorem d_M_node_407 : decode b_M_node 407 = .ok (.aload_n 0, 1) := by decide +kernel
theorem d_M_node_408 : decode b_M_node 408 = .ok (.iload_n 2, 1) := by decide +kernel
theorem d_M_node_409 : decode b_M_node 409 = .ok (.invokevirtual 403, 3) := by decide +kernel
theorem d_M_node_412 : decode b_M_node 412 = .ok (.iinc 2 1, 3) := by decide +kernel
theorem d_M_node_415 : decode b_M_node 415 = .ok (.goto (-16), 3) := by decide +kernel
theorem d_M_node_418 : decode b_M_node 418 = .ok (.aload_n 0, 1) := by decide +kernel
theorem d_M_node_419 : decode b_M_node 419 = .ok (.dup, 1) := by decide +kernel
theorem d_M_node_420 : decode b_M_node 420 = .ok (.getfield 68, 3) := by decide +kernel
theorem d_M_node_423 : decode b_M_node 423 = .ok (.iconst 1, 1) := by decide +kernel
theorem d_M_node_424 : decode b_M_node 424 = .ok (.iadd, 1) := by decide +kernel
theorem d_M_node_425 : decode b_M_node 425 = .ok (.putfield 68, 3) := by decide +kernel
theorem d_M_node_428 : decode b_M_node 428 = .ok (.return_, 1) := by decide +kernel
abbrev mt_M_node : MT := (R_M, b_M_node, 3, none)
theorem vf_M_node : VF y_M_node mt_M_node 12 0 := ⟨im_M_node, se_M_node, in_M, co_M_node, by decide +kernel, _, _, rfl⟩
def f_M_node_b369 (γ : St) (x1 : Int) : Option Res :=
  some (.inl (2, x1), γ)
def f_M_node_b418 (γ : St) : Option Res :=
  chk (i32 ((γ 0 18) + 1)) (ap (setA γ 0 18 ((γ 0 18) + 1)) fun γ4 =>
  some (.inr 0, γ4))
def f_M_node_L399 (x418 : St → Option Res) : Nat → St → Int → Option Res
  | 0, _, _ => none
  | n + 1, γ, x5 =>
  if (γ 0 30) ≤ x5 then
  (x418 γ )
  else
  (bndT (f_M_judge γ x5) fun _ γ8 =>
  chk (i32 (x5 + 1)) ((f_M_node_L399 x418 n) γ8 (x5 + 1)))
def f_M_node_b385 (γ : St) : Option Res :=
  bndN (f_M_take γ) fun _ γ11 =>
  chk (inb (γ11 0 18) 61) (ap (γ11 7 (γ11 0 18)) fun x15 =>
  f_M_node_L399 (f_M_node_b418) FU γ11 x15)
def f_M_node_L351 (x369 : St → Int → Option Res) (x385 : St → Option Res) : Nat → St → Int → Int → Option Res
  | 0, _, _, _ => none
  | n + 1, γ, x16, x17 =>
  if (γ 0 19) ≤ x17 then
  (x385 γ )
  else
  (chk (inb x17 6000) (if (γ 13 x17) = 1 then
  (chk (i32 (x17 + 1)) ((f_M_node_L351 x369 x385 n) γ x16 (x17 + 1)))
  else
  (x369 γ x16)))
def f_M_node_b311 (γ : St) : Option Res :=
  ap (γ 0 7) fun x24 =>
  chk (i32 ((γ 0 18) + 1)) (chk (inb ((γ 0 18) + 1) 61) (ap (setA γ 7 ((γ 0 18) + 1) (γ 0 30)) fun γ29 =>
  chk (inb (γ29 0 18) 61) (chk (inb (γ29 0 18) 60) (chk (i32 ((γ29 4 (γ29 0 18)) + (γ29 5 (γ29 0 18)))) (ap ((γ29 4 (γ29 0 18)) + (γ29 5 (γ29 0 18))) fun x37 =>
  f_M_node_L351 (f_M_node_b369) (f_M_node_b385) FU γ29 x24 x37)))))
def f_M_node_L297 (x311 : St → Option Res) : Nat → St → Option Res
  | 0, _ => none
  | n + 1, γ =>
  bndT (f_M_equation γ) fun _ γ39 =>
  bndN (f_M_is γ39 4) fun r40 γ41 =>
  if r40 = 0 then
  ((f_M_node_L297 x311 n) γ41 )
  else
  (x311 γ41 )
def f_M_node_b242 (γ : St) : Option Res :=
  chk (i32 ((γ 0 18) + 1)) (chk (inb ((γ 0 18) + 1) 61) (ap (setA γ 4 ((γ 0 18) + 1) (γ 0 19)) fun γ46 =>
  bndT (f_M_mustBe γ46 3) fun _ γ48 =>
  chk (inb (γ48 0 18) 61) (ap (setA γ48 7 (γ48 0 18) (γ48 0 30)) fun γ52 =>
  chk (inb (γ52 0 18) 60) (ap (setA γ52 8 (γ52 0 18) 0) fun γ55 =>
  chk (inb (γ55 0 18) 60) (ap (setA γ55 9 (γ55 0 18) 0) fun γ58 =>
  f_M_node_L297 (f_M_node_b311) FU γ58 )))))
def f_M_node_L221 (x242 : St → Option Res) : Nat → St → Option Res
  | 0, _ => none
  | n + 1, γ =>
  bndN (f_M_nameHere γ) fun r59 γ60 =>
  if r59 = 0 then
  (x242 γ60 )
  else
  (bndT (f_M_group γ60 1) fun _ γ62 =>
  bndT (f_M_must γ62 59) fun _ γ64 =>
  (f_M_node_L221 x242 n) γ64 )
def f_M_node_b32 (γ : St) : Option Res :=
  bndT (f_M_mustBe γ 0) fun _ γ66 =>
  bndN (f_M_nameHere γ66) fun r67 γ68 =>
  if r67 ≠ 0 then
  (bndN (f_M_nodeHere γ68) fun r69 γ70 =>
  if r69 < 0 then
  (chk (inb (γ70 0 18) 60) (ap (setA γ70 2 (γ70 0 18) (γ70 0 7)) fun γ74 =>
  chk (i32 ((γ74 0 8) - (γ74 0 7))) (chk (inb (γ74 0 18) 60) (ap (setA γ74 3 (γ74 0 18) ((γ74 0 8) - (γ74 0 7))) fun γ80 =>
  bndN (f_M_take γ80) fun _ γ82 =>
  chk (inb (γ82 0 18) 61) (ap (setA γ82 4 (γ82 0 18) (γ82 0 19)) fun γ86 =>
  bndT (f_M_groups γ86) fun _ γ88 =>
  chk (inb (γ88 0 18) 61) (chk (i32 ((γ88 0 19) - (γ88 4 (γ88 0 18)))) (chk (inb (γ88 0 18) 60) (ap (setA γ88 5 (γ88 0 18) ((γ88 0 19) - (γ88 4 (γ88 0 18)))) fun γ96 =>
  bndT (f_M_mustBe γ96 1) fun _ γ98 =>
  bndT (f_M_groups γ98) fun _ γ100 =>
  chk (inb (γ100 0 18) 61) (chk (i32 ((γ100 0 19) - (γ100 4 (γ100 0 18)))) (chk (inb (γ100 0 18) 60) (chk (i32 (((γ100 0 19) - (γ100 4 (γ100 0 18))) - (γ100 5 (γ100 0 18)))) (chk (inb (γ100 0 18) 60) (ap (setA γ100 6 (γ100 0 18) (((γ100 0 19) - (γ100 4 (γ100 0 18))) - (γ100 5 (γ100 0 18)))) fun γ112 =>
  bndT (f_M_must γ112 59) fun _ γ114 =>
  bndN (f_M_is γ114 2) fun r115 γ116 =>
  if r115 = 0 then
  (f_M_node_b242 γ116 )
  else
  (bndN (f_M_take γ116) fun _ γ118 =>
  bndT (f_M_group γ118 1) fun _ γ120 =>
  bndT (f_M_must γ120 59) fun _ γ122 =>
  f_M_node_L221 (f_M_node_b242) FU γ122 ))))))))))))))
  else
  (some (.inl (2, γ70 0 7), γ70)))
  else
  (bndN (f_M_cant γ68) fun p124 γ125 => some (.inl (1, p124), γ125))
def f_M_node (γ : St) : Option Res :=
  bndN (f_M_is γ 0) fun r126 γ127 =>
  if r126 = 0 then
  (f_M_node_b32 γ127 )
  else
  (if (γ127 0 18) ≠ 59 then
  (f_M_node_b32 γ127 )
  else
  (some (.inl (3, γ127 0 7), γ127)))
set_option maxHeartbeats 4000000 in
theorem s_M_node_b369 {Γ : Ctx} : ∀ (γ : St) (x1 : Int), i32 x1 → SB Γ BM mt_M_node (RmT 916 63507) 0 0 (KT Γ BM mt_M_node.2.2.2) 369 [(0, vR Γ 0), (1, vI x1)] [] γ (f_M_node_b369 γ x1) := by
  intro γ x1 hx1
  unfold f_M_node_b369
  exact sb_thr rfl d_M_node_369 d_M_node_372 (pu_iconst d_M_node_373) (pu_iload_n 1 d_M_node_374 rfl) d_M_node_375 d_M_node_378 (by decide) hx1 ⟨by decide, by decide⟩
set_option maxHeartbeats 4000000 in
theorem s_M_node_b418 {Γ : Ctx} : ∀ (γ : St), SB Γ BM mt_M_node (RmT 916 63507) 0 0 (KT Γ BM mt_M_node.2.2.2) 418 [(0, vR Γ 0)] [] γ (f_M_node_b418 γ ) := by
  intro γ
  unfold f_M_node_b418
  refine sb_aload_n 0 d_M_node_418 rfl ?_
  refine sb_dup d_M_node_419 rfl ?_
  refine g_M_68 d_M_node_420 (fun c2 => ?_)
  refine sb_iconst d_M_node_423 ?_
  refine sb_iadd d_M_node_424 ?_
  refine sb_chk (fun c3 => ?_)
  refine p_M_68 c3 d_M_node_425 ?_
  refine sb_aps (fun γ4 => ?_)
  exact st_v rfl d_M_node_428
set_option maxHeartbeats 4000000 in
theorem s_M_node_L399 {Γ : Ctx} {x418 : St → Option Res} (hx418 : ∀ (γ : St), SB Γ BM mt_M_node (RmT 916 63507) 0 0 (KT Γ BM mt_M_node.2.2.2) 418 [(0, vR Γ 0)] [] γ (x418 γ )) : ∀ (n : Nat) (γ : St) (x5 : Int), i32 x5 → SB Γ BM mt_M_node (RmT 916 63507) 0 0 (KT Γ BM mt_M_node.2.2.2) 399 [(0, vR Γ 0), (2, vI x5)] [] γ (f_M_node_L399 x418 n γ x5) := by
  intro n
  induction n with
  | zero => intros; exact sb_none
  | succ n ih =>
    intro γ x5 hx5
    unfold f_M_node_L399
    refine sb_iload_n 1 d_M_node_399 rfl ?_
    refine sb_aload_n 0 d_M_node_400 rfl ?_
    refine g_M_106 d_M_node_401 (fun c6 => ?_)
    refine sb_icmp_ge 418 hx5 c6 d_M_node_404 (by decide) (fun _ => ?_) (fun _ => ?_)
    · exact sb_lv [0] rfl (hx418 γ  )
    · refine sb_aload_n 0 d_M_node_407 rfl ?_
      refine sb_iload_n 1 d_M_node_408 rfl ?_
      refine sb_cTv vf_M_judge (c_M_judge γ x5 hx5) rfl ml_M_403 (As := [vI x5]) rfl rfl (Nat.le_of_ble_eq_true rfl) ⟨by decide, by decide⟩ d_M_node_409 (fun _ γ8 => ?_)
      refine sb_iinc 1 [(2, vI (x5 + 1)), (0, vR Γ 0)] d_M_node_412 rfl (by decide) rfl ?_
      refine sb_chk (fun c9 => ?_)
      refine sb_goto 399 d_M_node_415 (by decide) ?_
      exact sb_lv [1, 0] rfl (ih γ8 (x5 + 1) c9)
set_option maxHeartbeats 4000000 in
theorem s_M_node_b385 {Γ : Ctx} : ∀ (γ : St), SB Γ BM mt_M_node (RmT 916 63507) 0 0 (KT Γ BM mt_M_node.2.2.2) 385 [(0, vR Γ 0)] [] γ (f_M_node_b385 γ ) := by
  intro γ
  unfold f_M_node_b385
  refine sb_aload_n 0 d_M_node_385 rfl ?_
  refine sb_cVv vf_M_take (c_M_take γ  ) rfl ml_M_305 (As := []) rfl rfl (Nat.le_of_ble_eq_true rfl) ⟨by decide, by decide⟩ d_M_node_386 (fun _ γ11 => ?_)
  refine sb_aload_n 0 d_M_node_389 rfl ?_
  refine g_M_59 d_M_node_390 ?_
  refine sb_aload_n 0 d_M_node_393 rfl ?_
  refine g_M_68 d_M_node_394 (fun c13 => ?_)
  refine al_M_7 d_M_node_397 (fun _ c14 => ?_)
  refine sb_istore_n [(2, vI (γ11 7 (γ11 0 18))), (0, vR Γ 0)] d_M_node_398 (by decide) rfl ?_
  refine sb_nme (e := γ11 7 (γ11 0 18)) (fun x15 => [(2, vI x15), (0, vR Γ 0)]) c14 (fun x15 hx15 => ?_)
  exact sb_lv [1, 0] rfl (s_M_node_L399 (s_M_node_b418) FU γ11 x15 hx15)
set_option maxHeartbeats 4000000 in
theorem s_M_node_L351 {Γ : Ctx} {x369 : St → Int → Option Res} {x385 : St → Option Res} (hx369 : ∀ (γ : St) (x22 : Int), i32 x22 → SB Γ BM mt_M_node (RmT 916 63507) 0 0 (KT Γ BM mt_M_node.2.2.2) 369 [(0, vR Γ 0), (1, vI x22)] [] γ (x369 γ x22)) (hx385 : ∀ (γ : St), SB Γ BM mt_M_node (RmT 916 63507) 0 0 (KT Γ BM mt_M_node.2.2.2) 385 [(0, vR Γ 0)] [] γ (x385 γ )) : ∀ (n : Nat) (γ : St) (x16 : Int) (x17 : Int), i32 x16 → i32 x17 → SB Γ BM mt_M_node (RmT 916 63507) 0 0 (KT Γ BM mt_M_node.2.2.2) 351 [(0, vR Γ 0), (1, vI x16), (2, vI x17)] [] γ (f_M_node_L351 x369 x385 n γ x16 x17) := by
  intro n
  induction n with
  | zero => intros; exact sb_none
  | succ n ih =>
    intro γ x16 x17 hx16 hx17
    unfold f_M_node_L351
    refine sb_iload_n 2 d_M_node_351 rfl ?_
    refine sb_aload_n 0 d_M_node_352 rfl ?_
    refine g_M_71 d_M_node_353 (fun c18 => ?_)
    refine sb_icmp_ge 385 hx17 c18 d_M_node_356 (by decide) (fun _ => ?_) (fun _ => ?_)
    · exact sb_lv [0] rfl (hx385 γ  )
    · refine sb_aload_n 0 d_M_node_359 rfl ?_
      refine g_M_83 d_M_node_360 ?_
      refine sb_iload_n 2 d_M_node_363 rfl ?_
      refine al_M_13 d_M_node_364 (fun _ c20 => ?_)
      refine sb_iconst d_M_node_365 ?_
      refine sb_icmp_eq 379 c20 (by decide) d_M_node_366 (by decide) (fun _ => ?_) (fun _ => ?_)
      · refine sb_iinc 2 [(2, vI (x17 + 1)), (0, vR Γ 0), (1, vI x16)] d_M_node_379 rfl (by decide) rfl ?_
        refine sb_chk (fun c21 => ?_)
        refine sb_goto 351 d_M_node_382 (by decide) ?_
        exact sb_lv [1, 2, 0] rfl (ih γ x16 (x17 + 1) hx16 c21)
      · exact sb_lv [0, 1] rfl (hx369 γ x16 hx16)
set_option maxHeartbeats 4000000 in
theorem s_M_node_b311 {Γ : Ctx} : ∀ (γ : St), SB Γ BM mt_M_node (RmT 916 63507) 0 0 (KT Γ BM mt_M_node.2.2.2) 311 [(0, vR Γ 0)] [] γ (f_M_node_b311 γ ) := by
  intro γ
  unfold f_M_node_b311
  refine sb_aload_n 0 d_M_node_311 rfl ?_
  refine g_M_33 d_M_node_312 (fun c23 => ?_)
  refine sb_istore_n [(1, vI (γ 0 7)), (0, vR Γ 0)] d_M_node_315 (by decide) rfl ?_
  refine sb_nme (e := γ 0 7) (fun x24 => [(1, vI x24), (0, vR Γ 0)]) c23 (fun x24 hx24 => ?_)
  refine sb_aload_n 1 d_M_node_316 rfl ?_
  refine g_M_59 d_M_node_317 ?_
  refine sb_aload_n 1 d_M_node_320 rfl ?_
  refine g_M_68 d_M_node_321 (fun c26 => ?_)
  refine sb_iconst d_M_node_324 ?_
  refine sb_iadd d_M_node_325 ?_
  refine sb_chk (fun c27 => ?_)
  refine sb_aload_n 1 d_M_node_326 rfl ?_
  refine g_M_106 d_M_node_327 (fun c28 => ?_)
  refine as_M_7 c28 d_M_node_330 (fun _ => ?_)
  refine sb_aps (fun γ29 => ?_)
  refine sb_aload_n 1 d_M_node_331 rfl ?_
  refine g_M_50 d_M_node_332 ?_
  refine sb_aload_n 1 d_M_node_335 rfl ?_
  refine g_M_68 d_M_node_336 (fun c31 => ?_)
  refine al_M_4 d_M_node_339 (fun _ c32 => ?_)
  refine sb_aload_n 1 d_M_node_340 rfl ?_
  refine g_M_53 d_M_node_341 ?_
  refine sb_aload_n 1 d_M_node_344 rfl ?_
  refine g_M_68 d_M_node_345 (fun c34 => ?_)
  refine al_M_5 d_M_node_348 (fun _ c35 => ?_)
  refine sb_iadd d_M_node_349 ?_
  refine sb_chk (fun c36 => ?_)
  refine sb_istore_n [(2, vI ((γ29 4 (γ29 0 18)) + (γ29 5 (γ29 0 18)))), (1, vI x24), (0, vR Γ 0)] d_M_node_350 (by decide) rfl ?_
  refine sb_nme (e := (γ29 4 (γ29 0 18)) + (γ29 5 (γ29 0 18))) (fun x37 => [(2, vI x37), (1, vI x24), (0, vR Γ 0)]) c36 (fun x37 hx37 => ?_)
  exact sb_lv [2, 1, 0] rfl (s_M_node_L351 (s_M_node_b369) (s_M_node_b385) FU γ29 x24 x37 hx24 hx37)
set_option maxHeartbeats 4000000 in
theorem s_M_node_L297 {Γ : Ctx} {x311 : St → Option Res} (hx311 : ∀ (γ : St), SB Γ BM mt_M_node (RmT 916 63507) 0 0 (KT Γ BM mt_M_node.2.2.2) 311 [(0, vR Γ 0)] [] γ (x311 γ )) : ∀ (n : Nat) (γ : St), SB Γ BM mt_M_node (RmT 916 63507) 0 0 (KT Γ BM mt_M_node.2.2.2) 297 [(0, vR Γ 0)] [] γ (f_M_node_L297 x311 n γ ) := by
  intro n
  induction n with
  | zero => intros; exact sb_none
  | succ n ih =>
    intro γ
    unfold f_M_node_L297
    refine sb_aload_n 0 d_M_node_297 rfl ?_
    refine sb_cTv vf_M_equation (c_M_equation γ  ) rfl ml_M_400 (As := []) rfl rfl (Nat.le_of_ble_eq_true rfl) ⟨by decide, by decide⟩ d_M_node_298 (fun _ γ39 => ?_)
    refine sb_aload_n 0 d_M_node_301 rfl ?_
    refine sb_ldcS (k := 4) (by decide) rfl d_M_node_302 ?_
    refine sb_cVz vf_M_is (c_M_is γ39 4 (by decide)) rfl ml_M_317 (As := [.ref (Γ.σ 4).1]) rfl rfl (Nat.le_of_ble_eq_true rfl) ⟨by decide, by decide⟩ d_M_node_305 (fun r40 γ41 hr40 => ?_)
    refine sb_if_eq 297 (z2i hr40) d_M_node_308 (by decide) (fun _ => ?_) (fun _ => ?_)
    · exact sb_lv [0] rfl (ih γ41  )
    · exact sb_lv [0] rfl (hx311 γ41  )
set_option maxHeartbeats 4000000 in
theorem s_M_node_b242 {Γ : Ctx} : ∀ (γ : St), SB Γ BM mt_M_node (RmT 916 63507) 0 0 (KT Γ BM mt_M_node.2.2.2) 242 [(0, vR Γ 0)] [] γ (f_M_node_b242 γ ) := by
  intro γ
  unfold f_M_node_b242
  refine sb_aload_n 0 d_M_node_242 rfl ?_
  refine g_M_50 d_M_node_243 ?_
  refine sb_aload_n 0 d_M_node_246 rfl ?_
  refine g_M_68 d_M_node_247 (fun c43 => ?_)
  refine sb_iconst d_M_node_250 ?_
  refine sb_iadd d_M_node_251 ?_
  refine sb_chk (fun c44 => ?_)
  refine sb_aload_n 0 d_M_node_252 rfl ?_
  refine g_M_71 d_M_node_253 (fun c45 => ?_)
  refine as_M_4 c45 d_M_node_256 (fun _ => ?_)
  refine sb_aps (fun γ46 => ?_)
  refine sb_aload_n 0 d_M_node_257 rfl ?_
  refine sb_ldcS (k := 3) (by decide) rfl d_M_node_258 ?_
  refine sb_cTv vf_M_mustBe (c_M_mustBe γ46 3 (by decide)) rfl ml_M_390 (As := [.ref (Γ.σ 3).1]) rfl rfl (Nat.le_of_ble_eq_true rfl) ⟨by decide, by decide⟩ d_M_node_261 (fun _ γ48 => ?_)
  refine sb_aload_n 0 d_M_node_264 rfl ?_
  refine g_M_59 d_M_node_265 ?_
  refine sb_aload_n 0 d_M_node_268 rfl ?_
  refine g_M_68 d_M_node_269 (fun c50 => ?_)
  refine sb_aload_n 0 d_M_node_272 rfl ?_
  refine g_M_106 d_M_node_273 (fun c51 => ?_)
  refine as_M_7 c51 d_M_node_276 (fun _ => ?_)
  refine sb_aps (fun γ52 => ?_)
  refine sb_aload_n 0 d_M_node_277 rfl ?_
  refine g_M_62 d_M_node_278 ?_
  refine sb_aload_n 0 d_M_node_281 rfl ?_
  refine g_M_68 d_M_node_282 (fun c54 => ?_)
  refine sb_iconst d_M_node_285 ?_
  refine as_M_8 (by decide) d_M_node_286 (fun _ => ?_)
  refine sb_aps (fun γ55 => ?_)
  refine sb_aload_n 0 d_M_node_287 rfl ?_
  refine g_M_65 d_M_node_288 ?_
  refine sb_aload_n 0 d_M_node_291 rfl ?_
  refine g_M_68 d_M_node_292 (fun c57 => ?_)
  refine sb_iconst d_M_node_295 ?_
  refine as_M_9 (by decide) d_M_node_296 (fun _ => ?_)
  refine sb_aps (fun γ58 => ?_)
  exact sb_lv [0] rfl (s_M_node_L297 (s_M_node_b311) FU γ58  )
set_option maxHeartbeats 4000000 in
theorem s_M_node_L221 {Γ : Ctx} {x242 : St → Option Res} (hx242 : ∀ (γ : St), SB Γ BM mt_M_node (RmT 916 63507) 0 0 (KT Γ BM mt_M_node.2.2.2) 242 [(0, vR Γ 0)] [] γ (x242 γ )) : ∀ (n : Nat) (γ : St), SB Γ BM mt_M_node (RmT 916 63507) 0 0 (KT Γ BM mt_M_node.2.2.2) 221 [(0, vR Γ 0)] [] γ (f_M_node_L221 x242 n γ ) := by
  intro n
  induction n with
  | zero => intros; exact sb_none
  | succ n ih =>
    intro γ
    unfold f_M_node_L221
    refine sb_aload_n 0 d_M_node_221 rfl ?_
    refine sb_cVz vf_M_nameHere (c_M_nameHere γ  ) rfl ml_M_373 (As := []) rfl rfl (Nat.le_of_ble_eq_true rfl) ⟨by decide, by decide⟩ d_M_node_222 (fun r59 γ60 hr59 => ?_)
    refine sb_if_eq 242 (z2i hr59) d_M_node_225 (by decide) (fun _ => ?_) (fun _ => ?_)
    · exact sb_lv [0] rfl (hx242 γ60  )
    · refine sb_aload_n 0 d_M_node_228 rfl ?_
      refine sb_iconst d_M_node_229 ?_
      refine sb_cTv vf_M_group (c_M_group γ60 1 (by decide)) rfl ml_M_386 (As := [vI 1]) rfl rfl (Nat.le_of_ble_eq_true rfl) ⟨by decide, by decide⟩ d_M_node_230 (fun _ γ62 => ?_)
      refine sb_aload_n 0 d_M_node_233 rfl ?_
      refine sb_bipush d_M_node_234 (by decide) ?_
      refine sb_cTv vf_M_must (c_M_must γ62 59 (by decide)) rfl ml_M_379 (As := [vI 59]) rfl rfl (Nat.le_of_ble_eq_true rfl) ⟨by decide, by decide⟩ d_M_node_236 (fun _ γ64 => ?_)
      refine sb_goto 221 d_M_node_239 (by decide) ?_
      exact sb_lv [0] rfl (ih γ64  )
set_option maxHeartbeats 4000000 in
theorem s_M_node_b32 {Γ : Ctx} : ∀ (γ : St), SB Γ BM mt_M_node (RmT 916 63507) 0 0 (KT Γ BM mt_M_node.2.2.2) 32 [(0, vR Γ 0)] [] γ (f_M_node_b32 γ ) := by
  intro γ
  unfold f_M_node_b32
  refine sb_aload_n 0 d_M_node_32 rfl ?_
  refine sb_ldcS (k := 0) (by decide) rfl d_M_node_33 ?_
  refine sb_cTv vf_M_mustBe (c_M_mustBe γ 0 (by decide)) rfl ml_M_390 (As := [.ref (Γ.σ 0).1]) rfl rfl (Nat.le_of_ble_eq_true rfl) ⟨by decide, by decide⟩ d_M_node_36 (fun _ γ66 => ?_)
  refine sb_aload_n 0 d_M_node_39 rfl ?_
  refine sb_cVz vf_M_nameHere (c_M_nameHere γ66  ) rfl ml_M_373 (As := []) rfl rfl (Nat.le_of_ble_eq_true rfl) ⟨by decide, by decide⟩ d_M_node_40 (fun r67 γ68 hr67 => ?_)
  refine sb_if_ne 51 (z2i hr67) d_M_node_43 (by decide) (fun _ => ?_) (fun _ => ?_)
  · refine sb_aload_n 0 d_M_node_51 rfl ?_
    refine sb_cVi vf_M_nodeHere (c_M_nodeHere γ68  ) rfl ml_M_394 (As := []) rfl rfl (Nat.le_of_ble_eq_true rfl) ⟨by decide, by decide⟩ d_M_node_52 (fun r69 γ70 hr69 => ?_)
    refine sb_if_lt 71 hr69 d_M_node_55 (by decide) (fun _ => ?_) (fun _ => ?_)
    · refine sb_aload_n 0 d_M_node_71 rfl ?_
      refine g_M_43 d_M_node_72 ?_
      refine sb_aload_n 0 d_M_node_75 rfl ?_
      refine g_M_68 d_M_node_76 (fun c72 => ?_)
      refine sb_aload_n 0 d_M_node_79 rfl ?_
      refine g_M_33 d_M_node_80 (fun c73 => ?_)
      refine as_M_2 c73 d_M_node_83 (fun _ => ?_)
      refine sb_aps (fun γ74 => ?_)
      refine sb_aload_n 0 d_M_node_84 rfl ?_
      refine g_M_47 d_M_node_85 ?_
      refine sb_aload_n 0 d_M_node_88 rfl ?_
      refine g_M_68 d_M_node_89 (fun c76 => ?_)
      refine sb_aload_n 0 d_M_node_92 rfl ?_
      refine g_M_36 d_M_node_93 (fun c77 => ?_)
      refine sb_aload_n 0 d_M_node_96 rfl ?_
      refine g_M_33 d_M_node_97 (fun c78 => ?_)
      refine sb_isub d_M_node_100 ?_
      refine sb_chk (fun c79 => ?_)
      refine as_M_3 c79 d_M_node_101 (fun _ => ?_)
      refine sb_aps (fun γ80 => ?_)
      refine sb_aload_n 0 d_M_node_102 rfl ?_
      refine sb_cVv vf_M_take (c_M_take γ80  ) rfl ml_M_305 (As := []) rfl rfl (Nat.le_of_ble_eq_true rfl) ⟨by decide, by decide⟩ d_M_node_103 (fun _ γ82 => ?_)
      refine sb_aload_n 0 d_M_node_106 rfl ?_
      refine g_M_50 d_M_node_107 ?_
      refine sb_aload_n 0 d_M_node_110 rfl ?_
      refine g_M_68 d_M_node_111 (fun c84 => ?_)
      refine sb_aload_n 0 d_M_node_114 rfl ?_
      refine g_M_71 d_M_node_115 (fun c85 => ?_)
      refine as_M_4 c85 d_M_node_118 (fun _ => ?_)
      refine sb_aps (fun γ86 => ?_)
      refine sb_aload_n 0 d_M_node_119 rfl ?_
      refine sb_cTv vf_M_groups (c_M_groups γ86  ) rfl ml_M_397 (As := []) rfl rfl (Nat.le_of_ble_eq_true rfl) ⟨by decide, by decide⟩ d_M_node_120 (fun _ γ88 => ?_)
      refine sb_aload_n 0 d_M_node_123 rfl ?_
      refine g_M_53 d_M_node_124 ?_
      refine sb_aload_n 0 d_M_node_127 rfl ?_
      refine g_M_68 d_M_node_128 (fun c90 => ?_)
      refine sb_aload_n 0 d_M_node_131 rfl ?_
      refine g_M_71 d_M_node_132 (fun c91 => ?_)
      refine sb_aload_n 0 d_M_node_135 rfl ?_
      refine g_M_50 d_M_node_136 ?_
      refine sb_aload_n 0 d_M_node_139 rfl ?_
      refine g_M_68 d_M_node_140 (fun c93 => ?_)
      refine al_M_4 d_M_node_143 (fun _ c94 => ?_)
      refine sb_isub d_M_node_144 ?_
      refine sb_chk (fun c95 => ?_)
      refine as_M_5 c95 d_M_node_145 (fun _ => ?_)
      refine sb_aps (fun γ96 => ?_)
      refine sb_aload_n 0 d_M_node_146 rfl ?_
      refine sb_ldcS (k := 1) (by decide) rfl d_M_node_147 ?_
      refine sb_cTv vf_M_mustBe (c_M_mustBe γ96 1 (by decide)) rfl ml_M_390 (As := [.ref (Γ.σ 1).1]) rfl rfl (Nat.le_of_ble_eq_true rfl) ⟨by decide, by decide⟩ d_M_node_150 (fun _ γ98 => ?_)
      refine sb_aload_n 0 d_M_node_153 rfl ?_
      refine sb_cTv vf_M_groups (c_M_groups γ98  ) rfl ml_M_397 (As := []) rfl rfl (Nat.le_of_ble_eq_true rfl) ⟨by decide, by decide⟩ d_M_node_154 (fun _ γ100 => ?_)
      refine sb_aload_n 0 d_M_node_157 rfl ?_
      refine g_M_56 d_M_node_158 ?_
      refine sb_aload_n 0 d_M_node_161 rfl ?_
      refine g_M_68 d_M_node_162 (fun c102 => ?_)
      refine sb_aload_n 0 d_M_node_165 rfl ?_
      refine g_M_71 d_M_node_166 (fun c103 => ?_)
      refine sb_aload_n 0 d_M_node_169 rfl ?_
      refine g_M_50 d_M_node_170 ?_
      refine sb_aload_n 0 d_M_node_173 rfl ?_
      refine g_M_68 d_M_node_174 (fun c105 => ?_)
      refine al_M_4 d_M_node_177 (fun _ c106 => ?_)
      refine sb_isub d_M_node_178 ?_
      refine sb_chk (fun c107 => ?_)
      refine sb_aload_n 0 d_M_node_179 rfl ?_
      refine g_M_53 d_M_node_180 ?_
      refine sb_aload_n 0 d_M_node_183 rfl ?_
      refine g_M_68 d_M_node_184 (fun c109 => ?_)
      refine al_M_5 d_M_node_187 (fun _ c110 => ?_)
      refine sb_isub d_M_node_188 ?_
      refine sb_chk (fun c111 => ?_)
      refine as_M_6 c111 d_M_node_189 (fun _ => ?_)
      refine sb_aps (fun γ112 => ?_)
      refine sb_aload_n 0 d_M_node_190 rfl ?_
      refine sb_bipush d_M_node_191 (by decide) ?_
      refine sb_cTv vf_M_must (c_M_must γ112 59 (by decide)) rfl ml_M_379 (As := [vI 59]) rfl rfl (Nat.le_of_ble_eq_true rfl) ⟨by decide, by decide⟩ d_M_node_193 (fun _ γ114 => ?_)
      refine sb_aload_n 0 d_M_node_196 rfl ?_
      refine sb_ldcS (k := 2) (by decide) rfl d_M_node_197 ?_
      refine sb_cVz vf_M_is (c_M_is γ114 2 (by decide)) rfl ml_M_317 (As := [.ref (Γ.σ 2).1]) rfl rfl (Nat.le_of_ble_eq_true rfl) ⟨by decide, by decide⟩ d_M_node_200 (fun r115 γ116 hr115 => ?_)
      refine sb_if_eq 242 (z2i hr115) d_M_node_203 (by decide) (fun _ => ?_) (fun _ => ?_)
      · exact sb_lv [0] rfl (s_M_node_b242 γ116  )
      · refine sb_aload_n 0 d_M_node_206 rfl ?_
        refine sb_cVv vf_M_take (c_M_take γ116  ) rfl ml_M_305 (As := []) rfl rfl (Nat.le_of_ble_eq_true rfl) ⟨by decide, by decide⟩ d_M_node_207 (fun _ γ118 => ?_)
        refine sb_aload_n 0 d_M_node_210 rfl ?_
        refine sb_iconst d_M_node_211 ?_
        refine sb_cTv vf_M_group (c_M_group γ118 1 (by decide)) rfl ml_M_386 (As := [vI 1]) rfl rfl (Nat.le_of_ble_eq_true rfl) ⟨by decide, by decide⟩ d_M_node_212 (fun _ γ120 => ?_)
        refine sb_aload_n 0 d_M_node_215 rfl ?_
        refine sb_bipush d_M_node_216 (by decide) ?_
        refine sb_cTv vf_M_must (c_M_must γ120 59 (by decide)) rfl ml_M_379 (As := [vI 59]) rfl rfl (Nat.le_of_ble_eq_true rfl) ⟨by decide, by decide⟩ d_M_node_218 (fun _ γ122 => ?_)
        exact sb_lv [0] rfl (s_M_node_L221 (s_M_node_b242) FU γ122  )
    · refine sb_bd (j := 0) (i := 7) rfl (fun c123 => ?_)
      exact sb_thr rfl d_M_node_58 d_M_node_61 (pu_iconst d_M_node_62) (pu_fld kf_M 0 7 rfl rfl rfl (by decide) fl_M_33 d_M_node_63 d_M_node_64) d_M_node_67 d_M_node_70 (by decide) c123 ⟨by decide, by decide⟩
  · refine sb_aload_n 0 d_M_node_46 rfl ?_
    exact sb_cant ml_M_301 ⟨by decide, by decide⟩ d_M_node_47 d_M_node_50
set_option maxHeartbeats 4000000 in
theorem c_M_node {Γ : Ctx} (γ : St) : TC Γ BM y_M_node mt_M_node 916 63507 [vR Γ 0] γ (f_M_node γ) := by
  refine tc_of (by decide) rfl (Nat.le_of_ble_eq_true rfl) ?_
  show SB Γ BM mt_M_node (RmT 916 63507) 0 0 (KT Γ BM mt_M_node.2.2.2) 0 [(0, vR Γ 0)] [] γ _
  unfold f_M_node
  refine sb_aload_n 0 d_M_node_0 rfl ?_
  refine sb_ldcS (k := 0) (by decide) rfl d_M_node_1 ?_
  refine sb_cVz vf_M_is (c_M_is γ 0 (by decide)) rfl ml_M_317 (As := [.ref (Γ.σ 0).1]) rfl rfl (Nat.le_of_ble_eq_true rfl) ⟨by decide, by decide⟩ d_M_node_4 (fun r126 γ127 hr126 => ?_)
  refine sb_if_eq 32 (z2i hr126) d_M_node_7 (by decide) (fun _ => ?_) (fun _ => ?_)
  · exact sb_lv [0] rfl (s_M_node_b32 γ127  )
  · refine sb_aload_n 0 d_M_node_10 rfl ?_
    refine g_M_68 d_M_node_11 (fun c128 => ?_)
    refine sb_bipush d_M_node_14 (by decide) ?_
    refine sb_icmp_ne 32 c128 (by decide) d_M_node_16 (by decide) (fun _ => ?_) (fun _ => ?_)
    · exact sb_lv [0] rfl (s_M_node_b32 γ127  )
    · refine sb_bd (j := 0) (i := 7) rfl (fun c129 => ?_)
      exact sb_thr rfl d_M_node_19 d_M_node_22 (pu_iconst d_M_node_23) (pu_fld kf_M 0 7 rfl rfl rfl (by decide) fl_M_33 d_M_node_24 d_M_node_25) d_M_node_28 d_M_node_31 (by decide) c129 ⟨by decide, by decide⟩
