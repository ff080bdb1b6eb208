/-! the reference as functions: expressions -/
theorem d_M_expression_0 : decode b_M_expression 0 = .ok (.aload_n 0, 1) := by decide +kernel
theorem d_M_expression_1 : decode b_M_expression 1 = .ok (.ldc_w 345, 3) := by decide +kernel
theorem d_M_expression_4 : decode b_M_expression 4 = .ok (.invokevirtual 317, 3) := by decide +kernel
theorem d_M_expression_7 : decode b_M_expression 7 = .ok (.ifCond .eq 75, 3) := by decide +kernel
theorem d_M_expression_10 : decode b_M_expression 10 = .ok (.aload_n 0, 1) := by decide +kernel
theorem d_M_expression_11 : decode b_M_expression 11 = .ok (.invokevirtual 305, 3) := by decide +kernel
theorem d_M_expression_14 : decode b_M_expression 14 = .ok (.aload_n 0, 1) := by decide +kernel
theorem d_M_expression_15 : decode b_M_expression 15 = .ok (.aload_n 0, 1) := by decide +kernel
theorem d_M_expression_16 : decode b_M_expression 16 = .ok (.iload_n 1, 1) := by decide +kernel
theorem d_M_expression_17 : decode b_M_expression 17 = .ok (.invokevirtual 424, 3) := by decide +kernel
theorem d_M_expression_20 : decode b_M_expression 20 = .ok (.invokevirtual 409, 3) := by decide +kernel
theorem d_M_expression_23 : decode b_M_expression 23 = .ok (.istore_n 2, 1) := by decide +kernel
theorem d_M_expression_24 : decode b_M_expression 24 = .ok (.aload_n 0, 1) := by decide +kernel
theorem d_M_expression_25 : decode b_M_expression 25 = .ok (.ldc_w 347, 3) := by decide +kernel
theorem d_M_expression_28 : decode b_M_expression 28 = .ok (.invokevirtual 390, 3) := by decide +kernel
theorem d_M_expression_31 : decode b_M_expression 31 = .ok (.aload_n 0, 1) := by decide +kernel
theorem d_M_expression_32 : decode b_M_expression 32 = .ok (.getfield 121, 3) := by decide +kernel
theorem d_M_expression_35 : decode b_M_expression 35 = .ok (.iload_n 2, 1) := by decide +kernel
theorem d_M_expression_36 : decode b_M_expression 36 = .ok (.aload_n 0, 1) := by decide +kernel
theorem d_M_expression_37 : decode b_M_expression 37 = .ok (.aload_n 0, 1) := by decide +kernel
theorem d_M_expression_38 : decode b_M_expression 38 = .ok (.iload_n 1, 1) := by decide +kernel
theorem d_M_expression_39 : decode b_M_expression 39 = .ok (.invokevirtual 424, 3) := by decide +kernel
theorem d_M_expression_42 : decode b_M_expression 42 = .ok (.invokevirtual 409, 3) := by decide +kernel
theorem d_M_expression_45 : decode b_M_expression 45 = .ok (.iastore, 1) := by decide +kernel
theorem d_M_expression_46 : decode b_M_expression 46 = .ok (.aload_n 0, 1) := by decide +kernel
theorem d_M_expression_47 : decode b_M_expression 47 = .ok (.ldc_w 349, 3) := by decide +kernel
theorem d_M_expression_50 : decode b_M_expression 50 = .ok (.invokevirtual 390, 3) := by decide +kernel
theorem d_M_expression_53 : decode b_M_expression 53 = .ok (.aload_n 0, 1) := by decide +kernel
theorem d_M_expression_54 : decode b_M_expression 54 = .ok (.getfield 121, 3) := by decide +kernel
theorem d_M_expression_57 : decode b_M_expression 57 = .ok (.aload_n 0, 1) := by decide +kernel
theorem d_M_expression_58 : decode b_M_expression 58 = .ok (.getfield 121, 3) := by decide +kernel
theorem d_M_expression_61 : decode b_M_expression 61 = .ok (.iload_n 2, 1) := by decide +kernel
theorem d_M_expression_62 : decode b_M_expression 62 = .ok (.iaload, 1) := by decide +kernel
theorem d_M_expression_63 : decode b_M_expression 63 = .ok (.aload_n 0, 1) := by decide +kernel
theorem d_M_expression_64 : decode b_M_expression 64 = .ok (.aload_n 0, 1) := by decide +kernel
theorem d_M_expression_65 : decode b_M_expression 65 = .ok (.iload_n 1, 1) := by decide +kernel
theorem d_M_expression_66 : decode b_M_expression 66 = .ok (.invokevirtual 424, 3) := by decide +kernel
theorem d_M_expression_69 : decode b_M_expression 69 = .ok (.invokevirtual 409, 3) := by decide +kernel
theorem d_M_expression_72 : decode b_M_expression 72 = .ok (.iastore, 1) := by decide +kernel
theorem d_M_expression_73 : decode b_M_expression 73 = .ok (.aload_n 0, 1) := by decide +kernel
theorem d_M_expression_74 : decode b_M_expression 74 = .ok (.iconst 4, 1) := by decide +kernel
theorem d_M_expression_75 : decode b_M_expression 75 = .ok (.iconst 0, 1) := by decide +kernel
theorem d_M_expression_76 : decode b_M_expression 76 = .ok (.iload_n 2, 1) := by decide +kernel
theorem d_M_expression_77 : decode b_M_expression 77 = .ok (.iconst 1, 1) := by decide +kernel
theorem d_M_expression_78 : decode b_M_expression 78 = .ok (.invokevirtual 420, 3) := by decide +kernel
theorem d_M_expression_81 : decode b_M_expression 81 = .ok (.ireturn, 1) := by decide +kernel
theorem d_M_expression_82 : decode b_M_expression 82 = .ok (.aload_n 0, 1) := by decide +kernel
theorem d_M_expression_83 : decode b_M_expression 83 = .ok (.iload_n 1, 1) := by decide +kernel
theorem d_M_expression_84 : decode b_M_expression 84 = .ok (.invokevirtual 427, 3) := by decide +kernel
theorem d_M_expression_87 : decode b_M_expression 87 = .ok (.istore_n 2, 1) := by decide +kernel
theorem d_M_expression_88 : decode b_M_expression 88 = .ok (.aload_n 0, 1) := by decide +kernel
theorem d_M_expression_89 : decode b_M_expression 89 = .ok (.invokevirtual 292, 3) := by decide +kernel
theorem d_M_expression_92 : decode b_M_expression 92 = .ok (.sipush 303, 3) := by decide +kernel
theorem d_M_expression_95 : decode b_M_expression 95 = .ok (.if_icmp .ne 23, 3) := by decide +kernel
theorem d_M_expression_98 : decode b_M_expression 98 = .ok (.aload_n 0, 1) := by decide +kernel
theorem d_M_expression_99 : decode b_M_expression 99 = .ok (.invokevirtual 305, 3) := by decide +kernel
theorem d_M_expression_102 : decode b_M_expression 102 = .ok (.aload_n 0, 1) := by decide +kernel
theorem d_M_expression_103 : decode b_M_expression 103 = .ok (.iconst 5, 1) := by decide +kernel
theorem d_M_expression_104 : decode b_M_expression 104 = .ok (.iload_n 2, 1) := by decide +kernel
theorem d_M_expression_105 : decode b_M_expression 105 = .ok (.aload_n 0, 1) := by decide +kernel
theorem d_M_expression_106 : decode b_M_expression 106 = .ok (.aload_n 0, 1) := by decide +kernel
theorem d_M_expression_107 : decode b_M_expression 107 = .ok (.iload_n 1, 1) := by decide +kernel
theorem d_M_expression_108 : decode b_M_expression 108 = .ok (.invokevirtual 424, 3) := by decide +kernel
theorem d_M_expression_111 : decode b_M_expression 111 = .ok (.invokevirtual 409, 3) := by decide +kernel
theorem d_M_expression_114 : decode b_M_expression 114 = .ok (.invokevirtual 430, 3) := by decide +kernel
theorem d_M_expression_117 : decode b_M_expression 117 = .ok (.ireturn, 1) := by decide +kernel
theorem d_M_expression_118 : decode b_M_expression 118 = .ok (.aload_n 0, 1) := by decide +kernel
theorem d_M_expression_119 : decode b_M_expression 119 = .ok (.ldc_w 355, 3) := by decide +kernel
theorem d_M_expression_122 : decode b_M_expression 122 = .ok (.invokevirtual 317, 3) := by decide +kernel
theorem d_M_expression_125 : decode b_M_expression 125 = .ok (.ifCond .eq 24, 3) := by decide +kernel
theorem d_M_expression_128 : decode b_M_expression 128 = .ok (.aload_n 0, 1) := by decide +kernel
theorem d_M_expression_129 : decode b_M_expression 129 = .ok (.invokevirtual 305, 3) := by decide +kernel
theorem d_M_expression_132 : decode b_M_expression 132 = .ok (.aload_n 0, 1) := by decide +kernel
theorem d_M_expression_133 : decode b_M_expression 133 = .ok (.bipush 6, 2) := by decide +kernel
theorem d_M_expression_135 : decode b_M_expression 135 = .ok (.iload_n 2, 1) := by decide +kernel
theorem d_M_expression_136 : decode b_M_expression 136 = .ok (.aload_n 0, 1) := by decide +kernel
theorem d_M_expression_137 : decode b_M_expression 137 = .ok (.aload_n 0, 1) := by decide +kernel
theorem d_M_expression_138 : decode b_M_expression 138 = .ok (.iload_n 1, 1) := by decide +kernel
theorem d_M_expression_139 : decode b_M_expression 139 = .ok (.invokevirtual 424, 3) := by decide +kernel
theorem d_M_expression_142 : decode b_M_expression 142 = .ok (.invokevirtual 409, 3) := by decide +kernel
theorem d_M_expression_145 : decode b_M_expression 145 = .ok (.invokevirtual 430, 3) := by decide +kernel
theorem d_M_expression_148 : decode b_M_expression 148 = .ok (.ireturn, 1) := by decide +kernel
theorem d_M_expression_149 : decode b_M_expression 149 = .ok (.iload_n 2, 1) := by decide +kernel
theorem d_M_expression_150 : decode b_M_expression 150 = .ok (.ireturn, 1) := by decide +kernel
abbrev mt_M_expression : MT := (R_M, b_M_expression, 3, some .int)
theorem vf_M_expression : VF y_M_expression mt_M_expression 12 1 := ⟨im_M_expression, se_M_expression, in_M, co_M_expression, by decide +kernel, _, _, rfl⟩
theorem d_M_implied_0 : decode b_M_implied 0 = .ok (.aload_n 0, 1) := by decide +kernel
theorem d_M_implied_1 : decode b_M_implied 1 = .ok (.iload_n 1, 1) := by decide +kernel
theorem d_M_implied_2 : decode b_M_implied 2 = .ok (.invokevirtual 434, 3) := by decide +kernel
theorem d_M_implied_5 : decode b_M_implied 5 = .ok (.istore_n 2, 1) := by decide +kernel
theorem d_M_implied_6 : decode b_M_implied 6 = .ok (.aload_n 0, 1) := by decide +kernel
theorem d_M_implied_7 : decode b_M_implied 7 = .ok (.invokevirtual 292, 3) := by decide +kernel
theorem d_M_implied_10 : decode b_M_implied 10 = .ok (.sipush 304, 3) := by decide +kernel
theorem d_M_implied_13 : decode b_M_implied 13 = .ok (.if_icmp .eq 5, 3) := by decide +kernel
theorem d_M_implied_16 : decode b_M_implied 16 = .ok (.iload_n 2, 1) := by decide +kernel
theorem d_M_implied_17 : decode b_M_implied 17 = .ok (.ireturn, 1) := by decide +kernel
theorem d_M_implied_18 : decode b_M_implied 18 = .ok (.aload_n 0, 1) := by decide +kernel
theorem d_M_implied_19 : decode b_M_implied 19 = .ok (.invokevirtual 305, 3) := by decide +kernel
theorem d_M_implied_22 : decode b_M_implied 22 = .ok (.aload_n 0, 1) := by decide +kernel
theorem d_M_implied_23 : decode b_M_implied 23 = .ok (.bipush 7, 2) := by decide +kernel
theorem d_M_implied_25 : decode b_M_implied 25 = .ok (.iload_n 2, 1) := by decide +kernel
theorem d_M_implied_26 : decode b_M_implied 26 = .ok (.aload_n 0, 1) := by decide +kernel
theorem d_M_implied_27 : decode b_M_implied 27 = .ok (.aload_n 0, 1) := by decide +kernel
theorem d_M_implied_28 : decode b_M_implied 28 = .ok (.iload_n 1, 1) := by decide +kernel
theorem d_M_implied_29 : decode b_M_implied 29 = .ok (.invokevirtual 424, 3) := by decide +kernel
theorem d_M_implied_32 : decode b_M_implied 32 = .ok (.invokevirtual 427, 3) := by decide +kernel
theorem d_M_implied_35 : decode b_M_implied 35 = .ok (.invokevirtual 430, 3) := by decide +kernel
theorem d_M_implied_38 : decode b_M_implied 38 = .ok (.ireturn, 1) := by decide +kernel
abbrev mt_M_implied : MT := (R_M, b_M_implied, 3, some .int)
theorem vf_M_implied : VF y_M_implied mt_M_implied 12 1 := ⟨im_M_implied, se_M_implied, in_M, co_M_implied, by decide +kernel, _, _, rfl⟩
theorem d_M_either_0 : decode b_M_either 0 = .ok (.aload_n 0, 1) := by decide +kernel
theorem d_M_either_1 : decode b_M_either 1 = .ok (.iload_n 1, 1) := by decide +kernel
theorem d_M_either_2 : decode b_M_either 2 = .ok (.invokevirtual 437, 3) := by decide +kernel
theorem d_M_either_5 : decode b_M_either 5 = .ok (.istore_n 2, 1) := by decide +kernel
theorem d_M_either_6 : decode b_M_either 6 = .ok (.aload_n 0, 1) := by decide +kernel
theorem d_M_either_7 : decode b_M_either 7 = .ok (.ldc_w 341, 3) := by decide +kernel
theorem d_M_either_10 : decode b_M_either 10 = .ok (.invokevirtual 317, 3) := by decide +kernel
theorem d_M_either_13 : decode b_M_either 13 = .ok (.ifCond .ne 13, 3) := by decide +kernel
theorem d_M_either_16 : decode b_M_either 16 = .ok (.aload_n 0, 1) := by decide +kernel
theorem d_M_either_17 : decode b_M_either 17 = .ok (.ldc_w 343, 3) := by decide +kernel
theorem d_M_either_20 : decode b_M_either 20 = .ok (.invokevirtual 317, 3) := by decide +kernel
theorem d_M_either_23 : decode b_M_either 23 = .ok (.ifCond .eq 44, 3) := by decide +kernel
theorem d_M_either_26 : decode b_M_either 26 = .ok (.aload_n 0, 1) := by decide +kernel
theorem d_M_either_27 : decode b_M_either 27 = .ok (.ldc_w 341, 3) := by decide +kernel
theorem d_M_either_30 : decode b_M_either 30 = .ok (.invokevirtual 317, 3) := by decide +kernel
theorem d_M_either_33 : decode b_M_either 33 = .ok (.ifCond .eq 8, 3) := by decide +kernel
theorem d_M_either_36 : decode b_M_either 36 = .ok (.bipush 8, 2) := by decide +kernel
theorem d_M_either_38 : decode b_M_either 38 = .ok (.goto 5, 3) := by decide +kernel
theorem d_M_either_41 : decode b_M_either 41 = .ok (.bipush 9, 2) := by decide +kernel
theorem d_M_either_43 : decode b_M_either 43 = .ok (.istore_n 3, 1) := by decide +kernel
theorem d_M_either_44 : decode b_M_either 44 = .ok (.aload_n 0, 1) := by decide +kernel
theorem d_M_either_45 : decode b_M_either 45 = .ok (.invokevirtual 305, 3) := by decide +kernel
theorem d_M_either_48 : decode b_M_either 48 = .ok (.aload_n 0, 1) := by decide +kernel
theorem d_M_either_49 : decode b_M_either 49 = .ok (.iload_n 1, 1) := by decide +kernel
theorem d_M_either_50 : decode b_M_either 50 = .ok (.invokevirtual 437, 3) := by decide +kernel
theorem d_M_either_53 : decode b_M_either 53 = .ok (.istore 4, 2) := by decide +kernel
theorem d_M_either_55 : decode b_M_either 55 = .ok (.aload_n 0, 1) := by decide +kernel
theorem d_M_either_56 : decode b_M_either 56 = .ok (.iload_n 3, 1) := by decide +kernel
theorem d_M_either_57 : decode b_M_either 57 = .ok (.iload_n 2, 1) := by decide +kernel
theorem d_M_either_58 : decode b_M_either 58 = .ok (.iload 4, 2) := by decide +kernel
theorem d_M_either_60 : decode b_M_either 60 = .ok (.invokevirtual 430, 3) := by decide +kernel
theorem d_M_either_63 : decode b_M_either 63 = .ok (.istore_n 2, 1) := by decide +kernel
theorem d_M_either_64 : decode b_M_either 64 = .ok (.goto (-58), 3) := by decide +kernel
theorem d_M_either_67 : decode b_M_either 67 = .ok (.iload_n 2, 1) := by decide +kernel
theorem d_M_either_68 : decode b_M_either 68 = .ok (.ireturn, 1) := by decide +kernel
abbrev mt_M_either : MT := (R_M, b_M_either, 5, some .int)
theorem vf_M_either : VF y_M_either mt_M_either 12 1 := ⟨im_M_either, se_M_either, in_M, co_M_either, by decide +kernel, _, _, rfl⟩
theorem d_M_both_0 : decode b_M_both 0 = .ok (.aload_n 0, 1) := by decide +kernel
theorem d_M_both_1 : decode b_M_both 1 = .ok (.iload_n 1, 1) := by decide +kernel
theorem d_M_both_2 : decode b_M_both 2 = .ok (.invokevirtual 440, 3) := by decide +kernel
theorem d_M_both_5 : decode b_M_both 5 = .ok (.istore_n 2, 1) := by decide +kernel
theorem d_M_both_6 : decode b_M_both 6 = .ok (.aload_n 0, 1) := by decide +kernel
theorem d_M_both_7 : decode b_M_both 7 = .ok (.ldc_w 339, 3) := by decide +kernel
theorem d_M_both_10 : decode b_M_both 10 = .ok (.invokevirtual 317, 3) := by decide +kernel
theorem d_M_both_13 : decode b_M_both 13 = .ok (.ifCond .eq 25, 3) := by decide +kernel
theorem d_M_both_16 : decode b_M_both 16 = .ok (.aload_n 0, 1) := by decide +kernel
theorem d_M_both_17 : decode b_M_both 17 = .ok (.invokevirtual 305, 3) := by decide +kernel
theorem d_M_both_20 : decode b_M_both 20 = .ok (.aload_n 0, 1) := by decide +kernel
theorem d_M_both_21 : decode b_M_both 21 = .ok (.iload_n 1, 1) := by decide +kernel
theorem d_M_both_22 : decode b_M_both 22 = .ok (.invokevirtual 440, 3) := by decide +kernel
theorem d_M_both_25 : decode b_M_both 25 = .ok (.istore_n 3, 1) := by decide +kernel
theorem d_M_both_26 : decode b_M_both 26 = .ok (.aload_n 0, 1) := by decide +kernel
theorem d_M_both_27 : decode b_M_both 27 = .ok (.bipush 10, 2) := by decide +kernel
theorem d_M_both_29 : decode b_M_both 29 = .ok (.iload_n 2, 1) := by decide +kernel
theorem d_M_both_30 : decode b_M_both 30 = .ok (.iload_n 3, 1) := by decide +kernel
theorem d_M_both_31 : decode b_M_both 31 = .ok (.invokevirtual 430, 3) := by decide +kernel
theorem d_M_both_34 : decode b_M_both 34 = .ok (.istore_n 2, 1) := by decide +kernel
theorem d_M_both_35 : decode b_M_both 35 = .ok (.goto (-29), 3) := by decide +kernel
theorem d_M_both_38 : decode b_M_both 38 = .ok (.iload_n 2, 1) := by decide +kernel
theorem d_M_both_39 : decode b_M_both 39 = .ok (.ireturn, 1) := by decide +kernel
abbrev mt_M_both : MT := (R_M, b_M_both, 4, some .int)
theorem vf_M_both : VF y_M_both mt_M_both 12 1 := ⟨im_M_both, se_M_both, in_M, co_M_both, by decide +kernel, _, _, rfl⟩
theorem d_M_compared_0 : decode b_M_compared 0 = .ok (.aload_n 0, 1) := by decide +kernel
theorem d_M_compared_1 : decode b_M_compared 1 = .ok (.iload_n 1, 1) := by decide +kernel
theorem d_M_compared_2 : decode b_M_compared 2 = .ok (.invokevirtual 443, 3) := by decide +kernel
theorem d_M_compared_5 : decode b_M_compared 5 = .ok (.istore_n 2, 1) := by decide +kernel
theorem d_M_compared_6 : decode b_M_compared 6 = .ok (.aload_n 0, 1) := by decide +kernel
theorem d_M_compared_7 : decode b_M_compared 7 = .ok (.invokevirtual 292, 3) := by decide +kernel
theorem d_M_compared_10 : decode b_M_compared 10 = .ok (.istore_n 3, 1) := by decide +kernel
theorem d_M_compared_11 : decode b_M_compared 11 = .ok (.iload_n 3, 1) := by decide +kernel
theorem d_M_compared_12 : decode b_M_compared 12 = .ok (.bipush 61, 2) := by decide +kernel
theorem d_M_compared_14 : decode b_M_compared 14 = .ok (.if_icmp .ne 8, 3) := by decide +kernel
theorem d_M_compared_17 : decode b_M_compared 17 = .ok (.bipush 11, 2) := by decide +kernel
theorem d_M_compared_19 : decode b_M_compared 19 = .ok (.goto 62, 3) := by decide +kernel
theorem d_M_compared_22 : decode b_M_compared 22 = .ok (.iload_n 3, 1) := by decide +kernel
theorem d_M_compared_23 : decode b_M_compared 23 = .ok (.sipush 300, 3) := by decide +kernel
theorem d_M_compared_26 : decode b_M_compared 26 = .ok (.if_icmp .ne 8, 3) := by decide +kernel
theorem d_M_compared_29 : decode b_M_compared 29 = .ok (.bipush 12, 2) := by decide +kernel
theorem d_M_compared_31 : decode b_M_compared 31 = .ok (.goto 50, 3) := by decide +kernel
theorem d_M_compared_34 : decode b_M_compared 34 = .ok (.iload_n 3, 1) := by decide +kernel
theorem d_M_compared_35 : decode b_M_compared 35 = .ok (.bipush 60, 2) := by decide +kernel
theorem d_M_compared_37 : decode b_M_compared 37 = .ok (.if_icmp .ne 8, 3) := by decide +kernel
theorem d_M_compared_40 : decode b_M_compared 40 = .ok (.bipush 13, 2) := by decide +kernel
theorem d_M_compared_42 : decode b_M_compared 42 = .ok (.goto 39, 3) := by decide +kernel
theorem d_M_compared_45 : decode b_M_compared 45 = .ok (.iload_n 3, 1) := by decide +kernel
theorem d_M_compared_46 : decode b_M_compared 46 = .ok (.sipush 301, 3) := by decide +kernel
theorem d_M_compared_49 : decode b_M_compared 49 = .ok (.if_icmp .ne 8, 3) := by decide +kernel
theorem d_M_compared_52 : decode b_M_compared 52 = .ok (.bipush 14, 2) := by decide +kernel
theorem d_M_compared_54 : decode b_M_compared 54 = .ok (.goto 27, 3) := by decide +kernel
theorem d_M_compared_57 : decode b_M_compared 57 = .ok (.iload_n 3, 1) := by decide +kernel
theorem d_M_compared_58 : decode b_M_compared 58 = .ok (.bipush 62, 2) := by decide +kernel
theorem d_M_compared_60 : decode b_M_compared 60 = .ok (.if_icmp .ne 8, 3) := by decide +kernel
theorem d_M_compared_63 : decode b_M_compared 63 = .ok (.bipush 15, 2) := by decide +kernel
theorem d_M_compared_65 : decode b_M_compared 65 = .ok (.goto 16, 3) := by decide +kernel
theorem d_M_compared_68 : decode b_M_compared 68 = .ok (.iload_n 3, 1) := by decide +kernel
theorem d_M_compared_69 : decode b_M_compared 69 = .ok (.sipush 302, 3) := by decide +kernel
theorem d_M_compared_72 : decode b_M_compared 72 = .ok (.if_icmp .ne 8, 3) := by decide +kernel
theorem d_M_compared_75 : decode b_M_compared 75 = .ok (.bipush 16, 2) := by decide +kernel
theorem d_M_compared_77 : decode b_M_compared 77 = .ok (.goto 4, 3) := by decide +kernel
theorem d_M_compared_80 : decode b_M_compared 80 = .ok (.iconst 0, 1) := by decide +kernel
theorem d_M_compared_81 : decode b_M_compared 81 = .ok (.istore 4, 2) := by decide +kernel
theorem d_M_compared_83 : decode b_M_compared 83 = .ok (.iload 4, 2) := by decide +kernel
theorem d_M_compared_85 : decode b_M_compared 85 = .ok (.ifCond .ne 5, 3) := by decide +kernel
theorem d_M_compared_88 : decode b_M_compared 88 = .ok (.iload_n 2, 1) := by decide +kernel
theorem d_M_compared_89 : decode b_M_compared 89 = .ok (.ireturn, 1) := by decide +kernel
theorem d_M_compared_90 : decode b_M_compared 90 = .ok (.aload_n 0, 1) := by decide +kernel
theorem d_M_compared_91 : decode b_M_compared 91 = .ok (.invokevirtual 305, 3) := by decide +kernel
theorem d_M_compared_94 : decode b_M_compared 94 = .ok (.aload_n 0, 1) := by decide +kernel
theorem d_M_compared_95 : decode b_M_compared 95 = .ok (.iload_n 1, 1) := by decide +kernel
theorem d_M_compared_96 : decode b_M_compared 96 = .ok (.invokevirtual 443, 3) := by decide +kernel
theorem d_M_compared_99 : decode b_M_compared 99 = .ok (.istore 5, 2) := by decide +kernel
theorem d_M_compared_101 : decode b_M_compared 101 = .ok (.aload_n 0, 1) := by decide +kernel
theorem d_M_compared_102 : decode b_M_compared 102 = .ok (.iload 4, 2) := by decide +kernel
theorem d_M_compared_104 : decode b_M_compared 104 = .ok (.iload_n 2, 1) := by decide +kernel
theorem d_M_compared_105 : decode b_M_compared 105 = .ok (.iload 5, 2) := by decide +kernel
theorem d_M_compared_107 : decode b_M_compared 107 = .ok (.invokevirtual 430, 3) := by decide +kernel
theorem d_M_compared_110 : decode b_M_compared 110 = .ok (.ireturn, 1) := by decide +kernel
abbrev mt_M_compared : MT := (R_M, b_M_compared, 6, some .int)
theorem vf_M_compared : VF y_M_compared mt_M_compared 12 1 := ⟨im_M_compared, se_M_compared, in_M, co_M_compared, by decide +kernel, _, _, rfl⟩
theorem d_M_sum_0 : decode b_M_sum 0 = .ok (.aload_n 0, 1) := by decide +kernel
theorem d_M_sum_1 : decode b_M_sum 1 = .ok (.iload_n 1, 1) := by decide +kernel
theorem d_M_sum_2 : decode b_M_sum 2 = .ok (.invokevirtual 446, 3) := by decide +kernel
theorem d_M_sum_5 : decode b_M_sum 5 = .ok (.istore_n 2, 1) := by decide +kernel
theorem d_M_sum_6 : decode b_M_sum 6 = .ok (.aload_n 0, 1) := by decide +kernel
theorem d_M_sum_7 : decode b_M_sum 7 = .ok (.invokevirtual 292, 3) := by decide +kernel
theorem d_M_sum_10 : decode b_M_sum 10 = .ok (.bipush 43, 2) := by decide +kernel
theorem d_M_sum_12 : decode b_M_sum 12 = .ok (.if_icmp .eq 12, 3) := by decide +kernel
theorem d_M_sum_15 : decode b_M_sum 15 = .ok (.aload_n 0, 1) := by decide +kernel
theorem d_M_sum_16 : decode b_M_sum 16 = .ok (.invokevirtual 292, 3) := by decide +kernel
theorem d_M_sum_19 : decode b_M_sum 19 = .ok (.bipush 45, 2) := by decide +kernel
theorem d_M_sum_21 : decode b_M_sum 21 = .ok (.if_icmp .ne 43, 3) := by decide +kernel
theorem d_M_sum_24 : decode b_M_sum 24 = .ok (.aload_n 0, 1) := by decide +kernel
theorem d_M_sum_25 : decode b_M_sum 25 = .ok (.invokevirtual 292, 3) := by decide +kernel
theorem d_M_sum_28 : decode b_M_sum 28 = .ok (.bipush 43, 2) := by decide +kernel
theorem d_M_sum_30 : decode b_M_sum 30 = .ok (.if_icmp .ne 8, 3) := by decide +kernel
theorem d_M_sum_33 : decode b_M_sum 33 = .ok (.bipush 17, 2) := by decide +kernel
theorem d_M_sum_35 : decode b_M_sum 35 = .ok (.goto 5, 3) := by decide +kernel
theorem d_M_sum_38 : decode b_M_sum 38 = .ok (.bipush 18, 2) := by decide +kernel
theorem d_M_sum_40 : decode b_M_sum 40 = .ok (.istore_n 3, 1) := by decide +kernel
theorem d_M_sum_41 : decode b_M_sum 41 = .ok (.aload_n 0, 1) := by decide +kernel
theorem d_M_sum_42 : decode b_M_sum 42 = .ok (.invokevirtual 305, 3) := by decide +kernel
theorem d_M_sum_45 : decode b_M_sum 45 = .ok (.aload_n 0, 1) := by decide +kernel
theorem d_M_sum_46 : decode b_M_sum 46 = .ok (.iload_n 1, 1) := by decide +kernel
theorem d_M_sum_47 : decode b_M_sum 47 = .ok (.invokevirtual 446, 3) := by decide +kernel
theorem d_M_sum_50 : decode b_M_sum 50 = .ok (.istore 4, 2) := by decide +kernel
theorem d_M_sum_52 : decode b_M_sum 52 = .ok (.aload_n 0, 1) := by decide +kernel
theorem d_M_sum_53 : decode b_M_sum 53 = .ok (.iload_n 3, 1) := by decide +kernel
theorem d_M_sum_54 : decode b_M_sum 54 = .ok (.iload_n 2, 1) := by decide +kernel
theorem d_M_sum_55 : decode b_M_sum 55 = .ok (.iload 4, 2) := by decide +kernel
theorem d_M_sum_57 : decode b_M_sum 57 = .ok (.invokevirtual 430, 3) := by decide +kernel
theorem d_M_sum_60 : decode b_M_sum 60 = .ok (.istore_n 2, 1) := by decide +kernel
theorem d_M_sum_61 : decode b_M_sum 61 = .ok (.goto (-55), 3) := by decide +kernel
theorem d_M_sum_64 : decode b_M_sum 64 = .ok (.iload_n 2, 1) := by decide +kernel
theorem d_M_sum_65 : decode b_M_sum 65 = .ok (.ireturn, 1) := by decide +kernel
abbrev mt_M_sum : MT := (R_M, b_M_sum, 5, some .int)
theorem vf_M_sum : VF y_M_sum mt_M_sum 12 1 := ⟨im_M_sum, se_M_sum, in_M, co_M_sum, by decide +kernel, _, _, rfl⟩
theorem d_M_product_0 : decode b_M_product 0 = .ok (.aload_n 0, 1) := by decide +kernel
theorem d_M_product_1 : decode b_M_product 1 = .ok (.iload_n 1, 1) := by decide +kernel
theorem d_M_product_2 : decode b_M_product 2 = .ok (.invokevirtual 449, 3) := by decide +kernel
theorem d_M_product_5 : decode b_M_product 5 = .ok (.istore_n 2, 1) := by decide +kernel
theorem d_M_product_6 : decode b_M_product 6 = .ok (.aload_n 0, 1) := by decide +kernel
theorem d_M_product_7 : decode b_M_product 7 = .ok (.invokevirtual 292, 3) := by decide +kernel
theorem d_M_product_10 : decode b_M_product 10 = .ok (.bipush 42, 2) := by decide +kernel
theorem d_M_product_12 : decode b_M_product 12 = .ok (.if_icmp .eq 23, 3) := by decide +kernel
theorem d_M_product_15 : decode b_M_product 15 = .ok (.aload_n 0, 1) := by decide +kernel
theorem d_M_product_16 : decode b_M_product 16 = .ok (.ldc_w 357, 3) := by decide +kernel
theorem d_M_product_19 : decode b_M_product 19 = .ok (.invokevirtual 317, 3) := by decide +kernel
theorem d_M_product_22 : decode b_M_product 22 = .ok (.ifCond .ne 13, 3) := by decide +kernel
theorem d_M_product_25 : decode b_M_product 25 = .ok (.aload_n 0, 1) := by decide +kernel
theorem d_M_product_26 : decode b_M_product 26 = .ok (.ldc_w 359, 3) := by decide +kernel
theorem d_M_product_29 : decode b_M_product 29 = .ok (.invokevirtual 317, 3) := by decide +kernel
theorem d_M_product_32 : decode b_M_product 32 = .ok (.ifCond .eq 58, 3) := by decide +kernel
theorem d_M_product_35 : decode b_M_product 35 = .ok (.aload_n 0, 1) := by decide +kernel
theorem d_M_product_36 : decode b_M_product 36 = .ok (.invokevirtual 292, 3) := by decide +kernel
theorem d_M_product_39 : decode b_M_product 39 = .ok (.bipush 42, 2) := by decide +kernel
theorem d_M_product_41 : decode b_M_product 41 = .ok (.if_icmp .ne 8, 3) := by decide +kernel
theorem d_M_product_44 : decode b_M_product 44 = .ok (.bipush 19, 2) := by decide +kernel
theorem d_M_product_46 : decode b_M_product 46 = .ok (.goto 20, 3) := by decide +kernel
theorem d_M_product_49 : decode b_M_product 49 = .ok (.aload_n 0, 1) := by decide +kernel
theorem d_M_product_50 : decode b_M_product 50 = .ok (.ldc_w 357, 3) := by decide +kernel
theorem d_M_product_53 : decode b_M_product 53 = .ok (.invokevirtual 317, 3) := by decide +kernel
theorem d_M_product_56 : decode b_M_product 56 = .ok (.ifCond .eq 8, 3) := by decide +kernel
theorem d_M_product_59 : decode b_M_product 59 = .ok (.bipush 20, 2) := by decide +kernel
theorem d_M_product_61 : decode b_M_product 61 = .ok (.goto 5, 3) := by decide +kernel
theorem d_M_product_64 : decode b_M_product 64 = .ok (.bipush 21, 2) := by decide +kernel
theorem d_M_product_66 : decode b_M_product 66 = .ok (.istore_n 3, 1) := by decide +kernel
theorem d_M_product_67 : decode b_M_product 67 = .ok (.aload_n 0, 1) := by decide +kernel
theorem d_M_product_68 : decode b_M_product 68 = .ok (.invokevirtual 305, 3) := by decide +kernel
theorem d_M_product_71 : decode b_M_product 71 = .ok (.aload_n 0, 1) := by decide +kernel
theorem d_M_product_72 : decode b_M_product 72 = .ok (.iload_n 1, 1) := by decide +kernel
theorem d_M_product_73 : decode b_M_product 73 = .ok (.invokevirtual 449, 3) := by decide +kernel
theorem d_M_product_76 : decode b_M_product 76 = .ok (.istore 4, 2) := by decide +kernel
theorem d_M_product_78 : decode b_M_product 78 = .ok (.aload_n 0, 1) := by decide +kernel
theorem d_M_product_79 : decode b_M_product 79 = .ok (.iload_n 3, 1) := by decide +kernel
theorem d_M_product_80 : decode b_M_product 80 = .ok (.iload_n 2, 1) := by decide +kernel
theorem d_M_product_81 : decode b_M_product 81 = .ok (.iload 4, 2) := by decide +kernel
theorem d_M_product_83 : decode b_M_product 83 = .ok (.invokevirtual 430, 3) := by decide +kernel
theorem d_M_product_86 : decode b_M_product 86 = .ok (.istore_n 2, 1) := by decide +kernel
theorem d_M_product_87 : decode b_M_product 87 = .ok (.goto (-81), 3) := by decide +kernel
theorem d_M_product_90 : decode b_M_product 90 = .ok (.iload_n 2, 1) := by decide +kernel
theorem d_M_product_91 : decode b_M_product 91 = .ok (.ireturn, 1) := by decide +kernel
abbrev mt_M_product : MT := (R_M, b_M_product, 5, some .int)
theorem vf_M_product : VF y_M_product mt_M_product 12 1 := ⟨im_M_product, se_M_product, in_M, co_M_product, by decide +kernel, _, _, rfl⟩
theorem d_M_unary_0 : decode b_M_unary 0 = .ok (.aload_n 0, 1) := by decide +kernel
theorem d_M_unary_1 : decode b_M_unary 1 = .ok (.invokevirtual 292, 3) := by decide +kernel
theorem d_M_unary_4 : decode b_M_unary 4 = .ok (.bipush 45, 2) := by decide +kernel
theorem d_M_unary_6 : decode b_M_unary 6 = .ok (.if_icmp .ne 8, 3) := by decide +kernel
theorem d_M_unary_9 : decode b_M_unary 9 = .ok (.bipush 22, 2) := by decide +kernel
theorem d_M_unary_11 : decode b_M_unary 11 = .ok (.goto 49, 3) := by decide +kernel
theorem d_M_unary_14 : decode b_M_unary 14 = .ok (.aload_n 0, 1) := by decide +kernel
theorem d_M_unary_15 : decode b_M_unary 15 = .ok (.ldc_w 337, 3) := by decide +kernel
theorem d_M_unary_18 : decode b_M_unary 18 = .ok (.invokevirtual 317, 3) := by decide +kernel
theorem d_M_unary_21 : decode b_M_unary 21 = .ok (.ifCond .eq 8, 3) := by decide +kernel
theorem d_M_unary_24 : decode b_M_unary 24 = .ok (.bipush 23, 2) := by decide +kernel
theorem d_M_unary_26 : decode b_M_unary 26 = .ok (.goto 34, 3) := by decide +kernel
theorem d_M_unary_29 : decode b_M_unary 29 = .ok (.aload_n 0, 1) := by decide +kernel
theorem d_M_unary_30 : decode b_M_unary 30 = .ok (.ldc_w 351, 3) := by decide +kernel
theorem d_M_unary_33 : decode b_M_unary 33 = .ok (.invokevirtual 317, 3) := by decide +kernel
theorem d_M_unary_36 : decode b_M_unary 36 = .ok (.ifCond .eq 8, 3) := by decide +kernel
theorem d_M_unary_39 : decode b_M_unary 39 = .ok (.bipush 24, 2) := by decide +kernel
theorem d_M_unary_41 : decode b_M_unary 41 = .ok (.goto 19, 3) := by decide +kernel
theorem d_M_unary_44 : decode b_M_unary 44 = .ok (.aload_n 0, 1) := by decide +kernel
theorem d_M_unary_45 : decode b_M_unary 45 = .ok (.ldc_w 353, 3) := by decide +kernel
theorem d_M_unary_48 : decode b_M_unary 48 = .ok (.invokevirtual 317, 3) := by decide +kernel
theorem d_M_unary_51 : decode b_M_unary 51 = .ok (.ifCond .eq 8, 3) := by decide +kernel
theorem d_M_unary_54 : decode b_M_unary 54 = .ok (.bipush 25, 2) := by decide +kernel
theorem d_M_unary_56 : decode b_M_unary 56 = .ok (.goto 4, 3) := by decide +kernel
theorem d_M_unary_59 : decode b_M_unary 59 = .ok (.iconst 0, 1) := by decide +kernel
theorem d_M_unary_60 : decode b_M_unary 60 = .ok (.istore_n 2, 1) := by decide +kernel
theorem d_M_unary_61 : decode b_M_unary 61 = .ok (.iload_n 2, 1) := by decide +kernel
theorem d_M_unary_62 : decode b_M_unary 62 = .ok (.ifCond .le 24, 3) := by decide +kernel
theorem d_M_unary_65 : decode b_M_unary 65 = .ok (.aload_n 0, 1) := by decide +kernel
theorem d_M_unary_66 : decode b_M_unary 66 = .ok (.invokevirtual 305, 3) := by decide +kernel
theorem d_M_unary_69 : decode b_M_unary 69 = .ok (.aload_n 0, 1) := by decide +kernel
theorem d_M_unary_70 : decode b_M_unary 70 = .ok (.iload_n 2, 1) := by decide +kernel
theorem d_M_unary_71 : decode b_M_unary 71 = .ok (.iconst 0, 1) := by decide +kernel
theorem d_M_unary_72 : decode b_M_unary 72 = .ok (.aload_n 0, 1) := by decide +kernel
theorem d_M_unary_73 : decode b_M_unary 73 = .ok (.aload_n 0, 1) := by decide +kernel
theorem d_M_unary_74 : decode b_M_unary 74 = .ok (.iload_n 1, 1) := by decide +kernel
theorem d_M_unary_75 : decode b_M_unary 75 = .ok (.invokevirtual 424, 3) := by decide +kernel
theorem d_M_unary_78 : decode b_M_unary 78 = .ok (.invokevirtual 449, 3) := by decide +kernel
theorem d_M_unary_81 : decode b_M_unary 81 = .ok (.iconst 1, 1) := by decide +kernel
theorem d_M_unary_82 : decode b_M_unary 82 = .ok (.invokevirtual 420, 3) := by decide +kernel
theorem d_M_unary_85 : decode b_M_unary 85 = .ok (.ireturn, 1) := by decide +kernel
theorem d_M_unary_86 : decode b_M_unary 86 = .ok (.aload_n 0, 1) := by decide +kernel
theorem d_M_unary_87 : decode b_M_unary 87 = .ok (.iload_n 1, 1) := by decide +kernel
theorem d_M_unary_88 : decode b_M_unary 88 = .ok (.invokevirtual 452, 3) := by decide +kernel
theorem d_M_unary_91 : decode b_M_unary 91 = .ok (.istore_n 3, 1) := by decide +kernel
theorem d_M_unary_92 : decode b_M_unary 92 = .ok (.aload_n 0, 1) := by decide +kernel
theorem d_M_unary_93 : decode b_M_unary 93 = .ok (.ldc_w 335, 3) := by decide +kernel
theorem d_M_unary_96 : decode b_M_unary 96 = .ok (.invokevirtual 317, 3) := by decide +kernel
theorem d_M_unary_99 : decode b_M_unary 99 = .ok (.ifCond .eq 122, 3) := by decide +kernel
theorem d_M_unary_102 : decode b_M_unary 102 = .ok (.aload_n 0, 1) := by decide +kernel
theorem d_M_unary_103 : decode b_M_unary 103 = .ok (.invokevirtual 305, 3) := by decide +kernel
theorem d_M_unary_106 : decode b_M_unary 106 = .ok (.aload_n 0, 1) := by decide +kernel
theorem d_M_unary_107 : decode b_M_unary 107 = .ok (.ldc_w 337, 3) := by decide +kernel
theorem d_M_unary_110 : decode b_M_unary 110 = .ok (.invokevirtual 317, 3) := by decide +kernel
theorem d_M_unary_113 : decode b_M_unary 113 = .ok (.istore 4, 2) := by decide +kernel
theorem d_M_unary_115 : decode b_M_unary 115 = .ok (.iload 4, 2) := by decide +kernel
theorem d_M_unary_117 : decode b_M_unary 117 = .ok (.ifCond .eq 7, 3) := by decide +kernel
theorem d_M_unary_120 : decode b_M_unary 120 = .ok (.aload_n 0, 1) := by decide +kernel
theorem d_M_unary_121 : decode b_M_unary 121 = .ok (.invokevirtual 305, 3) := by decide +kernel
theorem d_M_unary_124 : decode b_M_unary 124 = .ok (.aload_n 0, 1) := by decide +kernel
theorem d_M_unary_125 : decode b_M_unary 125 = .ok (.invokevirtual 373, 3) := by decide +kernel
theorem d_M_unary_128 : decode b_M_unary 128 = .ok (.ifCond .ne 8, 3) := by decide +kernel
theorem d_M_unary_131 : decode b_M_unary 131 = .ok (.aload_n 0, 1) := by decide +kernel
theorem d_M_unary_132 : decode b_M_unary 132 = .ok (.invokevirtual 301, 3) := by decide +kernel
theorem d_M_unary_135 : decode b_M_unary 135 = .ok (.athrow, 1) := by decide +kernel
theorem d_M_unary_136 : decode b_M_unary 136 = .ok (.aload_n 0, 1) := by decide +kernel
theorem d_M_unary_137 : decode b_M_unary 137 = .ok (.aload_n 0, 1) := by decide +kernel
theorem d_M_unary_138 : decode b_M_unary 138 = .ok (.getfield 71, 3) := by decide +kernel
theorem d_M_unary_141 : decode b_M_unary 141 = .ok (.invokevirtual 376, 3) := by decide +kernel
theorem d_M_unary_144 : decode b_M_unary 144 = .ok (.istore 5, 2) := by decide +kernel
theorem d_M_unary_146 : decode b_M_unary 146 = .ok (.iload 5, 2) := by decide +kernel
theorem d_M_unary_148 : decode b_M_unary 148 = .ok (.ifCond .lt 13, 3) := by decide +kernel
theorem d_M_unary_151 : decode b_M_unary 151 = .ok (.aload_n 0, 1) := by decide +kernel
theorem d_M_unary_152 : decode b_M_unary 152 = .ok (.getfield 86, 3) := by decide +kernel
theorem d_M_unary_155 : decode b_M_unary 155 = .ok (.iload 5, 2) := by decide +kernel
theorem d_M_unary_157 : decode b_M_unary 157 = .ok (.baload, 1) := by decide +kernel
theorem d_M_unary_158 : decode b_M_unary 158 = .ok (.ifCond .ne 16, 3) := by decide +kernel
theorem d_M_unary_161 : decode b_M_unary 161 = .ok (.new 296, 3) := by decide +kernel
theorem d_M_unary_164 : decode b_M_unary 164 = .ok (.dup, 1) := by decide +kernel
theorem d_M_unary_165 : decode b_M_unary 165 = .ok (.iconst 2, 1) := by decide +kernel
theorem d_M_unary_166 : decode b_M_unary 166 = .ok (.aload_n 0, 1) := by decide +kernel
theorem d_M_unary_167 : decode b_M_unary 167 = .ok (.getfield 33, 3) := by decide +kernel
theorem d_M_unary_170 : decode b_M_unary 170 = .ok (.invokespecial 298, 3) := by decide +kernel
theorem d_M_unary_173 : decode b_M_unary 173 = .ok (.athrow, 1) := by decide +kernel
theorem d_M_unary_174 : decode b_M_unary 174 = .ok (.aload_n 0, 1) := by decide +kernel
theorem d_M_unary_175 : decode b_M_unary 175 = .ok (.iload 5, 2) := by decide +kernel
theorem d_M_unary_177 : decode b_M_unary 177 = .ok (.invokevirtual 383, 3) := by decide +kernel
theorem d_M_unary_180 : decode b_M_unary 180 = .ok (.aload_n 0, 1) := by decide +kernel
theorem d_M_unary_181 : decode b_M_unary 181 = .ok (.invokevirtual 305, 3) := by decide +kernel
theorem d_M_unary_184 : decode b_M_unary 184 = .ok (.aload_n 0, 1) := by decide +kernel
theorem d_M_unary_185 : decode b_M_unary 185 = .ok (.bipush 26, 2) := by decide +kernel
theorem d_M_unary_187 : decode b_M_unary 187 = .ok (.iconst 2, 1) := by decide +kernel
theorem d_M_unary_188 : decode b_M_unary 188 = .ok (.iload 5, 2) := by decide +kernel
theorem d_M_unary_190 : decode b_M_unary 190 = .ok (.aload_n 0, 1) := by decide +kernel
theorem d_M_unary_191 : decode b_M_unary 191 = .ok (.getfield 50, 3) := by decide +kernel
theorem d_M_unary_194 : decode b_M_unary 194 = .ok (.aload_n 0, 1) := by decide +kernel
theorem d_M_unary_195 : decode b_M_unary 195 = .ok (.getfield 68, 3) := by decide +kernel
theorem d_M_unary_198 : decode b_M_unary 198 = .ok (.iaload, 1) := by decide +kernel
theorem d_M_unary_199 : decode b_M_unary 199 = .ok (.isub, 1) := by decide +kernel
theorem d_M_unary_200 : decode b_M_unary 200 = .ok (.imul, 1) := by decide +kernel
theorem d_M_unary_201 : decode b_M_unary 201 = .ok (.iload 4, 2) := by decide +kernel
theorem d_M_unary_203 : decode b_M_unary 203 = .ok (.ifCond .eq 7, 3) := by decide +kernel
theorem d_M_unary_206 : decode b_M_unary 206 = .ok (.iconst 0, 1) := by decide +kernel
theorem d_M_unary_207 : decode b_M_unary 207 = .ok (.goto 4, 3) := by decide +kernel
theorem d_M_unary_210 : decode b_M_unary 210 = .ok (.iconst 1, 1) := by decide +kernel
theorem d_M_unary_211 : decode b_M_unary 211 = .ok (.iadd, 1) := by decide +kernel
theorem d_M_unary_212 : decode b_M_unary 212 = .ok (.iload_n 3, 1) := by decide +kernel
theorem d_M_unary_213 : decode b_M_unary 213 = .ok (.iconst 1, 1) := by decide +kernel
theorem d_M_unary_214 : decode b_M_unary 214 = .ok (.invokevirtual 420, 3) := by decide +kernel
theorem d_M_unary_217 : decode b_M_unary 217 = .ok (.istore_n 3, 1) := by decide +kernel
theorem d_M_unary_218 : decode b_M_unary 218 = .ok (.goto (-126), 3) := by decide +kernel
theorem d_M_unary_221 : decode b_M_unary 221 = .ok (.iload_n 3, 1) := by decide +kernel
theorem d_M_unary_222 : decode b_M_unary 222 = .ok (.ireturn, 1) := by decide +kernel
abbrev mt_M_unary : MT := (R_M, b_M_unary, 6, some .int)
theorem vf_M_unary : VF y_M_unary mt_M_unary 12 1 := ⟨im_M_unary, se_M_unary, in_M, co_M_unary, by decide +kernel, _, _, rfl⟩
theorem d_M_atom_0 : decode b_M_atom 0 = .ok (.aload_n 0, 1) := by decide +kernel
theorem d_M_atom_1 : decode b_M_atom 1 = .ok (.invokevirtual 292, 3) := by decide +kernel
theorem d_M_atom_4 : decode b_M_atom 4 = .ok (.iconst 2, 1) := by decide +kernel
theorem d_M_atom_5 : decode b_M_atom 5 = .ok (.if_icmp .ne 52, 3) := by decide +kernel
theorem d_M_atom_8 : decode b_M_atom 8 = .ok (.iconst 0, 1) := by decide +kernel
theorem d_M_atom_9 : decode b_M_atom 9 = .ok (.istore_n 2, 1) := by decide +kernel
theorem d_M_atom_10 : decode b_M_atom 10 = .ok (.aload_n 0, 1) := by decide +kernel
theorem d_M_atom_11 : decode b_M_atom 11 = .ok (.getfield 33, 3) := by decide +kernel
theorem d_M_atom_14 : decode b_M_atom 14 = .ok (.istore_n 3, 1) := by decide +kernel
theorem d_M_atom_15 : decode b_M_atom 15 = .ok (.iload_n 3, 1) := by decide +kernel
theorem d_M_atom_16 : decode b_M_atom 16 = .ok (.aload_n 0, 1) := by decide +kernel
theorem d_M_atom_17 : decode b_M_atom 17 = .ok (.getfield 36, 3) := by decide +kernel
theorem d_M_atom_20 : decode b_M_atom 20 = .ok (.if_icmp .ge 24, 3) := by decide +kernel
theorem d_M_atom_23 : decode b_M_atom 23 = .ok (.bipush 10, 2) := by decide +kernel
theorem d_M_atom_25 : decode b_M_atom 25 = .ok (.iload_n 2, 1) := by decide +kernel
theorem d_M_atom_26 : decode b_M_atom 26 = .ok (.imul, 1) := by decide +kernel
theorem d_M_atom_27 : decode b_M_atom 27 = .ok (.aload_n 0, 1) := by decide +kernel
theorem d_M_atom_28 : decode b_M_atom 28 = .ok (.getfield 8, 3) := by decide +kernel
theorem d_M_atom_31 : decode b_M_atom 31 = .ok (.iload_n 3, 1) := by decide +kernel
theorem d_M_atom_32 : decode b_M_atom 32 = .ok (.baload, 1) := by decide +kernel
theorem d_M_atom_33 : decode b_M_atom 33 = .ok (.iadd, 1) := by decide +kernel
theorem d_M_atom_34 : decode b_M_atom 34 = .ok (.bipush 48, 2) := by decide +kernel
theorem d_M_atom_36 : decode b_M_atom 36 = .ok (.isub, 1) := by decide +kernel
theorem d_M_atom_37 : decode b_M_atom 37 = .ok (.istore_n 2, 1) := by decide +kernel
theorem d_M_atom_38 : decode b_M_atom 38 = .ok (.iinc 3 1, 3) := by decide +kernel
theorem d_M_atom_41 : decode b_M_atom 41 = .ok (.goto (-26), 3) := by decide +kernel
theorem d_M_atom_44 : decode b_M_atom 44 = .ok (.aload_n 0, 1) := by decide +kernel
theorem d_M_atom_45 : decode b_M_atom 45 = .ok (.invokevirtual 305, 3) := by decide +kernel
theorem d_M_atom_48 : decode b_M_atom 48 = .ok (.aload_n 0, 1) := by decide +kernel
theorem d_M_atom_49 : decode b_M_atom 49 = .ok (.iconst 0, 1) := by decide +kernel
theorem d_M_atom_50 : decode b_M_atom 50 = .ok (.iload_n 2, 1) := by decide +kernel
theorem d_M_atom_51 : decode b_M_atom 51 = .ok (.iconst (-1), 1) := by decide +kernel
theorem d_M_atom_52 : decode b_M_atom 52 = .ok (.iconst 1, 1) := by decide +kernel
theorem d_M_atom_53 : decode b_M_atom 53 = .ok (.invokevirtual 420, 3) := by decide +kernel
theorem d_M_atom_56 : decode b_M_atom 56 = .ok (.ireturn, 1) := by decide +kernel
theorem d_M_atom_57 : decode b_M_atom 57 = .ok (.aload_n 0, 1) := by decide +kernel
theorem d_M_atom_58 : decode b_M_atom 58 = .ok (.ldc_w 361, 3) := by decide +kernel
theorem d_M_atom_61 : decode b_M_atom 61 = .ok (.invokevirtual 317, 3) := by decide +kernel
theorem d_M_atom_64 : decode b_M_atom 64 = .ok (.ifCond .ne 13, 3) := by decide +kernel
theorem d_M_atom_67 : decode b_M_atom 67 = .ok (.aload_n 0, 1) := by decide +kernel
theorem d_M_atom_68 : decode b_M_atom 68 = .ok (.ldc_w 363, 3) := by decide +kernel
theorem d_M_atom_71 : decode b_M_atom 71 = .ok (.invokevirtual 317, 3) := by decide +kernel
theorem d_M_atom_74 : decode b_M_atom 74 = .ok (.ifCond .eq 32, 3) := by decide +kernel
theorem d_M_atom_77 : decode b_M_atom 77 = .ok (.aload_n 0, 1) := by decide +kernel
theorem d_M_atom_78 : decode b_M_atom 78 = .ok (.ldc_w 361, 3) := by decide +kernel
theorem d_M_atom_81 : decode b_M_atom 81 = .ok (.invokevirtual 317, 3) := by decide +kernel
theorem d_M_atom_84 : decode b_M_atom 84 = .ok (.ifCond .eq 7, 3) := by decide +kernel
theorem d_M_atom_87 : decode b_M_atom 87 = .ok (.iconst 1, 1) := by decide +kernel
theorem d_M_atom_88 : decode b_M_atom 88 = .ok (.goto 4, 3) := by decide +kernel
theorem d_M_atom_91 : decode b_M_atom 91 = .ok (.iconst 0, 1) := by decide +kernel
theorem d_M_atom_92 : decode b_M_atom 92 = .ok (.istore_n 2, 1) := by decide +kernel
theorem d_M_atom_93 : decode b_M_atom 93 = .ok (.aload_n 0, 1) := by decide +kernel
theorem d_M_atom_94 : decode b_M_atom 94 = .ok (.invokevirtual 305, 3) := by decide +kernel
theorem d_M_atom_97 : decode b_M_atom 97 = .ok (.aload_n 0, 1) := by decide +kernel
theorem d_M_atom_98 : decode b_M_atom 98 = .ok (.iconst 1, 1) := by decide +kernel
theorem d_M_atom_99 : decode b_M_atom 99 = .ok (.iload_n 2, 1) := by decide +kernel
theorem d_M_atom_100 : decode b_M_atom 100 = .ok (.iconst (-1), 1) := by decide +kernel
theorem d_M_atom_101 : decode b_M_atom 101 = .ok (.iconst 1, 1) := by decide +kernel
theorem d_M_atom_102 : decode b_M_atom 102 = .ok (.invokevirtual 420, 3) := by decide +kernel
theorem d_M_atom_105 : decode b_M_atom 105 = .ok (.ireturn, 1) := by decide +kernel
theorem d_M_atom_106 : decode b_M_atom 106 = .ok (.aload_n 0, 1) := by decide +kernel
theorem d_M_atom_107 : decode b_M_atom 107 = .ok (.invokevirtual 292, 3) := by decide +kernel
theorem d_M_atom_110 : decode b_M_atom 110 = .ok (.bipush 40, 2) := by decide +kernel
theorem d_M_atom_112 : decode b_M_atom 112 = .ok (.if_icmp .ne 25, 3) := by decide +kernel
theorem d_M_atom_115 : decode b_M_atom 115 = .ok (.aload_n 0, 1) := by decide +kernel
theorem d_M_atom_116 : decode b_M_atom 116 = .ok (.invokevirtual 305, 3) := by decide +kernel
theorem d_M_atom_119 : decode b_M_atom 119 = .ok (.aload_n 0, 1) := by decide +kernel
theorem d_M_atom_120 : decode b_M_atom 120 = .ok (.aload_n 0, 1) := by decide +kernel
theorem d_M_atom_121 : decode b_M_atom 121 = .ok (.iload_n 1, 1) := by decide +kernel
theorem d_M_atom_122 : decode b_M_atom 122 = .ok (.invokevirtual 424, 3) := by decide +kernel
theorem d_M_atom_125 : decode b_M_atom 125 = .ok (.invokevirtual 409, 3) := by decide +kernel
theorem d_M_atom_128 : decode b_M_atom 128 = .ok (.istore_n 2, 1) := by decide +kernel
theorem d_M_atom_129 : decode b_M_atom 129 = .ok (.aload_n 0, 1) := by decide +kernel
theorem d_M_atom_130 : decode b_M_atom 130 = .ok (.bipush 41, 2) := by decide +kernel
theorem d_M_atom_132 : decode b_M_atom 132 = .ok (.invokevirtual 379, 3) := by decide +kernel
theorem d_M_atom_135 : decode b_M_atom 135 = .ok (.iload_n 2, 1) := by decide +kernel
theorem d_M_atom_136 : decode b_M_atom 136 = .ok (.ireturn, 1) := by decide +kernel
theorem d_M_atom_137 : decode b_M_atom 137 = .ok (.aload_n 0, 1) := by decide +kernel
theorem d_M_atom_138 : decode b_M_atom 138 = .ok (.invokevirtual 373, 3) := by decide +kernel
theorem d_M_atom_141 : decode b_M_atom 141 = .ok (.ifCond .ne 8, 3) := by decide +kernel
theorem d_M_atom_144 : decode b_M_atom 144 = .ok (.aload_n 0, 1) := by decide +kernel
theorem d_M_atom_145 : decode b_M_atom 145 = .ok (.invokevirtual 301, 3) := by decide +kernel
theorem d_M_atom_148 : decode b_M_atom 148 = .ok (.athrow, 1) := by decide +kernel
theorem d_M_atom_149 : decode b_M_atom 149 = .ok (.aload_n 0, 1) := by decide +kernel
theorem d_M_atom_150 : decode b_M_atom 150 = .ok (.getfield 33, 3) := by decide +kernel
theorem d_M_atom_153 : decode b_M_atom 153 = .ok (.istore_n 2, 1) := by decide +kernel
theorem d_M_atom_154 : decode b_M_atom 154 = .ok (.aload_n 0, 1) := by decide +kernel
theorem d_M_atom_155 : decode b_M_atom 155 = .ok (.aload_n 0, 1) := by decide +kernel
theorem d_M_atom_156 : decode b_M_atom 156 = .ok (.getfield 71, 3) := by decide +kernel
theorem d_M_atom_159 : decode b_M_atom 159 = .ok (.invokevirtual 376, 3) := by decide +kernel
theorem d_M_atom_162 : decode b_M_atom 162 = .ok (.istore_n 3, 1) := by decide +kernel
theorem d_M_atom_163 : decode b_M_atom 163 = .ok (.aload_n 0, 1) := by decide +kernel
theorem d_M_atom_164 : decode b_M_atom 164 = .ok (.invokevirtual 394, 3) := by decide +kernel
theorem d_M_atom_167 : decode b_M_atom 167 = .ok (.istore 4, 2) := by decide +kernel
theorem d_M_atom_169 : decode b_M_atom 169 = .ok (.aload_n 0, 1) := by decide +kernel
theorem d_M_atom_170 : decode b_M_atom 170 = .ok (.invokevirtual 305, 3) := by decide +kernel
theorem d_M_atom_173 : decode b_M_atom 173 = .ok (.aload_n 0, 1) := by decide +kernel
theorem d_M_atom_174 : decode b_M_atom 174 = .ok (.invokevirtual 292, 3) := by decide +kernel
theorem d_M_atom_177 : decode b_M_atom 177 = .ok (.bipush 40, 2) := by decide +kernel
theorem d_M_atom_179 : decode b_M_atom 179 = .ok (.if_icmp .ne 26, 3) := by decide +kernel
theorem d_M_atom_182 : decode b_M_atom 182 = .ok (.iload 4, 2) := by decide +kernel
theorem d_M_atom_184 : decode b_M_atom 184 = .ok (.ifCond .ge 13, 3) := by decide +kernel
theorem d_M_atom_187 : decode b_M_atom 187 = .ok (.new 296, 3) := by decide +kernel
theorem d_M_atom_190 : decode b_M_atom 190 = .ok (.dup, 1) := by decide +kernel
theorem d_M_atom_191 : decode b_M_atom 191 = .ok (.iconst 2, 1) := by decide +kernel
theorem d_M_atom_192 : decode b_M_atom 192 = .ok (.iload_n 2, 1) := by decide +kernel
theorem d_M_atom_193 : decode b_M_atom 193 = .ok (.invokespecial 298, 3) := by decide +kernel
theorem d_M_atom_196 : decode b_M_atom 196 = .ok (.athrow, 1) := by decide +kernel
theorem d_M_atom_197 : decode b_M_atom 197 = .ok (.aload_n 0, 1) := by decide +kernel
theorem d_M_atom_198 : decode b_M_atom 198 = .ok (.iload 4, 2) := by decide +kernel
theorem d_M_atom_200 : decode b_M_atom 200 = .ok (.iload_n 1, 1) := by decide +kernel
theorem d_M_atom_201 : decode b_M_atom 201 = .ok (.invokevirtual 412, 3) := by decide +kernel
theorem d_M_atom_204 : decode b_M_atom 204 = .ok (.ireturn, 1) := by decide +kernel
theorem d_M_atom_205 : decode b_M_atom 205 = .ok (.iload_n 3, 1) := by decide +kernel
theorem d_M_atom_206 : decode b_M_atom 206 = .ok (.ifCond .ge 13, 3) := by decide +kernel
theorem d_M_atom_209 : decode b_M_atom 209 = .ok (.new 296, 3) := by decide +kernel
theorem d_M_atom_212 : decode b_M_atom 212 = .ok (.dup, 1) := by decide +kernel
theorem d_M_atom_213 : decode b_M_atom 213 = .ok (.iconst 2, 1) := by decide +kernel
theorem d_M_atom_214 : decode b_M_atom 214 = .ok (.iload_n 2, 1) := by decide +kernel
theorem d_M_atom_215 : decode b_M_atom 215 = .ok (.invokespecial 298, 3) := by decide +kernel
theorem d_M_atom_218 : decode b_M_atom 218 = .ok (.athrow, 1) := by decide +kernel
theorem d_M_atom_219 : decode b_M_atom 219 = .ok (.aload_n 0, 1) := by decide +kernel
theorem d_M_atom_220 : decode b_M_atom 220 = .ok (.iconst 2, 1) := by decide +kernel
theorem d_M_atom_221 : decode b_M_atom 221 = .ok (.iload_n 3, 1) := by decide +kernel
theorem d_M_atom_222 : decode b_M_atom 222 = .ok (.aload_n 0, 1) := by decide +kernel
theorem d_M_atom_223 : decode b_M_atom 223 = .ok (.getfield 50, 3) := by decide +kernel
theorem d_M_atom_226 : decode b_M_atom 226 = .ok (.aload_n 0, 1) := by decide +kernel
theorem d_M_atom_227 : decode b_M_atom 227 = .ok (.getfield 68, 3) := by decide +kernel
theorem d_M_atom_230 : decode b_M_atom 230 = .ok (.iaload, 1) := by decide +kernel
theorem d_M_atom_231 : decode b_M_atom 231 = .ok (.isub, 1) := by decide +kernel
theorem d_M_atom_232 : decode b_M_atom 232 = .ok (.iconst (-1), 1) := by decide +kernel
theorem d_M_atom_233 : decode b_M_atom 233 = .ok (.iconst 1, 1) := by decide +kernel
theorem d_M_atom_234 : decode b_M_atom 234 = .ok (.invokevirtual 420, 3) := by decide +kernel
theorem d_M_atom_237 : decode b_M_atom 237 = .ok (.ireturn, 1) := by decide +kernel
abbrev mt_M_atom : MT := (R_M, b_M_atom, 5, some .int)
theorem vf_M_atom : VF y_M_atom mt_M_atom 12 1 := ⟨im_M_atom, se_M_atom, in_M, co_M_atom, by decide +kernel, _, _, rfl⟩
theorem d_M_call_0 : decode b_M_call 0 = .ok (.aload_n 0, 1) := by decide +kernel
theorem d_M_call_1 : decode b_M_call 1 = .ok (.bipush 40, 2) := by decide +kernel
theorem d_M_call_3 : decode b_M_call 3 = .ok (.invokevirtual 379, 3) := by decide +kernel
theorem d_M_call_6 : decode b_M_call 6 = .ok (.aload_n 0, 1) := by decide +kernel
theorem d_M_call_7 : decode b_M_call 7 = .ok (.aload_n 0, 1) := by decide +kernel
theorem d_M_call_8 : decode b_M_call 8 = .ok (.iload_n 2, 1) := by decide +kernel
theorem d_M_call_9 : decode b_M_call 9 = .ok (.invokevirtual 424, 3) := by decide +kernel
theorem d_M_call_12 : decode b_M_call 12 = .ok (.invokevirtual 409, 3) := by decide +kernel
theorem d_M_call_15 : decode b_M_call 15 = .ok (.istore_n 3, 1) := by decide +kernel
theorem d_M_call_16 : decode b_M_call 16 = .ok (.iload_n 3, 1) := by decide +kernel
theorem d_M_call_17 : decode b_M_call 17 = .ok (.istore 4, 2) := by decide +kernel
theorem d_M_call_19 : decode b_M_call 19 = .ok (.aload_n 0, 1) := by decide +kernel
theorem d_M_call_20 : decode b_M_call 20 = .ok (.invokevirtual 292, 3) := by decide +kernel
theorem d_M_call_23 : decode b_M_call 23 = .ok (.bipush 44, 2) := by decide +kernel
theorem d_M_call_25 : decode b_M_call 25 = .ok (.if_icmp .ne 35, 3) := by decide +kernel
theorem d_M_call_28 : decode b_M_call 28 = .ok (.aload_n 0, 1) := by decide +kernel
theorem d_M_call_29 : decode b_M_call 29 = .ok (.invokevirtual 305, 3) := by decide +kernel
theorem d_M_call_32 : decode b_M_call 32 = .ok (.aload_n 0, 1) := by decide +kernel
theorem d_M_call_33 : decode b_M_call 33 = .ok (.getfield 121, 3) := by decide +kernel
theorem d_M_call_36 : decode b_M_call 36 = .ok (.iload 4, 2) := by decide +kernel
theorem d_M_call_38 : decode b_M_call 38 = .ok (.aload_n 0, 1) := by decide +kernel
theorem d_M_call_39 : decode b_M_call 39 = .ok (.aload_n 0, 1) := by decide +kernel
theorem d_M_call_40 : decode b_M_call 40 = .ok (.iload_n 2, 1) := by decide +kernel
theorem d_M_call_41 : decode b_M_call 41 = .ok (.invokevirtual 424, 3) := by decide +kernel
theorem d_M_call_44 : decode b_M_call 44 = .ok (.invokevirtual 409, 3) := by decide +kernel
theorem d_M_call_47 : decode b_M_call 47 = .ok (.iastore, 1) := by decide +kernel
theorem d_M_call_48 : decode b_M_call 48 = .ok (.aload_n 0, 1) := by decide +kernel
theorem d_M_call_49 : decode b_M_call 49 = .ok (.getfield 121, 3) := by decide +kernel
theorem d_M_call_52 : decode b_M_call 52 = .ok (.iload 4, 2) := by decide +kernel
theorem d_M_call_54 : decode b_M_call 54 = .ok (.iaload, 1) := by decide +kernel
theorem d_M_call_55 : decode b_M_call 55 = .ok (.istore 4, 2) := by decide +kernel
theorem d_M_call_57 : decode b_M_call 57 = .ok (.goto (-38), 3) := by decide +kernel
theorem d_M_call_60 : decode b_M_call 60 = .ok (.aload_n 0, 1) := by decide +kernel
theorem d_M_call_61 : decode b_M_call 61 = .ok (.bipush 41, 2) := by decide +kernel
theorem d_M_call_63 : decode b_M_call 63 = .ok (.invokevirtual 379, 3) := by decide +kernel
theorem d_M_call_66 : decode b_M_call 66 = .ok (.aload_n 0, 1) := by decide +kernel
theorem d_M_call_67 : decode b_M_call 67 = .ok (.iconst 3, 1) := by decide +kernel
theorem d_M_call_68 : decode b_M_call 68 = .ok (.iload_n 1, 1) := by decide +kernel
theorem d_M_call_69 : decode b_M_call 69 = .ok (.iload_n 3, 1) := by decide +kernel
theorem d_M_call_70 : decode b_M_call 70 = .ok (.iconst 1, 1) := by decide +kernel
theorem d_M_call_71 : decode b_M_call 71 = .ok (.invokevirtual 420, 3) := by decide +kernel
theorem d_M_call_74 : decode b_M_call 74 = .ok (.istore 5, 2) := by decide +kernel
theorem d_M_call_76 : decode b_M_call 76 = .ok (.aload_n 0, 1) := by decide +kernel
theorem d_M_call_77 : decode b_M_call 77 = .ok (.getfield 127, 3) := by decide +kernel
theorem d_M_call_80 : decode b_M_call 80 = .ok (.iload 5, 2) := by decide +kernel
theorem d_M_call_82 : decode b_M_call 82 = .ok (.aload_n 0, 1) := by decide +kernel
theorem d_M_call_83 : decode b_M_call 83 = .ok (.getfield 62, 3) := by decide +kernel
theorem d_M_call_86 : decode b_M_call 86 = .ok (.aload_n 0, 1) := by decide +kernel
theorem d_M_call_87 : decode b_M_call 87 = .ok (.getfield 68, 3) := by decide +kernel
theorem d_M_call_90 : decode b_M_call 90 = .ok (.dup2, 1) := by decide +kernel
theorem d_M_call_91 : decode b_M_call 91 = .ok (.iaload, 1) := by decide +kernel
theorem d_M_call_92 : decode b_M_call 92 = .ok (.dup_x2, 1) := by decide +kernel
theorem d_M_call_93 : decode b_M_call 93 = .ok (.iconst 1, 1) := by decide +kernel
theorem d_M_call_94 : decode b_M_call 94 = .ok (.iadd, 1) := by decide +kernel
theorem d_M_call_95 : decode b_M_call 95 = .ok (.iastore, 1) := by decide +kernel
theorem d_M_call_96 : decode b_M_call 96 = .ok (.iastore, 1) := by decide +kernel
theorem d_M_call_97 : decode b_M_call 97 = .ok (.iload 5, 2) := by decide +kernel
theorem d_M_call_99 : decode b_M_call 99 = .ok (.ireturn, 1) := by decide +kernel
abbrev mt_M_call : MT := (R_M, b_M_call, 6, some .int)
theorem vf_M_call : VF y_M_call mt_M_call 12 2 := ⟨im_M_call, se_M_call, in_M, co_M_call, by decide +kernel, _, _, rfl⟩
def f_M_expression (E : Nat → St → Int → Int → Option Res) (γ : St) (a0 : Int) : Option Res :=
  bndN (f_M_is γ 12) fun r1 γ2 =>
  if r1 = 0 then
  (bndT (E 1 γ2 a0 0) fun r3 γ4 =>
  bndN (f_M_peek γ4) fun r5 γ6 =>
  if r5 ≠ 303 then
  (bndN (f_M_is γ6 17) fun r7 γ8 =>
  if r7 = 0 then
  (some (.inr r3, γ8))
  else
  (bndN (f_M_take γ8) fun _ γ10 =>
  bndT (f_M_nest γ10 a0) fun r11 γ12 =>
  bndT (E 0 γ12 r11 0) fun r13 γ14 =>
  bndT (f_M_two γ14 6 r3 r13) fun r15 γ16 =>
  some (.inr r15, γ16)))
  else
  (bndN (f_M_take γ6) fun _ γ18 =>
  bndT (f_M_nest γ18 a0) fun r19 γ20 =>
  bndT (E 0 γ20 r19 0) fun r21 γ22 =>
  bndT (f_M_two γ22 5 r3 r21) fun r23 γ24 =>
  some (.inr r23, γ24)))
  else
  (bndN (f_M_take γ2) fun _ γ26 =>
  bndT (f_M_nest γ26 a0) fun r27 γ28 =>
  bndT (E 0 γ28 r27 0) fun r29 γ30 =>
  bndT (f_M_mustBe γ30 13) fun _ γ32 =>
  bndT (f_M_nest γ32 a0) fun r34 γ35 =>
  bndT (E 0 γ35 r34 0) fun r36 γ37 =>
  chk (inb r29 66000) (ap (setA γ37 23 r29 r36) fun γ38 =>
  bndT (f_M_mustBe γ38 14) fun _ γ40 =>
  chk (inb r29 66000) (bndT (f_M_nest γ40 a0) fun r44 γ45 =>
  bndT (E 0 γ45 r44 0) fun r46 γ47 =>
  chk (inb (γ40 23 r29) 66000) (ap (setA γ47 23 (γ40 23 r29) r46) fun γ48 =>
  bndT (f_M_make γ48 4 0 r29 1) fun r49 γ50 =>
  some (.inr r49, γ50)))))
set_option maxHeartbeats 4000000 in
theorem c_M_expression {Γ : Ctx} {n9 : Nat} {E : Nat → St → Int → Int → Option Res} (hE0 : ∀ (γ : St) (a0 : Int), i32 a0 → TC Γ BM y_M_expression mt_M_expression (n9 + 14) (70 * n9 + 461) [vR Γ 0, vI a0] γ (E 0 γ a0 0)) (hE1 : ∀ (γ : St) (a0 : Int), i32 a0 → TC Γ BM y_M_implied mt_M_implied (n9 + 14) (70 * n9 + 461) [vR Γ 0, vI a0] γ (E 1 γ a0 0)) (hE2 : ∀ (γ : St) (a0 : Int), i32 a0 → TC Γ BM y_M_either mt_M_either (n9 + 14) (70 * n9 + 461) [vR Γ 0, vI a0] γ (E 2 γ a0 0)) (hE3 : ∀ (γ : St) (a0 : Int), i32 a0 → TC Γ BM y_M_both mt_M_both (n9 + 14) (70 * n9 + 461) [vR Γ 0, vI a0] γ (E 3 γ a0 0)) (hE4 : ∀ (γ : St) (a0 : Int), i32 a0 → TC Γ BM y_M_compared mt_M_compared (n9 + 14) (70 * n9 + 461) [vR Γ 0, vI a0] γ (E 4 γ a0 0)) (hE5 : ∀ (γ : St) (a0 : Int), i32 a0 → TC Γ BM y_M_sum mt_M_sum (n9 + 14) (70 * n9 + 461) [vR Γ 0, vI a0] γ (E 5 γ a0 0)) (hE6 : ∀ (γ : St) (a0 : Int), i32 a0 → TC Γ BM y_M_product mt_M_product (n9 + 14) (70 * n9 + 461) [vR Γ 0, vI a0] γ (E 6 γ a0 0)) (hE7 : ∀ (γ : St) (a0 : Int), i32 a0 → TC Γ BM y_M_unary mt_M_unary (n9 + 14) (70 * n9 + 461) [vR Γ 0, vI a0] γ (E 7 γ a0 0)) (hE8 : ∀ (γ : St) (a0 : Int), i32 a0 → TC Γ BM y_M_atom mt_M_atom (n9 + 14) (70 * n9 + 461) [vR Γ 0, vI a0] γ (E 8 γ a0 0)) (hE9 : ∀ (γ : St) (a0 : Int) (a1 : Int), i32 a0 → i32 a1 → TC Γ BM y_M_call mt_M_call (n9 + 14) (70 * n9 + 461) [vR Γ 0, vI a0, vI a1] γ (E 9 γ a0 a1)) (γ : St) (a0 : Int) (ha0 : i32 a0) : TC Γ BM y_M_expression mt_M_expression (n9 + 1 + 14) (70 * (n9 + 1) + 461) [vR Γ 0, vI a0] γ (f_M_expression E γ a0) := by
  refine tc_of (by decide) rfl (Nat.le_of_ble_eq_true rfl) ?_
  show SB Γ BM mt_M_expression (RmT (n9 + 1 + 14) (70 * (n9 + 1) + 461)) 0 0 (KT Γ BM mt_M_expression.2.2.2) 0 [(0, vR Γ 0), (1, vI a0)] [] γ _
  unfold f_M_expression
  refine sb_aload_n 0 d_M_expression_0 rfl ?_
  refine sb_ldcS (k := 12) (by decide) rfl d_M_expression_1 ?_
  refine sb_cVz vf_M_is (c_M_is γ 12 (by decide)) rfl ml_M_317 (As := [.ref (Γ.σ 12).1]) rfl rfl (Nat.le_of_ble_eq_true rfl) ⟨by first | omega | (simp only [RmT, RmN]; omega), by first | omega | (simp only [RmT, RmN]; omega)⟩ d_M_expression_4 (fun r1 γ2 hr1 => ?_)
  refine sb_if_eq 82 (z2i hr1) d_M_expression_7 (by decide) (fun _ => ?_) (fun _ => ?_)
  · refine sb_aload_n 0 d_M_expression_82 rfl ?_
    refine sb_iload_n 1 d_M_expression_83 rfl ?_
    refine sb_cTi vf_M_implied (hE1 γ2 a0 ha0) rfl ml_M_427 (As := [vI a0]) rfl rfl (Nat.le_of_ble_eq_true rfl) ⟨by first | omega | (simp only [RmT, RmN]; omega), by first | omega | (simp only [RmT, RmN]; omega)⟩ d_M_expression_84 (fun r3 γ4 hr3 => ?_)
    refine sb_istore_n [(2, vI r3), (0, vR Γ 0), (1, vI a0)] d_M_expression_87 (by decide) rfl ?_
    refine sb_aload_n 1 d_M_expression_88 rfl ?_
    refine sb_cVi vf_M_peek (c_M_peek γ4  ) rfl ml_M_292 (As := []) rfl rfl (Nat.le_of_ble_eq_true rfl) ⟨by first | omega | (simp only [RmT, RmN]; omega), by first | omega | (simp only [RmT, RmN]; omega)⟩ d_M_expression_89 (fun r5 γ6 hr5 => ?_)
    refine sb_sipush d_M_expression_92 (by decide) ?_
    refine sb_icmp_ne 118 hr5 (by decide) d_M_expression_95 (by decide) (fun _ => ?_) (fun _ => ?_)
    · refine sb_aload_n 1 d_M_expression_118 rfl ?_
      refine sb_ldcS (k := 17) (by decide) rfl d_M_expression_119 ?_
      refine sb_cVz vf_M_is (c_M_is γ6 17 (by decide)) rfl ml_M_317 (As := [.ref (Γ.σ 17).1]) rfl rfl (Nat.le_of_ble_eq_true rfl) ⟨by first | omega | (simp only [RmT, RmN]; omega), by first | omega | (simp only [RmT, RmN]; omega)⟩ d_M_expression_122 (fun r7 γ8 hr7 => ?_)
      refine sb_if_eq 149 (z2i hr7) d_M_expression_125 (by decide) (fun _ => ?_) (fun _ => ?_)
      · refine sb_iload_n 0 d_M_expression_149 rfl ?_
        exact st_i rfl hr3 d_M_expression_150
      · refine sb_aload_n 1 d_M_expression_128 rfl ?_
        refine sb_cVv vf_M_take (c_M_take γ8  ) rfl ml_M_305 (As := []) rfl rfl (Nat.le_of_ble_eq_true rfl) ⟨by first | omega | (simp only [RmT, RmN]; omega), by first | omega | (simp only [RmT, RmN]; omega)⟩ d_M_expression_129 (fun _ γ10 => ?_)
        refine sb_aload_n 1 d_M_expression_132 rfl ?_
        refine sb_bipush d_M_expression_133 (by decide) ?_
        refine sb_iload_n 0 d_M_expression_135 rfl ?_
        refine sb_aload_n 1 d_M_expression_136 rfl ?_
        refine sb_aload_n 1 d_M_expression_137 rfl ?_
        refine sb_iload_n 2 d_M_expression_138 rfl ?_
        refine sb_cTi vf_M_nest (c_M_nest γ10 a0 ha0) rfl ml_M_424 (As := [vI a0]) rfl rfl (Nat.le_of_ble_eq_true rfl) ⟨by first | omega | (simp only [RmT, RmN]; omega), by first | omega | (simp only [RmT, RmN]; omega)⟩ d_M_expression_139 (fun r11 γ12 hr11 => ?_)
        refine sb_cTi vf_M_expression (hE0 γ12 r11 hr11) rfl ml_M_409 (As := [vI r11]) rfl rfl (Nat.le_of_ble_eq_true rfl) ⟨by first | omega | (simp only [RmT, RmN]; omega), by first | omega | (simp only [RmT, RmN]; omega)⟩ d_M_expression_142 (fun r13 γ14 hr13 => ?_)
        refine sb_cTi vf_M_two (c_M_two γ14 6 r3 r13 (by decide) hr3 hr13) rfl ml_M_430 (As := [vI 6, vI r3, vI r13]) rfl rfl (Nat.le_of_ble_eq_true rfl) ⟨by first | omega | (simp only [RmT, RmN]; omega), by first | omega | (simp only [RmT, RmN]; omega)⟩ d_M_expression_145 (fun r15 γ16 hr15 => ?_)
        exact st_i rfl hr15 d_M_expression_148
    · refine sb_aload_n 1 d_M_expression_98 rfl ?_
      refine sb_cVv vf_M_take (c_M_take γ6  ) rfl ml_M_305 (As := []) rfl rfl (Nat.le_of_ble_eq_true rfl) ⟨by first | omega | (simp only [RmT, RmN]; omega), by first | omega | (simp only [RmT, RmN]; omega)⟩ d_M_expression_99 (fun _ γ18 => ?_)
      refine sb_aload_n 1 d_M_expression_102 rfl ?_
      refine sb_iconst d_M_expression_103 ?_
      refine sb_iload_n 0 d_M_expression_104 rfl ?_
      refine sb_aload_n 1 d_M_expression_105 rfl ?_
      refine sb_aload_n 1 d_M_expression_106 rfl ?_
      refine sb_iload_n 2 d_M_expression_107 rfl ?_
      refine sb_cTi vf_M_nest (c_M_nest γ18 a0 ha0) rfl ml_M_424 (As := [vI a0]) rfl rfl (Nat.le_of_ble_eq_true rfl) ⟨by first | omega | (simp only [RmT, RmN]; omega), by first | omega | (simp only [RmT, RmN]; omega)⟩ d_M_expression_108 (fun r19 γ20 hr19 => ?_)
      refine sb_cTi vf_M_expression (hE0 γ20 r19 hr19) rfl ml_M_409 (As := [vI r19]) rfl rfl (Nat.le_of_ble_eq_true rfl) ⟨by first | omega | (simp only [RmT, RmN]; omega), by first | omega | (simp only [RmT, RmN]; omega)⟩ d_M_expression_111 (fun r21 γ22 hr21 => ?_)
      refine sb_cTi vf_M_two (c_M_two γ22 5 r3 r21 (by decide) hr3 hr21) rfl ml_M_430 (As := [vI 5, vI r3, vI r21]) rfl rfl (Nat.le_of_ble_eq_true rfl) ⟨by first | omega | (simp only [RmT, RmN]; omega), by first | omega | (simp only [RmT, RmN]; omega)⟩ d_M_expression_114 (fun r23 γ24 hr23 => ?_)
      exact st_i rfl hr23 d_M_expression_117
  · refine sb_aload_n 0 d_M_expression_10 rfl ?_
    refine sb_cVv vf_M_take (c_M_take γ2  ) rfl ml_M_305 (As := []) rfl rfl (Nat.le_of_ble_eq_true rfl) ⟨by first | omega | (simp only [RmT, RmN]; omega), by first | omega | (simp only [RmT, RmN]; omega)⟩ d_M_expression_11 (fun _ γ26 => ?_)
    refine sb_aload_n 0 d_M_expression_14 rfl ?_
    refine sb_aload_n 0 d_M_expression_15 rfl ?_
    refine sb_iload_n 1 d_M_expression_16 rfl ?_
    refine sb_cTi vf_M_nest (c_M_nest γ26 a0 ha0) rfl ml_M_424 (As := [vI a0]) rfl rfl (Nat.le_of_ble_eq_true rfl) ⟨by first | omega | (simp only [RmT, RmN]; omega), by first | omega | (simp only [RmT, RmN]; omega)⟩ d_M_expression_17 (fun r27 γ28 hr27 => ?_)
    refine sb_cTi vf_M_expression (hE0 γ28 r27 hr27) rfl ml_M_409 (As := [vI r27]) rfl rfl (Nat.le_of_ble_eq_true rfl) ⟨by first | omega | (simp only [RmT, RmN]; omega), by first | omega | (simp only [RmT, RmN]; omega)⟩ d_M_expression_20 (fun r29 γ30 hr29 => ?_)
    refine sb_istore_n [(2, vI r29), (0, vR Γ 0), (1, vI a0)] d_M_expression_23 (by decide) rfl ?_
    refine sb_aload_n 1 d_M_expression_24 rfl ?_
    refine sb_ldcS (k := 13) (by decide) rfl d_M_expression_25 ?_
    refine sb_cTv vf_M_mustBe (c_M_mustBe γ30 13 (by decide)) rfl ml_M_390 (As := [.ref (Γ.σ 13).1]) rfl rfl (Nat.le_of_ble_eq_true rfl) ⟨by first | omega | (simp only [RmT, RmN]; omega), by first | omega | (simp only [RmT, RmN]; omega)⟩ d_M_expression_28 (fun _ γ32 => ?_)
    refine sb_aload_n 1 d_M_expression_31 rfl ?_
    refine g_M_121 d_M_expression_32 ?_
    refine sb_iload_n 0 d_M_expression_35 rfl ?_
    refine sb_aload_n 1 d_M_expression_36 rfl ?_
    refine sb_aload_n 1 d_M_expression_37 rfl ?_
    refine sb_iload_n 2 d_M_expression_38 rfl ?_
    refine sb_cTi vf_M_nest (c_M_nest γ32 a0 ha0) rfl ml_M_424 (As := [vI a0]) rfl rfl (Nat.le_of_ble_eq_true rfl) ⟨by first | omega | (simp only [RmT, RmN]; omega), by first | omega | (simp only [RmT, RmN]; omega)⟩ d_M_expression_39 (fun r34 γ35 hr34 => ?_)
    refine sb_cTi vf_M_expression (hE0 γ35 r34 hr34) rfl ml_M_409 (As := [vI r34]) rfl rfl (Nat.le_of_ble_eq_true rfl) ⟨by first | omega | (simp only [RmT, RmN]; omega), by first | omega | (simp only [RmT, RmN]; omega)⟩ d_M_expression_42 (fun r36 γ37 hr36 => ?_)
    refine as_M_23 hr36 d_M_expression_45 (fun _ => ?_)
    refine sb_aps (fun γ38 => ?_)
    refine sb_aload_n 1 d_M_expression_46 rfl ?_
    refine sb_ldcS (k := 14) (by decide) rfl d_M_expression_47 ?_
    refine sb_cTv vf_M_mustBe (c_M_mustBe γ38 14 (by decide)) rfl ml_M_390 (As := [.ref (Γ.σ 14).1]) rfl rfl (Nat.le_of_ble_eq_true rfl) ⟨by first | omega | (simp only [RmT, RmN]; omega), by first | omega | (simp only [RmT, RmN]; omega)⟩ d_M_expression_50 (fun _ γ40 => ?_)
    refine sb_aload_n 1 d_M_expression_53 rfl ?_
    refine g_M_121 d_M_expression_54 ?_
    refine sb_aload_n 1 d_M_expression_57 rfl ?_
    refine g_M_121 d_M_expression_58 ?_
    refine sb_iload_n 0 d_M_expression_61 rfl ?_
    refine al_M_23 d_M_expression_62 (fun _ c43 => ?_)
    refine sb_aload_n 1 d_M_expression_63 rfl ?_
    refine sb_aload_n 1 d_M_expression_64 rfl ?_
    refine sb_iload_n 2 d_M_expression_65 rfl ?_
    refine sb_cTi vf_M_nest (c_M_nest γ40 a0 ha0) rfl ml_M_424 (As := [vI a0]) rfl rfl (Nat.le_of_ble_eq_true rfl) ⟨by first | omega | (simp only [RmT, RmN]; omega), by first | omega | (simp only [RmT, RmN]; omega)⟩ d_M_expression_66 (fun r44 γ45 hr44 => ?_)
    refine sb_cTi vf_M_expression (hE0 γ45 r44 hr44) rfl ml_M_409 (As := [vI r44]) rfl rfl (Nat.le_of_ble_eq_true rfl) ⟨by first | omega | (simp only [RmT, RmN]; omega), by first | omega | (simp only [RmT, RmN]; omega)⟩ d_M_expression_69 (fun r46 γ47 hr46 => ?_)
    refine as_M_23 hr46 d_M_expression_72 (fun _ => ?_)
    refine sb_aps (fun γ48 => ?_)
    refine sb_aload_n 1 d_M_expression_73 rfl ?_
    refine sb_iconst d_M_expression_74 ?_
    refine sb_iconst d_M_expression_75 ?_
    refine sb_iload_n 0 d_M_expression_76 rfl ?_
    refine sb_iconst d_M_expression_77 ?_
    refine sb_cTi vf_M_make (c_M_make γ48 4 0 r29 1 (by decide) (by decide) hr29 (by decide)) rfl ml_M_420 (As := [vI 4, vI 0, vI r29, vI 1]) rfl rfl (Nat.le_of_ble_eq_true rfl) ⟨by first | omega | (simp only [RmT, RmN]; omega), by first | omega | (simp only [RmT, RmN]; omega)⟩ d_M_expression_78 (fun r49 γ50 hr49 => ?_)
    exact st_i rfl hr49 d_M_expression_81
def f_M_implied (E : Nat → St → Int → Int → Option Res) (γ : St) (a0 : Int) : Option Res :=
  bndT (E 2 γ a0 0) fun r1 γ2 =>
  bndN (f_M_peek γ2) fun r3 γ4 =>
  if r3 = 304 then
  (bndN (f_M_take γ4) fun _ γ6 =>
  bndT (f_M_nest γ6 a0) fun r7 γ8 =>
  bndT (E 1 γ8 r7 0) fun r9 γ10 =>
  bndT (f_M_two γ10 7 r1 r9) fun r11 γ12 =>
  some (.inr r11, γ12))
  else
  (some (.inr r1, γ4))
set_option maxHeartbeats 4000000 in
theorem c_M_implied {Γ : Ctx} {n9 : Nat} {E : Nat → St → Int → Int → Option Res} (hE0 : ∀ (γ : St) (a0 : Int), i32 a0 → TC Γ BM y_M_expression mt_M_expression (n9 + 14) (70 * n9 + 461) [vR Γ 0, vI a0] γ (E 0 γ a0 0)) (hE1 : ∀ (γ : St) (a0 : Int), i32 a0 → TC Γ BM y_M_implied mt_M_implied (n9 + 14) (70 * n9 + 461) [vR Γ 0, vI a0] γ (E 1 γ a0 0)) (hE2 : ∀ (γ : St) (a0 : Int), i32 a0 → TC Γ BM y_M_either mt_M_either (n9 + 14) (70 * n9 + 461) [vR Γ 0, vI a0] γ (E 2 γ a0 0)) (hE3 : ∀ (γ : St) (a0 : Int), i32 a0 → TC Γ BM y_M_both mt_M_both (n9 + 14) (70 * n9 + 461) [vR Γ 0, vI a0] γ (E 3 γ a0 0)) (hE4 : ∀ (γ : St) (a0 : Int), i32 a0 → TC Γ BM y_M_compared mt_M_compared (n9 + 14) (70 * n9 + 461) [vR Γ 0, vI a0] γ (E 4 γ a0 0)) (hE5 : ∀ (γ : St) (a0 : Int), i32 a0 → TC Γ BM y_M_sum mt_M_sum (n9 + 14) (70 * n9 + 461) [vR Γ 0, vI a0] γ (E 5 γ a0 0)) (hE6 : ∀ (γ : St) (a0 : Int), i32 a0 → TC Γ BM y_M_product mt_M_product (n9 + 14) (70 * n9 + 461) [vR Γ 0, vI a0] γ (E 6 γ a0 0)) (hE7 : ∀ (γ : St) (a0 : Int), i32 a0 → TC Γ BM y_M_unary mt_M_unary (n9 + 14) (70 * n9 + 461) [vR Γ 0, vI a0] γ (E 7 γ a0 0)) (hE8 : ∀ (γ : St) (a0 : Int), i32 a0 → TC Γ BM y_M_atom mt_M_atom (n9 + 14) (70 * n9 + 461) [vR Γ 0, vI a0] γ (E 8 γ a0 0)) (hE9 : ∀ (γ : St) (a0 : Int) (a1 : Int), i32 a0 → i32 a1 → TC Γ BM y_M_call mt_M_call (n9 + 14) (70 * n9 + 461) [vR Γ 0, vI a0, vI a1] γ (E 9 γ a0 a1)) (γ : St) (a0 : Int) (ha0 : i32 a0) : TC Γ BM y_M_implied mt_M_implied (n9 + 1 + 14) (70 * (n9 + 1) + 461) [vR Γ 0, vI a0] γ (f_M_implied E γ a0) := by
  refine tc_of (by decide) rfl (Nat.le_of_ble_eq_true rfl) ?_
  show SB Γ BM mt_M_implied (RmT (n9 + 1 + 14) (70 * (n9 + 1) + 461)) 0 0 (KT Γ BM mt_M_implied.2.2.2) 0 [(0, vR Γ 0), (1, vI a0)] [] γ _
  unfold f_M_implied
  refine sb_aload_n 0 d_M_implied_0 rfl ?_
  refine sb_iload_n 1 d_M_implied_1 rfl ?_
  refine sb_cTi vf_M_either (hE2 γ a0 ha0) rfl ml_M_434 (As := [vI a0]) rfl rfl (Nat.le_of_ble_eq_true rfl) ⟨by first | omega | (simp only [RmT, RmN]; omega), by first | omega | (simp only [RmT, RmN]; omega)⟩ d_M_implied_2 (fun r1 γ2 hr1 => ?_)
  refine sb_istore_n [(2, vI r1), (0, vR Γ 0), (1, vI a0)] d_M_implied_5 (by decide) rfl ?_
  refine sb_aload_n 1 d_M_implied_6 rfl ?_
  refine sb_cVi vf_M_peek (c_M_peek γ2  ) rfl ml_M_292 (As := []) rfl rfl (Nat.le_of_ble_eq_true rfl) ⟨by first | omega | (simp only [RmT, RmN]; omega), by first | omega | (simp only [RmT, RmN]; omega)⟩ d_M_implied_7 (fun r3 γ4 hr3 => ?_)
  refine sb_sipush d_M_implied_10 (by decide) ?_
  refine sb_icmp_eq 18 hr3 (by decide) d_M_implied_13 (by decide) (fun _ => ?_) (fun _ => ?_)
  · refine sb_aload_n 1 d_M_implied_18 rfl ?_
    refine sb_cVv vf_M_take (c_M_take γ4  ) rfl ml_M_305 (As := []) rfl rfl (Nat.le_of_ble_eq_true rfl) ⟨by first | omega | (simp only [RmT, RmN]; omega), by first | omega | (simp only [RmT, RmN]; omega)⟩ d_M_implied_19 (fun _ γ6 => ?_)
    refine sb_aload_n 1 d_M_implied_22 rfl ?_
    refine sb_bipush d_M_implied_23 (by decide) ?_
    refine sb_iload_n 0 d_M_implied_25 rfl ?_
    refine sb_aload_n 1 d_M_implied_26 rfl ?_
    refine sb_aload_n 1 d_M_implied_27 rfl ?_
    refine sb_iload_n 2 d_M_implied_28 rfl ?_
    refine sb_cTi vf_M_nest (c_M_nest γ6 a0 ha0) rfl ml_M_424 (As := [vI a0]) rfl rfl (Nat.le_of_ble_eq_true rfl) ⟨by first | omega | (simp only [RmT, RmN]; omega), by first | omega | (simp only [RmT, RmN]; omega)⟩ d_M_implied_29 (fun r7 γ8 hr7 => ?_)
    refine sb_cTi vf_M_implied (hE1 γ8 r7 hr7) rfl ml_M_427 (As := [vI r7]) rfl rfl (Nat.le_of_ble_eq_true rfl) ⟨by first | omega | (simp only [RmT, RmN]; omega), by first | omega | (simp only [RmT, RmN]; omega)⟩ d_M_implied_32 (fun r9 γ10 hr9 => ?_)
    refine sb_cTi vf_M_two (c_M_two γ10 7 r1 r9 (by decide) hr1 hr9) rfl ml_M_430 (As := [vI 7, vI r1, vI r9]) rfl rfl (Nat.le_of_ble_eq_true rfl) ⟨by first | omega | (simp only [RmT, RmN]; omega), by first | omega | (simp only [RmT, RmN]; omega)⟩ d_M_implied_35 (fun r11 γ12 hr11 => ?_)
    exact st_i rfl hr11 d_M_implied_38
  · refine sb_iload_n 0 d_M_implied_16 rfl ?_
    exact st_i rfl hr1 d_M_implied_17
def f_M_either_b43 (E : Nat → St → Int → Int → Option Res) (k6 : St → Int → Int → Option Res) (γ : St) (x1 : Int) (x2 : Int) (x3 : Int) : Option Res :=
  bndN (f_M_take γ) fun _ γ5 =>
  bndT (E 3 γ5 x1 0) fun r6 γ7 =>
  bndT (f_M_two γ7 x3 x2 r6) fun r8 γ9 =>
  k6 γ9 x1 r8
def f_M_either_b26 (E : Nat → St → Int → Int → Option Res) (k6 : St → Int → Int → Option Res) (γ : St) (x12 : Int) (x13 : Int) : Option Res :=
  bndN (f_M_is γ 10) fun r14 γ15 =>
  if r14 = 0 then
  (f_M_either_b43 E k6 γ15 x12 x13 9)
  else
  (f_M_either_b43 E k6 γ15 x12 x13 8)
def f_M_either_L6 (E : Nat → St → Int → Int → Option Res) : Nat → St → Int → Int → Option Res
  | 0, _, _, _ => none
  | n + 1, γ, x18, x19 =>
  bndN (f_M_is γ 10) fun r20 γ21 =>
  if r20 ≠ 0 then
  (f_M_either_b26 E (f_M_either_L6 E n) γ21 x18 x19)
  else
  (bndN (f_M_is γ21 11) fun r22 γ23 =>
  if r22 = 0 then
  (some (.inr x19, γ23))
  else
  (f_M_either_b26 E (f_M_either_L6 E n) γ23 x18 x19))
def f_M_either (E : Nat → St → Int → Int → Option Res) (γ : St) (a0 : Int) : Option Res :=
  bndT (E 3 γ a0 0) fun r24 γ25 =>
  f_M_either_L6 E  FU γ25 a0 r24
set_option maxHeartbeats 4000000 in
theorem s_M_either_b43 {Γ : Ctx} {k6 : St → Int → Int → Option Res} {n9 : Nat} {E : Nat → St → Int → Int → Option Res} (hE0 : ∀ (γ : St) (a0 : Int), i32 a0 → TC Γ BM y_M_expression mt_M_expression (n9 + 14) (70 * n9 + 461) [vR Γ 0, vI a0] γ (E 0 γ a0 0)) (hE1 : ∀ (γ : St) (a0 : Int), i32 a0 → TC Γ BM y_M_implied mt_M_implied (n9 + 14) (70 * n9 + 461) [vR Γ 0, vI a0] γ (E 1 γ a0 0)) (hE2 : ∀ (γ : St) (a0 : Int), i32 a0 → TC Γ BM y_M_either mt_M_either (n9 + 14) (70 * n9 + 461) [vR Γ 0, vI a0] γ (E 2 γ a0 0)) (hE3 : ∀ (γ : St) (a0 : Int), i32 a0 → TC Γ BM y_M_both mt_M_both (n9 + 14) (70 * n9 + 461) [vR Γ 0, vI a0] γ (E 3 γ a0 0)) (hE4 : ∀ (γ : St) (a0 : Int), i32 a0 → TC Γ BM y_M_compared mt_M_compared (n9 + 14) (70 * n9 + 461) [vR Γ 0, vI a0] γ (E 4 γ a0 0)) (hE5 : ∀ (γ : St) (a0 : Int), i32 a0 → TC Γ BM y_M_sum mt_M_sum (n9 + 14) (70 * n9 + 461) [vR Γ 0, vI a0] γ (E 5 γ a0 0)) (hE6 : ∀ (γ : St) (a0 : Int), i32 a0 → TC Γ BM y_M_product mt_M_product (n9 + 14) (70 * n9 + 461) [vR Γ 0, vI a0] γ (E 6 γ a0 0)) (hE7 : ∀ (γ : St) (a0 : Int), i32 a0 → TC Γ BM y_M_unary mt_M_unary (n9 + 14) (70 * n9 + 461) [vR Γ 0, vI a0] γ (E 7 γ a0 0)) (hE8 : ∀ (γ : St) (a0 : Int), i32 a0 → TC Γ BM y_M_atom mt_M_atom (n9 + 14) (70 * n9 + 461) [vR Γ 0, vI a0] γ (E 8 γ a0 0)) (hE9 : ∀ (γ : St) (a0 : Int) (a1 : Int), i32 a0 → i32 a1 → TC Γ BM y_M_call mt_M_call (n9 + 14) (70 * n9 + 461) [vR Γ 0, vI a0, vI a1] γ (E 9 γ a0 a1)) (hk6 : ∀ (γ : St) (x10 : Int) (x11 : Int), i32 x10 → i32 x11 → SB Γ BM mt_M_either (RmT (n9 + 1 + 14) (70 * (n9 + 1) + 461)) 0 0 (KT Γ BM mt_M_either.2.2.2) 6 [(0, vR Γ 0), (1, vI x10), (2, vI x11)] [] γ (k6 γ x10 x11)) : ∀ (γ : St) (x1 : Int) (x2 : Int) (x3 : Int), i32 x1 → i32 x2 → i32 x3 → SB Γ BM mt_M_either (RmT (n9 + 1 + 14) (70 * (n9 + 1) + 461)) 0 0 (KT Γ BM mt_M_either.2.2.2) 43 [(0, vR Γ 0), (1, vI x1), (2, vI x2)] [vI x3] γ (f_M_either_b43 E k6 γ x1 x2 x3) := by
  intro γ x1 x2 x3 hx1 hx2 hx3
  unfold f_M_either_b43
  refine sb_istore_n [(3, vI x3), (0, vR Γ 0), (1, vI x1), (2, vI x2)] d_M_either_43 (by decide) rfl ?_
  refine sb_aload_n 1 d_M_either_44 rfl ?_
  refine sb_cVv vf_M_take (c_M_take γ  ) rfl ml_M_305 (As := []) rfl rfl (Nat.le_of_ble_eq_true rfl) ⟨by first | omega | (simp only [RmT, RmN]; omega), by first | omega | (simp only [RmT, RmN]; omega)⟩ d_M_either_45 (fun _ γ5 => ?_)
  refine sb_aload_n 1 d_M_either_48 rfl ?_
  refine sb_iload_n 2 d_M_either_49 rfl ?_
  refine sb_cTi vf_M_both (hE3 γ5 x1 hx1) rfl ml_M_437 (As := [vI x1]) rfl rfl (Nat.le_of_ble_eq_true rfl) ⟨by first | omega | (simp only [RmT, RmN]; omega), by first | omega | (simp only [RmT, RmN]; omega)⟩ d_M_either_50 (fun r6 γ7 hr6 => ?_)
  refine sb_istore [(4, vI r6), (3, vI x3), (0, vR Γ 0), (1, vI x1), (2, vI x2)] d_M_either_53 (by decide) rfl ?_
  refine sb_aload_n 2 d_M_either_55 rfl ?_
  refine sb_iload_n 1 d_M_either_56 rfl ?_
  refine sb_iload_n 4 d_M_either_57 rfl ?_
  refine sb_iload 0 d_M_either_58 rfl ?_
  refine sb_cTi vf_M_two (c_M_two γ7 x3 x2 r6 hx3 hx2 hr6) rfl ml_M_430 (As := [vI x3, vI x2, vI r6]) rfl rfl (Nat.le_of_ble_eq_true rfl) ⟨by first | omega | (simp only [RmT, RmN]; omega), by first | omega | (simp only [RmT, RmN]; omega)⟩ d_M_either_60 (fun r8 γ9 hr8 => ?_)
  refine sb_istore_n [(2, vI r8), (4, vI r6), (3, vI x3), (0, vR Γ 0), (1, vI x1)] d_M_either_63 (by decide) rfl ?_
  refine sb_goto 6 d_M_either_64 (by decide) ?_
  exact sb_lv [3, 4, 0] rfl (hk6 γ9 x1 r8 hx1 hr8)
set_option maxHeartbeats 4000000 in
theorem s_M_either_b26 {Γ : Ctx} {k6 : St → Int → Int → Option Res} {n9 : Nat} {E : Nat → St → Int → Int → Option Res} (hE0 : ∀ (γ : St) (a0 : Int), i32 a0 → TC Γ BM y_M_expression mt_M_expression (n9 + 14) (70 * n9 + 461) [vR Γ 0, vI a0] γ (E 0 γ a0 0)) (hE1 : ∀ (γ : St) (a0 : Int), i32 a0 → TC Γ BM y_M_implied mt_M_implied (n9 + 14) (70 * n9 + 461) [vR Γ 0, vI a0] γ (E 1 γ a0 0)) (hE2 : ∀ (γ : St) (a0 : Int), i32 a0 → TC Γ BM y_M_either mt_M_either (n9 + 14) (70 * n9 + 461) [vR Γ 0, vI a0] γ (E 2 γ a0 0)) (hE3 : ∀ (γ : St) (a0 : Int), i32 a0 → TC Γ BM y_M_both mt_M_both (n9 + 14) (70 * n9 + 461) [vR Γ 0, vI a0] γ (E 3 γ a0 0)) (hE4 : ∀ (γ : St) (a0 : Int), i32 a0 → TC Γ BM y_M_compared mt_M_compared (n9 + 14) (70 * n9 + 461) [vR Γ 0, vI a0] γ (E 4 γ a0 0)) (hE5 : ∀ (γ : St) (a0 : Int), i32 a0 → TC Γ BM y_M_sum mt_M_sum (n9 + 14) (70 * n9 + 461) [vR Γ 0, vI a0] γ (E 5 γ a0 0)) (hE6 : ∀ (γ : St) (a0 : Int), i32 a0 → TC Γ BM y_M_product mt_M_product (n9 + 14) (70 * n9 + 461) [vR Γ 0, vI a0] γ (E 6 γ a0 0)) (hE7 : ∀ (γ : St) (a0 : Int), i32 a0 → TC Γ BM y_M_unary mt_M_unary (n9 + 14) (70 * n9 + 461) [vR Γ 0, vI a0] γ (E 7 γ a0 0)) (hE8 : ∀ (γ : St) (a0 : Int), i32 a0 → TC Γ BM y_M_atom mt_M_atom (n9 + 14) (70 * n9 + 461) [vR Γ 0, vI a0] γ (E 8 γ a0 0)) (hE9 : ∀ (γ : St) (a0 : Int) (a1 : Int), i32 a0 → i32 a1 → TC Γ BM y_M_call mt_M_call (n9 + 14) (70 * n9 + 461) [vR Γ 0, vI a0, vI a1] γ (E 9 γ a0 a1)) (hk6 : ∀ (γ : St) (x16 : Int) (x17 : Int), i32 x16 → i32 x17 → SB Γ BM mt_M_either (RmT (n9 + 1 + 14) (70 * (n9 + 1) + 461)) 0 0 (KT Γ BM mt_M_either.2.2.2) 6 [(0, vR Γ 0), (1, vI x16), (2, vI x17)] [] γ (k6 γ x16 x17)) : ∀ (γ : St) (x12 : Int) (x13 : Int), i32 x12 → i32 x13 → SB Γ BM mt_M_either (RmT (n9 + 1 + 14) (70 * (n9 + 1) + 461)) 0 0 (KT Γ BM mt_M_either.2.2.2) 26 [(0, vR Γ 0), (1, vI x12), (2, vI x13)] [] γ (f_M_either_b26 E k6 γ x12 x13) := by
  intro γ x12 x13 hx12 hx13
  unfold f_M_either_b26
  refine sb_aload_n 0 d_M_either_26 rfl ?_
  refine sb_ldcS (k := 10) (by decide) rfl d_M_either_27 ?_
  refine sb_cVz vf_M_is (c_M_is γ 10 (by decide)) rfl ml_M_317 (As := [.ref (Γ.σ 10).1]) rfl rfl (Nat.le_of_ble_eq_true rfl) ⟨by first | omega | (simp only [RmT, RmN]; omega), by first | omega | (simp only [RmT, RmN]; omega)⟩ d_M_either_30 (fun r14 γ15 hr14 => ?_)
  refine sb_if_eq 41 (z2i hr14) d_M_either_33 (by decide) (fun _ => ?_) (fun _ => ?_)
  · refine sb_bipush d_M_either_41 (by decide) ?_
    exact sb_lv [0, 1, 2] rfl (s_M_either_b43 hE0 hE1 hE2 hE3 hE4 hE5 hE6 hE7 hE8 hE9 hk6 γ15 x12 x13 9 hx12 hx13 (by decide))
  · refine sb_bipush d_M_either_36 (by decide) ?_
    refine sb_goto 43 d_M_either_38 (by decide) ?_
    exact sb_lv [0, 1, 2] rfl (s_M_either_b43 hE0 hE1 hE2 hE3 hE4 hE5 hE6 hE7 hE8 hE9 hk6 γ15 x12 x13 8 hx12 hx13 (by decide))
set_option maxHeartbeats 4000000 in
theorem s_M_either_L6 {Γ : Ctx} {n9 : Nat} {E : Nat → St → Int → Int → Option Res} (hE0 : ∀ (γ : St) (a0 : Int), i32 a0 → TC Γ BM y_M_expression mt_M_expression (n9 + 14) (70 * n9 + 461) [vR Γ 0, vI a0] γ (E 0 γ a0 0)) (hE1 : ∀ (γ : St) (a0 : Int), i32 a0 → TC Γ BM y_M_implied mt_M_implied (n9 + 14) (70 * n9 + 461) [vR Γ 0, vI a0] γ (E 1 γ a0 0)) (hE2 : ∀ (γ : St) (a0 : Int), i32 a0 → TC Γ BM y_M_either mt_M_either (n9 + 14) (70 * n9 + 461) [vR Γ 0, vI a0] γ (E 2 γ a0 0)) (hE3 : ∀ (γ : St) (a0 : Int), i32 a0 → TC Γ BM y_M_both mt_M_both (n9 + 14) (70 * n9 + 461) [vR Γ 0, vI a0] γ (E 3 γ a0 0)) (hE4 : ∀ (γ : St) (a0 : Int), i32 a0 → TC Γ BM y_M_compared mt_M_compared (n9 + 14) (70 * n9 + 461) [vR Γ 0, vI a0] γ (E 4 γ a0 0)) (hE5 : ∀ (γ : St) (a0 : Int), i32 a0 → TC Γ BM y_M_sum mt_M_sum (n9 + 14) (70 * n9 + 461) [vR Γ 0, vI a0] γ (E 5 γ a0 0)) (hE6 : ∀ (γ : St) (a0 : Int), i32 a0 → TC Γ BM y_M_product mt_M_product (n9 + 14) (70 * n9 + 461) [vR Γ 0, vI a0] γ (E 6 γ a0 0)) (hE7 : ∀ (γ : St) (a0 : Int), i32 a0 → TC Γ BM y_M_unary mt_M_unary (n9 + 14) (70 * n9 + 461) [vR Γ 0, vI a0] γ (E 7 γ a0 0)) (hE8 : ∀ (γ : St) (a0 : Int), i32 a0 → TC Γ BM y_M_atom mt_M_atom (n9 + 14) (70 * n9 + 461) [vR Γ 0, vI a0] γ (E 8 γ a0 0)) (hE9 : ∀ (γ : St) (a0 : Int) (a1 : Int), i32 a0 → i32 a1 → TC Γ BM y_M_call mt_M_call (n9 + 14) (70 * n9 + 461) [vR Γ 0, vI a0, vI a1] γ (E 9 γ a0 a1)) : ∀ (n : Nat) (γ : St) (x18 : Int) (x19 : Int), i32 x18 → i32 x19 → SB Γ BM mt_M_either (RmT (n9 + 1 + 14) (70 * (n9 + 1) + 461)) 0 0 (KT Γ BM mt_M_either.2.2.2) 6 [(0, vR Γ 0), (1, vI x18), (2, vI x19)] [] γ (f_M_either_L6 E n γ x18 x19) := by
  intro n
  induction n with
  | zero => intros; exact sb_none
  | succ n ih =>
    intro γ x18 x19 hx18 hx19
    unfold f_M_either_L6
    refine sb_aload_n 0 d_M_either_6 rfl ?_
    refine sb_ldcS (k := 10) (by decide) rfl d_M_either_7 ?_
    refine sb_cVz vf_M_is (c_M_is γ 10 (by decide)) rfl ml_M_317 (As := [.ref (Γ.σ 10).1]) rfl rfl (Nat.le_of_ble_eq_true rfl) ⟨by first | omega | (simp only [RmT, RmN]; omega), by first | omega | (simp only [RmT, RmN]; omega)⟩ d_M_either_10 (fun r20 γ21 hr20 => ?_)
    refine sb_if_ne 26 (z2i hr20) d_M_either_13 (by decide) (fun _ => ?_) (fun _ => ?_)
    · exact sb_lv [0, 1, 2] rfl (s_M_either_b26 hE0 hE1 hE2 hE3 hE4 hE5 hE6 hE7 hE8 hE9 ih γ21 x18 x19 hx18 hx19)
    · refine sb_aload_n 0 d_M_either_16 rfl ?_
      refine sb_ldcS (k := 11) (by decide) rfl d_M_either_17 ?_
      refine sb_cVz vf_M_is (c_M_is γ21 11 (by decide)) rfl ml_M_317 (As := [.ref (Γ.σ 11).1]) rfl rfl (Nat.le_of_ble_eq_true rfl) ⟨by first | omega | (simp only [RmT, RmN]; omega), by first | omega | (simp only [RmT, RmN]; omega)⟩ d_M_either_20 (fun r22 γ23 hr22 => ?_)
      refine sb_if_eq 67 (z2i hr22) d_M_either_23 (by decide) (fun _ => ?_) (fun _ => ?_)
      · refine sb_iload_n 2 d_M_either_67 rfl ?_
        exact st_i rfl hx19 d_M_either_68
      · exact sb_lv [0, 1, 2] rfl (s_M_either_b26 hE0 hE1 hE2 hE3 hE4 hE5 hE6 hE7 hE8 hE9 ih γ23 x18 x19 hx18 hx19)
set_option maxHeartbeats 4000000 in
theorem c_M_either {Γ : Ctx} {n9 : Nat} {E : Nat → St → Int → Int → Option Res} (hE0 : ∀ (γ : St) (a0 : Int), i32 a0 → TC Γ BM y_M_expression mt_M_expression (n9 + 14) (70 * n9 + 461) [vR Γ 0, vI a0] γ (E 0 γ a0 0)) (hE1 : ∀ (γ : St) (a0 : Int), i32 a0 → TC Γ BM y_M_implied mt_M_implied (n9 + 14) (70 * n9 + 461) [vR Γ 0, vI a0] γ (E 1 γ a0 0)) (hE2 : ∀ (γ : St) (a0 : Int), i32 a0 → TC Γ BM y_M_either mt_M_either (n9 + 14) (70 * n9 + 461) [vR Γ 0, vI a0] γ (E 2 γ a0 0)) (hE3 : ∀ (γ : St) (a0 : Int), i32 a0 → TC Γ BM y_M_both mt_M_both (n9 + 14) (70 * n9 + 461) [vR Γ 0, vI a0] γ (E 3 γ a0 0)) (hE4 : ∀ (γ : St) (a0 : Int), i32 a0 → TC Γ BM y_M_compared mt_M_compared (n9 + 14) (70 * n9 + 461) [vR Γ 0, vI a0] γ (E 4 γ a0 0)) (hE5 : ∀ (γ : St) (a0 : Int), i32 a0 → TC Γ BM y_M_sum mt_M_sum (n9 + 14) (70 * n9 + 461) [vR Γ 0, vI a0] γ (E 5 γ a0 0)) (hE6 : ∀ (γ : St) (a0 : Int), i32 a0 → TC Γ BM y_M_product mt_M_product (n9 + 14) (70 * n9 + 461) [vR Γ 0, vI a0] γ (E 6 γ a0 0)) (hE7 : ∀ (γ : St) (a0 : Int), i32 a0 → TC Γ BM y_M_unary mt_M_unary (n9 + 14) (70 * n9 + 461) [vR Γ 0, vI a0] γ (E 7 γ a0 0)) (hE8 : ∀ (γ : St) (a0 : Int), i32 a0 → TC Γ BM y_M_atom mt_M_atom (n9 + 14) (70 * n9 + 461) [vR Γ 0, vI a0] γ (E 8 γ a0 0)) (hE9 : ∀ (γ : St) (a0 : Int) (a1 : Int), i32 a0 → i32 a1 → TC Γ BM y_M_call mt_M_call (n9 + 14) (70 * n9 + 461) [vR Γ 0, vI a0, vI a1] γ (E 9 γ a0 a1)) (γ : St) (a0 : Int) (ha0 : i32 a0) : TC Γ BM y_M_either mt_M_either (n9 + 1 + 14) (70 * (n9 + 1) + 461) [vR Γ 0, vI a0] γ (f_M_either E γ a0) := by
  refine tc_of (by decide) rfl (Nat.le_of_ble_eq_true rfl) ?_
  show SB Γ BM mt_M_either (RmT (n9 + 1 + 14) (70 * (n9 + 1) + 461)) 0 0 (KT Γ BM mt_M_either.2.2.2) 0 [(0, vR Γ 0), (1, vI a0)] [] γ _
  unfold f_M_either
  refine sb_aload_n 0 d_M_either_0 rfl ?_
  refine sb_iload_n 1 d_M_either_1 rfl ?_
  refine sb_cTi vf_M_both (hE3 γ a0 ha0) rfl ml_M_437 (As := [vI a0]) rfl rfl (Nat.le_of_ble_eq_true rfl) ⟨by first | omega | (simp only [RmT, RmN]; omega), by first | omega | (simp only [RmT, RmN]; omega)⟩ d_M_either_2 (fun r24 γ25 hr24 => ?_)
  refine sb_istore_n [(2, vI r24), (0, vR Γ 0), (1, vI a0)] d_M_either_5 (by decide) rfl ?_
  exact sb_lv [1, 2, 0] rfl (s_M_either_L6 hE0 hE1 hE2 hE3 hE4 hE5 hE6 hE7 hE8 hE9  FU γ25 a0 r24 ha0 hr24)
def f_M_both_L6 (E : Nat → St → Int → Int → Option Res) : Nat → St → Int → Int → Option Res
  | 0, _, _, _ => none
  | n + 1, γ, x1, x2 =>
  bndN (f_M_is γ 9) fun r3 γ4 =>
  if r3 = 0 then
  (some (.inr x2, γ4))
  else
  (bndN (f_M_take γ4) fun _ γ6 =>
  bndT (E 4 γ6 x1 0) fun r7 γ8 =>
  bndT (f_M_two γ8 10 x2 r7) fun r9 γ10 =>
  (f_M_both_L6 E n) γ10 x1 r9)
def f_M_both (E : Nat → St → Int → Int → Option Res) (γ : St) (a0 : Int) : Option Res :=
  bndT (E 4 γ a0 0) fun r11 γ12 =>
  f_M_both_L6 E  FU γ12 a0 r11
set_option maxHeartbeats 4000000 in
theorem s_M_both_L6 {Γ : Ctx} {n9 : Nat} {E : Nat → St → Int → Int → Option Res} (hE0 : ∀ (γ : St) (a0 : Int), i32 a0 → TC Γ BM y_M_expression mt_M_expression (n9 + 14) (70 * n9 + 461) [vR Γ 0, vI a0] γ (E 0 γ a0 0)) (hE1 : ∀ (γ : St) (a0 : Int), i32 a0 → TC Γ BM y_M_implied mt_M_implied (n9 + 14) (70 * n9 + 461) [vR Γ 0, vI a0] γ (E 1 γ a0 0)) (hE2 : ∀ (γ : St) (a0 : Int), i32 a0 → TC Γ BM y_M_either mt_M_either (n9 + 14) (70 * n9 + 461) [vR Γ 0, vI a0] γ (E 2 γ a0 0)) (hE3 : ∀ (γ : St) (a0 : Int), i32 a0 → TC Γ BM y_M_both mt_M_both (n9 + 14) (70 * n9 + 461) [vR Γ 0, vI a0] γ (E 3 γ a0 0)) (hE4 : ∀ (γ : St) (a0 : Int), i32 a0 → TC Γ BM y_M_compared mt_M_compared (n9 + 14) (70 * n9 + 461) [vR Γ 0, vI a0] γ (E 4 γ a0 0)) (hE5 : ∀ (γ : St) (a0 : Int), i32 a0 → TC Γ BM y_M_sum mt_M_sum (n9 + 14) (70 * n9 + 461) [vR Γ 0, vI a0] γ (E 5 γ a0 0)) (hE6 : ∀ (γ : St) (a0 : Int), i32 a0 → TC Γ BM y_M_product mt_M_product (n9 + 14) (70 * n9 + 461) [vR Γ 0, vI a0] γ (E 6 γ a0 0)) (hE7 : ∀ (γ : St) (a0 : Int), i32 a0 → TC Γ BM y_M_unary mt_M_unary (n9 + 14) (70 * n9 + 461) [vR Γ 0, vI a0] γ (E 7 γ a0 0)) (hE8 : ∀ (γ : St) (a0 : Int), i32 a0 → TC Γ BM y_M_atom mt_M_atom (n9 + 14) (70 * n9 + 461) [vR Γ 0, vI a0] γ (E 8 γ a0 0)) (hE9 : ∀ (γ : St) (a0 : Int) (a1 : Int), i32 a0 → i32 a1 → TC Γ BM y_M_call mt_M_call (n9 + 14) (70 * n9 + 461) [vR Γ 0, vI a0, vI a1] γ (E 9 γ a0 a1)) : ∀ (n : Nat) (γ : St) (x1 : Int) (x2 : Int), i32 x1 → i32 x2 → SB Γ BM mt_M_both (RmT (n9 + 1 + 14) (70 * (n9 + 1) + 461)) 0 0 (KT Γ BM mt_M_both.2.2.2) 6 [(0, vR Γ 0), (1, vI x1), (2, vI x2)] [] γ (f_M_both_L6 E n γ x1 x2) := by
  intro n
  induction n with
  | zero => intros; exact sb_none
  | succ n ih =>
    intro γ x1 x2 hx1 hx2
    unfold f_M_both_L6
    refine sb_aload_n 0 d_M_both_6 rfl ?_
    refine sb_ldcS (k := 9) (by decide) rfl d_M_both_7 ?_
    refine sb_cVz vf_M_is (c_M_is γ 9 (by decide)) rfl ml_M_317 (As := [.ref (Γ.σ 9).1]) rfl rfl (Nat.le_of_ble_eq_true rfl) ⟨by first | omega | (simp only [RmT, RmN]; omega), by first | omega | (simp only [RmT, RmN]; omega)⟩ d_M_both_10 (fun r3 γ4 hr3 => ?_)
    refine sb_if_eq 38 (z2i hr3) d_M_both_13 (by decide) (fun _ => ?_) (fun _ => ?_)
    · refine sb_iload_n 2 d_M_both_38 rfl ?_
      exact st_i rfl hx2 d_M_both_39
    · refine sb_aload_n 0 d_M_both_16 rfl ?_
      refine sb_cVv vf_M_take (c_M_take γ4  ) rfl ml_M_305 (As := []) rfl rfl (Nat.le_of_ble_eq_true rfl) ⟨by first | omega | (simp only [RmT, RmN]; omega), by first | omega | (simp only [RmT, RmN]; omega)⟩ d_M_both_17 (fun _ γ6 => ?_)
      refine sb_aload_n 0 d_M_both_20 rfl ?_
      refine sb_iload_n 1 d_M_both_21 rfl ?_
      refine sb_cTi vf_M_compared (hE4 γ6 x1 hx1) rfl ml_M_440 (As := [vI x1]) rfl rfl (Nat.le_of_ble_eq_true rfl) ⟨by first | omega | (simp only [RmT, RmN]; omega), by first | omega | (simp only [RmT, RmN]; omega)⟩ d_M_both_22 (fun r7 γ8 hr7 => ?_)
      refine sb_istore_n [(3, vI r7), (0, vR Γ 0), (1, vI x1), (2, vI x2)] d_M_both_25 (by decide) rfl ?_
      refine sb_aload_n 1 d_M_both_26 rfl ?_
      refine sb_bipush d_M_both_27 (by decide) ?_
      refine sb_iload_n 3 d_M_both_29 rfl ?_
      refine sb_iload_n 0 d_M_both_30 rfl ?_
      refine sb_cTi vf_M_two (c_M_two γ8 10 x2 r7 (by decide) hx2 hr7) rfl ml_M_430 (As := [vI 10, vI x2, vI r7]) rfl rfl (Nat.le_of_ble_eq_true rfl) ⟨by first | omega | (simp only [RmT, RmN]; omega), by first | omega | (simp only [RmT, RmN]; omega)⟩ d_M_both_31 (fun r9 γ10 hr9 => ?_)
      refine sb_istore_n [(2, vI r9), (3, vI r7), (0, vR Γ 0), (1, vI x1)] d_M_both_34 (by decide) rfl ?_
      refine sb_goto 6 d_M_both_35 (by decide) ?_
      exact sb_lv [2, 3, 0] rfl (ih γ10 x1 r9 hx1 hr9)
set_option maxHeartbeats 4000000 in
theorem c_M_both {Γ : Ctx} {n9 : Nat} {E : Nat → St → Int → Int → Option Res} (hE0 : ∀ (γ : St) (a0 : Int), i32 a0 → TC Γ BM y_M_expression mt_M_expression (n9 + 14) (70 * n9 + 461) [vR Γ 0, vI a0] γ (E 0 γ a0 0)) (hE1 : ∀ (γ : St) (a0 : Int), i32 a0 → TC Γ BM y_M_implied mt_M_implied (n9 + 14) (70 * n9 + 461) [vR Γ 0, vI a0] γ (E 1 γ a0 0)) (hE2 : ∀ (γ : St) (a0 : Int), i32 a0 → TC Γ BM y_M_either mt_M_either (n9 + 14) (70 * n9 + 461) [vR Γ 0, vI a0] γ (E 2 γ a0 0)) (hE3 : ∀ (γ : St) (a0 : Int), i32 a0 → TC Γ BM y_M_both mt_M_both (n9 + 14) (70 * n9 + 461) [vR Γ 0, vI a0] γ (E 3 γ a0 0)) (hE4 : ∀ (γ : St) (a0 : Int), i32 a0 → TC Γ BM y_M_compared mt_M_compared (n9 + 14) (70 * n9 + 461) [vR Γ 0, vI a0] γ (E 4 γ a0 0)) (hE5 : ∀ (γ : St) (a0 : Int), i32 a0 → TC Γ BM y_M_sum mt_M_sum (n9 + 14) (70 * n9 + 461) [vR Γ 0, vI a0] γ (E 5 γ a0 0)) (hE6 : ∀ (γ : St) (a0 : Int), i32 a0 → TC Γ BM y_M_product mt_M_product (n9 + 14) (70 * n9 + 461) [vR Γ 0, vI a0] γ (E 6 γ a0 0)) (hE7 : ∀ (γ : St) (a0 : Int), i32 a0 → TC Γ BM y_M_unary mt_M_unary (n9 + 14) (70 * n9 + 461) [vR Γ 0, vI a0] γ (E 7 γ a0 0)) (hE8 : ∀ (γ : St) (a0 : Int), i32 a0 → TC Γ BM y_M_atom mt_M_atom (n9 + 14) (70 * n9 + 461) [vR Γ 0, vI a0] γ (E 8 γ a0 0)) (hE9 : ∀ (γ : St) (a0 : Int) (a1 : Int), i32 a0 → i32 a1 → TC Γ BM y_M_call mt_M_call (n9 + 14) (70 * n9 + 461) [vR Γ 0, vI a0, vI a1] γ (E 9 γ a0 a1)) (γ : St) (a0 : Int) (ha0 : i32 a0) : TC Γ BM y_M_both mt_M_both (n9 + 1 + 14) (70 * (n9 + 1) + 461) [vR Γ 0, vI a0] γ (f_M_both E γ a0) := by
  refine tc_of (by decide) rfl (Nat.le_of_ble_eq_true rfl) ?_
  show SB Γ BM mt_M_both (RmT (n9 + 1 + 14) (70 * (n9 + 1) + 461)) 0 0 (KT Γ BM mt_M_both.2.2.2) 0 [(0, vR Γ 0), (1, vI a0)] [] γ _
  unfold f_M_both
  refine sb_aload_n 0 d_M_both_0 rfl ?_
  refine sb_iload_n 1 d_M_both_1 rfl ?_
  refine sb_cTi vf_M_compared (hE4 γ a0 ha0) rfl ml_M_440 (As := [vI a0]) rfl rfl (Nat.le_of_ble_eq_true rfl) ⟨by first | omega | (simp only [RmT, RmN]; omega), by first | omega | (simp only [RmT, RmN]; omega)⟩ d_M_both_2 (fun r11 γ12 hr11 => ?_)
  refine sb_istore_n [(2, vI r11), (0, vR Γ 0), (1, vI a0)] d_M_both_5 (by decide) rfl ?_
  exact sb_lv [1, 2, 0] rfl (s_M_both_L6 hE0 hE1 hE2 hE3 hE4 hE5 hE6 hE7 hE8 hE9  FU γ12 a0 r11 ha0 hr11)
def f_M_compared_b81 (E : Nat → St → Int → Int → Option Res) (γ : St) (x1 : Int) (x2 : Int) (x3 : Int) : Option Res :=
  if x3 ≠ 0 then
  (bndN (f_M_take γ) fun _ γ5 =>
  bndT (E 5 γ5 x1 0) fun r6 γ7 =>
  bndT (f_M_two γ7 x3 x2 r6) fun r8 γ9 =>
  some (.inr r8, γ9))
  else
  (some (.inr x2, γ))
def f_M_compared (E : Nat → St → Int → Int → Option Res) (γ : St) (a0 : Int) : Option Res :=
  bndT (E 5 γ a0 0) fun r10 γ11 =>
  bndN (f_M_peek γ11) fun r12 γ13 =>
  if r12 ≠ 61 then
  (if r12 ≠ 300 then
  (if r12 ≠ 60 then
  (if r12 ≠ 301 then
  (if r12 ≠ 62 then
  (if r12 ≠ 302 then
  (f_M_compared_b81 E γ13 a0 r10 0)
  else
  (f_M_compared_b81 E γ13 a0 r10 16))
  else
  (f_M_compared_b81 E γ13 a0 r10 15))
  else
  (f_M_compared_b81 E γ13 a0 r10 14))
  else
  (f_M_compared_b81 E γ13 a0 r10 13))
  else
  (f_M_compared_b81 E γ13 a0 r10 12))
  else
  (f_M_compared_b81 E γ13 a0 r10 11)
set_option maxHeartbeats 4000000 in
theorem s_M_compared_b81 {Γ : Ctx} {n9 : Nat} {E : Nat → St → Int → Int → Option Res} (hE0 : ∀ (γ : St) (a0 : Int), i32 a0 → TC Γ BM y_M_expression mt_M_expression (n9 + 14) (70 * n9 + 461) [vR Γ 0, vI a0] γ (E 0 γ a0 0)) (hE1 : ∀ (γ : St) (a0 : Int), i32 a0 → TC Γ BM y_M_implied mt_M_implied (n9 + 14) (70 * n9 + 461) [vR Γ 0, vI a0] γ (E 1 γ a0 0)) (hE2 : ∀ (γ : St) (a0 : Int), i32 a0 → TC Γ BM y_M_either mt_M_either (n9 + 14) (70 * n9 + 461) [vR Γ 0, vI a0] γ (E 2 γ a0 0)) (hE3 : ∀ (γ : St) (a0 : Int), i32 a0 → TC Γ BM y_M_both mt_M_both (n9 + 14) (70 * n9 + 461) [vR Γ 0, vI a0] γ (E 3 γ a0 0)) (hE4 : ∀ (γ : St) (a0 : Int), i32 a0 → TC Γ BM y_M_compared mt_M_compared (n9 + 14) (70 * n9 + 461) [vR Γ 0, vI a0] γ (E 4 γ a0 0)) (hE5 : ∀ (γ : St) (a0 : Int), i32 a0 → TC Γ BM y_M_sum mt_M_sum (n9 + 14) (70 * n9 + 461) [vR Γ 0, vI a0] γ (E 5 γ a0 0)) (hE6 : ∀ (γ : St) (a0 : Int), i32 a0 → TC Γ BM y_M_product mt_M_product (n9 + 14) (70 * n9 + 461) [vR Γ 0, vI a0] γ (E 6 γ a0 0)) (hE7 : ∀ (γ : St) (a0 : Int), i32 a0 → TC Γ BM y_M_unary mt_M_unary (n9 + 14) (70 * n9 + 461) [vR Γ 0, vI a0] γ (E 7 γ a0 0)) (hE8 : ∀ (γ : St) (a0 : Int), i32 a0 → TC Γ BM y_M_atom mt_M_atom (n9 + 14) (70 * n9 + 461) [vR Γ 0, vI a0] γ (E 8 γ a0 0)) (hE9 : ∀ (γ : St) (a0 : Int) (a1 : Int), i32 a0 → i32 a1 → TC Γ BM y_M_call mt_M_call (n9 + 14) (70 * n9 + 461) [vR Γ 0, vI a0, vI a1] γ (E 9 γ a0 a1)) : ∀ (γ : St) (x1 : Int) (x2 : Int) (x3 : Int), i32 x1 → i32 x2 → i32 x3 → SB Γ BM mt_M_compared (RmT (n9 + 1 + 14) (70 * (n9 + 1) + 461)) 0 0 (KT Γ BM mt_M_compared.2.2.2) 81 [(0, vR Γ 0), (1, vI x1), (2, vI x2)] [vI x3] γ (f_M_compared_b81 E γ x1 x2 x3) := by
  intro γ x1 x2 x3 hx1 hx2 hx3
  unfold f_M_compared_b81
  refine sb_istore [(4, vI x3), (0, vR Γ 0), (1, vI x1), (2, vI x2)] d_M_compared_81 (by decide) rfl ?_
  refine sb_iload 0 d_M_compared_83 rfl ?_
  refine sb_if_ne 90 hx3 d_M_compared_85 (by decide) (fun _ => ?_) (fun _ => ?_)
  · refine sb_aload_n 1 d_M_compared_90 rfl ?_
    refine sb_cVv vf_M_take (c_M_take γ  ) rfl ml_M_305 (As := []) rfl rfl (Nat.le_of_ble_eq_true rfl) ⟨by first | omega | (simp only [RmT, RmN]; omega), by first | omega | (simp only [RmT, RmN]; omega)⟩ d_M_compared_91 (fun _ γ5 => ?_)
    refine sb_aload_n 1 d_M_compared_94 rfl ?_
    refine sb_iload_n 2 d_M_compared_95 rfl ?_
    refine sb_cTi vf_M_sum (hE5 γ5 x1 hx1) rfl ml_M_443 (As := [vI x1]) rfl rfl (Nat.le_of_ble_eq_true rfl) ⟨by first | omega | (simp only [RmT, RmN]; omega), by first | omega | (simp only [RmT, RmN]; omega)⟩ d_M_compared_96 (fun r6 γ7 hr6 => ?_)
    refine sb_istore [(5, vI r6), (4, vI x3), (0, vR Γ 0), (1, vI x1), (2, vI x2)] d_M_compared_99 (by decide) rfl ?_
    refine sb_aload_n 2 d_M_compared_101 rfl ?_
    refine sb_iload 1 d_M_compared_102 rfl ?_
    refine sb_iload_n 4 d_M_compared_104 rfl ?_
    refine sb_iload 0 d_M_compared_105 rfl ?_
    refine sb_cTi vf_M_two (c_M_two γ7 x3 x2 r6 hx3 hx2 hr6) rfl ml_M_430 (As := [vI x3, vI x2, vI r6]) rfl rfl (Nat.le_of_ble_eq_true rfl) ⟨by first | omega | (simp only [RmT, RmN]; omega), by first | omega | (simp only [RmT, RmN]; omega)⟩ d_M_compared_107 (fun r8 γ9 hr8 => ?_)
    exact st_i rfl hr8 d_M_compared_110
  · refine sb_iload_n 3 d_M_compared_88 rfl ?_
    exact st_i rfl hx2 d_M_compared_89
set_option maxHeartbeats 4000000 in
theorem c_M_compared {Γ : Ctx} {n9 : Nat} {E : Nat → St → Int → Int → Option Res} (hE0 : ∀ (γ : St) (a0 : Int), i32 a0 → TC Γ BM y_M_expression mt_M_expression (n9 + 14) (70 * n9 + 461) [vR Γ 0, vI a0] γ (E 0 γ a0 0)) (hE1 : ∀ (γ : St) (a0 : Int), i32 a0 → TC Γ BM y_M_implied mt_M_implied (n9 + 14) (70 * n9 + 461) [vR Γ 0, vI a0] γ (E 1 γ a0 0)) (hE2 : ∀ (γ : St) (a0 : Int), i32 a0 → TC Γ BM y_M_either mt_M_either (n9 + 14) (70 * n9 + 461) [vR Γ 0, vI a0] γ (E 2 γ a0 0)) (hE3 : ∀ (γ : St) (a0 : Int), i32 a0 → TC Γ BM y_M_both mt_M_both (n9 + 14) (70 * n9 + 461) [vR Γ 0, vI a0] γ (E 3 γ a0 0)) (hE4 : ∀ (γ : St) (a0 : Int), i32 a0 → TC Γ BM y_M_compared mt_M_compared (n9 + 14) (70 * n9 + 461) [vR Γ 0, vI a0] γ (E 4 γ a0 0)) (hE5 : ∀ (γ : St) (a0 : Int), i32 a0 → TC Γ BM y_M_sum mt_M_sum (n9 + 14) (70 * n9 + 461) [vR Γ 0, vI a0] γ (E 5 γ a0 0)) (hE6 : ∀ (γ : St) (a0 : Int), i32 a0 → TC Γ BM y_M_product mt_M_product (n9 + 14) (70 * n9 + 461) [vR Γ 0, vI a0] γ (E 6 γ a0 0)) (hE7 : ∀ (γ : St) (a0 : Int), i32 a0 → TC Γ BM y_M_unary mt_M_unary (n9 + 14) (70 * n9 + 461) [vR Γ 0, vI a0] γ (E 7 γ a0 0)) (hE8 : ∀ (γ : St) (a0 : Int), i32 a0 → TC Γ BM y_M_atom mt_M_atom (n9 + 14) (70 * n9 + 461) [vR Γ 0, vI a0] γ (E 8 γ a0 0)) (hE9 : ∀ (γ : St) (a0 : Int) (a1 : Int), i32 a0 → i32 a1 → TC Γ BM y_M_call mt_M_call (n9 + 14) (70 * n9 + 461) [vR Γ 0, vI a0, vI a1] γ (E 9 γ a0 a1)) (γ : St) (a0 : Int) (ha0 : i32 a0) : TC Γ BM y_M_compared mt_M_compared (n9 + 1 + 14) (70 * (n9 + 1) + 461) [vR Γ 0, vI a0] γ (f_M_compared E γ a0) := by
  refine tc_of (by decide) rfl (Nat.le_of_ble_eq_true rfl) ?_
  show SB Γ BM mt_M_compared (RmT (n9 + 1 + 14) (70 * (n9 + 1) + 461)) 0 0 (KT Γ BM mt_M_compared.2.2.2) 0 [(0, vR Γ 0), (1, vI a0)] [] γ _
  unfold f_M_compared
  refine sb_aload_n 0 d_M_compared_0 rfl ?_
  refine sb_iload_n 1 d_M_compared_1 rfl ?_
  refine sb_cTi vf_M_sum (hE5 γ a0 ha0) rfl ml_M_443 (As := [vI a0]) rfl rfl (Nat.le_of_ble_eq_true rfl) ⟨by first | omega | (simp only [RmT, RmN]; omega), by first | omega | (simp only [RmT, RmN]; omega)⟩ d_M_compared_2 (fun r10 γ11 hr10 => ?_)
  refine sb_istore_n [(2, vI r10), (0, vR Γ 0), (1, vI a0)] d_M_compared_5 (by decide) rfl ?_
  refine sb_aload_n 1 d_M_compared_6 rfl ?_
  refine sb_cVi vf_M_peek (c_M_peek γ11  ) rfl ml_M_292 (As := []) rfl rfl (Nat.le_of_ble_eq_true rfl) ⟨by first | omega | (simp only [RmT, RmN]; omega), by first | omega | (simp only [RmT, RmN]; omega)⟩ d_M_compared_7 (fun r12 γ13 hr12 => ?_)
  refine sb_istore_n [(3, vI r12), (2, vI r10), (0, vR Γ 0), (1, vI a0)] d_M_compared_10 (by decide) rfl ?_
  refine sb_iload_n 0 d_M_compared_11 rfl ?_
  refine sb_bipush d_M_compared_12 (by decide) ?_
  refine sb_icmp_ne 22 hr12 (by decide) d_M_compared_14 (by decide) (fun _ => ?_) (fun _ => ?_)
  · refine sb_iload_n 0 d_M_compared_22 rfl ?_
    refine sb_sipush d_M_compared_23 (by decide) ?_
    refine sb_icmp_ne 34 hr12 (by decide) d_M_compared_26 (by decide) (fun _ => ?_) (fun _ => ?_)
    · refine sb_iload_n 0 d_M_compared_34 rfl ?_
      refine sb_bipush d_M_compared_35 (by decide) ?_
      refine sb_icmp_ne 45 hr12 (by decide) d_M_compared_37 (by decide) (fun _ => ?_) (fun _ => ?_)
      · refine sb_iload_n 0 d_M_compared_45 rfl ?_
        refine sb_sipush d_M_compared_46 (by decide) ?_
        refine sb_icmp_ne 57 hr12 (by decide) d_M_compared_49 (by decide) (fun _ => ?_) (fun _ => ?_)
        · refine sb_iload_n 0 d_M_compared_57 rfl ?_
          refine sb_bipush d_M_compared_58 (by decide) ?_
          refine sb_icmp_ne 68 hr12 (by decide) d_M_compared_60 (by decide) (fun _ => ?_) (fun _ => ?_)
          · refine sb_iload_n 0 d_M_compared_68 rfl ?_
            refine sb_sipush d_M_compared_69 (by decide) ?_
            refine sb_icmp_ne 80 hr12 (by decide) d_M_compared_72 (by decide) (fun _ => ?_) (fun _ => ?_)
            · refine sb_iconst d_M_compared_80 ?_
              exact sb_lv [2, 3, 1] rfl (s_M_compared_b81 hE0 hE1 hE2 hE3 hE4 hE5 hE6 hE7 hE8 hE9 γ13 a0 r10 0 ha0 hr10 (by decide))
            · refine sb_bipush d_M_compared_75 (by decide) ?_
              refine sb_goto 81 d_M_compared_77 (by decide) ?_
              exact sb_lv [2, 3, 1] rfl (s_M_compared_b81 hE0 hE1 hE2 hE3 hE4 hE5 hE6 hE7 hE8 hE9 γ13 a0 r10 16 ha0 hr10 (by decide))
          · refine sb_bipush d_M_compared_63 (by decide) ?_
            refine sb_goto 81 d_M_compared_65 (by decide) ?_
            exact sb_lv [2, 3, 1] rfl (s_M_compared_b81 hE0 hE1 hE2 hE3 hE4 hE5 hE6 hE7 hE8 hE9 γ13 a0 r10 15 ha0 hr10 (by decide))
        · refine sb_bipush d_M_compared_52 (by decide) ?_
          refine sb_goto 81 d_M_compared_54 (by decide) ?_
          exact sb_lv [2, 3, 1] rfl (s_M_compared_b81 hE0 hE1 hE2 hE3 hE4 hE5 hE6 hE7 hE8 hE9 γ13 a0 r10 14 ha0 hr10 (by decide))
      · refine sb_bipush d_M_compared_40 (by decide) ?_
        refine sb_goto 81 d_M_compared_42 (by decide) ?_
        exact sb_lv [2, 3, 1] rfl (s_M_compared_b81 hE0 hE1 hE2 hE3 hE4 hE5 hE6 hE7 hE8 hE9 γ13 a0 r10 13 ha0 hr10 (by decide))
    · refine sb_bipush d_M_compared_29 (by decide) ?_
      refine sb_goto 81 d_M_compared_31 (by decide) ?_
      exact sb_lv [2, 3, 1] rfl (s_M_compared_b81 hE0 hE1 hE2 hE3 hE4 hE5 hE6 hE7 hE8 hE9 γ13 a0 r10 12 ha0 hr10 (by decide))
  · refine sb_bipush d_M_compared_17 (by decide) ?_
    refine sb_goto 81 d_M_compared_19 (by decide) ?_
    exact sb_lv [2, 3, 1] rfl (s_M_compared_b81 hE0 hE1 hE2 hE3 hE4 hE5 hE6 hE7 hE8 hE9 γ13 a0 r10 11 ha0 hr10 (by decide))
def f_M_sum_b40 (E : Nat → St → Int → Int → Option Res) (k6 : St → Int → Int → Option Res) (γ : St) (x1 : Int) (x2 : Int) (x3 : Int) : Option Res :=
  bndN (f_M_take γ) fun _ γ5 =>
  bndT (E 6 γ5 x1 0) fun r6 γ7 =>
  bndT (f_M_two γ7 x3 x2 r6) fun r8 γ9 =>
  k6 γ9 x1 r8
def f_M_sum_b24 (E : Nat → St → Int → Int → Option Res) (k6 : St → Int → Int → Option Res) (γ : St) (x12 : Int) (x13 : Int) : Option Res :=
  bndN (f_M_peek γ) fun r14 γ15 =>
  if r14 ≠ 43 then
  (f_M_sum_b40 E k6 γ15 x12 x13 18)
  else
  (f_M_sum_b40 E k6 γ15 x12 x13 17)
def f_M_sum_L6 (E : Nat → St → Int → Int → Option Res) : Nat → St → Int → Int → Option Res
  | 0, _, _, _ => none
  | n + 1, γ, x18, x19 =>
  bndN (f_M_peek γ) fun r20 γ21 =>
  if r20 = 43 then
  (f_M_sum_b24 E (f_M_sum_L6 E n) γ21 x18 x19)
  else
  (bndN (f_M_peek γ21) fun r22 γ23 =>
  if r22 ≠ 45 then
  (some (.inr x19, γ23))
  else
  (f_M_sum_b24 E (f_M_sum_L6 E n) γ23 x18 x19))
def f_M_sum (E : Nat → St → Int → Int → Option Res) (γ : St) (a0 : Int) : Option Res :=
  bndT (E 6 γ a0 0) fun r24 γ25 =>
  f_M_sum_L6 E  FU γ25 a0 r24
set_option maxHeartbeats 4000000 in
theorem s_M_sum_b40 {Γ : Ctx} {k6 : St → Int → Int → Option Res} {n9 : Nat} {E : Nat → St → Int → Int → Option Res} (hE0 : ∀ (γ : St) (a0 : Int), i32 a0 → TC Γ BM y_M_expression mt_M_expression (n9 + 14) (70 * n9 + 461) [vR Γ 0, vI a0] γ (E 0 γ a0 0)) (hE1 : ∀ (γ : St) (a0 : Int), i32 a0 → TC Γ BM y_M_implied mt_M_implied (n9 + 14) (70 * n9 + 461) [vR Γ 0, vI a0] γ (E 1 γ a0 0)) (hE2 : ∀ (γ : St) (a0 : Int), i32 a0 → TC Γ BM y_M_either mt_M_either (n9 + 14) (70 * n9 + 461) [vR Γ 0, vI a0] γ (E 2 γ a0 0)) (hE3 : ∀ (γ : St) (a0 : Int), i32 a0 → TC Γ BM y_M_both mt_M_both (n9 + 14) (70 * n9 + 461) [vR Γ 0, vI a0] γ (E 3 γ a0 0)) (hE4 : ∀ (γ : St) (a0 : Int), i32 a0 → TC Γ BM y_M_compared mt_M_compared (n9 + 14) (70 * n9 + 461) [vR Γ 0, vI a0] γ (E 4 γ a0 0)) (hE5 : ∀ (γ : St) (a0 : Int), i32 a0 → TC Γ BM y_M_sum mt_M_sum (n9 + 14) (70 * n9 + 461) [vR Γ 0, vI a0] γ (E 5 γ a0 0)) (hE6 : ∀ (γ : St) (a0 : Int), i32 a0 → TC Γ BM y_M_product mt_M_product (n9 + 14) (70 * n9 + 461) [vR Γ 0, vI a0] γ (E 6 γ a0 0)) (hE7 : ∀ (γ : St) (a0 : Int), i32 a0 → TC Γ BM y_M_unary mt_M_unary (n9 + 14) (70 * n9 + 461) [vR Γ 0, vI a0] γ (E 7 γ a0 0)) (hE8 : ∀ (γ : St) (a0 : Int), i32 a0 → TC Γ BM y_M_atom mt_M_atom (n9 + 14) (70 * n9 + 461) [vR Γ 0, vI a0] γ (E 8 γ a0 0)) (hE9 : ∀ (γ : St) (a0 : Int) (a1 : Int), i32 a0 → i32 a1 → TC Γ BM y_M_call mt_M_call (n9 + 14) (70 * n9 + 461) [vR Γ 0, vI a0, vI a1] γ (E 9 γ a0 a1)) (hk6 : ∀ (γ : St) (x10 : Int) (x11 : Int), i32 x10 → i32 x11 → SB Γ BM mt_M_sum (RmT (n9 + 1 + 14) (70 * (n9 + 1) + 461)) 0 0 (KT Γ BM mt_M_sum.2.2.2) 6 [(0, vR Γ 0), (1, vI x10), (2, vI x11)] [] γ (k6 γ x10 x11)) : ∀ (γ : St) (x1 : Int) (x2 : Int) (x3 : Int), i32 x1 → i32 x2 → i32 x3 → SB Γ BM mt_M_sum (RmT (n9 + 1 + 14) (70 * (n9 + 1) + 461)) 0 0 (KT Γ BM mt_M_sum.2.2.2) 40 [(0, vR Γ 0), (1, vI x1), (2, vI x2)] [vI x3] γ (f_M_sum_b40 E k6 γ x1 x2 x3) := by
  intro γ x1 x2 x3 hx1 hx2 hx3
  unfold f_M_sum_b40
  refine sb_istore_n [(3, vI x3), (0, vR Γ 0), (1, vI x1), (2, vI x2)] d_M_sum_40 (by decide) rfl ?_
  refine sb_aload_n 1 d_M_sum_41 rfl ?_
  refine sb_cVv vf_M_take (c_M_take γ  ) rfl ml_M_305 (As := []) rfl rfl (Nat.le_of_ble_eq_true rfl) ⟨by first | omega | (simp only [RmT, RmN]; omega), by first | omega | (simp only [RmT, RmN]; omega)⟩ d_M_sum_42 (fun _ γ5 => ?_)
  refine sb_aload_n 1 d_M_sum_45 rfl ?_
  refine sb_iload_n 2 d_M_sum_46 rfl ?_
  refine sb_cTi vf_M_product (hE6 γ5 x1 hx1) rfl ml_M_446 (As := [vI x1]) rfl rfl (Nat.le_of_ble_eq_true rfl) ⟨by first | omega | (simp only [RmT, RmN]; omega), by first | omega | (simp only [RmT, RmN]; omega)⟩ d_M_sum_47 (fun r6 γ7 hr6 => ?_)
  refine sb_istore [(4, vI r6), (3, vI x3), (0, vR Γ 0), (1, vI x1), (2, vI x2)] d_M_sum_50 (by decide) rfl ?_
  refine sb_aload_n 2 d_M_sum_52 rfl ?_
  refine sb_iload_n 1 d_M_sum_53 rfl ?_
  refine sb_iload_n 4 d_M_sum_54 rfl ?_
  refine sb_iload 0 d_M_sum_55 rfl ?_
  refine sb_cTi vf_M_two (c_M_two γ7 x3 x2 r6 hx3 hx2 hr6) rfl ml_M_430 (As := [vI x3, vI x2, vI r6]) rfl rfl (Nat.le_of_ble_eq_true rfl) ⟨by first | omega | (simp only [RmT, RmN]; omega), by first | omega | (simp only [RmT, RmN]; omega)⟩ d_M_sum_57 (fun r8 γ9 hr8 => ?_)
  refine sb_istore_n [(2, vI r8), (4, vI r6), (3, vI x3), (0, vR Γ 0), (1, vI x1)] d_M_sum_60 (by decide) rfl ?_
  refine sb_goto 6 d_M_sum_61 (by decide) ?_
  exact sb_lv [3, 4, 0] rfl (hk6 γ9 x1 r8 hx1 hr8)
set_option maxHeartbeats 4000000 in
theorem s_M_sum_b24 {Γ : Ctx} {k6 : St → Int → Int → Option Res} {n9 : Nat} {E : Nat → St → Int → Int → Option Res} (hE0 : ∀ (γ : St) (a0 : Int), i32 a0 → TC Γ BM y_M_expression mt_M_expression (n9 + 14) (70 * n9 + 461) [vR Γ 0, vI a0] γ (E 0 γ a0 0)) (hE1 : ∀ (γ : St) (a0 : Int), i32 a0 → TC Γ BM y_M_implied mt_M_implied (n9 + 14) (70 * n9 + 461) [vR Γ 0, vI a0] γ (E 1 γ a0 0)) (hE2 : ∀ (γ : St) (a0 : Int), i32 a0 → TC Γ BM y_M_either mt_M_either (n9 + 14) (70 * n9 + 461) [vR Γ 0, vI a0] γ (E 2 γ a0 0)) (hE3 : ∀ (γ : St) (a0 : Int), i32 a0 → TC Γ BM y_M_both mt_M_both (n9 + 14) (70 * n9 + 461) [vR Γ 0, vI a0] γ (E 3 γ a0 0)) (hE4 : ∀ (γ : St) (a0 : Int), i32 a0 → TC Γ BM y_M_compared mt_M_compared (n9 + 14) (70 * n9 + 461) [vR Γ 0, vI a0] γ (E 4 γ a0 0)) (hE5 : ∀ (γ : St) (a0 : Int), i32 a0 → TC Γ BM y_M_sum mt_M_sum (n9 + 14) (70 * n9 + 461) [vR Γ 0, vI a0] γ (E 5 γ a0 0)) (hE6 : ∀ (γ : St) (a0 : Int), i32 a0 → TC Γ BM y_M_product mt_M_product (n9 + 14) (70 * n9 + 461) [vR Γ 0, vI a0] γ (E 6 γ a0 0)) (hE7 : ∀ (γ : St) (a0 : Int), i32 a0 → TC Γ BM y_M_unary mt_M_unary (n9 + 14) (70 * n9 + 461) [vR Γ 0, vI a0] γ (E 7 γ a0 0)) (hE8 : ∀ (γ : St) (a0 : Int), i32 a0 → TC Γ BM y_M_atom mt_M_atom (n9 + 14) (70 * n9 + 461) [vR Γ 0, vI a0] γ (E 8 γ a0 0)) (hE9 : ∀ (γ : St) (a0 : Int) (a1 : Int), i32 a0 → i32 a1 → TC Γ BM y_M_call mt_M_call (n9 + 14) (70 * n9 + 461) [vR Γ 0, vI a0, vI a1] γ (E 9 γ a0 a1)) (hk6 : ∀ (γ : St) (x16 : Int) (x17 : Int), i32 x16 → i32 x17 → SB Γ BM mt_M_sum (RmT (n9 + 1 + 14) (70 * (n9 + 1) + 461)) 0 0 (KT Γ BM mt_M_sum.2.2.2) 6 [(0, vR Γ 0), (1, vI x16), (2, vI x17)] [] γ (k6 γ x16 x17)) : ∀ (γ : St) (x12 : Int) (x13 : Int), i32 x12 → i32 x13 → SB Γ BM mt_M_sum (RmT (n9 + 1 + 14) (70 * (n9 + 1) + 461)) 0 0 (KT Γ BM mt_M_sum.2.2.2) 24 [(0, vR Γ 0), (1, vI x12), (2, vI x13)] [] γ (f_M_sum_b24 E k6 γ x12 x13) := by
  intro γ x12 x13 hx12 hx13
  unfold f_M_sum_b24
  refine sb_aload_n 0 d_M_sum_24 rfl ?_
  refine sb_cVi vf_M_peek (c_M_peek γ  ) rfl ml_M_292 (As := []) rfl rfl (Nat.le_of_ble_eq_true rfl) ⟨by first | omega | (simp only [RmT, RmN]; omega), by first | omega | (simp only [RmT, RmN]; omega)⟩ d_M_sum_25 (fun r14 γ15 hr14 => ?_)
  refine sb_bipush d_M_sum_28 (by decide) ?_
  refine sb_icmp_ne 38 hr14 (by decide) d_M_sum_30 (by decide) (fun _ => ?_) (fun _ => ?_)
  · refine sb_bipush d_M_sum_38 (by decide) ?_
    exact sb_lv [0, 1, 2] rfl (s_M_sum_b40 hE0 hE1 hE2 hE3 hE4 hE5 hE6 hE7 hE8 hE9 hk6 γ15 x12 x13 18 hx12 hx13 (by decide))
  · refine sb_bipush d_M_sum_33 (by decide) ?_
    refine sb_goto 40 d_M_sum_35 (by decide) ?_
    exact sb_lv [0, 1, 2] rfl (s_M_sum_b40 hE0 hE1 hE2 hE3 hE4 hE5 hE6 hE7 hE8 hE9 hk6 γ15 x12 x13 17 hx12 hx13 (by decide))
set_option maxHeartbeats 4000000 in
theorem s_M_sum_L6 {Γ : Ctx} {n9 : Nat} {E : Nat → St → Int → Int → Option Res} (hE0 : ∀ (γ : St) (a0 : Int), i32 a0 → TC Γ BM y_M_expression mt_M_expression (n9 + 14) (70 * n9 + 461) [vR Γ 0, vI a0] γ (E 0 γ a0 0)) (hE1 : ∀ (γ : St) (a0 : Int), i32 a0 → TC Γ BM y_M_implied mt_M_implied (n9 + 14) (70 * n9 + 461) [vR Γ 0, vI a0] γ (E 1 γ a0 0)) (hE2 : ∀ (γ : St) (a0 : Int), i32 a0 → TC Γ BM y_M_either mt_M_either (n9 + 14) (70 * n9 + 461) [vR Γ 0, vI a0] γ (E 2 γ a0 0)) (hE3 : ∀ (γ : St) (a0 : Int), i32 a0 → TC Γ BM y_M_both mt_M_both (n9 + 14) (70 * n9 + 461) [vR Γ 0, vI a0] γ (E 3 γ a0 0)) (hE4 : ∀ (γ : St) (a0 : Int), i32 a0 → TC Γ BM y_M_compared mt_M_compared (n9 + 14) (70 * n9 + 461) [vR Γ 0, vI a0] γ (E 4 γ a0 0)) (hE5 : ∀ (γ : St) (a0 : Int), i32 a0 → TC Γ BM y_M_sum mt_M_sum (n9 + 14) (70 * n9 + 461) [vR Γ 0, vI a0] γ (E 5 γ a0 0)) (hE6 : ∀ (γ : St) (a0 : Int), i32 a0 → TC Γ BM y_M_product mt_M_product (n9 + 14) (70 * n9 + 461) [vR Γ 0, vI a0] γ (E 6 γ a0 0)) (hE7 : ∀ (γ : St) (a0 : Int), i32 a0 → TC Γ BM y_M_unary mt_M_unary (n9 + 14) (70 * n9 + 461) [vR Γ 0, vI a0] γ (E 7 γ a0 0)) (hE8 : ∀ (γ : St) (a0 : Int), i32 a0 → TC Γ BM y_M_atom mt_M_atom (n9 + 14) (70 * n9 + 461) [vR Γ 0, vI a0] γ (E 8 γ a0 0)) (hE9 : ∀ (γ : St) (a0 : Int) (a1 : Int), i32 a0 → i32 a1 → TC Γ BM y_M_call mt_M_call (n9 + 14) (70 * n9 + 461) [vR Γ 0, vI a0, vI a1] γ (E 9 γ a0 a1)) : ∀ (n : Nat) (γ : St) (x18 : Int) (x19 : Int), i32 x18 → i32 x19 → SB Γ BM mt_M_sum (RmT (n9 + 1 + 14) (70 * (n9 + 1) + 461)) 0 0 (KT Γ BM mt_M_sum.2.2.2) 6 [(0, vR Γ 0), (1, vI x18), (2, vI x19)] [] γ (f_M_sum_L6 E n γ x18 x19) := by
  intro n
  induction n with
  | zero => intros; exact sb_none
  | succ n ih =>
    intro γ x18 x19 hx18 hx19
    unfold f_M_sum_L6
    refine sb_aload_n 0 d_M_sum_6 rfl ?_
    refine sb_cVi vf_M_peek (c_M_peek γ  ) rfl ml_M_292 (As := []) rfl rfl (Nat.le_of_ble_eq_true rfl) ⟨by first | omega | (simp only [RmT, RmN]; omega), by first | omega | (simp only [RmT, RmN]; omega)⟩ d_M_sum_7 (fun r20 γ21 hr20 => ?_)
    refine sb_bipush d_M_sum_10 (by decide) ?_
    refine sb_icmp_eq 24 hr20 (by decide) d_M_sum_12 (by decide) (fun _ => ?_) (fun _ => ?_)
    · exact sb_lv [0, 1, 2] rfl (s_M_sum_b24 hE0 hE1 hE2 hE3 hE4 hE5 hE6 hE7 hE8 hE9 ih γ21 x18 x19 hx18 hx19)
    · refine sb_aload_n 0 d_M_sum_15 rfl ?_
      refine sb_cVi vf_M_peek (c_M_peek γ21  ) rfl ml_M_292 (As := []) rfl rfl (Nat.le_of_ble_eq_true rfl) ⟨by first | omega | (simp only [RmT, RmN]; omega), by first | omega | (simp only [RmT, RmN]; omega)⟩ d_M_sum_16 (fun r22 γ23 hr22 => ?_)
      refine sb_bipush d_M_sum_19 (by decide) ?_
      refine sb_icmp_ne 64 hr22 (by decide) d_M_sum_21 (by decide) (fun _ => ?_) (fun _ => ?_)
      · refine sb_iload_n 2 d_M_sum_64 rfl ?_
        exact st_i rfl hx19 d_M_sum_65
      · exact sb_lv [0, 1, 2] rfl (s_M_sum_b24 hE0 hE1 hE2 hE3 hE4 hE5 hE6 hE7 hE8 hE9 ih γ23 x18 x19 hx18 hx19)
set_option maxHeartbeats 4000000 in
theorem c_M_sum {Γ : Ctx} {n9 : Nat} {E : Nat → St → Int → Int → Option Res} (hE0 : ∀ (γ : St) (a0 : Int), i32 a0 → TC Γ BM y_M_expression mt_M_expression (n9 + 14) (70 * n9 + 461) [vR Γ 0, vI a0] γ (E 0 γ a0 0)) (hE1 : ∀ (γ : St) (a0 : Int), i32 a0 → TC Γ BM y_M_implied mt_M_implied (n9 + 14) (70 * n9 + 461) [vR Γ 0, vI a0] γ (E 1 γ a0 0)) (hE2 : ∀ (γ : St) (a0 : Int), i32 a0 → TC Γ BM y_M_either mt_M_either (n9 + 14) (70 * n9 + 461) [vR Γ 0, vI a0] γ (E 2 γ a0 0)) (hE3 : ∀ (γ : St) (a0 : Int), i32 a0 → TC Γ BM y_M_both mt_M_both (n9 + 14) (70 * n9 + 461) [vR Γ 0, vI a0] γ (E 3 γ a0 0)) (hE4 : ∀ (γ : St) (a0 : Int), i32 a0 → TC Γ BM y_M_compared mt_M_compared (n9 + 14) (70 * n9 + 461) [vR Γ 0, vI a0] γ (E 4 γ a0 0)) (hE5 : ∀ (γ : St) (a0 : Int), i32 a0 → TC Γ BM y_M_sum mt_M_sum (n9 + 14) (70 * n9 + 461) [vR Γ 0, vI a0] γ (E 5 γ a0 0)) (hE6 : ∀ (γ : St) (a0 : Int), i32 a0 → TC Γ BM y_M_product mt_M_product (n9 + 14) (70 * n9 + 461) [vR Γ 0, vI a0] γ (E 6 γ a0 0)) (hE7 : ∀ (γ : St) (a0 : Int), i32 a0 → TC Γ BM y_M_unary mt_M_unary (n9 + 14) (70 * n9 + 461) [vR Γ 0, vI a0] γ (E 7 γ a0 0)) (hE8 : ∀ (γ : St) (a0 : Int), i32 a0 → TC Γ BM y_M_atom mt_M_atom (n9 + 14) (70 * n9 + 461) [vR Γ 0, vI a0] γ (E 8 γ a0 0)) (hE9 : ∀ (γ : St) (a0 : Int) (a1 : Int), i32 a0 → i32 a1 → TC Γ BM y_M_call mt_M_call (n9 + 14) (70 * n9 + 461) [vR Γ 0, vI a0, vI a1] γ (E 9 γ a0 a1)) (γ : St) (a0 : Int) (ha0 : i32 a0) : TC Γ BM y_M_sum mt_M_sum (n9 + 1 + 14) (70 * (n9 + 1) + 461) [vR Γ 0, vI a0] γ (f_M_sum E γ a0) := by
  refine tc_of (by decide) rfl (Nat.le_of_ble_eq_true rfl) ?_
  show SB Γ BM mt_M_sum (RmT (n9 + 1 + 14) (70 * (n9 + 1) + 461)) 0 0 (KT Γ BM mt_M_sum.2.2.2) 0 [(0, vR Γ 0), (1, vI a0)] [] γ _
  unfold f_M_sum
  refine sb_aload_n 0 d_M_sum_0 rfl ?_
  refine sb_iload_n 1 d_M_sum_1 rfl ?_
  refine sb_cTi vf_M_product (hE6 γ a0 ha0) rfl ml_M_446 (As := [vI a0]) rfl rfl (Nat.le_of_ble_eq_true rfl) ⟨by first | omega | (simp only [RmT, RmN]; omega), by first | omega | (simp only [RmT, RmN]; omega)⟩ d_M_sum_2 (fun r24 γ25 hr24 => ?_)
  refine sb_istore_n [(2, vI r24), (0, vR Γ 0), (1, vI a0)] d_M_sum_5 (by decide) rfl ?_
  exact sb_lv [1, 2, 0] rfl (s_M_sum_L6 hE0 hE1 hE2 hE3 hE4 hE5 hE6 hE7 hE8 hE9  FU γ25 a0 r24 ha0 hr24)
def f_M_product_b66 (E : Nat → St → Int → Int → Option Res) (k6 : St → Int → Int → Option Res) (γ : St) (x1 : Int) (x2 : Int) (x3 : Int) : Option Res :=
  bndN (f_M_take γ) fun _ γ5 =>
  bndT (E 7 γ5 x1 0) fun r6 γ7 =>
  bndT (f_M_two γ7 x3 x2 r6) fun r8 γ9 =>
  k6 γ9 x1 r8
def f_M_product_b35 (E : Nat → St → Int → Int → Option Res) (k6 : St → Int → Int → Option Res) (γ : St) (x12 : Int) (x13 : Int) : Option Res :=
  bndN (f_M_peek γ) fun r14 γ15 =>
  if r14 ≠ 42 then
  (bndN (f_M_is γ15 18) fun r16 γ17 =>
  if r16 = 0 then
  (f_M_product_b66 E k6 γ17 x12 x13 21)
  else
  (f_M_product_b66 E k6 γ17 x12 x13 20))
  else
  (f_M_product_b66 E k6 γ15 x12 x13 19)
def f_M_product_L6 (E : Nat → St → Int → Int → Option Res) : Nat → St → Int → Int → Option Res
  | 0, _, _, _ => none
  | n + 1, γ, x20, x21 =>
  bndN (f_M_peek γ) fun r22 γ23 =>
  if r22 = 42 then
  (f_M_product_b35 E (f_M_product_L6 E n) γ23 x20 x21)
  else
  (bndN (f_M_is γ23 18) fun r24 γ25 =>
  if r24 ≠ 0 then
  (f_M_product_b35 E (f_M_product_L6 E n) γ25 x20 x21)
  else
  (bndN (f_M_is γ25 19) fun r26 γ27 =>
  if r26 = 0 then
  (some (.inr x21, γ27))
  else
  (f_M_product_b35 E (f_M_product_L6 E n) γ27 x20 x21)))
def f_M_product (E : Nat → St → Int → Int → Option Res) (γ : St) (a0 : Int) : Option Res :=
  bndT (E 7 γ a0 0) fun r28 γ29 =>
  f_M_product_L6 E  FU γ29 a0 r28
set_option maxHeartbeats 4000000 in
theorem s_M_product_b66 {Γ : Ctx} {k6 : St → Int → Int → Option Res} {n9 : Nat} {E : Nat → St → Int → Int → Option Res} (hE0 : ∀ (γ : St) (a0 : Int), i32 a0 → TC Γ BM y_M_expression mt_M_expression (n9 + 14) (70 * n9 + 461) [vR Γ 0, vI a0] γ (E 0 γ a0 0)) (hE1 : ∀ (γ : St) (a0 : Int), i32 a0 → TC Γ BM y_M_implied mt_M_implied (n9 + 14) (70 * n9 + 461) [vR Γ 0, vI a0] γ (E 1 γ a0 0)) (hE2 : ∀ (γ : St) (a0 : Int), i32 a0 → TC Γ BM y_M_either mt_M_either (n9 + 14) (70 * n9 + 461) [vR Γ 0, vI a0] γ (E 2 γ a0 0)) (hE3 : ∀ (γ : St) (a0 : Int), i32 a0 → TC Γ BM y_M_both mt_M_both (n9 + 14) (70 * n9 + 461) [vR Γ 0, vI a0] γ (E 3 γ a0 0)) (hE4 : ∀ (γ : St) (a0 : Int), i32 a0 → TC Γ BM y_M_compared mt_M_compared (n9 + 14) (70 * n9 + 461) [vR Γ 0, vI a0] γ (E 4 γ a0 0)) (hE5 : ∀ (γ : St) (a0 : Int), i32 a0 → TC Γ BM y_M_sum mt_M_sum (n9 + 14) (70 * n9 + 461) [vR Γ 0, vI a0] γ (E 5 γ a0 0)) (hE6 : ∀ (γ : St) (a0 : Int), i32 a0 → TC Γ BM y_M_product mt_M_product (n9 + 14) (70 * n9 + 461) [vR Γ 0, vI a0] γ (E 6 γ a0 0)) (hE7 : ∀ (γ : St) (a0 : Int), i32 a0 → TC Γ BM y_M_unary mt_M_unary (n9 + 14) (70 * n9 + 461) [vR Γ 0, vI a0] γ (E 7 γ a0 0)) (hE8 : ∀ (γ : St) (a0 : Int), i32 a0 → TC Γ BM y_M_atom mt_M_atom (n9 + 14) (70 * n9 + 461) [vR Γ 0, vI a0] γ (E 8 γ a0 0)) (hE9 : ∀ (γ : St) (a0 : Int) (a1 : Int), i32 a0 → i32 a1 → TC Γ BM y_M_call mt_M_call (n9 + 14) (70 * n9 + 461) [vR Γ 0, vI a0, vI a1] γ (E 9 γ a0 a1)) (hk6 : ∀ (γ : St) (x10 : Int) (x11 : Int), i32 x10 → i32 x11 → SB Γ BM mt_M_product (RmT (n9 + 1 + 14) (70 * (n9 + 1) + 461)) 0 0 (KT Γ BM mt_M_product.2.2.2) 6 [(0, vR Γ 0), (1, vI x10), (2, vI x11)] [] γ (k6 γ x10 x11)) : ∀ (γ : St) (x1 : Int) (x2 : Int) (x3 : Int), i32 x1 → i32 x2 → i32 x3 → SB Γ BM mt_M_product (RmT (n9 + 1 + 14) (70 * (n9 + 1) + 461)) 0 0 (KT Γ BM mt_M_product.2.2.2) 66 [(0, vR Γ 0), (1, vI x1), (2, vI x2)] [vI x3] γ (f_M_product_b66 E k6 γ x1 x2 x3) := by
  intro γ x1 x2 x3 hx1 hx2 hx3
  unfold f_M_product_b66
  refine sb_istore_n [(3, vI x3), (0, vR Γ 0), (1, vI x1), (2, vI x2)] d_M_product_66 (by decide) rfl ?_
  refine sb_aload_n 1 d_M_product_67 rfl ?_
  refine sb_cVv vf_M_take (c_M_take γ  ) rfl ml_M_305 (As := []) rfl rfl (Nat.le_of_ble_eq_true rfl) ⟨by first | omega | (simp only [RmT, RmN]; omega), by first | omega | (simp only [RmT, RmN]; omega)⟩ d_M_product_68 (fun _ γ5 => ?_)
  refine sb_aload_n 1 d_M_product_71 rfl ?_
  refine sb_iload_n 2 d_M_product_72 rfl ?_
  refine sb_cTi vf_M_unary (hE7 γ5 x1 hx1) rfl ml_M_449 (As := [vI x1]) rfl rfl (Nat.le_of_ble_eq_true rfl) ⟨by first | omega | (simp only [RmT, RmN]; omega), by first | omega | (simp only [RmT, RmN]; omega)⟩ d_M_product_73 (fun r6 γ7 hr6 => ?_)
  refine sb_istore [(4, vI r6), (3, vI x3), (0, vR Γ 0), (1, vI x1), (2, vI x2)] d_M_product_76 (by decide) rfl ?_
  refine sb_aload_n 2 d_M_product_78 rfl ?_
  refine sb_iload_n 1 d_M_product_79 rfl ?_
  refine sb_iload_n 4 d_M_product_80 rfl ?_
  refine sb_iload 0 d_M_product_81 rfl ?_
  refine sb_cTi vf_M_two (c_M_two γ7 x3 x2 r6 hx3 hx2 hr6) rfl ml_M_430 (As := [vI x3, vI x2, vI r6]) rfl rfl (Nat.le_of_ble_eq_true rfl) ⟨by first | omega | (simp only [RmT, RmN]; omega), by first | omega | (simp only [RmT, RmN]; omega)⟩ d_M_product_83 (fun r8 γ9 hr8 => ?_)
  refine sb_istore_n [(2, vI r8), (4, vI r6), (3, vI x3), (0, vR Γ 0), (1, vI x1)] d_M_product_86 (by decide) rfl ?_
  refine sb_goto 6 d_M_product_87 (by decide) ?_
  exact sb_lv [3, 4, 0] rfl (hk6 γ9 x1 r8 hx1 hr8)
set_option maxHeartbeats 4000000 in
theorem s_M_product_b35 {Γ : Ctx} {k6 : St → Int → Int → Option Res} {n9 : Nat} {E : Nat → St → Int → Int → Option Res} (hE0 : ∀ (γ : St) (a0 : Int), i32 a0 → TC Γ BM y_M_expression mt_M_expression (n9 + 14) (70 * n9 + 461) [vR Γ 0, vI a0] γ (E 0 γ a0 0)) (hE1 : ∀ (γ : St) (a0 : Int), i32 a0 → TC Γ BM y_M_implied mt_M_implied (n9 + 14) (70 * n9 + 461) [vR Γ 0, vI a0] γ (E 1 γ a0 0)) (hE2 : ∀ (γ : St) (a0 : Int), i32 a0 → TC Γ BM y_M_either mt_M_either (n9 + 14) (70 * n9 + 461) [vR Γ 0, vI a0] γ (E 2 γ a0 0)) (hE3 : ∀ (γ : St) (a0 : Int), i32 a0 → TC Γ BM y_M_both mt_M_both (n9 + 14) (70 * n9 + 461) [vR Γ 0, vI a0] γ (E 3 γ a0 0)) (hE4 : ∀ (γ : St) (a0 : Int), i32 a0 → TC Γ BM y_M_compared mt_M_compared (n9 + 14) (70 * n9 + 461) [vR Γ 0, vI a0] γ (E 4 γ a0 0)) (hE5 : ∀ (γ : St) (a0 : Int), i32 a0 → TC Γ BM y_M_sum mt_M_sum (n9 + 14) (70 * n9 + 461) [vR Γ 0, vI a0] γ (E 5 γ a0 0)) (hE6 : ∀ (γ : St) (a0 : Int), i32 a0 → TC Γ BM y_M_product mt_M_product (n9 + 14) (70 * n9 + 461) [vR Γ 0, vI a0] γ (E 6 γ a0 0)) (hE7 : ∀ (γ : St) (a0 : Int), i32 a0 → TC Γ BM y_M_unary mt_M_unary (n9 + 14) (70 * n9 + 461) [vR Γ 0, vI a0] γ (E 7 γ a0 0)) (hE8 : ∀ (γ : St) (a0 : Int), i32 a0 → TC Γ BM y_M_atom mt_M_atom (n9 + 14) (70 * n9 + 461) [vR Γ 0, vI a0] γ (E 8 γ a0 0)) (hE9 : ∀ (γ : St) (a0 : Int) (a1 : Int), i32 a0 → i32 a1 → TC Γ BM y_M_call mt_M_call (n9 + 14) (70 * n9 + 461) [vR Γ 0, vI a0, vI a1] γ (E 9 γ a0 a1)) (hk6 : ∀ (γ : St) (x18 : Int) (x19 : Int), i32 x18 → i32 x19 → SB Γ BM mt_M_product (RmT (n9 + 1 + 14) (70 * (n9 + 1) + 461)) 0 0 (KT Γ BM mt_M_product.2.2.2) 6 [(0, vR Γ 0), (1, vI x18), (2, vI x19)] [] γ (k6 γ x18 x19)) : ∀ (γ : St) (x12 : Int) (x13 : Int), i32 x12 → i32 x13 → SB Γ BM mt_M_product (RmT (n9 + 1 + 14) (70 * (n9 + 1) + 461)) 0 0 (KT Γ BM mt_M_product.2.2.2) 35 [(0, vR Γ 0), (1, vI x12), (2, vI x13)] [] γ (f_M_product_b35 E k6 γ x12 x13) := by
  intro γ x12 x13 hx12 hx13
  unfold f_M_product_b35
  refine sb_aload_n 0 d_M_product_35 rfl ?_
  refine sb_cVi vf_M_peek (c_M_peek γ  ) rfl ml_M_292 (As := []) rfl rfl (Nat.le_of_ble_eq_true rfl) ⟨by first | omega | (simp only [RmT, RmN]; omega), by first | omega | (simp only [RmT, RmN]; omega)⟩ d_M_product_36 (fun r14 γ15 hr14 => ?_)
  refine sb_bipush d_M_product_39 (by decide) ?_
  refine sb_icmp_ne 49 hr14 (by decide) d_M_product_41 (by decide) (fun _ => ?_) (fun _ => ?_)
  · refine sb_aload_n 0 d_M_product_49 rfl ?_
    refine sb_ldcS (k := 18) (by decide) rfl d_M_product_50 ?_
    refine sb_cVz vf_M_is (c_M_is γ15 18 (by decide)) rfl ml_M_317 (As := [.ref (Γ.σ 18).1]) rfl rfl (Nat.le_of_ble_eq_true rfl) ⟨by first | omega | (simp only [RmT, RmN]; omega), by first | omega | (simp only [RmT, RmN]; omega)⟩ d_M_product_53 (fun r16 γ17 hr16 => ?_)
    refine sb_if_eq 64 (z2i hr16) d_M_product_56 (by decide) (fun _ => ?_) (fun _ => ?_)
    · refine sb_bipush d_M_product_64 (by decide) ?_
      exact sb_lv [0, 1, 2] rfl (s_M_product_b66 hE0 hE1 hE2 hE3 hE4 hE5 hE6 hE7 hE8 hE9 hk6 γ17 x12 x13 21 hx12 hx13 (by decide))
    · refine sb_bipush d_M_product_59 (by decide) ?_
      refine sb_goto 66 d_M_product_61 (by decide) ?_
      exact sb_lv [0, 1, 2] rfl (s_M_product_b66 hE0 hE1 hE2 hE3 hE4 hE5 hE6 hE7 hE8 hE9 hk6 γ17 x12 x13 20 hx12 hx13 (by decide))
  · refine sb_bipush d_M_product_44 (by decide) ?_
    refine sb_goto 66 d_M_product_46 (by decide) ?_
    exact sb_lv [0, 1, 2] rfl (s_M_product_b66 hE0 hE1 hE2 hE3 hE4 hE5 hE6 hE7 hE8 hE9 hk6 γ15 x12 x13 19 hx12 hx13 (by decide))
set_option maxHeartbeats 4000000 in
theorem s_M_product_L6 {Γ : Ctx} {n9 : Nat} {E : Nat → St → Int → Int → Option Res} (hE0 : ∀ (γ : St) (a0 : Int), i32 a0 → TC Γ BM y_M_expression mt_M_expression (n9 + 14) (70 * n9 + 461) [vR Γ 0, vI a0] γ (E 0 γ a0 0)) (hE1 : ∀ (γ : St) (a0 : Int), i32 a0 → TC Γ BM y_M_implied mt_M_implied (n9 + 14) (70 * n9 + 461) [vR Γ 0, vI a0] γ (E 1 γ a0 0)) (hE2 : ∀ (γ : St) (a0 : Int), i32 a0 → TC Γ BM y_M_either mt_M_either (n9 + 14) (70 * n9 + 461) [vR Γ 0, vI a0] γ (E 2 γ a0 0)) (hE3 : ∀ (γ : St) (a0 : Int), i32 a0 → TC Γ BM y_M_both mt_M_both (n9 + 14) (70 * n9 + 461) [vR Γ 0, vI a0] γ (E 3 γ a0 0)) (hE4 : ∀ (γ : St) (a0 : Int), i32 a0 → TC Γ BM y_M_compared mt_M_compared (n9 + 14) (70 * n9 + 461) [vR Γ 0, vI a0] γ (E 4 γ a0 0)) (hE5 : ∀ (γ : St) (a0 : Int), i32 a0 → TC Γ BM y_M_sum mt_M_sum (n9 + 14) (70 * n9 + 461) [vR Γ 0, vI a0] γ (E 5 γ a0 0)) (hE6 : ∀ (γ : St) (a0 : Int), i32 a0 → TC Γ BM y_M_product mt_M_product (n9 + 14) (70 * n9 + 461) [vR Γ 0, vI a0] γ (E 6 γ a0 0)) (hE7 : ∀ (γ : St) (a0 : Int), i32 a0 → TC Γ BM y_M_unary mt_M_unary (n9 + 14) (70 * n9 + 461) [vR Γ 0, vI a0] γ (E 7 γ a0 0)) (hE8 : ∀ (γ : St) (a0 : Int), i32 a0 → TC Γ BM y_M_atom mt_M_atom (n9 + 14) (70 * n9 + 461) [vR Γ 0, vI a0] γ (E 8 γ a0 0)) (hE9 : ∀ (γ : St) (a0 : Int) (a1 : Int), i32 a0 → i32 a1 → TC Γ BM y_M_call mt_M_call (n9 + 14) (70 * n9 + 461) [vR Γ 0, vI a0, vI a1] γ (E 9 γ a0 a1)) : ∀ (n : Nat) (γ : St) (x20 : Int) (x21 : Int), i32 x20 → i32 x21 → SB Γ BM mt_M_product (RmT (n9 + 1 + 14) (70 * (n9 + 1) + 461)) 0 0 (KT Γ BM mt_M_product.2.2.2) 6 [(0, vR Γ 0), (1, vI x20), (2, vI x21)] [] γ (f_M_product_L6 E n γ x20 x21) := by
  intro n
  induction n with
  | zero => intros; exact sb_none
  | succ n ih =>
    intro γ x20 x21 hx20 hx21
    unfold f_M_product_L6
    refine sb_aload_n 0 d_M_product_6 rfl ?_
    refine sb_cVi vf_M_peek (c_M_peek γ  ) rfl ml_M_292 (As := []) rfl rfl (Nat.le_of_ble_eq_true rfl) ⟨by first | omega | (simp only [RmT, RmN]; omega), by first | omega | (simp only [RmT, RmN]; omega)⟩ d_M_product_7 (fun r22 γ23 hr22 => ?_)
    refine sb_bipush d_M_product_10 (by decide) ?_
    refine sb_icmp_eq 35 hr22 (by decide) d_M_product_12 (by decide) (fun _ => ?_) (fun _ => ?_)
    · exact sb_lv [0, 1, 2] rfl (s_M_product_b35 hE0 hE1 hE2 hE3 hE4 hE5 hE6 hE7 hE8 hE9 ih γ23 x20 x21 hx20 hx21)
    · refine sb_aload_n 0 d_M_product_15 rfl ?_
      refine sb_ldcS (k := 18) (by decide) rfl d_M_product_16 ?_
      refine sb_cVz vf_M_is (c_M_is γ23 18 (by decide)) rfl ml_M_317 (As := [.ref (Γ.σ 18).1]) rfl rfl (Nat.le_of_ble_eq_true rfl) ⟨by first | omega | (simp only [RmT, RmN]; omega), by first | omega | (simp only [RmT, RmN]; omega)⟩ d_M_product_19 (fun r24 γ25 hr24 => ?_)
      refine sb_if_ne 35 (z2i hr24) d_M_product_22 (by decide) (fun _ => ?_) (fun _ => ?_)
      · exact sb_lv [0, 1, 2] rfl (s_M_product_b35 hE0 hE1 hE2 hE3 hE4 hE5 hE6 hE7 hE8 hE9 ih γ25 x20 x21 hx20 hx21)
      · refine sb_aload_n 0 d_M_product_25 rfl ?_
        refine sb_ldcS (k := 19) (by decide) rfl d_M_product_26 ?_
        refine sb_cVz vf_M_is (c_M_is γ25 19 (by decide)) rfl ml_M_317 (As := [.ref (Γ.σ 19).1]) rfl rfl (Nat.le_of_ble_eq_true rfl) ⟨by first | omega | (simp only [RmT, RmN]; omega), by first | omega | (simp only [RmT, RmN]; omega)⟩ d_M_product_29 (fun r26 γ27 hr26 => ?_)
        refine sb_if_eq 90 (z2i hr26) d_M_product_32 (by decide) (fun _ => ?_) (fun _ => ?_)
        · refine sb_iload_n 2 d_M_product_90 rfl ?_
          exact st_i rfl hx21 d_M_product_91
        · exact sb_lv [0, 1, 2] rfl (s_M_product_b35 hE0 hE1 hE2 hE3 hE4 hE5 hE6 hE7 hE8 hE9 ih γ27 x20 x21 hx20 hx21)
set_option maxHeartbeats 4000000 in
theorem c_M_product {Γ : Ctx} {n9 : Nat} {E : Nat → St → Int → Int → Option Res} (hE0 : ∀ (γ : St) (a0 : Int), i32 a0 → TC Γ BM y_M_expression mt_M_expression (n9 + 14) (70 * n9 + 461) [vR Γ 0, vI a0] γ (E 0 γ a0 0)) (hE1 : ∀ (γ : St) (a0 : Int), i32 a0 → TC Γ BM y_M_implied mt_M_implied (n9 + 14) (70 * n9 + 461) [vR Γ 0, vI a0] γ (E 1 γ a0 0)) (hE2 : ∀ (γ : St) (a0 : Int), i32 a0 → TC Γ BM y_M_either mt_M_either (n9 + 14) (70 * n9 + 461) [vR Γ 0, vI a0] γ (E 2 γ a0 0)) (hE3 : ∀ (γ : St) (a0 : Int), i32 a0 → TC Γ BM y_M_both mt_M_both (n9 + 14) (70 * n9 + 461) [vR Γ 0, vI a0] γ (E 3 γ a0 0)) (hE4 : ∀ (γ : St) (a0 : Int), i32 a0 → TC Γ BM y_M_compared mt_M_compared (n9 + 14) (70 * n9 + 461) [vR Γ 0, vI a0] γ (E 4 γ a0 0)) (hE5 : ∀ (γ : St) (a0 : Int), i32 a0 → TC Γ BM y_M_sum mt_M_sum (n9 + 14) (70 * n9 + 461) [vR Γ 0, vI a0] γ (E 5 γ a0 0)) (hE6 : ∀ (γ : St) (a0 : Int), i32 a0 → TC Γ BM y_M_product mt_M_product (n9 + 14) (70 * n9 + 461) [vR Γ 0, vI a0] γ (E 6 γ a0 0)) (hE7 : ∀ (γ : St) (a0 : Int), i32 a0 → TC Γ BM y_M_unary mt_M_unary (n9 + 14) (70 * n9 + 461) [vR Γ 0, vI a0] γ (E 7 γ a0 0)) (hE8 : ∀ (γ : St) (a0 : Int), i32 a0 → TC Γ BM y_M_atom mt_M_atom (n9 + 14) (70 * n9 + 461) [vR Γ 0, vI a0] γ (E 8 γ a0 0)) (hE9 : ∀ (γ : St) (a0 : Int) (a1 : Int), i32 a0 → i32 a1 → TC Γ BM y_M_call mt_M_call (n9 + 14) (70 * n9 + 461) [vR Γ 0, vI a0, vI a1] γ (E 9 γ a0 a1)) (γ : St) (a0 : Int) (ha0 : i32 a0) : TC Γ BM y_M_product mt_M_product (n9 + 1 + 14) (70 * (n9 + 1) + 461) [vR Γ 0, vI a0] γ (f_M_product E γ a0) := by
  refine tc_of (by decide) rfl (Nat.le_of_ble_eq_true rfl) ?_
  show SB Γ BM mt_M_product (RmT (n9 + 1 + 14) (70 * (n9 + 1) + 461)) 0 0 (KT Γ BM mt_M_product.2.2.2) 0 [(0, vR Γ 0), (1, vI a0)] [] γ _
  unfold f_M_product
  refine sb_aload_n 0 d_M_product_0 rfl ?_
  refine sb_iload_n 1 d_M_product_1 rfl ?_
  refine sb_cTi vf_M_unary (hE7 γ a0 ha0) rfl ml_M_449 (As := [vI a0]) rfl rfl (Nat.le_of_ble_eq_true rfl) ⟨by first | omega | (simp only [RmT, RmN]; omega), by first | omega | (simp only [RmT, RmN]; omega)⟩ d_M_product_2 (fun r28 γ29 hr28 => ?_)
  refine sb_istore_n [(2, vI r28), (0, vR Γ 0), (1, vI a0)] d_M_product_5 (by decide) rfl ?_
  exact sb_lv [1, 2, 0] rfl (s_M_product_L6 hE0 hE1 hE2 hE3 hE4 hE5 hE6 hE7 hE8 hE9  FU γ29 a0 r28 ha0 hr28)
def f_M_unary_b131 (E : Nat → St → Int → Int → Option Res) (γ : St) : Option Res :=
  bndN (f_M_cant γ) fun p1 γ2 => some (.inl (1, p1), γ2)
def f_M_unary_b161 (E : Nat → St → Int → Int → Option Res) (γ : St) : Option Res :=
  some (.inl (2, γ 0 7), γ)
def f_M_unary_b211 (E : Nat → St → Int → Int → Option Res) (k92 : St → Int → Option Res) (x131 : St → Option Res) (x161 : St → Option Res) (γ : St) (x4 : Int) (x5 : Int) (x6 : Int) (x7 : Int) : Option Res :=
  chk (i32 (x6 + x5)) (bndT (f_M_make γ x7 (x6 + x5) x4 1) fun r9 γ10 =>
  k92 γ10 r9)
def f_M_unary_b124 (E : Nat → St → Int → Int → Option Res) (k92 : St → Int → Option Res) (x131 : St → Option Res) (x161 : St → Option Res) (γ : St) (x12 : Int) (x13 : Int) : Option Res :=
  bndN (f_M_nameHere γ) fun r14 γ15 =>
  if r14 ≠ 0 then
  (bndN (f_M_variableHere γ15 (γ15 0 19)) fun r17 γ18 =>
  if r17 < 0 then
  (x161 γ18 )
  else
  (chk (inb r17 6000) (if (γ18 14 r17) ≠ 0 then
  (bndT (f_M_shallow γ18 r17) fun _ γ22 =>
  bndN (f_M_take γ22) fun _ γ24 =>
  chk (inb (γ24 0 18) 61) (chk (i32 (r17 - (γ24 4 (γ24 0 18)))) (chk (i32 (2 * (r17 - (γ24 4 (γ24 0 18))))) (if x13 = 0 then
  (f_M_unary_b211 E k92 x131 x161 γ24 x12 1 (2 * (r17 - (γ24 4 (γ24 0 18)))) 26)
  else
  (f_M_unary_b211 E k92 x131 x161 γ24 x12 0 (2 * (r17 - (γ24 4 (γ24 0 18)))) 26)))))
  else
  (x161 γ18 ))))
  else
  (x131 γ15 )
def f_M_unary_L92 (E : Nat → St → Int → Int → Option Res) (x131 : St → Option Res) (x161 : St → Option Res) : Nat → St → Int → Option Res
  | 0, _, _ => none
  | n + 1, γ, x31 =>
  bndN (f_M_is γ 7) fun r32 γ33 =>
  if r32 = 0 then
  (some (.inr x31, γ33))
  else
  (bndN (f_M_take γ33) fun _ γ35 =>
  bndN (f_M_is γ35 8) fun r36 γ37 =>
  if r36 = 0 then
  (f_M_unary_b124 E (f_M_unary_L92 E x131 x161 n) x131 x161 γ37 x31 r36)
  else
  (bndN (f_M_take γ37) fun _ γ39 =>
  f_M_unary_b124 E (f_M_unary_L92 E x131 x161 n) x131 x161 γ39 x31 r36))
def f_M_unary_b60 (E : Nat → St → Int → Int → Option Res) (γ : St) (x40 : Int) (x41 : Int) : Option Res :=
  if x41 ≤ 0 then
  (bndT (E 8 γ x40 0) fun r42 γ43 =>
  f_M_unary_L92 E (f_M_unary_b131 E) (f_M_unary_b161 E) FU γ43 r42)
  else
  (bndN (f_M_take γ) fun _ γ45 =>
  bndT (f_M_nest γ45 x40) fun r46 γ47 =>
  bndT (E 7 γ47 r46 0) fun r48 γ49 =>
  bndT (f_M_make γ49 x41 0 r48 1) fun r50 γ51 =>
  some (.inr r50, γ51))
def f_M_unary (E : Nat → St → Int → Int → Option Res) (γ : St) (a0 : Int) : Option Res :=
  bndN (f_M_peek γ) fun r52 γ53 =>
  if r52 ≠ 45 then
  (bndN (f_M_is γ53 8) fun r54 γ55 =>
  if r54 = 0 then
  (bndN (f_M_is γ55 15) fun r56 γ57 =>
  if r56 = 0 then
  (bndN (f_M_is γ57 16) fun r58 γ59 =>
  if r58 = 0 then
  (f_M_unary_b60 E γ59 a0 0)
  else
  (f_M_unary_b60 E γ59 a0 25))
  else
  (f_M_unary_b60 E γ57 a0 24))
  else
  (f_M_unary_b60 E γ55 a0 23))
  else
  (f_M_unary_b60 E γ53 a0 22)
set_option maxHeartbeats 4000000 in
theorem s_M_unary_b131 {Γ : Ctx} {n9 : Nat} {E : Nat → St → Int → Int → Option Res} (hE0 : ∀ (γ : St) (a0 : Int), i32 a0 → TC Γ BM y_M_expression mt_M_expression (n9 + 14) (70 * n9 + 461) [vR Γ 0, vI a0] γ (E 0 γ a0 0)) (hE1 : ∀ (γ : St) (a0 : Int), i32 a0 → TC Γ BM y_M_implied mt_M_implied (n9 + 14) (70 * n9 + 461) [vR Γ 0, vI a0] γ (E 1 γ a0 0)) (hE2 : ∀ (γ : St) (a0 : Int), i32 a0 → TC Γ BM y_M_either mt_M_either (n9 + 14) (70 * n9 + 461) [vR Γ 0, vI a0] γ (E 2 γ a0 0)) (hE3 : ∀ (γ : St) (a0 : Int), i32 a0 → TC Γ BM y_M_both mt_M_both (n9 + 14) (70 * n9 + 461) [vR Γ 0, vI a0] γ (E 3 γ a0 0)) (hE4 : ∀ (γ : St) (a0 : Int), i32 a0 → TC Γ BM y_M_compared mt_M_compared (n9 + 14) (70 * n9 + 461) [vR Γ 0, vI a0] γ (E 4 γ a0 0)) (hE5 : ∀ (γ : St) (a0 : Int), i32 a0 → TC Γ BM y_M_sum mt_M_sum (n9 + 14) (70 * n9 + 461) [vR Γ 0, vI a0] γ (E 5 γ a0 0)) (hE6 : ∀ (γ : St) (a0 : Int), i32 a0 → TC Γ BM y_M_product mt_M_product (n9 + 14) (70 * n9 + 461) [vR Γ 0, vI a0] γ (E 6 γ a0 0)) (hE7 : ∀ (γ : St) (a0 : Int), i32 a0 → TC Γ BM y_M_unary mt_M_unary (n9 + 14) (70 * n9 + 461) [vR Γ 0, vI a0] γ (E 7 γ a0 0)) (hE8 : ∀ (γ : St) (a0 : Int), i32 a0 → TC Γ BM y_M_atom mt_M_atom (n9 + 14) (70 * n9 + 461) [vR Γ 0, vI a0] γ (E 8 γ a0 0)) (hE9 : ∀ (γ : St) (a0 : Int) (a1 : Int), i32 a0 → i32 a1 → TC Γ BM y_M_call mt_M_call (n9 + 14) (70 * n9 + 461) [vR Γ 0, vI a0, vI a1] γ (E 9 γ a0 a1)) : ∀ (γ : St), SB Γ BM mt_M_unary (RmT (n9 + 1 + 14) (70 * (n9 + 1) + 461)) 0 0 (KT Γ BM mt_M_unary.2.2.2) 131 [(0, vR Γ 0)] [] γ (f_M_unary_b131 E γ ) := by
  intro γ
  unfold f_M_unary_b131
  refine sb_aload_n 0 d_M_unary_131 rfl ?_
  exact sb_cant ml_M_301 ⟨by first | omega | (simp only [RmT, RmN]; omega), by first | omega | (simp only [RmT, RmN]; omega)⟩ d_M_unary_132 d_M_unary_135
set_option maxHeartbeats 4000000 in
theorem s_M_unary_b161 {Γ : Ctx} {n9 : Nat} {E : Nat → St → Int → Int → Option Res} (hE0 : ∀ (γ : St) (a0 : Int), i32 a0 → TC Γ BM y_M_expression mt_M_expression (n9 + 14) (70 * n9 + 461) [vR Γ 0, vI a0] γ (E 0 γ a0 0)) (hE1 : ∀ (γ : St) (a0 : Int), i32 a0 → TC Γ BM y_M_implied mt_M_implied (n9 + 14) (70 * n9 + 461) [vR Γ 0, vI a0] γ (E 1 γ a0 0)) (hE2 : ∀ (γ : St) (a0 : Int), i32 a0 → TC Γ BM y_M_either mt_M_either (n9 + 14) (70 * n9 + 461) [vR Γ 0, vI a0] γ (E 2 γ a0 0)) (hE3 : ∀ (γ : St) (a0 : Int), i32 a0 → TC Γ BM y_M_both mt_M_both (n9 + 14) (70 * n9 + 461) [vR Γ 0, vI a0] γ (E 3 γ a0 0)) (hE4 : ∀ (γ : St) (a0 : Int), i32 a0 → TC Γ BM y_M_compared mt_M_compared (n9 + 14) (70 * n9 + 461) [vR Γ 0, vI a0] γ (E 4 γ a0 0)) (hE5 : ∀ (γ : St) (a0 : Int), i32 a0 → TC Γ BM y_M_sum mt_M_sum (n9 + 14) (70 * n9 + 461) [vR Γ 0, vI a0] γ (E 5 γ a0 0)) (hE6 : ∀ (γ : St) (a0 : Int), i32 a0 → TC Γ BM y_M_product mt_M_product (n9 + 14) (70 * n9 + 461) [vR Γ 0, vI a0] γ (E 6 γ a0 0)) (hE7 : ∀ (γ : St) (a0 : Int), i32 a0 → TC Γ BM y_M_unary mt_M_unary (n9 + 14) (70 * n9 + 461) [vR Γ 0, vI a0] γ (E 7 γ a0 0)) (hE8 : ∀ (γ : St) (a0 : Int), i32 a0 → TC Γ BM y_M_atom mt_M_atom (n9 + 14) (70 * n9 + 461) [vR Γ 0, vI a0] γ (E 8 γ a0 0)) (hE9 : ∀ (γ : St) (a0 : Int) (a1 : Int), i32 a0 → i32 a1 → TC Γ BM y_M_call mt_M_call (n9 + 14) (70 * n9 + 461) [vR Γ 0, vI a0, vI a1] γ (E 9 γ a0 a1)) : ∀ (γ : St), SB Γ BM mt_M_unary (RmT (n9 + 1 + 14) (70 * (n9 + 1) + 461)) 0 0 (KT Γ BM mt_M_unary.2.2.2) 161 [(0, vR Γ 0)] [] γ (f_M_unary_b161 E γ ) := by
  intro γ
  unfold f_M_unary_b161
  refine sb_bd (j := 0) (i := 7) rfl (fun c3 => ?_)
  exact sb_thr rfl d_M_unary_161 d_M_unary_164 (pu_iconst d_M_unary_165) (pu_fld kf_M 0 7 rfl rfl rfl (by decide) fl_M_33 d_M_unary_166 d_M_unary_167) d_M_unary_170 d_M_unary_173 (by decide) c3 ⟨by first | omega | (simp only [RmT, RmN]; omega), by first | omega | (simp only [RmT, RmN]; omega)⟩
set_option maxHeartbeats 4000000 in
theorem s_M_unary_b211 {Γ : Ctx} {k92 : St → Int → Option Res} {x131 : St → Option Res} {x161 : St → Option Res} {n9 : Nat} {E : Nat → St → Int → Int → Option Res} (hE0 : ∀ (γ : St) (a0 : Int), i32 a0 → TC Γ BM y_M_expression mt_M_expression (n9 + 14) (70 * n9 + 461) [vR Γ 0, vI a0] γ (E 0 γ a0 0)) (hE1 : ∀ (γ : St) (a0 : Int), i32 a0 → TC Γ BM y_M_implied mt_M_implied (n9 + 14) (70 * n9 + 461) [vR Γ 0, vI a0] γ (E 1 γ a0 0)) (hE2 : ∀ (γ : St) (a0 : Int), i32 a0 → TC Γ BM y_M_either mt_M_either (n9 + 14) (70 * n9 + 461) [vR Γ 0, vI a0] γ (E 2 γ a0 0)) (hE3 : ∀ (γ : St) (a0 : Int), i32 a0 → TC Γ BM y_M_both mt_M_both (n9 + 14) (70 * n9 + 461) [vR Γ 0, vI a0] γ (E 3 γ a0 0)) (hE4 : ∀ (γ : St) (a0 : Int), i32 a0 → TC Γ BM y_M_compared mt_M_compared (n9 + 14) (70 * n9 + 461) [vR Γ 0, vI a0] γ (E 4 γ a0 0)) (hE5 : ∀ (γ : St) (a0 : Int), i32 a0 → TC Γ BM y_M_sum mt_M_sum (n9 + 14) (70 * n9 + 461) [vR Γ 0, vI a0] γ (E 5 γ a0 0)) (hE6 : ∀ (γ : St) (a0 : Int), i32 a0 → TC Γ BM y_M_product mt_M_product (n9 + 14) (70 * n9 + 461) [vR Γ 0, vI a0] γ (E 6 γ a0 0)) (hE7 : ∀ (γ : St) (a0 : Int), i32 a0 → TC Γ BM y_M_unary mt_M_unary (n9 + 14) (70 * n9 + 461) [vR Γ 0, vI a0] γ (E 7 γ a0 0)) (hE8 : ∀ (γ : St) (a0 : Int), i32 a0 → TC Γ BM y_M_atom mt_M_atom (n9 + 14) (70 * n9 + 461) [vR Γ 0, vI a0] γ (E 8 γ a0 0)) (hE9 : ∀ (γ : St) (a0 : Int) (a1 : Int), i32 a0 → i32 a1 → TC Γ BM y_M_call mt_M_call (n9 + 14) (70 * n9 + 461) [vR Γ 0, vI a0, vI a1] γ (E 9 γ a0 a1)) (hk92 : ∀ (γ : St) (x11 : Int), i32 x11 → SB Γ BM mt_M_unary (RmT (n9 + 1 + 14) (70 * (n9 + 1) + 461)) 0 0 (KT Γ BM mt_M_unary.2.2.2) 92 [(0, vR Γ 0), (3, vI x11)] [] γ (k92 γ x11)) (hx131 : ∀ (γ : St), SB Γ BM mt_M_unary (RmT (n9 + 1 + 14) (70 * (n9 + 1) + 461)) 0 0 (KT Γ BM mt_M_unary.2.2.2) 131 [(0, vR Γ 0)] [] γ (x131 γ )) (hx161 : ∀ (γ : St), SB Γ BM mt_M_unary (RmT (n9 + 1 + 14) (70 * (n9 + 1) + 461)) 0 0 (KT Γ BM mt_M_unary.2.2.2) 161 [(0, vR Γ 0)] [] γ (x161 γ )) : ∀ (γ : St) (x4 : Int) (x5 : Int) (x6 : Int) (x7 : Int), i32 x4 → i32 x5 → i32 x6 → i32 x7 → SB Γ BM mt_M_unary (RmT (n9 + 1 + 14) (70 * (n9 + 1) + 461)) 0 0 (KT Γ BM mt_M_unary.2.2.2) 211 [(0, vR Γ 0), (3, vI x4)] [vI x5, vI x6, vI x7, vR Γ 0] γ (f_M_unary_b211 E k92 x131 x161 γ x4 x5 x6 x7) := by
  intro γ x4 x5 x6 x7 hx4 hx5 hx6 hx7
  unfold f_M_unary_b211
  refine sb_iadd d_M_unary_211 ?_
  refine sb_chk (fun c8 => ?_)
  refine sb_iload_n 1 d_M_unary_212 rfl ?_
  refine sb_iconst d_M_unary_213 ?_
  refine sb_cTi vf_M_make (c_M_make γ x7 (x6 + x5) x4 1 hx7 c8 hx4 (by decide)) rfl ml_M_420 (As := [vI x7, vI (x6 + x5), vI x4, vI 1]) rfl rfl (Nat.le_of_ble_eq_true rfl) ⟨by first | omega | (simp only [RmT, RmN]; omega), by first | omega | (simp only [RmT, RmN]; omega)⟩ d_M_unary_214 (fun r9 γ10 hr9 => ?_)
  refine sb_istore_n [(3, vI r9), (0, vR Γ 0)] d_M_unary_217 (by decide) rfl ?_
  refine sb_goto 92 d_M_unary_218 (by decide) ?_
  exact sb_lv [1, 0] rfl (hk92 γ10 r9 hr9)
set_option maxHeartbeats 4000000 in
theorem s_M_unary_b124 {Γ : Ctx} {k92 : St → Int → Option Res} {x131 : St → Option Res} {x161 : St → Option Res} {n9 : Nat} {E : Nat → St → Int → Int → Option Res} (hE0 : ∀ (γ : St) (a0 : Int), i32 a0 → TC Γ BM y_M_expression mt_M_expression (n9 + 14) (70 * n9 + 461) [vR Γ 0, vI a0] γ (E 0 γ a0 0)) (hE1 : ∀ (γ : St) (a0 : Int), i32 a0 → TC Γ BM y_M_implied mt_M_implied (n9 + 14) (70 * n9 + 461) [vR Γ 0, vI a0] γ (E 1 γ a0 0)) (hE2 : ∀ (γ : St) (a0 : Int), i32 a0 → TC Γ BM y_M_either mt_M_either (n9 + 14) (70 * n9 + 461) [vR Γ 0, vI a0] γ (E 2 γ a0 0)) (hE3 : ∀ (γ : St) (a0 : Int), i32 a0 → TC Γ BM y_M_both mt_M_both (n9 + 14) (70 * n9 + 461) [vR Γ 0, vI a0] γ (E 3 γ a0 0)) (hE4 : ∀ (γ : St) (a0 : Int), i32 a0 → TC Γ BM y_M_compared mt_M_compared (n9 + 14) (70 * n9 + 461) [vR Γ 0, vI a0] γ (E 4 γ a0 0)) (hE5 : ∀ (γ : St) (a0 : Int), i32 a0 → TC Γ BM y_M_sum mt_M_sum (n9 + 14) (70 * n9 + 461) [vR Γ 0, vI a0] γ (E 5 γ a0 0)) (hE6 : ∀ (γ : St) (a0 : Int), i32 a0 → TC Γ BM y_M_product mt_M_product (n9 + 14) (70 * n9 + 461) [vR Γ 0, vI a0] γ (E 6 γ a0 0)) (hE7 : ∀ (γ : St) (a0 : Int), i32 a0 → TC Γ BM y_M_unary mt_M_unary (n9 + 14) (70 * n9 + 461) [vR Γ 0, vI a0] γ (E 7 γ a0 0)) (hE8 : ∀ (γ : St) (a0 : Int), i32 a0 → TC Γ BM y_M_atom mt_M_atom (n9 + 14) (70 * n9 + 461) [vR Γ 0, vI a0] γ (E 8 γ a0 0)) (hE9 : ∀ (γ : St) (a0 : Int) (a1 : Int), i32 a0 → i32 a1 → TC Γ BM y_M_call mt_M_call (n9 + 14) (70 * n9 + 461) [vR Γ 0, vI a0, vI a1] γ (E 9 γ a0 a1)) (hk92 : ∀ (γ : St) (x30 : Int), i32 x30 → SB Γ BM mt_M_unary (RmT (n9 + 1 + 14) (70 * (n9 + 1) + 461)) 0 0 (KT Γ BM mt_M_unary.2.2.2) 92 [(0, vR Γ 0), (3, vI x30)] [] γ (k92 γ x30)) (hx131 : ∀ (γ : St), SB Γ BM mt_M_unary (RmT (n9 + 1 + 14) (70 * (n9 + 1) + 461)) 0 0 (KT Γ BM mt_M_unary.2.2.2) 131 [(0, vR Γ 0)] [] γ (x131 γ )) (hx161 : ∀ (γ : St), SB Γ BM mt_M_unary (RmT (n9 + 1 + 14) (70 * (n9 + 1) + 461)) 0 0 (KT Γ BM mt_M_unary.2.2.2) 161 [(0, vR Γ 0)] [] γ (x161 γ )) : ∀ (γ : St) (x12 : Int) (x13 : Int), i32 x12 → i32 x13 → SB Γ BM mt_M_unary (RmT (n9 + 1 + 14) (70 * (n9 + 1) + 461)) 0 0 (KT Γ BM mt_M_unary.2.2.2) 124 [(0, vR Γ 0), (3, vI x12), (4, vI x13)] [] γ (f_M_unary_b124 E k92 x131 x161 γ x12 x13) := by
  intro γ x12 x13 hx12 hx13
  unfold f_M_unary_b124
  refine sb_aload_n 0 d_M_unary_124 rfl ?_
  refine sb_cVz vf_M_nameHere (c_M_nameHere γ  ) rfl ml_M_373 (As := []) rfl rfl (Nat.le_of_ble_eq_true rfl) ⟨by first | omega | (simp only [RmT, RmN]; omega), by first | omega | (simp only [RmT, RmN]; omega)⟩ d_M_unary_125 (fun r14 γ15 hr14 => ?_)
  refine sb_if_ne 136 (z2i hr14) d_M_unary_128 (by decide) (fun _ => ?_) (fun _ => ?_)
  · refine sb_aload_n 0 d_M_unary_136 rfl ?_
    refine sb_aload_n 0 d_M_unary_137 rfl ?_
    refine g_M_71 d_M_unary_138 (fun c16 => ?_)
    refine sb_cVi vf_M_variableHere (c_M_variableHere γ15 (γ15 0 19) c16) rfl ml_M_376 (As := [vI (γ15 0 19)]) rfl rfl (Nat.le_of_ble_eq_true rfl) ⟨by first | omega | (simp only [RmT, RmN]; omega), by first | omega | (simp only [RmT, RmN]; omega)⟩ d_M_unary_141 (fun r17 γ18 hr17 => ?_)
    refine sb_istore [(5, vI r17), (0, vR Γ 0), (3, vI x12), (4, vI x13)] d_M_unary_144 (by decide) rfl ?_
    refine sb_iload 0 d_M_unary_146 rfl ?_
    refine sb_if_lt 161 hr17 d_M_unary_148 (by decide) (fun _ => ?_) (fun _ => ?_)
    · exact sb_lv [1] rfl (hx161 γ18  )
    · refine sb_aload_n 1 d_M_unary_151 rfl ?_
      refine g_M_86 d_M_unary_152 ?_
      refine sb_iload 0 d_M_unary_155 rfl ?_
      refine al_M_14 d_M_unary_157 (fun _ c20 => ?_)
      refine sb_if_ne 174 c20 d_M_unary_158 (by decide) (fun _ => ?_) (fun _ => ?_)
      · refine sb_aload_n 1 d_M_unary_174 rfl ?_
        refine sb_iload 0 d_M_unary_175 rfl ?_
        refine sb_cTv vf_M_shallow (c_M_shallow γ18 r17 hr17) rfl ml_M_383 (As := [vI r17]) rfl rfl (Nat.le_of_ble_eq_true rfl) ⟨by first | omega | (simp only [RmT, RmN]; omega), by first | omega | (simp only [RmT, RmN]; omega)⟩ d_M_unary_177 (fun _ γ22 => ?_)
        refine sb_aload_n 1 d_M_unary_180 rfl ?_
        refine sb_cVv vf_M_take (c_M_take γ22  ) rfl ml_M_305 (As := []) rfl rfl (Nat.le_of_ble_eq_true rfl) ⟨by first | omega | (simp only [RmT, RmN]; omega), by first | omega | (simp only [RmT, RmN]; omega)⟩ d_M_unary_181 (fun _ γ24 => ?_)
        refine sb_aload_n 1 d_M_unary_184 rfl ?_
        refine sb_bipush d_M_unary_185 (by decide) ?_
        refine sb_iconst d_M_unary_187 ?_
        refine sb_iload 0 d_M_unary_188 rfl ?_
        refine sb_aload_n 1 d_M_unary_190 rfl ?_
        refine g_M_50 d_M_unary_191 ?_
        refine sb_aload_n 1 d_M_unary_194 rfl ?_
        refine g_M_68 d_M_unary_195 (fun c26 => ?_)
        refine al_M_4 d_M_unary_198 (fun _ c27 => ?_)
        refine sb_isub d_M_unary_199 ?_
        refine sb_chk (fun c28 => ?_)
        refine sb_imul d_M_unary_200 ?_
        refine sb_chk (fun c29 => ?_)
        refine sb_iload 3 d_M_unary_201 rfl ?_
        refine sb_if_eq 210 hx13 d_M_unary_203 (by decide) (fun _ => ?_) (fun _ => ?_)
        · refine sb_iconst d_M_unary_210 ?_
          exact sb_lv [1, 2] rfl (s_M_unary_b211 hE0 hE1 hE2 hE3 hE4 hE5 hE6 hE7 hE8 hE9 hk92 hx131 hx161 γ24 x12 1 (2 * (r17 - (γ24 4 (γ24 0 18)))) 26 hx12 (by decide) c29 (by decide))
        · refine sb_iconst d_M_unary_206 ?_
          refine sb_goto 211 d_M_unary_207 (by decide) ?_
          exact sb_lv [1, 2] rfl (s_M_unary_b211 hE0 hE1 hE2 hE3 hE4 hE5 hE6 hE7 hE8 hE9 hk92 hx131 hx161 γ24 x12 0 (2 * (r17 - (γ24 4 (γ24 0 18)))) 26 hx12 (by decide) c29 (by decide))
      · exact sb_lv [1] rfl (hx161 γ18  )
  · exact sb_lv [0] rfl (hx131 γ15  )
set_option maxHeartbeats 4000000 in
theorem s_M_unary_L92 {Γ : Ctx} {x131 : St → Option Res} {x161 : St → Option Res} {n9 : Nat} {E : Nat → St → Int → Int → Option Res} (hE0 : ∀ (γ : St) (a0 : Int), i32 a0 → TC Γ BM y_M_expression mt_M_expression (n9 + 14) (70 * n9 + 461) [vR Γ 0, vI a0] γ (E 0 γ a0 0)) (hE1 : ∀ (γ : St) (a0 : Int), i32 a0 → TC Γ BM y_M_implied mt_M_implied (n9 + 14) (70 * n9 + 461) [vR Γ 0, vI a0] γ (E 1 γ a0 0)) (hE2 : ∀ (γ : St) (a0 : Int), i32 a0 → TC Γ BM y_M_either mt_M_either (n9 + 14) (70 * n9 + 461) [vR Γ 0, vI a0] γ (E 2 γ a0 0)) (hE3 : ∀ (γ : St) (a0 : Int), i32 a0 → TC Γ BM y_M_both mt_M_both (n9 + 14) (70 * n9 + 461) [vR Γ 0, vI a0] γ (E 3 γ a0 0)) (hE4 : ∀ (γ : St) (a0 : Int), i32 a0 → TC Γ BM y_M_compared mt_M_compared (n9 + 14) (70 * n9 + 461) [vR Γ 0, vI a0] γ (E 4 γ a0 0)) (hE5 : ∀ (γ : St) (a0 : Int), i32 a0 → TC Γ BM y_M_sum mt_M_sum (n9 + 14) (70 * n9 + 461) [vR Γ 0, vI a0] γ (E 5 γ a0 0)) (hE6 : ∀ (γ : St) (a0 : Int), i32 a0 → TC Γ BM y_M_product mt_M_product (n9 + 14) (70 * n9 + 461) [vR Γ 0, vI a0] γ (E 6 γ a0 0)) (hE7 : ∀ (γ : St) (a0 : Int), i32 a0 → TC Γ BM y_M_unary mt_M_unary (n9 + 14) (70 * n9 + 461) [vR Γ 0, vI a0] γ (E 7 γ a0 0)) (hE8 : ∀ (γ : St) (a0 : Int), i32 a0 → TC Γ BM y_M_atom mt_M_atom (n9 + 14) (70 * n9 + 461) [vR Γ 0, vI a0] γ (E 8 γ a0 0)) (hE9 : ∀ (γ : St) (a0 : Int) (a1 : Int), i32 a0 → i32 a1 → TC Γ BM y_M_call mt_M_call (n9 + 14) (70 * n9 + 461) [vR Γ 0, vI a0, vI a1] γ (E 9 γ a0 a1)) (hx131 : ∀ (γ : St), SB Γ BM mt_M_unary (RmT (n9 + 1 + 14) (70 * (n9 + 1) + 461)) 0 0 (KT Γ BM mt_M_unary.2.2.2) 131 [(0, vR Γ 0)] [] γ (x131 γ )) (hx161 : ∀ (γ : St), SB Γ BM mt_M_unary (RmT (n9 + 1 + 14) (70 * (n9 + 1) + 461)) 0 0 (KT Γ BM mt_M_unary.2.2.2) 161 [(0, vR Γ 0)] [] γ (x161 γ )) : ∀ (n : Nat) (γ : St) (x31 : Int), i32 x31 → SB Γ BM mt_M_unary (RmT (n9 + 1 + 14) (70 * (n9 + 1) + 461)) 0 0 (KT Γ BM mt_M_unary.2.2.2) 92 [(0, vR Γ 0), (3, vI x31)] [] γ (f_M_unary_L92 E x131 x161 n γ x31) := by
  intro n
  induction n with
  | zero => intros; exact sb_none
  | succ n ih =>
    intro γ x31 hx31
    unfold f_M_unary_L92
    refine sb_aload_n 0 d_M_unary_92 rfl ?_
    refine sb_ldcS (k := 7) (by decide) rfl d_M_unary_93 ?_
    refine sb_cVz vf_M_is (c_M_is γ 7 (by decide)) rfl ml_M_317 (As := [.ref (Γ.σ 7).1]) rfl rfl (Nat.le_of_ble_eq_true rfl) ⟨by first | omega | (simp only [RmT, RmN]; omega), by first | omega | (simp only [RmT, RmN]; omega)⟩ d_M_unary_96 (fun r32 γ33 hr32 => ?_)
    refine sb_if_eq 221 (z2i hr32) d_M_unary_99 (by decide) (fun _ => ?_) (fun _ => ?_)
    · refine sb_iload_n 1 d_M_unary_221 rfl ?_
      exact st_i rfl hx31 d_M_unary_222
    · refine sb_aload_n 0 d_M_unary_102 rfl ?_
      refine sb_cVv vf_M_take (c_M_take γ33  ) rfl ml_M_305 (As := []) rfl rfl (Nat.le_of_ble_eq_true rfl) ⟨by first | omega | (simp only [RmT, RmN]; omega), by first | omega | (simp only [RmT, RmN]; omega)⟩ d_M_unary_103 (fun _ γ35 => ?_)
      refine sb_aload_n 0 d_M_unary_106 rfl ?_
      refine sb_ldcS (k := 8) (by decide) rfl d_M_unary_107 ?_
      refine sb_cVz vf_M_is (c_M_is γ35 8 (by decide)) rfl ml_M_317 (As := [.ref (Γ.σ 8).1]) rfl rfl (Nat.le_of_ble_eq_true rfl) ⟨by first | omega | (simp only [RmT, RmN]; omega), by first | omega | (simp only [RmT, RmN]; omega)⟩ d_M_unary_110 (fun r36 γ37 hr36 => ?_)
      refine sb_istore [(4, vI r36), (0, vR Γ 0), (3, vI x31)] d_M_unary_113 (by decide) rfl ?_
      refine sb_iload 0 d_M_unary_115 rfl ?_
      refine sb_if_eq 124 (z2i hr36) d_M_unary_117 (by decide) (fun _ => ?_) (fun _ => ?_)
      · exact sb_lv [1, 2, 0] rfl (s_M_unary_b124 hE0 hE1 hE2 hE3 hE4 hE5 hE6 hE7 hE8 hE9 ih hx131 hx161 γ37 x31 r36 hx31 (z2i hr36))
      · refine sb_aload_n 1 d_M_unary_120 rfl ?_
        refine sb_cVv vf_M_take (c_M_take γ37  ) rfl ml_M_305 (As := []) rfl rfl (Nat.le_of_ble_eq_true rfl) ⟨by first | omega | (simp only [RmT, RmN]; omega), by first | omega | (simp only [RmT, RmN]; omega)⟩ d_M_unary_121 (fun _ γ39 => ?_)
        exact sb_lv [1, 2, 0] rfl (s_M_unary_b124 hE0 hE1 hE2 hE3 hE4 hE5 hE6 hE7 hE8 hE9 ih hx131 hx161 γ39 x31 r36 hx31 (z2i hr36))
set_option maxHeartbeats 4000000 in
theorem s_M_unary_b60 {Γ : Ctx} {n9 : Nat} {E : Nat → St → Int → Int → Option Res} (hE0 : ∀ (γ : St) (a0 : Int), i32 a0 → TC Γ BM y_M_expression mt_M_expression (n9 + 14) (70 * n9 + 461) [vR Γ 0, vI a0] γ (E 0 γ a0 0)) (hE1 : ∀ (γ : St) (a0 : Int), i32 a0 → TC Γ BM y_M_implied mt_M_implied (n9 + 14) (70 * n9 + 461) [vR Γ 0, vI a0] γ (E 1 γ a0 0)) (hE2 : ∀ (γ : St) (a0 : Int), i32 a0 → TC Γ BM y_M_either mt_M_either (n9 + 14) (70 * n9 + 461) [vR Γ 0, vI a0] γ (E 2 γ a0 0)) (hE3 : ∀ (γ : St) (a0 : Int), i32 a0 → TC Γ BM y_M_both mt_M_both (n9 + 14) (70 * n9 + 461) [vR Γ 0, vI a0] γ (E 3 γ a0 0)) (hE4 : ∀ (γ : St) (a0 : Int), i32 a0 → TC Γ BM y_M_compared mt_M_compared (n9 + 14) (70 * n9 + 461) [vR Γ 0, vI a0] γ (E 4 γ a0 0)) (hE5 : ∀ (γ : St) (a0 : Int), i32 a0 → TC Γ BM y_M_sum mt_M_sum (n9 + 14) (70 * n9 + 461) [vR Γ 0, vI a0] γ (E 5 γ a0 0)) (hE6 : ∀ (γ : St) (a0 : Int), i32 a0 → TC Γ BM y_M_product mt_M_product (n9 + 14) (70 * n9 + 461) [vR Γ 0, vI a0] γ (E 6 γ a0 0)) (hE7 : ∀ (γ : St) (a0 : Int), i32 a0 → TC Γ BM y_M_unary mt_M_unary (n9 + 14) (70 * n9 + 461) [vR Γ 0, vI a0] γ (E 7 γ a0 0)) (hE8 : ∀ (γ : St) (a0 : Int), i32 a0 → TC Γ BM y_M_atom mt_M_atom (n9 + 14) (70 * n9 + 461) [vR Γ 0, vI a0] γ (E 8 γ a0 0)) (hE9 : ∀ (γ : St) (a0 : Int) (a1 : Int), i32 a0 → i32 a1 → TC Γ BM y_M_call mt_M_call (n9 + 14) (70 * n9 + 461) [vR Γ 0, vI a0, vI a1] γ (E 9 γ a0 a1)) : ∀ (γ : St) (x40 : Int) (x41 : Int), i32 x40 → i32 x41 → SB Γ BM mt_M_unary (RmT (n9 + 1 + 14) (70 * (n9 + 1) + 461)) 0 0 (KT Γ BM mt_M_unary.2.2.2) 60 [(0, vR Γ 0), (1, vI x40)] [vI x41] γ (f_M_unary_b60 E γ x40 x41) := by
  intro γ x40 x41 hx40 hx41
  unfold f_M_unary_b60
  refine sb_istore_n [(2, vI x41), (0, vR Γ 0), (1, vI x40)] d_M_unary_60 (by decide) rfl ?_
  refine sb_iload_n 0 d_M_unary_61 rfl ?_
  refine sb_if_le 86 hx41 d_M_unary_62 (by decide) (fun _ => ?_) (fun _ => ?_)
  · refine sb_aload_n 1 d_M_unary_86 rfl ?_
    refine sb_iload_n 2 d_M_unary_87 rfl ?_
    refine sb_cTi vf_M_atom (hE8 γ x40 hx40) rfl ml_M_452 (As := [vI x40]) rfl rfl (Nat.le_of_ble_eq_true rfl) ⟨by first | omega | (simp only [RmT, RmN]; omega), by first | omega | (simp only [RmT, RmN]; omega)⟩ d_M_unary_88 (fun r42 γ43 hr42 => ?_)
    refine sb_istore_n [(3, vI r42), (2, vI x41), (0, vR Γ 0), (1, vI x40)] d_M_unary_91 (by decide) rfl ?_
    exact sb_lv [2, 0] rfl (s_M_unary_L92 hE0 hE1 hE2 hE3 hE4 hE5 hE6 hE7 hE8 hE9 (s_M_unary_b131 hE0 hE1 hE2 hE3 hE4 hE5 hE6 hE7 hE8 hE9) (s_M_unary_b161 hE0 hE1 hE2 hE3 hE4 hE5 hE6 hE7 hE8 hE9) FU γ43 r42 hr42)
  · refine sb_aload_n 1 d_M_unary_65 rfl ?_
    refine sb_cVv vf_M_take (c_M_take γ  ) rfl ml_M_305 (As := []) rfl rfl (Nat.le_of_ble_eq_true rfl) ⟨by first | omega | (simp only [RmT, RmN]; omega), by first | omega | (simp only [RmT, RmN]; omega)⟩ d_M_unary_66 (fun _ γ45 => ?_)
    refine sb_aload_n 1 d_M_unary_69 rfl ?_
    refine sb_iload_n 0 d_M_unary_70 rfl ?_
    refine sb_iconst d_M_unary_71 ?_
    refine sb_aload_n 1 d_M_unary_72 rfl ?_
    refine sb_aload_n 1 d_M_unary_73 rfl ?_
    refine sb_iload_n 2 d_M_unary_74 rfl ?_
    refine sb_cTi vf_M_nest (c_M_nest γ45 x40 hx40) rfl ml_M_424 (As := [vI x40]) rfl rfl (Nat.le_of_ble_eq_true rfl) ⟨by first | omega | (simp only [RmT, RmN]; omega), by first | omega | (simp only [RmT, RmN]; omega)⟩ d_M_unary_75 (fun r46 γ47 hr46 => ?_)
    refine sb_cTi vf_M_unary (hE7 γ47 r46 hr46) rfl ml_M_449 (As := [vI r46]) rfl rfl (Nat.le_of_ble_eq_true rfl) ⟨by first | omega | (simp only [RmT, RmN]; omega), by first | omega | (simp only [RmT, RmN]; omega)⟩ d_M_unary_78 (fun r48 γ49 hr48 => ?_)
    refine sb_iconst d_M_unary_81 ?_
    refine sb_cTi vf_M_make (c_M_make γ49 x41 0 r48 1 hx41 (by decide) hr48 (by decide)) rfl ml_M_420 (As := [vI x41, vI 0, vI r48, vI 1]) rfl rfl (Nat.le_of_ble_eq_true rfl) ⟨by first | omega | (simp only [RmT, RmN]; omega), by first | omega | (simp only [RmT, RmN]; omega)⟩ d_M_unary_82 (fun r50 γ51 hr50 => ?_)
    exact st_i rfl hr50 d_M_unary_85
set_option maxHeartbeats 4000000 in
theorem c_M_unary {Γ : Ctx} {n9 : Nat} {E : Nat → St → Int → Int → Option Res} (hE0 : ∀ (γ : St) (a0 : Int), i32 a0 → TC Γ BM y_M_expression mt_M_expression (n9 + 14) (70 * n9 + 461) [vR Γ 0, vI a0] γ (E 0 γ a0 0)) (hE1 : ∀ (γ : St) (a0 : Int), i32 a0 → TC Γ BM y_M_implied mt_M_implied (n9 + 14) (70 * n9 + 461) [vR Γ 0, vI a0] γ (E 1 γ a0 0)) (hE2 : ∀ (γ : St) (a0 : Int), i32 a0 → TC Γ BM y_M_either mt_M_either (n9 + 14) (70 * n9 + 461) [vR Γ 0, vI a0] γ (E 2 γ a0 0)) (hE3 : ∀ (γ : St) (a0 : Int), i32 a0 → TC Γ BM y_M_both mt_M_both (n9 + 14) (70 * n9 + 461) [vR Γ 0, vI a0] γ (E 3 γ a0 0)) (hE4 : ∀ (γ : St) (a0 : Int), i32 a0 → TC Γ BM y_M_compared mt_M_compared (n9 + 14) (70 * n9 + 461) [vR Γ 0, vI a0] γ (E 4 γ a0 0)) (hE5 : ∀ (γ : St) (a0 : Int), i32 a0 → TC Γ BM y_M_sum mt_M_sum (n9 + 14) (70 * n9 + 461) [vR Γ 0, vI a0] γ (E 5 γ a0 0)) (hE6 : ∀ (γ : St) (a0 : Int), i32 a0 → TC Γ BM y_M_product mt_M_product (n9 + 14) (70 * n9 + 461) [vR Γ 0, vI a0] γ (E 6 γ a0 0)) (hE7 : ∀ (γ : St) (a0 : Int), i32 a0 → TC Γ BM y_M_unary mt_M_unary (n9 + 14) (70 * n9 + 461) [vR Γ 0, vI a0] γ (E 7 γ a0 0)) (hE8 : ∀ (γ : St) (a0 : Int), i32 a0 → TC Γ BM y_M_atom mt_M_atom (n9 + 14) (70 * n9 + 461) [vR Γ 0, vI a0] γ (E 8 γ a0 0)) (hE9 : ∀ (γ : St) (a0 : Int) (a1 : Int), i32 a0 → i32 a1 → TC Γ BM y_M_call mt_M_call (n9 + 14) (70 * n9 + 461) [vR Γ 0, vI a0, vI a1] γ (E 9 γ a0 a1)) (γ : St) (a0 : Int) (ha0 : i32 a0) : TC Γ BM y_M_unary mt_M_unary (n9 + 1 + 14) (70 * (n9 + 1) + 461) [vR Γ 0, vI a0] γ (f_M_unary E γ a0) := by
  refine tc_of (by decide) rfl (Nat.le_of_ble_eq_true rfl) ?_
  show SB Γ BM mt_M_unary (RmT (n9 + 1 + 14) (70 * (n9 + 1) + 461)) 0 0 (KT Γ BM mt_M_unary.2.2.2) 0 [(0, vR Γ 0), (1, vI a0)] [] γ _
  unfold f_M_unary
  refine sb_aload_n 0 d_M_unary_0 rfl ?_
  refine sb_cVi vf_M_peek (c_M_peek γ  ) rfl ml_M_292 (As := []) rfl rfl (Nat.le_of_ble_eq_true rfl) ⟨by first | omega | (simp only [RmT, RmN]; omega), by first | omega | (simp only [RmT, RmN]; omega)⟩ d_M_unary_1 (fun r52 γ53 hr52 => ?_)
  refine sb_bipush d_M_unary_4 (by decide) ?_
  refine sb_icmp_ne 14 hr52 (by decide) d_M_unary_6 (by decide) (fun _ => ?_) (fun _ => ?_)
  · refine sb_aload_n 0 d_M_unary_14 rfl ?_
    refine sb_ldcS (k := 8) (by decide) rfl d_M_unary_15 ?_
    refine sb_cVz vf_M_is (c_M_is γ53 8 (by decide)) rfl ml_M_317 (As := [.ref (Γ.σ 8).1]) rfl rfl (Nat.le_of_ble_eq_true rfl) ⟨by first | omega | (simp only [RmT, RmN]; omega), by first | omega | (simp only [RmT, RmN]; omega)⟩ d_M_unary_18 (fun r54 γ55 hr54 => ?_)
    refine sb_if_eq 29 (z2i hr54) d_M_unary_21 (by decide) (fun _ => ?_) (fun _ => ?_)
    · refine sb_aload_n 0 d_M_unary_29 rfl ?_
      refine sb_ldcS (k := 15) (by decide) rfl d_M_unary_30 ?_
      refine sb_cVz vf_M_is (c_M_is γ55 15 (by decide)) rfl ml_M_317 (As := [.ref (Γ.σ 15).1]) rfl rfl (Nat.le_of_ble_eq_true rfl) ⟨by first | omega | (simp only [RmT, RmN]; omega), by first | omega | (simp only [RmT, RmN]; omega)⟩ d_M_unary_33 (fun r56 γ57 hr56 => ?_)
      refine sb_if_eq 44 (z2i hr56) d_M_unary_36 (by decide) (fun _ => ?_) (fun _ => ?_)
      · refine sb_aload_n 0 d_M_unary_44 rfl ?_
        refine sb_ldcS (k := 16) (by decide) rfl d_M_unary_45 ?_
        refine sb_cVz vf_M_is (c_M_is γ57 16 (by decide)) rfl ml_M_317 (As := [.ref (Γ.σ 16).1]) rfl rfl (Nat.le_of_ble_eq_true rfl) ⟨by first | omega | (simp only [RmT, RmN]; omega), by first | omega | (simp only [RmT, RmN]; omega)⟩ d_M_unary_48 (fun r58 γ59 hr58 => ?_)
        refine sb_if_eq 59 (z2i hr58) d_M_unary_51 (by decide) (fun _ => ?_) (fun _ => ?_)
        · refine sb_iconst d_M_unary_59 ?_
          exact sb_lv [0, 1] rfl (s_M_unary_b60 hE0 hE1 hE2 hE3 hE4 hE5 hE6 hE7 hE8 hE9 γ59 a0 0 ha0 (by decide))
        · refine sb_bipush d_M_unary_54 (by decide) ?_
          refine sb_goto 60 d_M_unary_56 (by decide) ?_
          exact sb_lv [0, 1] rfl (s_M_unary_b60 hE0 hE1 hE2 hE3 hE4 hE5 hE6 hE7 hE8 hE9 γ59 a0 25 ha0 (by decide))
      · refine sb_bipush d_M_unary_39 (by decide) ?_
        refine sb_goto 60 d_M_unary_41 (by decide) ?_
        exact sb_lv [0, 1] rfl (s_M_unary_b60 hE0 hE1 hE2 hE3 hE4 hE5 hE6 hE7 hE8 hE9 γ57 a0 24 ha0 (by decide))
    · refine sb_bipush d_M_unary_24 (by decide) ?_
      refine sb_goto 60 d_M_unary_26 (by decide) ?_
      exact sb_lv [0, 1] rfl (s_M_unary_b60 hE0 hE1 hE2 hE3 hE4 hE5 hE6 hE7 hE8 hE9 γ55 a0 23 ha0 (by decide))
  · refine sb_bipush d_M_unary_9 (by decide) ?_
    refine sb_goto 60 d_M_unary_11 (by decide) ?_
    exact sb_lv [0, 1] rfl (s_M_unary_b60 hE0 hE1 hE2 hE3 hE4 hE5 hE6 hE7 hE8 hE9 γ53 a0 22 ha0 (by decide))
def f_M_atom_b44 (E : Nat → St → Int → Int → Option Res) (γ : St) (x1 : Int) : Option Res :=
  bndN (f_M_take γ) fun _ γ3 =>
  bndT (f_M_make γ3 0 x1 (-1) 1) fun r4 γ5 =>
  some (.inr r4, γ5)
def f_M_atom_L15 (E : Nat → St → Int → Int → Option Res) (x44 : St → Int → Option Res) : Nat → St → Int → Int → Option Res
  | 0, _, _, _ => none
  | n + 1, γ, x6, x7 =>
  if (γ 0 8) ≤ x7 then
  (x44 γ x6)
  else
  (chk (i32 (10 * x6)) (chk (inb x7 65536) (chk (i32 ((10 * x6) + (γ 1 x7))) (chk (i32 (((10 * x6) + (γ 1 x7)) - 48)) (ap (((10 * x6) + (γ 1 x7)) - 48) fun x14 =>
  chk (i32 (x7 + 1)) ((f_M_atom_L15 E x44 n) γ x14 (x7 + 1)))))))
def f_M_atom_b92 (E : Nat → St → Int → Int → Option Res) (γ : St) (x17 : Int) : Option Res :=
  bndN (f_M_take γ) fun _ γ19 =>
  bndT (f_M_make γ19 1 x17 (-1) 1) fun r20 γ21 =>
  some (.inr r20, γ21)
def f_M_atom_b77 (E : Nat → St → Int → Int → Option Res) (γ : St) : Option Res :=
  bndN (f_M_is γ 20) fun r22 γ23 =>
  if r22 = 0 then
  (f_M_atom_b92 E γ23 0)
  else
  (f_M_atom_b92 E γ23 1)
def f_M_atom (E : Nat → St → Int → Int → Option Res) (γ : St) (a0 : Int) : Option Res :=
  bndN (f_M_peek γ) fun r24 γ25 =>
  if r24 ≠ 2 then
  (bndN (f_M_is γ25 20) fun r26 γ27 =>
  if r26 ≠ 0 then
  (f_M_atom_b77 E γ27 )
  else
  (bndN (f_M_is γ27 21) fun r28 γ29 =>
  if r28 = 0 then
  (bndN (f_M_peek γ29) fun r30 γ31 =>
  if r30 ≠ 40 then
  (bndN (f_M_nameHere γ31) fun r32 γ33 =>
  if r32 ≠ 0 then
  (ap (γ33 0 7) fun x35 =>
  bndN (f_M_variableHere γ33 (γ33 0 19)) fun r37 γ38 =>
  bndN (f_M_nodeHere γ38) fun r39 γ40 =>
  bndN (f_M_take γ40) fun _ γ42 =>
  bndN (f_M_peek γ42) fun r43 γ44 =>
  if r43 ≠ 40 then
  (if 0 ≤ r37 then
  (chk (inb (γ44 0 18) 61) (chk (i32 (r37 - (γ44 4 (γ44 0 18)))) (bndT (f_M_make γ44 2 (r37 - (γ44 4 (γ44 0 18))) (-1) 1) fun r49 γ50 =>
  some (.inr r49, γ50))))
  else
  (some (.inl (2, x35), γ44)))
  else
  (if 0 ≤ r39 then
  (bndT (E 9 γ44 r39 a0) fun r51 γ52 =>
  some (.inr r51, γ52))
  else
  (some (.inl (2, x35), γ44))))
  else
  (bndN (f_M_cant γ33) fun p53 γ54 => some (.inl (1, p53), γ54)))
  else
  (bndN (f_M_take γ31) fun _ γ56 =>
  bndT (f_M_nest γ56 a0) fun r57 γ58 =>
  bndT (E 0 γ58 r57 0) fun r59 γ60 =>
  bndT (f_M_must γ60 41) fun _ γ62 =>
  some (.inr r59, γ62)))
  else
  (f_M_atom_b77 E γ29 )))
  else
  (ap (γ25 0 7) fun x64 =>
  f_M_atom_L15 E (f_M_atom_b44 E) FU γ25 0 x64)
set_option maxHeartbeats 4000000 in
theorem s_M_atom_b44 {Γ : Ctx} {n9 : Nat} {E : Nat → St → Int → Int → Option Res} (hE0 : ∀ (γ : St) (a0 : Int), i32 a0 → TC Γ BM y_M_expression mt_M_expression (n9 + 14) (70 * n9 + 461) [vR Γ 0, vI a0] γ (E 0 γ a0 0)) (hE1 : ∀ (γ : St) (a0 : Int), i32 a0 → TC Γ BM y_M_implied mt_M_implied (n9 + 14) (70 * n9 + 461) [vR Γ 0, vI a0] γ (E 1 γ a0 0)) (hE2 : ∀ (γ : St) (a0 : Int), i32 a0 → TC Γ BM y_M_either mt_M_either (n9 + 14) (70 * n9 + 461) [vR Γ 0, vI a0] γ (E 2 γ a0 0)) (hE3 : ∀ (γ : St) (a0 : Int), i32 a0 → TC Γ BM y_M_both mt_M_both (n9 + 14) (70 * n9 + 461) [vR Γ 0, vI a0] γ (E 3 γ a0 0)) (hE4 : ∀ (γ : St) (a0 : Int), i32 a0 → TC Γ BM y_M_compared mt_M_compared (n9 + 14) (70 * n9 + 461) [vR Γ 0, vI a0] γ (E 4 γ a0 0)) (hE5 : ∀ (γ : St) (a0 : Int), i32 a0 → TC Γ BM y_M_sum mt_M_sum (n9 + 14) (70 * n9 + 461) [vR Γ 0, vI a0] γ (E 5 γ a0 0)) (hE6 : ∀ (γ : St) (a0 : Int), i32 a0 → TC Γ BM y_M_product mt_M_product (n9 + 14) (70 * n9 + 461) [vR Γ 0, vI a0] γ (E 6 γ a0 0)) (hE7 : ∀ (γ : St) (a0 : Int), i32 a0 → TC Γ BM y_M_unary mt_M_unary (n9 + 14) (70 * n9 + 461) [vR Γ 0, vI a0] γ (E 7 γ a0 0)) (hE8 : ∀ (γ : St) (a0 : Int), i32 a0 → TC Γ BM y_M_atom mt_M_atom (n9 + 14) (70 * n9 + 461) [vR Γ 0, vI a0] γ (E 8 γ a0 0)) (hE9 : ∀ (γ : St) (a0 : Int) (a1 : Int), i32 a0 → i32 a1 → TC Γ BM y_M_call mt_M_call (n9 + 14) (70 * n9 + 461) [vR Γ 0, vI a0, vI a1] γ (E 9 γ a0 a1)) : ∀ (γ : St) (x1 : Int), i32 x1 → SB Γ BM mt_M_atom (RmT (n9 + 1 + 14) (70 * (n9 + 1) + 461)) 0 0 (KT Γ BM mt_M_atom.2.2.2) 44 [(0, vR Γ 0), (2, vI x1)] [] γ (f_M_atom_b44 E γ x1) := by
  intro γ x1 hx1
  unfold f_M_atom_b44
  refine sb_aload_n 0 d_M_atom_44 rfl ?_
  refine sb_cVv vf_M_take (c_M_take γ  ) rfl ml_M_305 (As := []) rfl rfl (Nat.le_of_ble_eq_true rfl) ⟨by first | omega | (simp only [RmT, RmN]; omega), by first | omega | (simp only [RmT, RmN]; omega)⟩ d_M_atom_45 (fun _ γ3 => ?_)
  refine sb_aload_n 0 d_M_atom_48 rfl ?_
  refine sb_iconst d_M_atom_49 ?_
  refine sb_iload_n 1 d_M_atom_50 rfl ?_
  refine sb_iconst d_M_atom_51 ?_
  refine sb_iconst d_M_atom_52 ?_
  refine sb_cTi vf_M_make (c_M_make γ3 0 x1 (-1) 1 (by decide) hx1 (by decide) (by decide)) rfl ml_M_420 (As := [vI 0, vI x1, vI (-1), vI 1]) rfl rfl (Nat.le_of_ble_eq_true rfl) ⟨by first | omega | (simp only [RmT, RmN]; omega), by first | omega | (simp only [RmT, RmN]; omega)⟩ d_M_atom_53 (fun r4 γ5 hr4 => ?_)
  exact st_i rfl hr4 d_M_atom_56
set_option maxHeartbeats 4000000 in
theorem s_M_atom_L15 {Γ : Ctx} {x44 : St → Int → Option Res} {n9 : Nat} {E : Nat → St → Int → Int → Option Res} (hE0 : ∀ (γ : St) (a0 : Int), i32 a0 → TC Γ BM y_M_expression mt_M_expression (n9 + 14) (70 * n9 + 461) [vR Γ 0, vI a0] γ (E 0 γ a0 0)) (hE1 : ∀ (γ : St) (a0 : Int), i32 a0 → TC Γ BM y_M_implied mt_M_implied (n9 + 14) (70 * n9 + 461) [vR Γ 0, vI a0] γ (E 1 γ a0 0)) (hE2 : ∀ (γ : St) (a0 : Int), i32 a0 → TC Γ BM y_M_either mt_M_either (n9 + 14) (70 * n9 + 461) [vR Γ 0, vI a0] γ (E 2 γ a0 0)) (hE3 : ∀ (γ : St) (a0 : Int), i32 a0 → TC Γ BM y_M_both mt_M_both (n9 + 14) (70 * n9 + 461) [vR Γ 0, vI a0] γ (E 3 γ a0 0)) (hE4 : ∀ (γ : St) (a0 : Int), i32 a0 → TC Γ BM y_M_compared mt_M_compared (n9 + 14) (70 * n9 + 461) [vR Γ 0, vI a0] γ (E 4 γ a0 0)) (hE5 : ∀ (γ : St) (a0 : Int), i32 a0 → TC Γ BM y_M_sum mt_M_sum (n9 + 14) (70 * n9 + 461) [vR Γ 0, vI a0] γ (E 5 γ a0 0)) (hE6 : ∀ (γ : St) (a0 : Int), i32 a0 → TC Γ BM y_M_product mt_M_product (n9 + 14) (70 * n9 + 461) [vR Γ 0, vI a0] γ (E 6 γ a0 0)) (hE7 : ∀ (γ : St) (a0 : Int), i32 a0 → TC Γ BM y_M_unary mt_M_unary (n9 + 14) (70 * n9 + 461) [vR Γ 0, vI a0] γ (E 7 γ a0 0)) (hE8 : ∀ (γ : St) (a0 : Int), i32 a0 → TC Γ BM y_M_atom mt_M_atom (n9 + 14) (70 * n9 + 461) [vR Γ 0, vI a0] γ (E 8 γ a0 0)) (hE9 : ∀ (γ : St) (a0 : Int) (a1 : Int), i32 a0 → i32 a1 → TC Γ BM y_M_call mt_M_call (n9 + 14) (70 * n9 + 461) [vR Γ 0, vI a0, vI a1] γ (E 9 γ a0 a1)) (hx44 : ∀ (γ : St) (x16 : Int), i32 x16 → SB Γ BM mt_M_atom (RmT (n9 + 1 + 14) (70 * (n9 + 1) + 461)) 0 0 (KT Γ BM mt_M_atom.2.2.2) 44 [(0, vR Γ 0), (2, vI x16)] [] γ (x44 γ x16)) : ∀ (n : Nat) (γ : St) (x6 : Int) (x7 : Int), i32 x6 → i32 x7 → SB Γ BM mt_M_atom (RmT (n9 + 1 + 14) (70 * (n9 + 1) + 461)) 0 0 (KT Γ BM mt_M_atom.2.2.2) 15 [(0, vR Γ 0), (2, vI x6), (3, vI x7)] [] γ (f_M_atom_L15 E x44 n γ x6 x7) := by
  intro n
  induction n with
  | zero => intros; exact sb_none
  | succ n ih =>
    intro γ x6 x7 hx6 hx7
    unfold f_M_atom_L15
    refine sb_iload_n 2 d_M_atom_15 rfl ?_
    refine sb_aload_n 0 d_M_atom_16 rfl ?_
    refine g_M_36 d_M_atom_17 (fun c8 => ?_)
    refine sb_icmp_ge 44 hx7 c8 d_M_atom_20 (by decide) (fun _ => ?_) (fun _ => ?_)
    · exact sb_lv [0, 1] rfl (hx44 γ x6 hx6)
    · refine sb_bipush d_M_atom_23 (by decide) ?_
      refine sb_iload_n 1 d_M_atom_25 rfl ?_
      refine sb_imul d_M_atom_26 ?_
      refine sb_chk (fun c9 => ?_)
      refine sb_aload_n 0 d_M_atom_27 rfl ?_
      refine g_M_8 d_M_atom_28 ?_
      refine sb_iload_n 2 d_M_atom_31 rfl ?_
      refine al_M_1 d_M_atom_32 (fun _ c11 => ?_)
      refine sb_iadd d_M_atom_33 ?_
      refine sb_chk (fun c12 => ?_)
      refine sb_bipush d_M_atom_34 (by decide) ?_
      refine sb_isub d_M_atom_36 ?_
      refine sb_chk (fun c13 => ?_)
      refine sb_istore_n [(2, vI (((10 * x6) + (γ 1 x7)) - 48)), (0, vR Γ 0), (3, vI x7)] d_M_atom_37 (by decide) rfl ?_
      refine sb_nme (e := ((10 * x6) + (γ 1 x7)) - 48) (fun x14 => [(2, vI x14), (0, vR Γ 0), (3, vI x7)]) c13 (fun x14 hx14 => ?_)
      refine sb_iinc 2 [(3, vI (x7 + 1)), (2, vI x14), (0, vR Γ 0)] d_M_atom_38 rfl (by decide) rfl ?_
      refine sb_chk (fun c15 => ?_)
      refine sb_goto 15 d_M_atom_41 (by decide) ?_
      exact sb_lv [2, 1, 0] rfl (ih γ x14 (x7 + 1) hx14 c15)
set_option maxHeartbeats 4000000 in
theorem s_M_atom_b92 {Γ : Ctx} {n9 : Nat} {E : Nat → St → Int → Int → Option Res} (hE0 : ∀ (γ : St) (a0 : Int), i32 a0 → TC Γ BM y_M_expression mt_M_expression (n9 + 14) (70 * n9 + 461) [vR Γ 0, vI a0] γ (E 0 γ a0 0)) (hE1 : ∀ (γ : St) (a0 : Int), i32 a0 → TC Γ BM y_M_implied mt_M_implied (n9 + 14) (70 * n9 + 461) [vR Γ 0, vI a0] γ (E 1 γ a0 0)) (hE2 : ∀ (γ : St) (a0 : Int), i32 a0 → TC Γ BM y_M_either mt_M_either (n9 + 14) (70 * n9 + 461) [vR Γ 0, vI a0] γ (E 2 γ a0 0)) (hE3 : ∀ (γ : St) (a0 : Int), i32 a0 → TC Γ BM y_M_both mt_M_both (n9 + 14) (70 * n9 + 461) [vR Γ 0, vI a0] γ (E 3 γ a0 0)) (hE4 : ∀ (γ : St) (a0 : Int), i32 a0 → TC Γ BM y_M_compared mt_M_compared (n9 + 14) (70 * n9 + 461) [vR Γ 0, vI a0] γ (E 4 γ a0 0)) (hE5 : ∀ (γ : St) (a0 : Int), i32 a0 → TC Γ BM y_M_sum mt_M_sum (n9 + 14) (70 * n9 + 461) [vR Γ 0, vI a0] γ (E 5 γ a0 0)) (hE6 : ∀ (γ : St) (a0 : Int), i32 a0 → TC Γ BM y_M_product mt_M_product (n9 + 14) (70 * n9 + 461) [vR Γ 0, vI a0] γ (E 6 γ a0 0)) (hE7 : ∀ (γ : St) (a0 : Int), i32 a0 → TC Γ BM y_M_unary mt_M_unary (n9 + 14) (70 * n9 + 461) [vR Γ 0, vI a0] γ (E 7 γ a0 0)) (hE8 : ∀ (γ : St) (a0 : Int), i32 a0 → TC Γ BM y_M_atom mt_M_atom (n9 + 14) (70 * n9 + 461) [vR Γ 0, vI a0] γ (E 8 γ a0 0)) (hE9 : ∀ (γ : St) (a0 : Int) (a1 : Int), i32 a0 → i32 a1 → TC Γ BM y_M_call mt_M_call (n9 + 14) (70 * n9 + 461) [vR Γ 0, vI a0, vI a1] γ (E 9 γ a0 a1)) : ∀ (γ : St) (x17 : Int), i32 x17 → SB Γ BM mt_M_atom (RmT (n9 + 1 + 14) (70 * (n9 + 1) + 461)) 0 0 (KT Γ BM mt_M_atom.2.2.2) 92 [(0, vR Γ 0)] [vI x17] γ (f_M_atom_b92 E γ x17) := by
  intro γ x17 hx17
  unfold f_M_atom_b92
  refine sb_istore_n [(2, vI x17), (0, vR Γ 0)] d_M_atom_92 (by decide) rfl ?_
  refine sb_aload_n 1 d_M_atom_93 rfl ?_
  refine sb_cVv vf_M_take (c_M_take γ  ) rfl ml_M_305 (As := []) rfl rfl (Nat.le_of_ble_eq_true rfl) ⟨by first | omega | (simp only [RmT, RmN]; omega), by first | omega | (simp only [RmT, RmN]; omega)⟩ d_M_atom_94 (fun _ γ19 => ?_)
  refine sb_aload_n 1 d_M_atom_97 rfl ?_
  refine sb_iconst d_M_atom_98 ?_
  refine sb_iload_n 0 d_M_atom_99 rfl ?_
  refine sb_iconst d_M_atom_100 ?_
  refine sb_iconst d_M_atom_101 ?_
  refine sb_cTi vf_M_make (c_M_make γ19 1 x17 (-1) 1 (by decide) hx17 (by decide) (by decide)) rfl ml_M_420 (As := [vI 1, vI x17, vI (-1), vI 1]) rfl rfl (Nat.le_of_ble_eq_true rfl) ⟨by first | omega | (simp only [RmT, RmN]; omega), by first | omega | (simp only [RmT, RmN]; omega)⟩ d_M_atom_102 (fun r20 γ21 hr20 => ?_)
  exact st_i rfl hr20 d_M_atom_105
set_option maxHeartbeats 4000000 in
theorem s_M_atom_b77 {Γ : Ctx} {n9 : Nat} {E : Nat → St → Int → Int → Option Res} (hE0 : ∀ (γ : St) (a0 : Int), i32 a0 → TC Γ BM y_M_expression mt_M_expression (n9 + 14) (70 * n9 + 461) [vR Γ 0, vI a0] γ (E 0 γ a0 0)) (hE1 : ∀ (γ : St) (a0 : Int), i32 a0 → TC Γ BM y_M_implied mt_M_implied (n9 + 14) (70 * n9 + 461) [vR Γ 0, vI a0] γ (E 1 γ a0 0)) (hE2 : ∀ (γ : St) (a0 : Int), i32 a0 → TC Γ BM y_M_either mt_M_either (n9 + 14) (70 * n9 + 461) [vR Γ 0, vI a0] γ (E 2 γ a0 0)) (hE3 : ∀ (γ : St) (a0 : Int), i32 a0 → TC Γ BM y_M_both mt_M_both (n9 + 14) (70 * n9 + 461) [vR Γ 0, vI a0] γ (E 3 γ a0 0)) (hE4 : ∀ (γ : St) (a0 : Int), i32 a0 → TC Γ BM y_M_compared mt_M_compared (n9 + 14) (70 * n9 + 461) [vR Γ 0, vI a0] γ (E 4 γ a0 0)) (hE5 : ∀ (γ : St) (a0 : Int), i32 a0 → TC Γ BM y_M_sum mt_M_sum (n9 + 14) (70 * n9 + 461) [vR Γ 0, vI a0] γ (E 5 γ a0 0)) (hE6 : ∀ (γ : St) (a0 : Int), i32 a0 → TC Γ BM y_M_product mt_M_product (n9 + 14) (70 * n9 + 461) [vR Γ 0, vI a0] γ (E 6 γ a0 0)) (hE7 : ∀ (γ : St) (a0 : Int), i32 a0 → TC Γ BM y_M_unary mt_M_unary (n9 + 14) (70 * n9 + 461) [vR Γ 0, vI a0] γ (E 7 γ a0 0)) (hE8 : ∀ (γ : St) (a0 : Int), i32 a0 → TC Γ BM y_M_atom mt_M_atom (n9 + 14) (70 * n9 + 461) [vR Γ 0, vI a0] γ (E 8 γ a0 0)) (hE9 : ∀ (γ : St) (a0 : Int) (a1 : Int), i32 a0 → i32 a1 → TC Γ BM y_M_call mt_M_call (n9 + 14) (70 * n9 + 461) [vR Γ 0, vI a0, vI a1] γ (E 9 γ a0 a1)) : ∀ (γ : St), SB Γ BM mt_M_atom (RmT (n9 + 1 + 14) (70 * (n9 + 1) + 461)) 0 0 (KT Γ BM mt_M_atom.2.2.2) 77 [(0, vR Γ 0)] [] γ (f_M_atom_b77 E γ ) := by
  intro γ
  unfold f_M_atom_b77
  refine sb_aload_n 0 d_M_atom_77 rfl ?_
  refine sb_ldcS (k := 20) (by decide) rfl d_M_atom_78 ?_
  refine sb_cVz vf_M_is (c_M_is γ 20 (by decide)) rfl ml_M_317 (As := [.ref (Γ.σ 20).1]) rfl rfl (Nat.le_of_ble_eq_true rfl) ⟨by first | omega | (simp only [RmT, RmN]; omega), by first | omega | (simp only [RmT, RmN]; omega)⟩ d_M_atom_81 (fun r22 γ23 hr22 => ?_)
  refine sb_if_eq 91 (z2i hr22) d_M_atom_84 (by decide) (fun _ => ?_) (fun _ => ?_)
  · refine sb_iconst d_M_atom_91 ?_
    exact sb_lv [0] rfl (s_M_atom_b92 hE0 hE1 hE2 hE3 hE4 hE5 hE6 hE7 hE8 hE9 γ23 0 (by decide))
  · refine sb_iconst d_M_atom_87 ?_
    refine sb_goto 92 d_M_atom_88 (by decide) ?_
    exact sb_lv [0] rfl (s_M_atom_b92 hE0 hE1 hE2 hE3 hE4 hE5 hE6 hE7 hE8 hE9 γ23 1 (by decide))
set_option maxHeartbeats 4000000 in
theorem c_M_atom {Γ : Ctx} {n9 : Nat} {E : Nat → St → Int → Int → Option Res} (hE0 : ∀ (γ : St) (a0 : Int), i32 a0 → TC Γ BM y_M_expression mt_M_expression (n9 + 14) (70 * n9 + 461) [vR Γ 0, vI a0] γ (E 0 γ a0 0)) (hE1 : ∀ (γ : St) (a0 : Int), i32 a0 → TC Γ BM y_M_implied mt_M_implied (n9 + 14) (70 * n9 + 461) [vR Γ 0, vI a0] γ (E 1 γ a0 0)) (hE2 : ∀ (γ : St) (a0 : Int), i32 a0 → TC Γ BM y_M_either mt_M_either (n9 + 14) (70 * n9 + 461) [vR Γ 0, vI a0] γ (E 2 γ a0 0)) (hE3 : ∀ (γ : St) (a0 : Int), i32 a0 → TC Γ BM y_M_both mt_M_both (n9 + 14) (70 * n9 + 461) [vR Γ 0, vI a0] γ (E 3 γ a0 0)) (hE4 : ∀ (γ : St) (a0 : Int), i32 a0 → TC Γ BM y_M_compared mt_M_compared (n9 + 14) (70 * n9 + 461) [vR Γ 0, vI a0] γ (E 4 γ a0 0)) (hE5 : ∀ (γ : St) (a0 : Int), i32 a0 → TC Γ BM y_M_sum mt_M_sum (n9 + 14) (70 * n9 + 461) [vR Γ 0, vI a0] γ (E 5 γ a0 0)) (hE6 : ∀ (γ : St) (a0 : Int), i32 a0 → TC Γ BM y_M_product mt_M_product (n9 + 14) (70 * n9 + 461) [vR Γ 0, vI a0] γ (E 6 γ a0 0)) (hE7 : ∀ (γ : St) (a0 : Int), i32 a0 → TC Γ BM y_M_unary mt_M_unary (n9 + 14) (70 * n9 + 461) [vR Γ 0, vI a0] γ (E 7 γ a0 0)) (hE8 : ∀ (γ : St) (a0 : Int), i32 a0 → TC Γ BM y_M_atom mt_M_atom (n9 + 14) (70 * n9 + 461) [vR Γ 0, vI a0] γ (E 8 γ a0 0)) (hE9 : ∀ (γ : St) (a0 : Int) (a1 : Int), i32 a0 → i32 a1 → TC Γ BM y_M_call mt_M_call (n9 + 14) (70 * n9 + 461) [vR Γ 0, vI a0, vI a1] γ (E 9 γ a0 a1)) (γ : St) (a0 : Int) (ha0 : i32 a0) : TC Γ BM y_M_atom mt_M_atom (n9 + 1 + 14) (70 * (n9 + 1) + 461) [vR Γ 0, vI a0] γ (f_M_atom E γ a0) := by
  refine tc_of (by decide) rfl (Nat.le_of_ble_eq_true rfl) ?_
  show SB Γ BM mt_M_atom (RmT (n9 + 1 + 14) (70 * (n9 + 1) + 461)) 0 0 (KT Γ BM mt_M_atom.2.2.2) 0 [(0, vR Γ 0), (1, vI a0)] [] γ _
  unfold f_M_atom
  refine sb_aload_n 0 d_M_atom_0 rfl ?_
  refine sb_cVi vf_M_peek (c_M_peek γ  ) rfl ml_M_292 (As := []) rfl rfl (Nat.le_of_ble_eq_true rfl) ⟨by first | omega | (simp only [RmT, RmN]; omega), by first | omega | (simp only [RmT, RmN]; omega)⟩ d_M_atom_1 (fun r24 γ25 hr24 => ?_)
  refine sb_iconst d_M_atom_4 ?_
  refine sb_icmp_ne 57 hr24 (by decide) d_M_atom_5 (by decide) (fun _ => ?_) (fun _ => ?_)
  · refine sb_aload_n 0 d_M_atom_57 rfl ?_
    refine sb_ldcS (k := 20) (by decide) rfl d_M_atom_58 ?_
    refine sb_cVz vf_M_is (c_M_is γ25 20 (by decide)) rfl ml_M_317 (As := [.ref (Γ.σ 20).1]) rfl rfl (Nat.le_of_ble_eq_true rfl) ⟨by first | omega | (simp only [RmT, RmN]; omega), by first | omega | (simp only [RmT, RmN]; omega)⟩ d_M_atom_61 (fun r26 γ27 hr26 => ?_)
    refine sb_if_ne 77 (z2i hr26) d_M_atom_64 (by decide) (fun _ => ?_) (fun _ => ?_)
    · exact sb_lv [0] rfl (s_M_atom_b77 hE0 hE1 hE2 hE3 hE4 hE5 hE6 hE7 hE8 hE9 γ27  )
    · refine sb_aload_n 0 d_M_atom_67 rfl ?_
      refine sb_ldcS (k := 21) (by decide) rfl d_M_atom_68 ?_
      refine sb_cVz vf_M_is (c_M_is γ27 21 (by decide)) rfl ml_M_317 (As := [.ref (Γ.σ 21).1]) rfl rfl (Nat.le_of_ble_eq_true rfl) ⟨by first | omega | (simp only [RmT, RmN]; omega), by first | omega | (simp only [RmT, RmN]; omega)⟩ d_M_atom_71 (fun r28 γ29 hr28 => ?_)
      refine sb_if_eq 106 (z2i hr28) d_M_atom_74 (by decide) (fun _ => ?_) (fun _ => ?_)
      · refine sb_aload_n 0 d_M_atom_106 rfl ?_
        refine sb_cVi vf_M_peek (c_M_peek γ29  ) rfl ml_M_292 (As := []) rfl rfl (Nat.le_of_ble_eq_true rfl) ⟨by first | omega | (simp only [RmT, RmN]; omega), by first | omega | (simp only [RmT, RmN]; omega)⟩ d_M_atom_107 (fun r30 γ31 hr30 => ?_)
        refine sb_bipush d_M_atom_110 (by decide) ?_
        refine sb_icmp_ne 137 hr30 (by decide) d_M_atom_112 (by decide) (fun _ => ?_) (fun _ => ?_)
        · refine sb_aload_n 0 d_M_atom_137 rfl ?_
          refine sb_cVz vf_M_nameHere (c_M_nameHere γ31  ) rfl ml_M_373 (As := []) rfl rfl (Nat.le_of_ble_eq_true rfl) ⟨by first | omega | (simp only [RmT, RmN]; omega), by first | omega | (simp only [RmT, RmN]; omega)⟩ d_M_atom_138 (fun r32 γ33 hr32 => ?_)
          refine sb_if_ne 149 (z2i hr32) d_M_atom_141 (by decide) (fun _ => ?_) (fun _ => ?_)
          · refine sb_aload_n 0 d_M_atom_149 rfl ?_
            refine g_M_33 d_M_atom_150 (fun c34 => ?_)
            refine sb_istore_n [(2, vI (γ33 0 7)), (0, vR Γ 0), (1, vI a0)] d_M_atom_153 (by decide) rfl ?_
            refine sb_nme (e := γ33 0 7) (fun x35 => [(2, vI x35), (0, vR Γ 0), (1, vI a0)]) c34 (fun x35 hx35 => ?_)
            refine sb_aload_n 1 d_M_atom_154 rfl ?_
            refine sb_aload_n 1 d_M_atom_155 rfl ?_
            refine g_M_71 d_M_atom_156 (fun c36 => ?_)
            refine sb_cVi vf_M_variableHere (c_M_variableHere γ33 (γ33 0 19) c36) rfl ml_M_376 (As := [vI (γ33 0 19)]) rfl rfl (Nat.le_of_ble_eq_true rfl) ⟨by first | omega | (simp only [RmT, RmN]; omega), by first | omega | (simp only [RmT, RmN]; omega)⟩ d_M_atom_159 (fun r37 γ38 hr37 => ?_)
            refine sb_istore_n [(3, vI r37), (2, vI x35), (0, vR Γ 0), (1, vI a0)] d_M_atom_162 (by decide) rfl ?_
            refine sb_aload_n 2 d_M_atom_163 rfl ?_
            refine sb_cVi vf_M_nodeHere (c_M_nodeHere γ38  ) rfl ml_M_394 (As := []) rfl rfl (Nat.le_of_ble_eq_true rfl) ⟨by first | omega | (simp only [RmT, RmN]; omega), by first | omega | (simp only [RmT, RmN]; omega)⟩ d_M_atom_164 (fun r39 γ40 hr39 => ?_)
            refine sb_istore [(4, vI r39), (3, vI r37), (2, vI x35), (0, vR Γ 0), (1, vI a0)] d_M_atom_167 (by decide) rfl ?_
            refine sb_aload_n 3 d_M_atom_169 rfl ?_
            refine sb_cVv vf_M_take (c_M_take γ40  ) rfl ml_M_305 (As := []) rfl rfl (Nat.le_of_ble_eq_true rfl) ⟨by first | omega | (simp only [RmT, RmN]; omega), by first | omega | (simp only [RmT, RmN]; omega)⟩ d_M_atom_170 (fun _ γ42 => ?_)
            refine sb_aload_n 3 d_M_atom_173 rfl ?_
            refine sb_cVi vf_M_peek (c_M_peek γ42  ) rfl ml_M_292 (As := []) rfl rfl (Nat.le_of_ble_eq_true rfl) ⟨by first | omega | (simp only [RmT, RmN]; omega), by first | omega | (simp only [RmT, RmN]; omega)⟩ d_M_atom_174 (fun r43 γ44 hr43 => ?_)
            refine sb_bipush d_M_atom_177 (by decide) ?_
            refine sb_icmp_ne 205 hr43 (by decide) d_M_atom_179 (by decide) (fun _ => ?_) (fun _ => ?_)
            · refine sb_iload_n 1 d_M_atom_205 rfl ?_
              refine sb_if_ge 219 hr37 d_M_atom_206 (by decide) (fun _ => ?_) (fun _ => ?_)
              · refine sb_aload_n 3 d_M_atom_219 rfl ?_
                refine sb_iconst d_M_atom_220 ?_
                refine sb_iload_n 1 d_M_atom_221 rfl ?_
                refine sb_aload_n 3 d_M_atom_222 rfl ?_
                refine g_M_50 d_M_atom_223 ?_
                refine sb_aload_n 3 d_M_atom_226 rfl ?_
                refine g_M_68 d_M_atom_227 (fun c46 => ?_)
                refine al_M_4 d_M_atom_230 (fun _ c47 => ?_)
                refine sb_isub d_M_atom_231 ?_
                refine sb_chk (fun c48 => ?_)
                refine sb_iconst d_M_atom_232 ?_
                refine sb_iconst d_M_atom_233 ?_
                refine sb_cTi vf_M_make (c_M_make γ44 2 (r37 - (γ44 4 (γ44 0 18))) (-1) 1 (by decide) c48 (by decide) (by decide)) rfl ml_M_420 (As := [vI 2, vI (r37 - (γ44 4 (γ44 0 18))), vI (-1), vI 1]) rfl rfl (Nat.le_of_ble_eq_true rfl) ⟨by first | omega | (simp only [RmT, RmN]; omega), by first | omega | (simp only [RmT, RmN]; omega)⟩ d_M_atom_234 (fun r49 γ50 hr49 => ?_)
                exact st_i rfl hr49 d_M_atom_237
              · exact sb_thr rfl d_M_atom_209 d_M_atom_212 (pu_iconst d_M_atom_213) (pu_iload_n 2 d_M_atom_214 rfl) d_M_atom_215 d_M_atom_218 (by decide) hx35 ⟨by first | omega | (simp only [RmT, RmN]; omega), by first | omega | (simp only [RmT, RmN]; omega)⟩
            · refine sb_iload 0 d_M_atom_182 rfl ?_
              refine sb_if_ge 197 hr39 d_M_atom_184 (by decide) (fun _ => ?_) (fun _ => ?_)
              · refine sb_aload_n 3 d_M_atom_197 rfl ?_
                refine sb_iload 0 d_M_atom_198 rfl ?_
                refine sb_iload_n 4 d_M_atom_200 rfl ?_
                refine sb_cTi vf_M_call (hE9 γ44 r39 a0 hr39 ha0) rfl ml_M_412 (As := [vI r39, vI a0]) rfl rfl (Nat.le_of_ble_eq_true rfl) ⟨by first | omega | (simp only [RmT, RmN]; omega), by first | omega | (simp only [RmT, RmN]; omega)⟩ d_M_atom_201 (fun r51 γ52 hr51 => ?_)
                exact st_i rfl hr51 d_M_atom_204
              · exact sb_thr rfl d_M_atom_187 d_M_atom_190 (pu_iconst d_M_atom_191) (pu_iload_n 2 d_M_atom_192 rfl) d_M_atom_193 d_M_atom_196 (by decide) hx35 ⟨by first | omega | (simp only [RmT, RmN]; omega), by first | omega | (simp only [RmT, RmN]; omega)⟩
          · refine sb_aload_n 0 d_M_atom_144 rfl ?_
            exact sb_cant ml_M_301 ⟨by first | omega | (simp only [RmT, RmN]; omega), by first | omega | (simp only [RmT, RmN]; omega)⟩ d_M_atom_145 d_M_atom_148
        · refine sb_aload_n 0 d_M_atom_115 rfl ?_
          refine sb_cVv vf_M_take (c_M_take γ31  ) rfl ml_M_305 (As := []) rfl rfl (Nat.le_of_ble_eq_true rfl) ⟨by first | omega | (simp only [RmT, RmN]; omega), by first | omega | (simp only [RmT, RmN]; omega)⟩ d_M_atom_116 (fun _ γ56 => ?_)
          refine sb_aload_n 0 d_M_atom_119 rfl ?_
          refine sb_aload_n 0 d_M_atom_120 rfl ?_
          refine sb_iload_n 1 d_M_atom_121 rfl ?_
          refine sb_cTi vf_M_nest (c_M_nest γ56 a0 ha0) rfl ml_M_424 (As := [vI a0]) rfl rfl (Nat.le_of_ble_eq_true rfl) ⟨by first | omega | (simp only [RmT, RmN]; omega), by first | omega | (simp only [RmT, RmN]; omega)⟩ d_M_atom_122 (fun r57 γ58 hr57 => ?_)
          refine sb_cTi vf_M_expression (hE0 γ58 r57 hr57) rfl ml_M_409 (As := [vI r57]) rfl rfl (Nat.le_of_ble_eq_true rfl) ⟨by first | omega | (simp only [RmT, RmN]; omega), by first | omega | (simp only [RmT, RmN]; omega)⟩ d_M_atom_125 (fun r59 γ60 hr59 => ?_)
          refine sb_istore_n [(2, vI r59), (0, vR Γ 0), (1, vI a0)] d_M_atom_128 (by decide) rfl ?_
          refine sb_aload_n 1 d_M_atom_129 rfl ?_
          refine sb_bipush d_M_atom_130 (by decide) ?_
          refine sb_cTv vf_M_must (c_M_must γ60 41 (by decide)) rfl ml_M_379 (As := [vI 41]) rfl rfl (Nat.le_of_ble_eq_true rfl) ⟨by first | omega | (simp only [RmT, RmN]; omega), by first | omega | (simp only [RmT, RmN]; omega)⟩ d_M_atom_132 (fun _ γ62 => ?_)
          refine sb_iload_n 0 d_M_atom_135 rfl ?_
          exact st_i rfl hr59 d_M_atom_136
      · exact sb_lv [0] rfl (s_M_atom_b77 hE0 hE1 hE2 hE3 hE4 hE5 hE6 hE7 hE8 hE9 γ29  )
  · refine sb_iconst d_M_atom_8 ?_
    refine sb_istore_n [(2, vI 0), (0, vR Γ 0), (1, vI a0)] d_M_atom_9 (by decide) rfl ?_
    refine sb_aload_n 1 d_M_atom_10 rfl ?_
    refine g_M_33 d_M_atom_11 (fun c63 => ?_)
    refine sb_istore_n [(3, vI (γ25 0 7)), (2, vI 0), (0, vR Γ 0), (1, vI a0)] d_M_atom_14 (by decide) rfl ?_
    refine sb_nme (e := γ25 0 7) (fun x64 => [(3, vI x64), (2, vI 0), (0, vR Γ 0), (1, vI a0)]) c63 (fun x64 hx64 => ?_)
    exact sb_lv [2, 1, 0] rfl (s_M_atom_L15 hE0 hE1 hE2 hE3 hE4 hE5 hE6 hE7 hE8 hE9 (s_M_atom_b44 hE0 hE1 hE2 hE3 hE4 hE5 hE6 hE7 hE8 hE9) FU γ25 0 x64 (by decide) hx64)
def f_M_call_b60 (E : Nat → St → Int → Int → Option Res) (γ : St) (x1 : Int) (x2 : Int) : Option Res :=
  bndT (f_M_must γ 41) fun _ γ4 =>
  bndT (f_M_make γ4 3 x1 x2 1) fun r5 γ6 =>
  chk (inb (γ6 0 18) 60) (chk (i32 ((γ6 8 (γ6 0 18)) + 1)) (chk (inb (γ6 0 18) 60) (ap (setA γ6 8 (γ6 0 18) ((γ6 8 (γ6 0 18)) + 1)) fun γ12 =>
  chk (inb r5 66000) (ap (setA γ12 25 r5 (γ6 8 (γ6 0 18))) fun γ13 =>
  some (.inr r5, γ13)))))
def f_M_call_L19 (E : Nat → St → Int → Int → Option Res) (x60 : St → Int → Int → Option Res) : Nat → St → Int → Int → Int → Int → Option Res
  | 0, _, _, _, _, _ => none
  | n + 1, γ, x14, x15, x16, x17 =>
  bndN (f_M_peek γ) fun r18 γ19 =>
  if r18 ≠ 44 then
  (x60 γ19 x14 x16)
  else
  (bndN (f_M_take γ19) fun _ γ21 =>
  bndT (f_M_nest γ21 x15) fun r23 γ24 =>
  bndT (E 0 γ24 r23 0) fun r25 γ26 =>
  chk (inb x17 66000) (ap (setA γ26 23 x17 r25) fun γ27 =>
  chk (inb x17 66000) (ap (γ27 23 x17) fun x30 =>
  (f_M_call_L19 E x60 n) γ27 x14 x15 x16 x30)))
def f_M_call (E : Nat → St → Int → Int → Option Res) (γ : St) (a0 : Int) (a1 : Int) : Option Res :=
  bndT (f_M_must γ 40) fun _ γ34 =>
  bndT (f_M_nest γ34 a1) fun r35 γ36 =>
  bndT (E 0 γ36 r35 0) fun r37 γ38 =>
  f_M_call_L19 E (f_M_call_b60 E) FU γ38 a0 a1 r37 r37
set_option maxHeartbeats 4000000 in
theorem s_M_call_b60 {Γ : Ctx} {n9 : Nat} {E : Nat → St → Int → Int → Option Res} (hE0 : ∀ (γ : St) (a0 : Int), i32 a0 → TC Γ BM y_M_expression mt_M_expression (n9 + 14) (70 * n9 + 461) [vR Γ 0, vI a0] γ (E 0 γ a0 0)) (hE1 : ∀ (γ : St) (a0 : Int), i32 a0 → TC Γ BM y_M_implied mt_M_implied (n9 + 14) (70 * n9 + 461) [vR Γ 0, vI a0] γ (E 1 γ a0 0)) (hE2 : ∀ (γ : St) (a0 : Int), i32 a0 → TC Γ BM y_M_either mt_M_either (n9 + 14) (70 * n9 + 461) [vR Γ 0, vI a0] γ (E 2 γ a0 0)) (hE3 : ∀ (γ : St) (a0 : Int), i32 a0 → TC Γ BM y_M_both mt_M_both (n9 + 14) (70 * n9 + 461) [vR Γ 0, vI a0] γ (E 3 γ a0 0)) (hE4 : ∀ (γ : St) (a0 : Int), i32 a0 → TC Γ BM y_M_compared mt_M_compared (n9 + 14) (70 * n9 + 461) [vR Γ 0, vI a0] γ (E 4 γ a0 0)) (hE5 : ∀ (γ : St) (a0 : Int), i32 a0 → TC Γ BM y_M_sum mt_M_sum (n9 + 14) (70 * n9 + 461) [vR Γ 0, vI a0] γ (E 5 γ a0 0)) (hE6 : ∀ (γ : St) (a0 : Int), i32 a0 → TC Γ BM y_M_product mt_M_product (n9 + 14) (70 * n9 + 461) [vR Γ 0, vI a0] γ (E 6 γ a0 0)) (hE7 : ∀ (γ : St) (a0 : Int), i32 a0 → TC Γ BM y_M_unary mt_M_unary (n9 + 14) (70 * n9 + 461) [vR Γ 0, vI a0] γ (E 7 γ a0 0)) (hE8 : ∀ (γ : St) (a0 : Int), i32 a0 → TC Γ BM y_M_atom mt_M_atom (n9 + 14) (70 * n9 + 461) [vR Γ 0, vI a0] γ (E 8 γ a0 0)) (hE9 : ∀ (γ : St) (a0 : Int) (a1 : Int), i32 a0 → i32 a1 → TC Γ BM y_M_call mt_M_call (n9 + 14) (70 * n9 + 461) [vR Γ 0, vI a0, vI a1] γ (E 9 γ a0 a1)) : ∀ (γ : St) (x1 : Int) (x2 : Int), i32 x1 → i32 x2 → SB Γ BM mt_M_call (RmT (n9 + 1 + 14) (70 * (n9 + 1) + 461)) 0 0 (KT Γ BM mt_M_call.2.2.2) 60 [(0, vR Γ 0), (1, vI x1), (3, vI x2)] [] γ (f_M_call_b60 E γ x1 x2) := by
  intro γ x1 x2 hx1 hx2
  unfold f_M_call_b60
  refine sb_aload_n 0 d_M_call_60 rfl ?_
  refine sb_bipush d_M_call_61 (by decide) ?_
  refine sb_cTv vf_M_must (c_M_must γ 41 (by decide)) rfl ml_M_379 (As := [vI 41]) rfl rfl (Nat.le_of_ble_eq_true rfl) ⟨by first | omega | (simp only [RmT, RmN]; omega), by first | omega | (simp only [RmT, RmN]; omega)⟩ d_M_call_63 (fun _ γ4 => ?_)
  refine sb_aload_n 0 d_M_call_66 rfl ?_
  refine sb_iconst d_M_call_67 ?_
  refine sb_iload_n 1 d_M_call_68 rfl ?_
  refine sb_iload_n 2 d_M_call_69 rfl ?_
  refine sb_iconst d_M_call_70 ?_
  refine sb_cTi vf_M_make (c_M_make γ4 3 x1 x2 1 (by decide) hx1 hx2 (by decide)) rfl ml_M_420 (As := [vI 3, vI x1, vI x2, vI 1]) rfl rfl (Nat.le_of_ble_eq_true rfl) ⟨by first | omega | (simp only [RmT, RmN]; omega), by first | omega | (simp only [RmT, RmN]; omega)⟩ d_M_call_71 (fun r5 γ6 hr5 => ?_)
  refine sb_istore [(5, vI r5), (0, vR Γ 0), (1, vI x1), (3, vI x2)] d_M_call_74 (by decide) rfl ?_
  refine sb_aload_n 1 d_M_call_76 rfl ?_
  refine g_M_127 d_M_call_77 ?_
  refine sb_iload 0 d_M_call_80 rfl ?_
  refine sb_aload_n 1 d_M_call_82 rfl ?_
  refine g_M_62 d_M_call_83 ?_
  refine sb_aload_n 1 d_M_call_86 rfl ?_
  refine g_M_68 d_M_call_87 (fun c9 => ?_)
  refine sb_dup2 d_M_call_90 rfl rfl ?_
  refine al_M_8 d_M_call_91 (fun _ c10 => ?_)
  refine sb_dup_x2 d_M_call_92 rfl rfl rfl ?_
  refine sb_iconst d_M_call_93 ?_
  refine sb_iadd d_M_call_94 ?_
  refine sb_chk (fun c11 => ?_)
  refine as_M_8 c11 d_M_call_95 (fun _ => ?_)
  refine sb_aps (fun γ12 => ?_)
  refine as_M_25 c10 d_M_call_96 (fun _ => ?_)
  refine sb_aps (fun γ13 => ?_)
  refine sb_iload 0 d_M_call_97 rfl ?_
  exact st_i rfl hr5 d_M_call_99
set_option maxHeartbeats 4000000 in
theorem s_M_call_L19 {Γ : Ctx} {x60 : St → Int → Int → Option Res} {n9 : Nat} {E : Nat → St → Int → Int → Option Res} (hE0 : ∀ (γ : St) (a0 : Int), i32 a0 → TC Γ BM y_M_expression mt_M_expression (n9 + 14) (70 * n9 + 461) [vR Γ 0, vI a0] γ (E 0 γ a0 0)) (hE1 : ∀ (γ : St) (a0 : Int), i32 a0 → TC Γ BM y_M_implied mt_M_implied (n9 + 14) (70 * n9 + 461) [vR Γ 0, vI a0] γ (E 1 γ a0 0)) (hE2 : ∀ (γ : St) (a0 : Int), i32 a0 → TC Γ BM y_M_either mt_M_either (n9 + 14) (70 * n9 + 461) [vR Γ 0, vI a0] γ (E 2 γ a0 0)) (hE3 : ∀ (γ : St) (a0 : Int), i32 a0 → TC Γ BM y_M_both mt_M_both (n9 + 14) (70 * n9 + 461) [vR Γ 0, vI a0] γ (E 3 γ a0 0)) (hE4 : ∀ (γ : St) (a0 : Int), i32 a0 → TC Γ BM y_M_compared mt_M_compared (n9 + 14) (70 * n9 + 461) [vR Γ 0, vI a0] γ (E 4 γ a0 0)) (hE5 : ∀ (γ : St) (a0 : Int), i32 a0 → TC Γ BM y_M_sum mt_M_sum (n9 + 14) (70 * n9 + 461) [vR Γ 0, vI a0] γ (E 5 γ a0 0)) (hE6 : ∀ (γ : St) (a0 : Int), i32 a0 → TC Γ BM y_M_product mt_M_product (n9 + 14) (70 * n9 + 461) [vR Γ 0, vI a0] γ (E 6 γ a0 0)) (hE7 : ∀ (γ : St) (a0 : Int), i32 a0 → TC Γ BM y_M_unary mt_M_unary (n9 + 14) (70 * n9 + 461) [vR Γ 0, vI a0] γ (E 7 γ a0 0)) (hE8 : ∀ (γ : St) (a0 : Int), i32 a0 → TC Γ BM y_M_atom mt_M_atom (n9 + 14) (70 * n9 + 461) [vR Γ 0, vI a0] γ (E 8 γ a0 0)) (hE9 : ∀ (γ : St) (a0 : Int) (a1 : Int), i32 a0 → i32 a1 → TC Γ BM y_M_call mt_M_call (n9 + 14) (70 * n9 + 461) [vR Γ 0, vI a0, vI a1] γ (E 9 γ a0 a1)) (hx60 : ∀ (γ : St) (x31 : Int) (x32 : Int), i32 x31 → i32 x32 → SB Γ BM mt_M_call (RmT (n9 + 1 + 14) (70 * (n9 + 1) + 461)) 0 0 (KT Γ BM mt_M_call.2.2.2) 60 [(0, vR Γ 0), (1, vI x31), (3, vI x32)] [] γ (x60 γ x31 x32)) : ∀ (n : Nat) (γ : St) (x14 : Int) (x15 : Int) (x16 : Int) (x17 : Int), i32 x14 → i32 x15 → i32 x16 → i32 x17 → SB Γ BM mt_M_call (RmT (n9 + 1 + 14) (70 * (n9 + 1) + 461)) 0 0 (KT Γ BM mt_M_call.2.2.2) 19 [(0, vR Γ 0), (1, vI x14), (2, vI x15), (3, vI x16), (4, vI x17)] [] γ (f_M_call_L19 E x60 n γ x14 x15 x16 x17) := by
  intro n
  induction n with
  | zero => intros; exact sb_none
  | succ n ih =>
    intro γ x14 x15 x16 x17 hx14 hx15 hx16 hx17
    unfold f_M_call_L19
    refine sb_aload_n 0 d_M_call_19 rfl ?_
    refine sb_cVi vf_M_peek (c_M_peek γ  ) rfl ml_M_292 (As := []) rfl rfl (Nat.le_of_ble_eq_true rfl) ⟨by first | omega | (simp only [RmT, RmN]; omega), by first | omega | (simp only [RmT, RmN]; omega)⟩ d_M_call_20 (fun r18 γ19 hr18 => ?_)
    refine sb_bipush d_M_call_23 (by decide) ?_
    refine sb_icmp_ne 60 hr18 (by decide) d_M_call_25 (by decide) (fun _ => ?_) (fun _ => ?_)
    · exact sb_lv [0, 1, 3] rfl (hx60 γ19 x14 x16 hx14 hx16)
    · refine sb_aload_n 0 d_M_call_28 rfl ?_
      refine sb_cVv vf_M_take (c_M_take γ19  ) rfl ml_M_305 (As := []) rfl rfl (Nat.le_of_ble_eq_true rfl) ⟨by first | omega | (simp only [RmT, RmN]; omega), by first | omega | (simp only [RmT, RmN]; omega)⟩ d_M_call_29 (fun _ γ21 => ?_)
      refine sb_aload_n 0 d_M_call_32 rfl ?_
      refine g_M_121 d_M_call_33 ?_
      refine sb_iload 4 d_M_call_36 rfl ?_
      refine sb_aload_n 0 d_M_call_38 rfl ?_
      refine sb_aload_n 0 d_M_call_39 rfl ?_
      refine sb_iload_n 2 d_M_call_40 rfl ?_
      refine sb_cTi vf_M_nest (c_M_nest γ21 x15 hx15) rfl ml_M_424 (As := [vI x15]) rfl rfl (Nat.le_of_ble_eq_true rfl) ⟨by first | omega | (simp only [RmT, RmN]; omega), by first | omega | (simp only [RmT, RmN]; omega)⟩ d_M_call_41 (fun r23 γ24 hr23 => ?_)
      refine sb_cTi vf_M_expression (hE0 γ24 r23 hr23) rfl ml_M_409 (As := [vI r23]) rfl rfl (Nat.le_of_ble_eq_true rfl) ⟨by first | omega | (simp only [RmT, RmN]; omega), by first | omega | (simp only [RmT, RmN]; omega)⟩ d_M_call_44 (fun r25 γ26 hr25 => ?_)
      refine as_M_23 hr25 d_M_call_47 (fun _ => ?_)
      refine sb_aps (fun γ27 => ?_)
      refine sb_aload_n 0 d_M_call_48 rfl ?_
      refine g_M_121 d_M_call_49 ?_
      refine sb_iload 4 d_M_call_52 rfl ?_
      refine al_M_23 d_M_call_54 (fun _ c29 => ?_)
      refine sb_istore [(4, vI (γ27 23 x17)), (0, vR Γ 0), (1, vI x14), (2, vI x15), (3, vI x16)] d_M_call_55 (by decide) rfl ?_
      refine sb_nme (e := γ27 23 x17) (fun x30 => [(4, vI x30), (0, vR Γ 0), (1, vI x14), (2, vI x15), (3, vI x16)]) c29 (fun x30 hx30 => ?_)
      refine sb_goto 19 d_M_call_57 (by decide) ?_
      exact sb_lv [1, 2, 3, 4, 0] rfl (ih γ27 x14 x15 x16 x30 hx14 hx15 hx16 hx30)
set_option maxHeartbeats 4000000 in
theorem c_M_call {Γ : Ctx} {n9 : Nat} {E : Nat → St → Int → Int → Option Res} (hE0 : ∀ (γ : St) (a0 : Int), i32 a0 → TC Γ BM y_M_expression mt_M_expression (n9 + 14) (70 * n9 + 461) [vR Γ 0, vI a0] γ (E 0 γ a0 0)) (hE1 : ∀ (γ : St) (a0 : Int), i32 a0 → TC Γ BM y_M_implied mt_M_implied (n9 + 14) (70 * n9 + 461) [vR Γ 0, vI a0] γ (E 1 γ a0 0)) (hE2 : ∀ (γ : St) (a0 : Int), i32 a0 → TC Γ BM y_M_either mt_M_either (n9 + 14) (70 * n9 + 461) [vR Γ 0, vI a0] γ (E 2 γ a0 0)) (hE3 : ∀ (γ : St) (a0 : Int), i32 a0 → TC Γ BM y_M_both mt_M_both (n9 + 14) (70 * n9 + 461) [vR Γ 0, vI a0] γ (E 3 γ a0 0)) (hE4 : ∀ (γ : St) (a0 : Int), i32 a0 → TC Γ BM y_M_compared mt_M_compared (n9 + 14) (70 * n9 + 461) [vR Γ 0, vI a0] γ (E 4 γ a0 0)) (hE5 : ∀ (γ : St) (a0 : Int), i32 a0 → TC Γ BM y_M_sum mt_M_sum (n9 + 14) (70 * n9 + 461) [vR Γ 0, vI a0] γ (E 5 γ a0 0)) (hE6 : ∀ (γ : St) (a0 : Int), i32 a0 → TC Γ BM y_M_product mt_M_product (n9 + 14) (70 * n9 + 461) [vR Γ 0, vI a0] γ (E 6 γ a0 0)) (hE7 : ∀ (γ : St) (a0 : Int), i32 a0 → TC Γ BM y_M_unary mt_M_unary (n9 + 14) (70 * n9 + 461) [vR Γ 0, vI a0] γ (E 7 γ a0 0)) (hE8 : ∀ (γ : St) (a0 : Int), i32 a0 → TC Γ BM y_M_atom mt_M_atom (n9 + 14) (70 * n9 + 461) [vR Γ 0, vI a0] γ (E 8 γ a0 0)) (hE9 : ∀ (γ : St) (a0 : Int) (a1 : Int), i32 a0 → i32 a1 → TC Γ BM y_M_call mt_M_call (n9 + 14) (70 * n9 + 461) [vR Γ 0, vI a0, vI a1] γ (E 9 γ a0 a1)) (γ : St) (a0 : Int) (a1 : Int) (ha0 : i32 a0) (ha1 : i32 a1) : TC Γ BM y_M_call mt_M_call (n9 + 1 + 14) (70 * (n9 + 1) + 461) [vR Γ 0, vI a0, vI a1] γ (f_M_call E γ a0 a1) := by
  refine tc_of (by decide) rfl (Nat.le_of_ble_eq_true rfl) ?_
  show SB Γ BM mt_M_call (RmT (n9 + 1 + 14) (70 * (n9 + 1) + 461)) 0 0 (KT Γ BM mt_M_call.2.2.2) 0 [(0, vR Γ 0), (1, vI a0), (2, vI a1)] [] γ _
  unfold f_M_call
  refine sb_aload_n 0 d_M_call_0 rfl ?_
  refine sb_bipush d_M_call_1 (by decide) ?_
  refine sb_cTv vf_M_must (c_M_must γ 40 (by decide)) rfl ml_M_379 (As := [vI 40]) rfl rfl (Nat.le_of_ble_eq_true rfl) ⟨by first | omega | (simp only [RmT, RmN]; omega), by first | omega | (simp only [RmT, RmN]; omega)⟩ d_M_call_3 (fun _ γ34 => ?_)
  refine sb_aload_n 0 d_M_call_6 rfl ?_
  refine sb_aload_n 0 d_M_call_7 rfl ?_
  refine sb_iload_n 2 d_M_call_8 rfl ?_
  refine sb_cTi vf_M_nest (c_M_nest γ34 a1 ha1) rfl ml_M_424 (As := [vI a1]) rfl rfl (Nat.le_of_ble_eq_true rfl) ⟨by first | omega | (simp only [RmT, RmN]; omega), by first | omega | (simp only [RmT, RmN]; omega)⟩ d_M_call_9 (fun r35 γ36 hr35 => ?_)
  refine sb_cTi vf_M_expression (hE0 γ36 r35 hr35) rfl ml_M_409 (As := [vI r35]) rfl rfl (Nat.le_of_ble_eq_true rfl) ⟨by first | omega | (simp only [RmT, RmN]; omega), by first | omega | (simp only [RmT, RmN]; omega)⟩ d_M_call_12 (fun r37 γ38 hr37 => ?_)
  refine sb_istore_n [(3, vI r37), (0, vR Γ 0), (1, vI a0), (2, vI a1)] d_M_call_15 (by decide) rfl ?_
  refine sb_iload_n 0 d_M_call_16 rfl ?_
  refine sb_istore [(4, vI r37), (3, vI r37), (0, vR Γ 0), (1, vI a0), (2, vI a1)] d_M_call_17 (by decide) rfl ?_
  exact sb_lv [2, 3, 4, 1, 0] rfl (s_M_call_L19 hE0 hE1 hE2 hE3 hE4 hE5 hE6 hE7 hE8 hE9 (s_M_call_b60 hE0 hE1 hE2 hE3 hE4 hE5 hE6 hE7 hE8 hE9) FU γ38 a0 a1 r37 r37 ha0 ha1 hr37 hr37)
def ME : Nat → Nat → St → Int → Int → Option Res
  | 0, _, _, _, _ => none
  | n + 1, t, γ, a0, a1 =>
    if t = 0 then f_M_expression (ME n) γ a0 else if t = 1 then f_M_implied (ME n) γ a0 else if t = 2 then f_M_either (ME n) γ a0 else if t = 3 then f_M_both (ME n) γ a0 else if t = 4 then f_M_compared (ME n) γ a0 else if t = 5 then f_M_sum (ME n) γ a0 else if t = 6 then f_M_product (ME n) γ a0 else if t = 7 then f_M_unary (ME n) γ a0 else if t = 8 then f_M_atom (ME n) γ a0 else if t = 9 then f_M_call (ME n) γ a0 a1 else none
theorem ME_c {Γ : Ctx} : ∀ n : Nat, (∀ (γ : St) (a0 : Int), i32 a0 → TC Γ BM y_M_expression mt_M_expression (n + 14) (70 * n + 461) [vR Γ 0, vI a0] γ (ME n 0 γ a0 0)) ∧ (∀ (γ : St) (a0 : Int), i32 a0 → TC Γ BM y_M_implied mt_M_implied (n + 14) (70 * n + 461) [vR Γ 0, vI a0] γ (ME n 1 γ a0 0)) ∧ (∀ (γ : St) (a0 : Int), i32 a0 → TC Γ BM y_M_either mt_M_either (n + 14) (70 * n + 461) [vR Γ 0, vI a0] γ (ME n 2 γ a0 0)) ∧ (∀ (γ : St) (a0 : Int), i32 a0 → TC Γ BM y_M_both mt_M_both (n + 14) (70 * n + 461) [vR Γ 0, vI a0] γ (ME n 3 γ a0 0)) ∧ (∀ (γ : St) (a0 : Int), i32 a0 → TC Γ BM y_M_compared mt_M_compared (n + 14) (70 * n + 461) [vR Γ 0, vI a0] γ (ME n 4 γ a0 0)) ∧ (∀ (γ : St) (a0 : Int), i32 a0 → TC Γ BM y_M_sum mt_M_sum (n + 14) (70 * n + 461) [vR Γ 0, vI a0] γ (ME n 5 γ a0 0)) ∧ (∀ (γ : St) (a0 : Int), i32 a0 → TC Γ BM y_M_product mt_M_product (n + 14) (70 * n + 461) [vR Γ 0, vI a0] γ (ME n 6 γ a0 0)) ∧ (∀ (γ : St) (a0 : Int), i32 a0 → TC Γ BM y_M_unary mt_M_unary (n + 14) (70 * n + 461) [vR Γ 0, vI a0] γ (ME n 7 γ a0 0)) ∧ (∀ (γ : St) (a0 : Int), i32 a0 → TC Γ BM y_M_atom mt_M_atom (n + 14) (70 * n + 461) [vR Γ 0, vI a0] γ (ME n 8 γ a0 0)) ∧ (∀ (γ : St) (a0 : Int) (a1 : Int), i32 a0 → i32 a1 → TC Γ BM y_M_call mt_M_call (n + 14) (70 * n + 461) [vR Γ 0, vI a0, vI a1] γ (ME n 9 γ a0 a1)) := by
  intro n
  induction n with
  | zero => exact ⟨fun _ _ _ => tc_none, fun _ _ _ => tc_none, fun _ _ _ => tc_none, fun _ _ _ => tc_none, fun _ _ _ => tc_none, fun _ _ _ => tc_none, fun _ _ _ => tc_none, fun _ _ _ => tc_none, fun _ _ _ => tc_none, fun _ _ _ _ _ => tc_none⟩
  | succ n ih =>
    obtain ⟨h0, h1, h2, h3, h4, h5, h6, h7, h8, h9⟩ := ih
    exact ⟨fun γ a0 ha0 => c_M_expression h0 h1 h2 h3 h4 h5 h6 h7 h8 h9 γ a0 ha0, fun γ a0 ha0 => c_M_implied h0 h1 h2 h3 h4 h5 h6 h7 h8 h9 γ a0 ha0, fun γ a0 ha0 => c_M_either h0 h1 h2 h3 h4 h5 h6 h7 h8 h9 γ a0 ha0, fun γ a0 ha0 => c_M_both h0 h1 h2 h3 h4 h5 h6 h7 h8 h9 γ a0 ha0, fun γ a0 ha0 => c_M_compared h0 h1 h2 h3 h4 h5 h6 h7 h8 h9 γ a0 ha0, fun γ a0 ha0 => c_M_sum h0 h1 h2 h3 h4 h5 h6 h7 h8 h9 γ a0 ha0, fun γ a0 ha0 => c_M_product h0 h1 h2 h3 h4 h5 h6 h7 h8 h9 γ a0 ha0, fun γ a0 ha0 => c_M_unary h0 h1 h2 h3 h4 h5 h6 h7 h8 h9 γ a0 ha0, fun γ a0 ha0 => c_M_atom h0 h1 h2 h3 h4 h5 h6 h7 h8 h9 γ a0 ha0, fun γ a0 a1 ha0 ha1 => c_M_call h0 h1 h2 h3 h4 h5 h6 h7 h8 h9 γ a0 a1 ha0 ha1⟩
def F_M_expression (γ : St) (a0 : Int) : Option Res := ME 900 0 γ a0 0
theorem C_M_expression {Γ : Ctx} (γ : St) (a0 : Int) (ha0 : i32 a0) : TC Γ BM y_M_expression mt_M_expression 914 63461 [vR Γ 0, vI a0] γ (F_M_expression γ a0) := (ME_c 900).1 γ a0 ha0
def F_M_implied (γ : St) (a0 : Int) : Option Res := ME 900 1 γ a0 0
theorem C_M_implied {Γ : Ctx} (γ : St) (a0 : Int) (ha0 : i32 a0) : TC Γ BM y_M_implied mt_M_implied 914 63461 [vR Γ 0, vI a0] γ (F_M_implied γ a0) := (ME_c 900).2.1 γ a0 ha0
def F_M_either (γ : St) (a0 : Int) : Option Res := ME 900 2 γ a0 0
theorem C_M_either {Γ : Ctx} (γ : St) (a0 : Int) (ha0 : i32 a0) : TC Γ BM y_M_either mt_M_either 914 63461 [vR Γ 0, vI a0] γ (F_M_either γ a0) := (ME_c 900).2.2.1 γ a0 ha0
def F_M_both (γ : St) (a0 : Int) : Option Res := ME 900 3 γ a0 0
theorem C_M_both {Γ : Ctx} (γ : St) (a0 : Int) (ha0 : i32 a0) : TC Γ BM y_M_both mt_M_both 914 63461 [vR Γ 0, vI a0] γ (F_M_both γ a0) := (ME_c 900).2.2.2.1 γ a0 ha0
def F_M_compared (γ : St) (a0 : Int) : Option Res := ME 900 4 γ a0 0
theorem C_M_compared {Γ : Ctx} (γ : St) (a0 : Int) (ha0 : i32 a0) : TC Γ BM y_M_compared mt_M_compared 914 63461 [vR Γ 0, vI a0] γ (F_M_compared γ a0) := (ME_c 900).2.2.2.2.1 γ a0 ha0
def F_M_sum (γ : St) (a0 : Int) : Option Res := ME 900 5 γ a0 0
theorem C_M_sum {Γ : Ctx} (γ : St) (a0 : Int) (ha0 : i32 a0) : TC Γ BM y_M_sum mt_M_sum 914 63461 [vR Γ 0, vI a0] γ (F_M_sum γ a0) := (ME_c 900).2.2.2.2.2.1 γ a0 ha0
def F_M_product (γ : St) (a0 : Int) : Option Res := ME 900 6 γ a0 0
theorem C_M_product {Γ : Ctx} (γ : St) (a0 : Int) (ha0 : i32 a0) : TC Γ BM y_M_product mt_M_product 914 63461 [vR Γ 0, vI a0] γ (F_M_product γ a0) := (ME_c 900).2.2.2.2.2.2.1 γ a0 ha0
def F_M_unary (γ : St) (a0 : Int) : Option Res := ME 900 7 γ a0 0
theorem C_M_unary {Γ : Ctx} (γ : St) (a0 : Int) (ha0 : i32 a0) : TC Γ BM y_M_unary mt_M_unary 914 63461 [vR Γ 0, vI a0] γ (F_M_unary γ a0) := (ME_c 900).2.2.2.2.2.2.2.1 γ a0 ha0
def F_M_atom (γ : St) (a0 : Int) : Option Res := ME 900 8 γ a0 0
theorem C_M_atom {Γ : Ctx} (γ : St) (a0 : Int) (ha0 : i32 a0) : TC Γ BM y_M_atom mt_M_atom 914 63461 [vR Γ 0, vI a0] γ (F_M_atom γ a0) := (ME_c 900).2.2.2.2.2.2.2.2.1 γ a0 ha0
def F_M_call (γ : St) (a0 : Int) (a1 : Int) : Option Res := ME 900 9 γ a0 a1
theorem C_M_call {Γ : Ctx} (γ : St) (a0 : Int) (a1 : Int) (ha0 : i32 a0) (ha1 : i32 a1) : TC Γ BM y_M_call mt_M_call 914 63461 [vR Γ 0, vI a0, vI a1] γ (F_M_call γ a0 a1) := (ME_c 900).2.2.2.2.2.2.2.2.2 γ a0 a1 ha0 ha1
