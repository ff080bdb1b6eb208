/-! the class's calls that throw, or only read -/
theorem xt_none {c : Code} {pc : Nat} (h : c.exceptionTable.isEmpty = true) : ∀ x ∈ c.exceptionTable.toList, covers x pc = false := by
  intro x hx
  have h0 : c.exceptionTable.size = 0 := by simpa [Array.isEmpty] using h
  have h1 : c.exceptionTable.toList = [] := List.eq_nil_of_length_eq_zero (by simpa using h0)
  rw [h1] at hx
  cases hx
theorem d_S_end_0 : decode b_S_end 0 = .ok (.iload_n 1, 1) := by decide +kernel
theorem d_S_end_1 : decode b_S_end 1 = .ok (.ifCond .lt 11, 3) := by decide +kernel
theorem d_S_end_4 : decode b_S_end 4 = .ok (.iload_n 1, 1) := by decide +kernel
theorem d_S_end_5 : decode b_S_end 5 = .ok (.aload_n 0, 1) := by decide +kernel
theorem d_S_end_6 : decode b_S_end 6 = .ok (.getfield 100, 3) := by decide +kernel
theorem d_S_end_9 : decode b_S_end 9 = .ok (.if_icmp .le 11, 3) := by decide +kernel
theorem d_S_end_12 : decode b_S_end 12 = .ok (.new 110, 3) := by decide +kernel
theorem d_S_end_15 : decode b_S_end 15 = .ok (.dup, 1) := by decide +kernel
theorem d_S_end_16 : decode b_S_end 16 = .ok (.invokespecial 112, 3) := by decide +kernel
theorem d_S_end_19 : decode b_S_end 19 = .ok (.athrow, 1) := by decide +kernel
theorem d_S_end_20 : decode b_S_end 20 = .ok (.aload_n 0, 1) := by decide +kernel
theorem d_S_end_21 : decode b_S_end 21 = .ok (.iload_n 1, 1) := by decide +kernel
theorem d_S_end_22 : decode b_S_end 22 = .ok (.putfield 100, 3) := by decide +kernel
theorem d_S_end_25 : decode b_S_end 25 = .ok (.iload_n 1, 1) := by decide +kernel
theorem d_S_end_26 : decode b_S_end 26 = .ok (.ireturn, 1) := by decide +kernel
theorem d_S_isVariable_0 : decode b_S_isVariable 0 = .ok (.aload_n 0, 1) := by decide +kernel
theorem d_S_isVariable_1 : decode b_S_isVariable 1 = .ok (.getfield 26, 3) := by decide +kernel
theorem d_S_isVariable_4 : decode b_S_isVariable 4 = .ok (.ifCond .lt 27, 3) := by decide +kernel
theorem d_S_isVariable_7 : decode b_S_isVariable 7 = .ok (.iload_n 1, 1) := by decide +kernel
theorem d_S_isVariable_8 : decode b_S_isVariable 8 = .ok (.ifCond .lt 23, 3) := by decide +kernel
theorem d_S_isVariable_11 : decode b_S_isVariable 11 = .ok (.iload_n 1, 1) := by decide +kernel
theorem d_S_isVariable_12 : decode b_S_isVariable 12 = .ok (.aload_n 0, 1) := by decide +kernel
theorem d_S_isVariable_13 : decode b_S_isVariable 13 = .ok (.getfield 46, 3) := by decide +kernel
theorem d_S_isVariable_16 : decode b_S_isVariable 16 = .ok (.getfield 151, 3) := by decide +kernel
theorem d_S_isVariable_19 : decode b_S_isVariable 19 = .ok (.aload_n 0, 1) := by decide +kernel
theorem d_S_isVariable_20 : decode b_S_isVariable 20 = .ok (.getfield 26, 3) := by decide +kernel
theorem d_S_isVariable_23 : decode b_S_isVariable 23 = .ok (.iaload, 1) := by decide +kernel
theorem d_S_isVariable_24 : decode b_S_isVariable 24 = .ok (.if_icmp .ge 7, 3) := by decide +kernel
theorem d_S_isVariable_27 : decode b_S_isVariable 27 = .ok (.iconst 1, 1) := by decide +kernel
theorem d_S_isVariable_28 : decode b_S_isVariable 28 = .ok (.goto 4, 3) := by decide +kernel
theorem d_S_isVariable_31 : decode b_S_isVariable 31 = .ok (.iconst 0, 1) := by decide +kernel
theorem d_S_isVariable_32 : decode b_S_isVariable 32 = .ok (.ireturn, 1) := by decide +kernel
theorem d_S_restart_0 : decode b_S_restart 0 = .ok (.aload_n 0, 1) := by decide +kernel
theorem d_S_restart_1 : decode b_S_restart 1 = .ok (.getfield 26, 3) := by decide +kernel
theorem d_S_restart_4 : decode b_S_restart 4 = .ok (.ifCond .ge 11, 3) := by decide +kernel
theorem d_S_restart_7 : decode b_S_restart 7 = .ok (.new 103, 3) := by decide +kernel
theorem d_S_restart_10 : decode b_S_restart 10 = .ok (.dup, 1) := by decide +kernel
theorem d_S_restart_11 : decode b_S_restart 11 = .ok (.invokespecial 105, 3) := by decide +kernel
theorem d_S_restart_14 : decode b_S_restart 14 = .ok (.athrow, 1) := by decide +kernel
theorem d_S_restart_15 : decode b_S_restart 15 = .ok (.aload_n 0, 1) := by decide +kernel
theorem d_S_restart_16 : decode b_S_restart 16 = .ok (.getfield 113, 3) := by decide +kernel
theorem d_S_restart_19 : decode b_S_restart 19 = .ok (.istore_n 1, 1) := by decide +kernel
theorem d_S_restart_20 : decode b_S_restart 20 = .ok (.aload_n 0, 1) := by decide +kernel
theorem d_S_restart_21 : decode b_S_restart 21 = .ok (.getfield 96, 3) := by decide +kernel
theorem d_S_restart_24 : decode b_S_restart 24 = .ok (.invokevirtual 201, 3) := by decide +kernel
theorem d_S_restart_27 : decode b_S_restart 27 = .ok (.aload_n 0, 1) := by decide +kernel
theorem d_S_restart_28 : decode b_S_restart 28 = .ok (.iconst 0, 1) := by decide +kernel
theorem d_S_restart_29 : decode b_S_restart 29 = .ok (.putfield 113, 3) := by decide +kernel
theorem d_S_restart_32 : decode b_S_restart 32 = .ok (.iload_n 1, 1) := by decide +kernel
theorem d_S_restart_33 : decode b_S_restart 33 = .ok (.ireturn, 1) := by decide +kernel
theorem d_S_keep_0 : decode b_S_keep 0 = .ok (.aload_n 0, 1) := by decide +kernel
theorem d_S_keep_1 : decode b_S_keep 1 = .ok (.getfield 26, 3) := by decide +kernel
theorem d_S_keep_4 : decode b_S_keep 4 = .ok (.ifCond .lt 10, 3) := by decide +kernel
theorem d_S_keep_7 : decode b_S_keep 7 = .ok (.aload_n 0, 1) := by decide +kernel
theorem d_S_keep_8 : decode b_S_keep 8 = .ok (.getfield 113, 3) := by decide +kernel
theorem d_S_keep_11 : decode b_S_keep 11 = .ok (.ifCond .ne 11, 3) := by decide +kernel
theorem d_S_keep_14 : decode b_S_keep 14 = .ok (.new 103, 3) := by decide +kernel
theorem d_S_keep_17 : decode b_S_keep 17 = .ok (.dup, 1) := by decide +kernel
theorem d_S_keep_18 : decode b_S_keep 18 = .ok (.invokespecial 105, 3) := by decide +kernel
theorem d_S_keep_21 : decode b_S_keep 21 = .ok (.athrow, 1) := by decide +kernel
theorem d_S_keep_22 : decode b_S_keep 22 = .ok (.aload_n 0, 1) := by decide +kernel
theorem d_S_keep_23 : decode b_S_keep 23 = .ok (.getfield 96, 3) := by decide +kernel
theorem d_S_keep_26 : decode b_S_keep 26 = .ok (.invokevirtual 204, 3) := by decide +kernel
theorem d_S_keep_29 : decode b_S_keep 29 = .ok (.aload_n 0, 1) := by decide +kernel
theorem d_S_keep_30 : decode b_S_keep 30 = .ok (.aload_n 0, 1) := by decide +kernel
theorem d_S_keep_31 : decode b_S_keep 31 = .ok (.getfield 113, 3) := by decide +kernel
theorem d_S_keep_34 : decode b_S_keep 34 = .ok (.putfield 116, 3) := by decide +kernel
theorem d_S_keep_37 : decode b_S_keep 37 = .ok (.return_, 1) := by decide +kernel
theorem d_S_back_0 : decode b_S_back 0 = .ok (.aload_n 0, 1) := by decide +kernel
theorem d_S_back_1 : decode b_S_back 1 = .ok (.getfield 116, 3) := by decide +kernel
theorem d_S_back_4 : decode b_S_back 4 = .ok (.ifCond .ne 11, 3) := by decide +kernel
theorem d_S_back_7 : decode b_S_back 7 = .ok (.new 103, 3) := by decide +kernel
theorem d_S_back_10 : decode b_S_back 10 = .ok (.dup, 1) := by decide +kernel
theorem d_S_back_11 : decode b_S_back 11 = .ok (.invokespecial 105, 3) := by decide +kernel
theorem d_S_back_14 : decode b_S_back 14 = .ok (.athrow, 1) := by decide +kernel
theorem d_S_back_15 : decode b_S_back 15 = .ok (.aload_n 0, 1) := by decide +kernel
theorem d_S_back_16 : decode b_S_back 16 = .ok (.getfield 113, 3) := by decide +kernel
theorem d_S_back_19 : decode b_S_back 19 = .ok (.istore_n 1, 1) := by decide +kernel
theorem d_S_back_20 : decode b_S_back 20 = .ok (.aload_n 0, 1) := by decide +kernel
theorem d_S_back_21 : decode b_S_back 21 = .ok (.getfield 96, 3) := by decide +kernel
theorem d_S_back_24 : decode b_S_back 24 = .ok (.invokevirtual 207, 3) := by decide +kernel
theorem d_S_back_27 : decode b_S_back 27 = .ok (.aload_n 0, 1) := by decide +kernel
theorem d_S_back_28 : decode b_S_back 28 = .ok (.aload_n 0, 1) := by decide +kernel
theorem d_S_back_29 : decode b_S_back 29 = .ok (.getfield 116, 3) := by decide +kernel
theorem d_S_back_32 : decode b_S_back 32 = .ok (.putfield 113, 3) := by decide +kernel
theorem d_S_back_35 : decode b_S_back 35 = .ok (.iload_n 1, 1) := by decide +kernel
theorem d_S_back_36 : decode b_S_back 36 = .ok (.ireturn, 1) := by decide +kernel
theorem d_S_input_0 : decode b_S_input 0 = .ok (.aload_n 0, 1) := by decide +kernel
theorem d_S_input_1 : decode b_S_input 1 = .ok (.getfield 26, 3) := by decide +kernel
theorem d_S_input_4 : decode b_S_input 4 = .ok (.ifCond .lt 23, 3) := by decide +kernel
theorem d_S_input_7 : decode b_S_input 7 = .ok (.iload_n 1, 1) := by decide +kernel
theorem d_S_input_8 : decode b_S_input 8 = .ok (.ifCond .lt 19, 3) := by decide +kernel
theorem d_S_input_11 : decode b_S_input 11 = .ok (.iload_n 1, 1) := by decide +kernel
theorem d_S_input_12 : decode b_S_input 12 = .ok (.aload_n 0, 1) := by decide +kernel
theorem d_S_input_13 : decode b_S_input 13 = .ok (.getfield 46, 3) := by decide +kernel
theorem d_S_input_16 : decode b_S_input 16 = .ok (.getfield 148, 3) := by decide +kernel
theorem d_S_input_19 : decode b_S_input 19 = .ok (.aload_n 0, 1) := by decide +kernel
theorem d_S_input_20 : decode b_S_input 20 = .ok (.getfield 26, 3) := by decide +kernel
theorem d_S_input_23 : decode b_S_input 23 = .ok (.iaload, 1) := by decide +kernel
theorem d_S_input_24 : decode b_S_input 24 = .ok (.if_icmp .lt 11, 3) := by decide +kernel
theorem d_S_input_27 : decode b_S_input 27 = .ok (.new 170, 3) := by decide +kernel
theorem d_S_input_30 : decode b_S_input 30 = .ok (.dup, 1) := by decide +kernel
theorem d_S_input_31 : decode b_S_input 31 = .ok (.invokespecial 172, 3) := by decide +kernel
theorem d_S_input_34 : decode b_S_input 34 = .ok (.athrow, 1) := by decide +kernel
theorem d_S_input_35 : decode b_S_input 35 = .ok (.aload_n 0, 1) := by decide +kernel
theorem d_S_input_36 : decode b_S_input 36 = .ok (.getfield 46, 3) := by decide +kernel
theorem d_S_input_39 : decode b_S_input 39 = .ok (.getfield 173, 3) := by decide +kernel
theorem d_S_input_42 : decode b_S_input 42 = .ok (.aload_n 0, 1) := by decide +kernel
theorem d_S_input_43 : decode b_S_input 43 = .ok (.getfield 46, 3) := by decide +kernel
theorem d_S_input_46 : decode b_S_input 46 = .ok (.getfield 176, 3) := by decide +kernel
theorem d_S_input_49 : decode b_S_input 49 = .ok (.aload_n 0, 1) := by decide +kernel
theorem d_S_input_50 : decode b_S_input 50 = .ok (.getfield 26, 3) := by decide +kernel
theorem d_S_input_53 : decode b_S_input 53 = .ok (.iaload, 1) := by decide +kernel
theorem d_S_input_54 : decode b_S_input 54 = .ok (.iload_n 1, 1) := by decide +kernel
theorem d_S_input_55 : decode b_S_input 55 = .ok (.iadd, 1) := by decide +kernel
theorem d_S_input_56 : decode b_S_input 56 = .ok (.iaload, 1) := by decide +kernel
theorem d_S_input_57 : decode b_S_input 57 = .ok (.iconst 1, 1) := by decide +kernel
theorem d_S_input_58 : decode b_S_input 58 = .ok (.if_icmp .ne 20, 3) := by decide +kernel
theorem d_S_input_61 : decode b_S_input 61 = .ok (.iload_n 2, 1) := by decide +kernel
theorem d_S_input_62 : decode b_S_input 62 = .ok (.ifCond .eq 16, 3) := by decide +kernel
theorem d_S_input_65 : decode b_S_input 65 = .ok (.iload_n 2, 1) := by decide +kernel
theorem d_S_input_66 : decode b_S_input 66 = .ok (.iconst 1, 1) := by decide +kernel
theorem d_S_input_67 : decode b_S_input 67 = .ok (.if_icmp .eq 11, 3) := by decide +kernel
theorem d_S_input_70 : decode b_S_input 70 = .ok (.new 110, 3) := by decide +kernel
theorem d_S_input_73 : decode b_S_input 73 = .ok (.dup, 1) := by decide +kernel
theorem d_S_input_74 : decode b_S_input 74 = .ok (.invokespecial 112, 3) := by decide +kernel
theorem d_S_input_77 : decode b_S_input 77 = .ok (.athrow, 1) := by decide +kernel
theorem d_S_input_78 : decode b_S_input 78 = .ok (.aload_n 0, 1) := by decide +kernel
theorem d_S_input_79 : decode b_S_input 79 = .ok (.getfield 9, 3) := by decide +kernel
theorem d_S_input_82 : decode b_S_input 82 = .ok (.iload_n 1, 1) := by decide +kernel
theorem d_S_input_83 : decode b_S_input 83 = .ok (.iaload, 1) := by decide +kernel
theorem d_S_input_84 : decode b_S_input 84 = .ok (.istore_n 3, 1) := by decide +kernel
theorem d_S_input_85 : decode b_S_input 85 = .ok (.aload_n 0, 1) := by decide +kernel
theorem d_S_input_86 : decode b_S_input 86 = .ok (.getfield 9, 3) := by decide +kernel
theorem d_S_input_89 : decode b_S_input 89 = .ok (.iload_n 1, 1) := by decide +kernel
theorem d_S_input_90 : decode b_S_input 90 = .ok (.iload_n 2, 1) := by decide +kernel
theorem d_S_input_91 : decode b_S_input 91 = .ok (.iastore, 1) := by decide +kernel
theorem d_S_input_92 : decode b_S_input 92 = .ok (.iload_n 3, 1) := by decide +kernel
theorem d_S_input_93 : decode b_S_input 93 = .ok (.ireturn, 1) := by decide +kernel
theorem d_S_tick_0 : decode b_S_tick 0 = .ok (.iload_n 1, 1) := by decide +kernel
theorem d_S_tick_1 : decode b_S_tick 1 = .ok (.iconst 1, 1) := by decide +kernel
theorem d_S_tick_2 : decode b_S_tick 2 = .ok (.if_icmp .lt 10, 3) := by decide +kernel
theorem d_S_tick_5 : decode b_S_tick 5 = .ok (.iload_n 1, 1) := by decide +kernel
theorem d_S_tick_6 : decode b_S_tick 6 = .ok (.sipush 1000, 3) := by decide +kernel
theorem d_S_tick_9 : decode b_S_tick 9 = .ok (.if_icmp .le 11, 3) := by decide +kernel
theorem d_S_tick_12 : decode b_S_tick 12 = .ok (.new 110, 3) := by decide +kernel
theorem d_S_tick_15 : decode b_S_tick 15 = .ok (.dup, 1) := by decide +kernel
theorem d_S_tick_16 : decode b_S_tick 16 = .ok (.invokespecial 112, 3) := by decide +kernel
theorem d_S_tick_19 : decode b_S_tick 19 = .ok (.athrow, 1) := by decide +kernel
theorem d_S_tick_20 : decode b_S_tick 20 = .ok (.aload_n 0, 1) := by decide +kernel
theorem d_S_tick_21 : decode b_S_tick 21 = .ok (.getfield 26, 3) := by decide +kernel
theorem d_S_tick_24 : decode b_S_tick 24 = .ok (.ifCond .ge 11, 3) := by decide +kernel
theorem d_S_tick_27 : decode b_S_tick 27 = .ok (.new 103, 3) := by decide +kernel
theorem d_S_tick_30 : decode b_S_tick 30 = .ok (.dup, 1) := by decide +kernel
theorem d_S_tick_31 : decode b_S_tick 31 = .ok (.invokespecial 105, 3) := by decide +kernel
theorem d_S_tick_34 : decode b_S_tick 34 = .ok (.athrow, 1) := by decide +kernel
theorem d_S_tick_35 : decode b_S_tick 35 = .ok (.aload_n 0, 1) := by decide +kernel
theorem d_S_tick_36 : decode b_S_tick 36 = .ok (.getfield 96, 3) := by decide +kernel
theorem d_S_tick_39 : decode b_S_tick 39 = .ok (.aload_n 0, 1) := by decide +kernel
theorem d_S_tick_40 : decode b_S_tick 40 = .ok (.getfield 9, 3) := by decide +kernel
theorem d_S_tick_43 : decode b_S_tick 43 = .ok (.iload_n 1, 1) := by decide +kernel
theorem d_S_tick_44 : decode b_S_tick 44 = .ok (.invokevirtual 179, 3) := by decide +kernel
theorem d_S_tick_47 : decode b_S_tick 47 = .ok (.aload_n 0, 1) := by decide +kernel
theorem d_S_tick_48 : decode b_S_tick 48 = .ok (.dup, 1) := by decide +kernel
theorem d_S_tick_49 : decode b_S_tick 49 = .ok (.getfield 113, 3) := by decide +kernel
theorem d_S_tick_52 : decode b_S_tick 52 = .ok (.iload_n 1, 1) := by decide +kernel
theorem d_S_tick_53 : decode b_S_tick 53 = .ok (.iadd, 1) := by decide +kernel
theorem d_S_tick_54 : decode b_S_tick 54 = .ok (.putfield 113, 3) := by decide +kernel
theorem d_S_tick_57 : decode b_S_tick 57 = .ok (.aload_n 0, 1) := by decide +kernel
theorem d_S_tick_58 : decode b_S_tick 58 = .ok (.getfield 113, 3) := by decide +kernel
theorem d_S_tick_61 : decode b_S_tick 61 = .ok (.ireturn, 1) := by decide +kernel
theorem d_S_value_0 : decode b_S_value 0 = .ok (.aload_n 0, 1) := by decide +kernel
theorem d_S_value_1 : decode b_S_value 1 = .ok (.iload_n 1, 1) := by decide +kernel
theorem d_S_value_2 : decode b_S_value 2 = .ok (.invokevirtual 182, 3) := by decide +kernel
theorem d_S_value_5 : decode b_S_value 5 = .ok (.ifCond .ne 11, 3) := by decide +kernel
theorem d_S_value_8 : decode b_S_value 8 = .ok (.new 170, 3) := by decide +kernel
theorem d_S_value_11 : decode b_S_value 11 = .ok (.dup, 1) := by decide +kernel
theorem d_S_value_12 : decode b_S_value 12 = .ok (.invokespecial 172, 3) := by decide +kernel
theorem d_S_value_15 : decode b_S_value 15 = .ok (.athrow, 1) := by decide +kernel
theorem d_S_value_16 : decode b_S_value 16 = .ok (.aload_n 0, 1) := by decide +kernel
theorem d_S_value_17 : decode b_S_value 17 = .ok (.getfield 113, 3) := by decide +kernel
theorem d_S_value_20 : decode b_S_value 20 = .ok (.ifCond .ne 11, 3) := by decide +kernel
theorem d_S_value_23 : decode b_S_value 23 = .ok (.new 103, 3) := by decide +kernel
theorem d_S_value_26 : decode b_S_value 26 = .ok (.dup, 1) := by decide +kernel
theorem d_S_value_27 : decode b_S_value 27 = .ok (.invokespecial 105, 3) := by decide +kernel
theorem d_S_value_30 : decode b_S_value 30 = .ok (.athrow, 1) := by decide +kernel
theorem d_S_value_31 : decode b_S_value 31 = .ok (.aload_n 0, 1) := by decide +kernel
theorem d_S_value_32 : decode b_S_value 32 = .ok (.getfield 96, 3) := by decide +kernel
theorem d_S_value_35 : decode b_S_value 35 = .ok (.getfield 186, 3) := by decide +kernel
theorem d_S_value_38 : decode b_S_value 38 = .ok (.iload_n 1, 1) := by decide +kernel
theorem d_S_value_39 : decode b_S_value 39 = .ok (.laload, 1) := by decide +kernel
theorem d_S_value_40 : decode b_S_value 40 = .ok (.lreturn, 1) := by decide +kernel
theorem d_S_about_0 : decode b_S_about 0 = .ok (.aload_n 0, 1) := by decide +kernel
theorem d_S_about_1 : decode b_S_about 1 = .ok (.iload_n 1, 1) := by decide +kernel
theorem d_S_about_2 : decode b_S_about 2 = .ok (.invokevirtual 182, 3) := by decide +kernel
theorem d_S_about_5 : decode b_S_about 5 = .ok (.ifCond .ne 11, 3) := by decide +kernel
theorem d_S_about_8 : decode b_S_about 8 = .ok (.new 170, 3) := by decide +kernel
theorem d_S_about_11 : decode b_S_about 11 = .ok (.dup, 1) := by decide +kernel
theorem d_S_about_12 : decode b_S_about 12 = .ok (.invokespecial 172, 3) := by decide +kernel
theorem d_S_about_15 : decode b_S_about 15 = .ok (.athrow, 1) := by decide +kernel
theorem d_S_about_16 : decode b_S_about 16 = .ok (.iload_n 2, 1) := by decide +kernel
theorem d_S_about_17 : decode b_S_about 17 = .ok (.ifCond .lt 8, 3) := by decide +kernel
theorem d_S_about_20 : decode b_S_about 20 = .ok (.iload_n 2, 1) := by decide +kernel
theorem d_S_about_21 : decode b_S_about 21 = .ok (.iconst 3, 1) := by decide +kernel
theorem d_S_about_22 : decode b_S_about 22 = .ok (.if_icmp .le 11, 3) := by decide +kernel
theorem d_S_about_25 : decode b_S_about 25 = .ok (.new 110, 3) := by decide +kernel
theorem d_S_about_28 : decode b_S_about 28 = .ok (.dup, 1) := by decide +kernel
theorem d_S_about_29 : decode b_S_about 29 = .ok (.invokespecial 112, 3) := by decide +kernel
theorem d_S_about_32 : decode b_S_about 32 = .ok (.athrow, 1) := by decide +kernel
theorem d_S_about_33 : decode b_S_about 33 = .ok (.aload_n 0, 1) := by decide +kernel
theorem d_S_about_34 : decode b_S_about 34 = .ok (.getfield 46, 3) := by decide +kernel
theorem d_S_about_37 : decode b_S_about 37 = .ok (.getfield 190, 3) := by decide +kernel
theorem d_S_about_40 : decode b_S_about 40 = .ok (.aload_n 0, 1) := by decide +kernel
theorem d_S_about_41 : decode b_S_about 41 = .ok (.getfield 46, 3) := by decide +kernel
theorem d_S_about_44 : decode b_S_about 44 = .ok (.getfield 176, 3) := by decide +kernel
theorem d_S_about_47 : decode b_S_about 47 = .ok (.aload_n 0, 1) := by decide +kernel
theorem d_S_about_48 : decode b_S_about 48 = .ok (.getfield 26, 3) := by decide +kernel
theorem d_S_about_51 : decode b_S_about 51 = .ok (.iaload, 1) := by decide +kernel
theorem d_S_about_52 : decode b_S_about 52 = .ok (.iload_n 1, 1) := by decide +kernel
theorem d_S_about_53 : decode b_S_about 53 = .ok (.iadd, 1) := by decide +kernel
theorem d_S_about_54 : decode b_S_about 54 = .ok (.iaload, 1) := by decide +kernel
theorem d_S_about_55 : decode b_S_about 55 = .ok (.istore_n 3, 1) := by decide +kernel
theorem d_S_about_56 : decode b_S_about 56 = .ok (.iload_n 2, 1) := by decide +kernel
theorem d_S_about_57 : decode b_S_about 57 = .ok (.tableswitch 75 0 2 #[27, 40, 63], 27) := by decide +kernel
theorem d_S_about_84 : decode b_S_about 84 = .ok (.aload_n 0, 1) := by decide +kernel
theorem d_S_about_85 : decode b_S_about 85 = .ok (.getfield 46, 3) := by decide +kernel
theorem d_S_about_88 : decode b_S_about 88 = .ok (.aload_n 0, 1) := by decide +kernel
theorem d_S_about_89 : decode b_S_about 89 = .ok (.getfield 26, 3) := by decide +kernel
theorem d_S_about_92 : decode b_S_about 92 = .ok (.iload_n 1, 1) := by decide +kernel
theorem d_S_about_93 : decode b_S_about 93 = .ok (.invokevirtual 193, 3) := by decide +kernel
theorem d_S_about_96 : decode b_S_about 96 = .ok (.ireturn, 1) := by decide +kernel
theorem d_S_about_97 : decode b_S_about 97 = .ok (.aload_n 0, 1) := by decide +kernel
theorem d_S_about_98 : decode b_S_about 98 = .ok (.getfield 46, 3) := by decide +kernel
theorem d_S_about_101 : decode b_S_about 101 = .ok (.getfield 173, 3) := by decide +kernel
theorem d_S_about_104 : decode b_S_about 104 = .ok (.aload_n 0, 1) := by decide +kernel
theorem d_S_about_105 : decode b_S_about 105 = .ok (.getfield 46, 3) := by decide +kernel
theorem d_S_about_108 : decode b_S_about 108 = .ok (.getfield 176, 3) := by decide +kernel
theorem d_S_about_111 : decode b_S_about 111 = .ok (.aload_n 0, 1) := by decide +kernel
theorem d_S_about_112 : decode b_S_about 112 = .ok (.getfield 26, 3) := by decide +kernel
theorem d_S_about_115 : decode b_S_about 115 = .ok (.iaload, 1) := by decide +kernel
theorem d_S_about_116 : decode b_S_about 116 = .ok (.iload_n 1, 1) := by decide +kernel
theorem d_S_about_117 : decode b_S_about 117 = .ok (.iadd, 1) := by decide +kernel
theorem d_S_about_118 : decode b_S_about 118 = .ok (.iaload, 1) := by decide +kernel
theorem d_S_about_119 : decode b_S_about 119 = .ok (.ireturn, 1) := by decide +kernel
theorem d_S_about_120 : decode b_S_about 120 = .ok (.iload_n 3, 1) := by decide +kernel
theorem d_S_about_121 : decode b_S_about 121 = .ok (.ifCond .ge 7, 3) := by decide +kernel
theorem d_S_about_124 : decode b_S_about 124 = .ok (.iconst (-1), 1) := by decide +kernel
theorem d_S_about_125 : decode b_S_about 125 = .ok (.goto 6, 3) := by decide +kernel
theorem d_S_about_128 : decode b_S_about 128 = .ok (.iload_n 3, 1) := by decide +kernel
theorem d_S_about_129 : decode b_S_about 129 = .ok (.iconst 1, 1) := by decide +kernel
theorem d_S_about_130 : decode b_S_about 130 = .ok (.ishr, 1) := by decide +kernel
theorem d_S_about_131 : decode b_S_about 131 = .ok (.ireturn, 1) := by decide +kernel
theorem d_S_about_132 : decode b_S_about 132 = .ok (.iload_n 3, 1) := by decide +kernel
theorem d_S_about_133 : decode b_S_about 133 = .ok (.ifCond .ge 7, 3) := by decide +kernel
theorem d_S_about_136 : decode b_S_about 136 = .ok (.iconst 0, 1) := by decide +kernel
theorem d_S_about_137 : decode b_S_about 137 = .ok (.goto 6, 3) := by decide +kernel
theorem d_S_about_140 : decode b_S_about 140 = .ok (.iload_n 3, 1) := by decide +kernel
theorem d_S_about_141 : decode b_S_about 141 = .ok (.iconst 1, 1) := by decide +kernel
theorem d_S_about_142 : decode b_S_about 142 = .ok (.iand, 1) := by decide +kernel
theorem d_S_about_143 : decode b_S_about 143 = .ok (.ireturn, 1) := by decide +kernel
theorem d_S_causes_0 : decode b_S_causes 0 = .ok (.aload_n 0, 1) := by decide +kernel
theorem d_S_causes_1 : decode b_S_causes 1 = .ok (.iload_n 1, 1) := by decide +kernel
theorem d_S_causes_2 : decode b_S_causes 2 = .ok (.invokevirtual 182, 3) := by decide +kernel
theorem d_S_causes_5 : decode b_S_causes 5 = .ok (.ifCond .eq 11, 3) := by decide +kernel
theorem d_S_causes_8 : decode b_S_causes 8 = .ok (.aload_n 0, 1) := by decide +kernel
theorem d_S_causes_9 : decode b_S_causes 9 = .ok (.iload_n 2, 1) := by decide +kernel
theorem d_S_causes_10 : decode b_S_causes 10 = .ok (.invokevirtual 182, 3) := by decide +kernel
theorem d_S_causes_13 : decode b_S_causes 13 = .ok (.ifCond .ne 11, 3) := by decide +kernel
theorem d_S_causes_16 : decode b_S_causes 16 = .ok (.new 170, 3) := by decide +kernel
theorem d_S_causes_19 : decode b_S_causes 19 = .ok (.dup, 1) := by decide +kernel
theorem d_S_causes_20 : decode b_S_causes 20 = .ok (.invokespecial 172, 3) := by decide +kernel
theorem d_S_causes_23 : decode b_S_causes 23 = .ok (.athrow, 1) := by decide +kernel
theorem d_S_causes_24 : decode b_S_causes 24 = .ok (.aload_n 0, 1) := by decide +kernel
theorem d_S_causes_25 : decode b_S_causes 25 = .ok (.getfield 87, 3) := by decide +kernel
theorem d_S_causes_28 : decode b_S_causes 28 = .ok (.iload_n 1, 1) := by decide +kernel
theorem d_S_causes_29 : decode b_S_causes 29 = .ok (.iload_n 2, 1) := by decide +kernel
theorem d_S_causes_30 : decode b_S_causes 30 = .ok (.invokevirtual 197, 3) := by decide +kernel
theorem d_S_causes_33 : decode b_S_causes 33 = .ok (.ireturn, 1) := by decide +kernel
theorem d_S_count_0 : decode b_S_count 0 = .ok (.iload_n 1, 1) := by decide +kernel
theorem d_S_count_1 : decode b_S_count 1 = .ok (.bipush 7, 2) := by decide +kernel
theorem d_S_count_3 : decode b_S_count 3 = .ok (.if_icmp .ne 8, 3) := by decide +kernel
theorem d_S_count_6 : decode b_S_count 6 = .ok (.aload_n 0, 1) := by decide +kernel
theorem d_S_count_7 : decode b_S_count 7 = .ok (.getfield 100, 3) := by decide +kernel
theorem d_S_count_10 : decode b_S_count 10 = .ok (.ireturn, 1) := by decide +kernel
theorem d_S_count_11 : decode b_S_count 11 = .ok (.iload_n 1, 1) := by decide +kernel
theorem d_S_count_12 : decode b_S_count 12 = .ok (.ifCond .lt 9, 3) := by decide +kernel
theorem d_S_count_15 : decode b_S_count 15 = .ok (.iload_n 1, 1) := by decide +kernel
theorem d_S_count_16 : decode b_S_count 16 = .ok (.bipush 8, 2) := by decide +kernel
theorem d_S_count_18 : decode b_S_count 18 = .ok (.if_icmp .le 5, 3) := by decide +kernel
theorem d_S_count_21 : decode b_S_count 21 = .ok (.iconst (-1), 1) := by decide +kernel
theorem d_S_count_22 : decode b_S_count 22 = .ok (.ireturn, 1) := by decide +kernel
theorem d_S_count_23 : decode b_S_count 23 = .ok (.aload_n 0, 1) := by decide +kernel
theorem d_S_count_24 : decode b_S_count 24 = .ok (.getfield 26, 3) := by decide +kernel
theorem d_S_count_27 : decode b_S_count 27 = .ok (.ifCond .ge 7, 3) := by decide +kernel
theorem d_S_count_30 : decode b_S_count 30 = .ok (.iconst 0, 1) := by decide +kernel
theorem d_S_count_31 : decode b_S_count 31 = .ok (.goto 8, 3) := by decide +kernel
theorem d_S_count_34 : decode b_S_count 34 = .ok (.aload_n 0, 1) := by decide +kernel
theorem d_S_count_35 : decode b_S_count 35 = .ok (.iload_n 1, 1) := by decide +kernel
theorem d_S_count_36 : decode b_S_count 36 = .ok (.invokevirtual 210, 3) := by decide +kernel
theorem d_S_count_39 : decode b_S_count 39 = .ok (.ireturn, 1) := by decide +kernel
set_option maxHeartbeats 4000000 in
set_option maxRecDepth 100000 in
theorem c_S_end (l : Launch) (D : va_G) (cI cB cJ cZ : ClassId) (sz : Nat) (h0 tk nd cd rd sl lk od pg gv tp : Nat) (tl ap mn it kp : Int32) (n : Int32) (h1 : ¬ n < 0) (h2 : n ≤ tl) : Met l y_S_end (Cond.code y_S_end b_S_end 2 (some .int) :: gG) { frames := 0, cells := 0, slots := 0, locals := 0 } (va_Pc [.ref h0, .int n] (ct_P D (tyL cI cB cJ cZ) [(h0, .inr (0, [.ref tk, .ref nd, .ref cd, .ref rd, .ref sl, .ref lk, .ref od, .ref pg, .ref gv, .ref tp, .int tl, .int ap, .int mn, .int it, .int kp]))] sz)) (va_Qi (fun (r : Int32) (_ : Unit) => r = n) (fun _ t => va_P D kl [(h0, .inr (0, [.ref tk, .ref nd, .ref cd, .ref rd, .ref sl, .ref lk, .ref od, .ref pg, .ref gv, .ref tp, .int n, .int ap, .int mn, .int it, .int kp]))] t.heap ∧ va_D (va_A [(h0, .inr (0, [.ref tk, .ref nd, .ref cd, .ref rd, .ref sl, .ref lk, .ref od, .ref pg, .ref gv, .ref tp, .int tl, .int ap, .int mn, .int it, .int kp]))] sz) [(h0, .inr (0, [.ref tk, .ref nd, .ref cd, .ref rd, .ref sl, .ref lk, .ref od, .ref pg, .ref gv, .ref tp, .int n, .int ap, .int mn, .int it, .int kp]))]) (va_A [(h0, .inr (0, [.ref tk, .ref nd, .ref cd, .ref rd, .ref sl, .ref lk, .ref od, .ref pg, .ref gv, .ref tp, .int tl, .int ap, .int mn, .int it, .int kp]))] sz)) 0 0 (va_A [(h0, .inr (0, [.ref tk, .ref nd, .ref cd, .ref rd, .ref sl, .ref lk, .ref od, .ref pg, .ref gv, .ref tp, .int tl, .int ap, .int mn, .int it, .int kp]))] sz) := by
  refine Met.ofW (cc := b_S_end) (maxL := 2) (ret := (some .int)) (by decide) rfl ?_
  intro p e s m args below meth c s₁ B hml hv
  obtain ⟨rfl, hsz, hP, hK, hD0⟩ := hv
  have hx := B.exec
  have hb := B.bytes
  have hr := B.returns
  have hts := atoms_spec (ws := Cond.code y_S_end b_S_end 2 (some .int) :: gG) B.pre
  have hG : ∀ w ∈ gG, w.before [.ref h0, .int n].toArray s = true := fun w h => hts w (List.mem_cons_of_mem _ h)
  have hown : s.vm.findClass R_S = some m.cls := findClass_of_methodNamed B.named
  have hlocks := B.notSynchronized
  subst hsz
  have hD := hD0.self (sz := s.heap.size)
  generalize hAe : va_A [(h0, .inr (0, [.ref tk, .ref nd, .ref cd, .ref rd, .ref sl, .ref lk, .ref od, .ref pg, .ref gv, .ref tp, .int tl, .int ap, .int mn, .int it, .int kp]))] s.heap.size = A at hD ⊢
  have hA : ∀ q : Nat, s.heap.size ≤ q → A q := fun q h => by rw [← hAe]; exact Or.inr h
  have hS : va_S A s.heap s.heap [] := va_S.rf
  have hl := lv_entry ([.ref h0, .int n]) (n := 2) (Nat.le_of_ble_eq_true rfl)
  rw [lg_entry_eq]
  generalize (lg_sl ([.ref h0, .int n]) ++ List.replicate (2 - (lg_sl ([.ref h0, .int n])).length) Slot.unset).toArray = ls at hl ⊢
  have hl : lv_has ls 2 [(0, .ref h0), (1, .int n)] := hl
  refine lv_iload_n hx hb d_S_end_0 rfl (lv_at hl 1 rfl) ?_
  refine lv_if_lt (tgt := 12) hx hb d_S_end_1 (by decide) (fun zz1 => absurd zz1 h1) (fun _ => ?_)
  refine lv_iload_n hx hb d_S_end_4 rfl (lv_at hl 1 rfl) ?_
  refine lv_aload_n hx hb d_S_end_5 rfl (lv_at hl 0 rfl) ?_
  refine va_get (D := D) (ci := 0) (v := .int tl) (C := R_S) (T := T_S) (N := 15) hx hb hG gi_S hown hK hP 0 rfl rfl 10 (by decide) (hG _ fl_S_100) (fun _ h9 => h9) rfl d_S_end_6 ?_
  refine lv_icmp_le (tgt := 20) hx hb d_S_end_9 (by decide) (fun _ => ?_) (fun zz2 => absurd h2 zz2)
  refine lv_aload_n hx hb d_S_end_20 rfl (lv_at hl 0 rfl) ?_
  refine lv_iload_n hx hb d_S_end_21 rfl (lv_at hl 1 rfl) ?_
  refine va_put (D := D) (ci := 0) (v := .int n) (ty := .int) (C := R_S) (T := T_S) (N := 15) hx hb hG gi_S ty_S to_S nm_S hown hK hP hD hS 0 rfl rfl 10 (by decide) (hG _ fl_S_100) (fun _ h9 => h9) rfl (by decide +kernel) rfl rfl (Nat.le_of_ble_eq_true rfl) d_S_end_22 (fun H locs hP hD hS => ?_)
  have hP : va_P D kl [(h0, .inr (0, [.ref tk, .ref nd, .ref cd, .ref rd, .ref sl, .ref lk, .ref od, .ref pg, .ref gv, .ref tp, .int n, .int ap, .int mn, .int it, .int kp]))] H := hP
  have hD : va_D A [(h0, .inr (0, [.ref tk, .ref nd, .ref cd, .ref rd, .ref sl, .ref lk, .ref od, .ref pg, .ref gv, .ref tp, .int n, .int ap, .int mn, .int it, .int kp]))] := hD
  refine lv_iload_n hx hb d_S_end_25 rfl (lv_at hl 1 rfl) ?_
  exact W.iret (v := n) hx hb hr (fun t ht hW => ⟨⟨n, (), rfl, rfl, by rw [ht]; exact hP, hD⟩, hS.F ht⟩) hS.2.2 d_S_end_26

set_option maxHeartbeats 4000000 in
set_option maxRecDepth 100000 in
theorem x_S_end (l : Launch) (hno : l.stackTraces = false) (D : va_G) (cI cB cJ cZ : ClassId) (sz : Nat) (h0 tk nd cd rd sl lk od pg gv tp : Nat) (tl ap mn it kp : Int32) (n : Int32) (h1 : n < 0 ∨ ¬ n ≤ tl) : xt_Met l y_S_end (Cond.code y_S_end b_S_end 2 (some .int) :: gG) { frames := 6, cells := 1, slots := 6, locals := 110 } (va_Pc [.ref h0, .int n] (cx_P D (tyL cI cB cJ cZ) [(h0, .inr (0, [.ref tk, .ref nd, .ref cd, .ref rd, .ref sl, .ref lk, .ref od, .ref pg, .ref gv, .ref tp, .int tl, .int ap, .int mn, .int it, .int kp]))] sz)) "java/lang/IllegalArgumentException" xt_same (fun _ => False) 1 6 := by
  refine xt_ofW (cc := b_S_end) (maxL := 2) (ret := (some .int)) (by decide) rfl ?_
  intro p e s m args below meth c s₁ B hml hv
  obtain ⟨rfl, ⟨hsz, hP, hK, hD0⟩, hX⟩ := hv
  have hx := B.exec
  have hb := B.bytes
  have hr := B.returns
  have hts := atoms_spec (ws := Cond.code y_S_end b_S_end 2 (some .int) :: gG) B.pre
  have hG : ∀ w ∈ gG, w.before [.ref h0, .int n].toArray s = true := fun w h => hts w (List.mem_cons_of_mem _ h)
  have hown : s.vm.findClass R_S = some m.cls := findClass_of_methodNamed B.named
  have hlocks := B.notSynchronized
  subst hsz
  have hD := hD0.self (sz := s.heap.size)
  generalize hAe : va_A [(h0, .inr (0, [.ref tk, .ref nd, .ref cd, .ref rd, .ref sl, .ref lk, .ref od, .ref pg, .ref gv, .ref tp, .int tl, .int ap, .int mn, .int it, .int kp]))] s.heap.size = A at hD
  have hA : ∀ q : Nat, s.heap.size ≤ q → A q := fun q h => by rw [← hAe]; exact Or.inr h
  have hS : va_S A s.heap s.heap [] := va_S.rf
  have hl := lv_entry ([.ref h0, .int n]) (n := 2) (Nat.le_of_ble_eq_true rfl)
  rw [lg_entry_eq]
  generalize (lg_sl ([.ref h0, .int n]) ++ List.replicate (2 - (lg_sl ([.ref h0, .int n])).length) Slot.unset).toArray = ls at hl ⊢
  have hl : lv_has ls 2 [(0, .ref h0), (1, .int n)] := hl
  have htab := B.noHandlers (hts _ List.mem_cons_self)
  refine lv_iload_n hx hb d_S_end_0 rfl (lv_at hl 1 rfl) ?_
  refine lv_if_lt (tgt := 12) hx hb d_S_end_1 (by decide) (fun z1 => ?_) (fun z1 => ?_)
  · exact xt_throw0 (A := A) (names := ["java/lang/RuntimeException", "java/lang/Exception"]) hx hb hno hown (by decide) (by decide) (oa_IAE hG hX) (hG _ cl_S_110) (hG _ in_java_lang_IllegalArgumentException) (xt_none htab) hlocks (hml.trans hl.1.symm) hS d_S_end_12 d_S_end_15 d_S_end_16 d_S_end_19 (Nat.le_of_ble_eq_true rfl) (Nat.le_of_ble_eq_true rfl) (Nat.le_of_ble_eq_true rfl) (Nat.le_of_ble_eq_true rfl)
  · refine lv_iload_n hx hb d_S_end_4 rfl (lv_at hl 1 rfl) ?_
    refine lv_aload_n hx hb d_S_end_5 rfl (lv_at hl 0 rfl) ?_
    refine va_get (D := D) (ci := 0) (v := .int tl) (C := R_S) (T := T_S) (N := 15) hx hb hG gi_S hown hK hP 0 rfl rfl 10 (by decide) (hG _ fl_S_100) (fun _ h9 => h9) rfl d_S_end_6 ?_
    refine lv_icmp_le (tgt := 20) hx hb d_S_end_9 (by decide) (fun zz1 => absurd zz1 (h1.resolve_left z1)) (fun _ => ?_)
    exact xt_throw0 (A := A) (names := ["java/lang/RuntimeException", "java/lang/Exception"]) hx hb hno hown (by decide) (by decide) (oa_IAE hG hX) (hG _ cl_S_110) (hG _ in_java_lang_IllegalArgumentException) (xt_none htab) hlocks (hml.trans hl.1.symm) hS d_S_end_12 d_S_end_15 d_S_end_16 d_S_end_19 (Nat.le_of_ble_eq_true rfl) (Nat.le_of_ble_eq_true rfl) (Nat.le_of_ble_eq_true rfl) (Nat.le_of_ble_eq_true rfl)

set_option maxHeartbeats 4000000 in
set_option maxRecDepth 100000 in
theorem c_S_isVariable0 (l : Launch) (D : va_G) (cI cB cJ cZ : ClassId) (sz : Nat) (h0 tk nd cd rd sl lk od pg gv tp : Nat) (tl ap mn it kp : Int32) (k : Int32) (h1 : mn < 0) : Met l y_S_isVariable (Cond.code y_S_isVariable b_S_isVariable 2 (some .boolean) :: gG) { frames := 0, cells := 0, slots := 0, locals := 0 } (va_Pc [.ref h0, .int k] (ct_P D (tyL cI cB cJ cZ) [(h0, .inr (0, [.ref tk, .ref nd, .ref cd, .ref rd, .ref sl, .ref lk, .ref od, .ref pg, .ref gv, .ref tp, .int tl, .int ap, .int mn, .int it, .int kp]))] sz)) (QcRead 0) 0 0 (fun _ => False) := by
  refine Met.ofW (cc := b_S_isVariable) (maxL := 2) (ret := (some .boolean)) (by decide) rfl ?_
  intro p e s m args below meth c s₁ B hml hv
  obtain ⟨rfl, hsz, hP, hK, hD0⟩ := hv
  have hx := B.exec
  have hb := B.bytes
  have hr := B.returns
  have hts := atoms_spec (ws := Cond.code y_S_isVariable b_S_isVariable 2 (some .boolean) :: gG) B.pre
  have hG : ∀ w ∈ gG, w.before [.ref h0, .int k].toArray s = true := fun w h => hts w (List.mem_cons_of_mem _ h)
  have hown : s.vm.findClass R_S = some m.cls := findClass_of_methodNamed B.named
  have hlocks := B.notSynchronized
  subst hsz
  have hD := hD0.self (sz := s.heap.size)
  generalize hAe : va_A [(h0, .inr (0, [.ref tk, .ref nd, .ref cd, .ref rd, .ref sl, .ref lk, .ref od, .ref pg, .ref gv, .ref tp, .int tl, .int ap, .int mn, .int it, .int kp]))] s.heap.size = A at hD
  have hA : ∀ q : Nat, s.heap.size ≤ q → A q := fun q h => by rw [← hAe]; exact Or.inr h
  have hS : va_S A s.heap s.heap [] := va_S.rf
  have hl := lv_entry ([.ref h0, .int k]) (n := 2) (Nat.le_of_ble_eq_true rfl)
  rw [lg_entry_eq]
  generalize (lg_sl ([.ref h0, .int k]) ++ List.replicate (2 - (lg_sl ([.ref h0, .int k])).length) Slot.unset).toArray = ls at hl ⊢
  have hl : lv_has ls 2 [(0, .ref h0), (1, .int k)] := hl
  refine lv_aload_n hx hb d_S_isVariable_0 rfl (lv_at hl 0 rfl) ?_
  refine va_get (D := D) (ci := 0) (v := .int mn) (C := R_S) (T := T_S) (N := 15) hx hb hG gi_S hown hK hP 0 rfl rfl 12 (by decide) (hG _ fl_S_26) (fun _ h9 => h9) rfl d_S_isVariable_1 ?_
  refine lv_if_lt (tgt := 31) hx hb d_S_isVariable_4 (by decide) (fun _ => ?_) (fun zz1 => absurd h1 zz1)
  refine lv_iconst (v := 0) hx hb d_S_isVariable_31 (by decide) ?_
  exact W.zret (v := 0) hx hb hr (by first | rfl | decide) (fun t ht hW => ⟨rfl, ht⟩) (fun q h => by cases h) d_S_isVariable_32

set_option maxHeartbeats 4000000 in
set_option maxRecDepth 100000 in
theorem x_S_restart (l : Launch) (hno : l.stackTraces = false) (D : va_G) (cI cB cJ cZ : ClassId) (sz : Nat) (h0 tk nd cd rd sl lk od pg gv tp : Nat) (tl ap mn it kp : Int32) (h1 : mn < 0) : xt_Met l y_S_restart (Cond.code y_S_restart b_S_restart 2 (some .int) :: gG) { frames := 6, cells := 1, slots := 6, locals := 110 } (va_Pc [.ref h0] (cx_P D (tyL cI cB cJ cZ) [(h0, .inr (0, [.ref tk, .ref nd, .ref cd, .ref rd, .ref sl, .ref lk, .ref od, .ref pg, .ref gv, .ref tp, .int tl, .int ap, .int mn, .int it, .int kp]))] sz)) "java/lang/IllegalStateException" xt_same (fun _ => False) 1 6 := by
  refine xt_ofW (cc := b_S_restart) (maxL := 2) (ret := (some .int)) (by decide) rfl ?_
  intro p e s m args below meth c s₁ B hml hv
  obtain ⟨rfl, ⟨hsz, hP, hK, hD0⟩, hX⟩ := hv
  have hx := B.exec
  have hb := B.bytes
  have hr := B.returns
  have hts := atoms_spec (ws := Cond.code y_S_restart b_S_restart 2 (some .int) :: gG) B.pre
  have hG : ∀ w ∈ gG, w.before [.ref h0].toArray s = true := fun w h => hts w (List.mem_cons_of_mem _ h)
  have hown : s.vm.findClass R_S = some m.cls := findClass_of_methodNamed B.named
  have hlocks := B.notSynchronized
  subst hsz
  have hD := hD0.self (sz := s.heap.size)
  generalize hAe : va_A [(h0, .inr (0, [.ref tk, .ref nd, .ref cd, .ref rd, .ref sl, .ref lk, .ref od, .ref pg, .ref gv, .ref tp, .int tl, .int ap, .int mn, .int it, .int kp]))] s.heap.size = A at hD
  have hA : ∀ q : Nat, s.heap.size ≤ q → A q := fun q h => by rw [← hAe]; exact Or.inr h
  have hS : va_S A s.heap s.heap [] := va_S.rf
  have hl := lv_entry ([.ref h0]) (n := 2) (Nat.le_of_ble_eq_true rfl)
  rw [lg_entry_eq]
  generalize (lg_sl ([.ref h0]) ++ List.replicate (2 - (lg_sl ([.ref h0])).length) Slot.unset).toArray = ls at hl ⊢
  have hl : lv_has ls 2 [(0, .ref h0)] := hl
  have htab := B.noHandlers (hts _ List.mem_cons_self)
  refine lv_aload_n hx hb d_S_restart_0 rfl (lv_at hl 0 rfl) ?_
  refine va_get (D := D) (ci := 0) (v := .int mn) (C := R_S) (T := T_S) (N := 15) hx hb hG gi_S hown hK hP 0 rfl rfl 12 (by decide) (hG _ fl_S_26) (fun _ h9 => h9) rfl d_S_restart_1 ?_
  refine lv_if_ge (tgt := 15) hx hb d_S_restart_4 (by decide) (fun zz1 => absurd zz1 (Int32.not_le.mpr h1)) (fun _ => ?_)
  exact xt_throw0 (A := A) (names := ["java/lang/RuntimeException", "java/lang/Exception"]) hx hb hno hown (by decide) (by decide) (oa_ISE hG hX) (hG _ cl_S_103) (hG _ in_java_lang_IllegalStateException) (xt_none htab) hlocks (hml.trans hl.1.symm) hS d_S_restart_7 d_S_restart_10 d_S_restart_11 d_S_restart_14 (Nat.le_of_ble_eq_true rfl) (Nat.le_of_ble_eq_true rfl) (Nat.le_of_ble_eq_true rfl) (Nat.le_of_ble_eq_true rfl)

set_option maxHeartbeats 4000000 in
set_option maxRecDepth 100000 in
theorem x_S_keep (l : Launch) (hno : l.stackTraces = false) (D : va_G) (cI cB cJ cZ : ClassId) (sz : Nat) (h0 tk nd cd rd sl lk od pg gv tp : Nat) (tl ap mn it kp : Int32) (h1 : mn < 0) : xt_Met l y_S_keep (Cond.code y_S_keep b_S_keep 1 none :: gG) { frames := 6, cells := 1, slots := 6, locals := 110 } (va_Pc [.ref h0] (cx_P D (tyL cI cB cJ cZ) [(h0, .inr (0, [.ref tk, .ref nd, .ref cd, .ref rd, .ref sl, .ref lk, .ref od, .ref pg, .ref gv, .ref tp, .int tl, .int ap, .int mn, .int it, .int kp]))] sz)) "java/lang/IllegalStateException" xt_same (fun _ => False) 1 6 := by
  refine xt_ofW (cc := b_S_keep) (maxL := 1) (ret := none) (by decide) rfl ?_
  intro p e s m args below meth c s₁ B hml hv
  obtain ⟨rfl, ⟨hsz, hP, hK, hD0⟩, hX⟩ := hv
  have hx := B.exec
  have hb := B.bytes
  have hr := B.returns
  have hts := atoms_spec (ws := Cond.code y_S_keep b_S_keep 1 none :: gG) B.pre
  have hG : ∀ w ∈ gG, w.before [.ref h0].toArray s = true := fun w h => hts w (List.mem_cons_of_mem _ h)
  have hown : s.vm.findClass R_S = some m.cls := findClass_of_methodNamed B.named
  have hlocks := B.notSynchronized
  subst hsz
  have hD := hD0.self (sz := s.heap.size)
  generalize hAe : va_A [(h0, .inr (0, [.ref tk, .ref nd, .ref cd, .ref rd, .ref sl, .ref lk, .ref od, .ref pg, .ref gv, .ref tp, .int tl, .int ap, .int mn, .int it, .int kp]))] s.heap.size = A at hD
  have hA : ∀ q : Nat, s.heap.size ≤ q → A q := fun q h => by rw [← hAe]; exact Or.inr h
  have hS : va_S A s.heap s.heap [] := va_S.rf
  have hl := lv_entry ([.ref h0]) (n := 1) (Nat.le_of_ble_eq_true rfl)
  rw [lg_entry_eq]
  generalize (lg_sl ([.ref h0]) ++ List.replicate (1 - (lg_sl ([.ref h0])).length) Slot.unset).toArray = ls at hl ⊢
  have hl : lv_has ls 1 [(0, .ref h0)] := hl
  have htab := B.noHandlers (hts _ List.mem_cons_self)
  refine lv_aload_n hx hb d_S_keep_0 rfl (lv_at hl 0 rfl) ?_
  refine va_get (D := D) (ci := 0) (v := .int mn) (C := R_S) (T := T_S) (N := 15) hx hb hG gi_S hown hK hP 0 rfl rfl 12 (by decide) (hG _ fl_S_26) (fun _ h9 => h9) rfl d_S_keep_1 ?_
  refine lv_if_lt (tgt := 14) hx hb d_S_keep_4 (by decide) (fun _ => ?_) (fun zz1 => absurd h1 zz1)
  exact xt_throw0 (A := A) (names := ["java/lang/RuntimeException", "java/lang/Exception"]) hx hb hno hown (by decide) (by decide) (oa_ISE hG hX) (hG _ cl_S_103) (hG _ in_java_lang_IllegalStateException) (xt_none htab) hlocks (hml.trans hl.1.symm) hS d_S_keep_14 d_S_keep_17 d_S_keep_18 d_S_keep_21 (Nat.le_of_ble_eq_true rfl) (Nat.le_of_ble_eq_true rfl) (Nat.le_of_ble_eq_true rfl) (Nat.le_of_ble_eq_true rfl)

set_option maxHeartbeats 4000000 in
set_option maxRecDepth 100000 in
theorem x_S_back (l : Launch) (hno : l.stackTraces = false) (D : va_G) (cI cB cJ cZ : ClassId) (sz : Nat) (h0 tk nd cd rd sl lk od pg gv tp : Nat) (tl ap mn it kp : Int32) (h1 : kp = 0) : xt_Met l y_S_back (Cond.code y_S_back b_S_back 2 (some .int) :: gG) { frames := 6, cells := 1, slots := 6, locals := 110 } (va_Pc [.ref h0] (cx_P D (tyL cI cB cJ cZ) [(h0, .inr (0, [.ref tk, .ref nd, .ref cd, .ref rd, .ref sl, .ref lk, .ref od, .ref pg, .ref gv, .ref tp, .int tl, .int ap, .int mn, .int it, .int kp]))] sz)) "java/lang/IllegalStateException" xt_same (fun _ => False) 1 6 := by
  refine xt_ofW (cc := b_S_back) (maxL := 2) (ret := (some .int)) (by decide) rfl ?_
  intro p e s m args below meth c s₁ B hml hv
  obtain ⟨rfl, ⟨hsz, hP, hK, hD0⟩, hX⟩ := hv
  have hx := B.exec
  have hb := B.bytes
  have hr := B.returns
  have hts := atoms_spec (ws := Cond.code y_S_back b_S_back 2 (some .int) :: gG) B.pre
  have hG : ∀ w ∈ gG, w.before [.ref h0].toArray s = true := fun w h => hts w (List.mem_cons_of_mem _ h)
  have hown : s.vm.findClass R_S = some m.cls := findClass_of_methodNamed B.named
  have hlocks := B.notSynchronized
  subst hsz
  have hD := hD0.self (sz := s.heap.size)
  generalize hAe : va_A [(h0, .inr (0, [.ref tk, .ref nd, .ref cd, .ref rd, .ref sl, .ref lk, .ref od, .ref pg, .ref gv, .ref tp, .int tl, .int ap, .int mn, .int it, .int kp]))] s.heap.size = A at hD
  have hA : ∀ q : Nat, s.heap.size ≤ q → A q := fun q h => by rw [← hAe]; exact Or.inr h
  have hS : va_S A s.heap s.heap [] := va_S.rf
  have hl := lv_entry ([.ref h0]) (n := 2) (Nat.le_of_ble_eq_true rfl)
  rw [lg_entry_eq]
  generalize (lg_sl ([.ref h0]) ++ List.replicate (2 - (lg_sl ([.ref h0])).length) Slot.unset).toArray = ls at hl ⊢
  have hl : lv_has ls 2 [(0, .ref h0)] := hl
  have htab := B.noHandlers (hts _ List.mem_cons_self)
  refine lv_aload_n hx hb d_S_back_0 rfl (lv_at hl 0 rfl) ?_
  refine va_get (D := D) (ci := 0) (v := .int kp) (C := R_S) (T := T_S) (N := 15) hx hb hG gi_S hown hK hP 0 rfl rfl 14 (by decide) (hG _ fl_S_116) (fun _ h9 => h9) rfl d_S_back_1 ?_
  refine lv_if_ne (tgt := 15) hx hb d_S_back_4 (by decide) (fun zz1 => absurd zz1 (fun z => z h1)) (fun _ => ?_)
  exact xt_throw0 (A := A) (names := ["java/lang/RuntimeException", "java/lang/Exception"]) hx hb hno hown (by decide) (by decide) (oa_ISE hG hX) (hG _ cl_S_103) (hG _ in_java_lang_IllegalStateException) (xt_none htab) hlocks (hml.trans hl.1.symm) hS d_S_back_7 d_S_back_10 d_S_back_11 d_S_back_14 (Nat.le_of_ble_eq_true rfl) (Nat.le_of_ble_eq_true rfl) (Nat.le_of_ble_eq_true rfl) (Nat.le_of_ble_eq_true rfl)

set_option maxHeartbeats 4000000 in
set_option maxRecDepth 100000 in
theorem x_S_input (l : Launch) (hno : l.stackTraces = false) (D : va_G) (cI cB cJ cZ : ClassId) (sz : Nat) (h0 tk nd cd rd sl lk od pg gv tp : Nat) (tl ap mn it kp : Int32) (i v : Int32) (h1 : mn < 0) : xt_Met l y_S_input (Cond.code y_S_input b_S_input 4 (some .int) :: gG) { frames := 6, cells := 1, slots := 6, locals := 110 } (va_Pc [.ref h0, .int i, .int v] (cx_P D (tyL cI cB cJ cZ) [(h0, .inr (0, [.ref tk, .ref nd, .ref cd, .ref rd, .ref sl, .ref lk, .ref od, .ref pg, .ref gv, .ref tp, .int tl, .int ap, .int mn, .int it, .int kp]))] sz)) "java/util/NoSuchElementException" xt_same (fun _ => False) 1 6 := by
  refine xt_ofW (cc := b_S_input) (maxL := 4) (ret := (some .int)) (by decide) rfl ?_
  intro p e s m args below meth c s₁ B hml hv
  obtain ⟨rfl, ⟨hsz, hP, hK, hD0⟩, hX⟩ := hv
  have hx := B.exec
  have hb := B.bytes
  have hr := B.returns
  have hts := atoms_spec (ws := Cond.code y_S_input b_S_input 4 (some .int) :: gG) B.pre
  have hG : ∀ w ∈ gG, w.before [.ref h0, .int i, .int v].toArray s = true := fun w h => hts w (List.mem_cons_of_mem _ h)
  have hown : s.vm.findClass R_S = some m.cls := findClass_of_methodNamed B.named
  have hlocks := B.notSynchronized
  subst hsz
  have hD := hD0.self (sz := s.heap.size)
  generalize hAe : va_A [(h0, .inr (0, [.ref tk, .ref nd, .ref cd, .ref rd, .ref sl, .ref lk, .ref od, .ref pg, .ref gv, .ref tp, .int tl, .int ap, .int mn, .int it, .int kp]))] s.heap.size = A at hD
  have hA : ∀ q : Nat, s.heap.size ≤ q → A q := fun q h => by rw [← hAe]; exact Or.inr h
  have hS : va_S A s.heap s.heap [] := va_S.rf
  have hl := lv_entry ([.ref h0, .int i, .int v]) (n := 4) (Nat.le_of_ble_eq_true rfl)
  rw [lg_entry_eq]
  generalize (lg_sl ([.ref h0, .int i, .int v]) ++ List.replicate (4 - (lg_sl ([.ref h0, .int i, .int v])).length) Slot.unset).toArray = ls at hl ⊢
  have hl : lv_has ls 4 [(0, .ref h0), (1, .int i), (2, .int v)] := hl
  have htab := B.noHandlers (hts _ List.mem_cons_self)
  refine lv_aload_n hx hb d_S_input_0 rfl (lv_at hl 0 rfl) ?_
  refine va_get (D := D) (ci := 0) (v := .int mn) (C := R_S) (T := T_S) (N := 15) hx hb hG gi_S hown hK hP 0 rfl rfl 12 (by decide) (hG _ fl_S_26) (fun _ h9 => h9) rfl d_S_input_1 ?_
  refine lv_if_lt (tgt := 27) hx hb d_S_input_4 (by decide) (fun _ => ?_) (fun zz1 => absurd h1 zz1)
  exact xt_throw0 (A := A) (names := ["java/lang/RuntimeException", "java/lang/Exception"]) hx hb hno hown (by decide) (by decide) (oa_NSE hG hX) (hG _ cl_S_170) (hG _ in_java_util_NoSuchElementException) (xt_none htab) hlocks (hml.trans hl.1.symm) hS d_S_input_27 d_S_input_30 d_S_input_31 d_S_input_34 (Nat.le_of_ble_eq_true rfl) (Nat.le_of_ble_eq_true rfl) (Nat.le_of_ble_eq_true rfl) (Nat.le_of_ble_eq_true rfl)

set_option maxHeartbeats 4000000 in
set_option maxRecDepth 100000 in
theorem x_S_tick1 (l : Launch) (hno : l.stackTraces = false) (D : va_G) (cI cB cJ cZ : ClassId) (sz : Nat) (h0 tk nd cd rd sl lk od pg gv tp : Nat) (tl ap mn it kp : Int32) (n : Int32) (h1 : n < 1 ∨ 1000 < n) : xt_Met l y_S_tick (Cond.code y_S_tick b_S_tick 2 (some .int) :: gG) { frames := 6, cells := 1, slots := 6, locals := 110 } (va_Pc [.ref h0, .int n] (cx_P D (tyL cI cB cJ cZ) [(h0, .inr (0, [.ref tk, .ref nd, .ref cd, .ref rd, .ref sl, .ref lk, .ref od, .ref pg, .ref gv, .ref tp, .int tl, .int ap, .int mn, .int it, .int kp]))] sz)) "java/lang/IllegalArgumentException" xt_same (fun _ => False) 1 6 := by
  refine xt_ofW (cc := b_S_tick) (maxL := 2) (ret := (some .int)) (by decide) rfl ?_
  intro p e s m args below meth c s₁ B hml hv
  obtain ⟨rfl, ⟨hsz, hP, hK, hD0⟩, hX⟩ := hv
  have hx := B.exec
  have hb := B.bytes
  have hr := B.returns
  have hts := atoms_spec (ws := Cond.code y_S_tick b_S_tick 2 (some .int) :: gG) B.pre
  have hG : ∀ w ∈ gG, w.before [.ref h0, .int n].toArray s = true := fun w h => hts w (List.mem_cons_of_mem _ h)
  have hown : s.vm.findClass R_S = some m.cls := findClass_of_methodNamed B.named
  have hlocks := B.notSynchronized
  subst hsz
  have hD := hD0.self (sz := s.heap.size)
  generalize hAe : va_A [(h0, .inr (0, [.ref tk, .ref nd, .ref cd, .ref rd, .ref sl, .ref lk, .ref od, .ref pg, .ref gv, .ref tp, .int tl, .int ap, .int mn, .int it, .int kp]))] s.heap.size = A at hD
  have hA : ∀ q : Nat, s.heap.size ≤ q → A q := fun q h => by rw [← hAe]; exact Or.inr h
  have hS : va_S A s.heap s.heap [] := va_S.rf
  have hl := lv_entry ([.ref h0, .int n]) (n := 2) (Nat.le_of_ble_eq_true rfl)
  rw [lg_entry_eq]
  generalize (lg_sl ([.ref h0, .int n]) ++ List.replicate (2 - (lg_sl ([.ref h0, .int n])).length) Slot.unset).toArray = ls at hl ⊢
  have hl : lv_has ls 2 [(0, .ref h0), (1, .int n)] := hl
  have htab := B.noHandlers (hts _ List.mem_cons_self)
  refine lv_iload_n hx hb d_S_tick_0 rfl (lv_at hl 1 rfl) ?_
  refine lv_iconst (v := 1) hx hb d_S_tick_1 (by decide) ?_
  refine lv_icmp_lt (tgt := 12) hx hb d_S_tick_2 (by decide) (fun z1 => ?_) (fun z1 => ?_)
  · exact xt_throw0 (A := A) (names := ["java/lang/RuntimeException", "java/lang/Exception"]) hx hb hno hown (by decide) (by decide) (oa_IAE hG hX) (hG _ cl_S_110) (hG _ in_java_lang_IllegalArgumentException) (xt_none htab) hlocks (hml.trans hl.1.symm) hS d_S_tick_12 d_S_tick_15 d_S_tick_16 d_S_tick_19 (Nat.le_of_ble_eq_true rfl) (Nat.le_of_ble_eq_true rfl) (Nat.le_of_ble_eq_true rfl) (Nat.le_of_ble_eq_true rfl)
  · refine lv_iload_n hx hb d_S_tick_5 rfl (lv_at hl 1 rfl) ?_
    refine lv_sipush (v := 1000) hx hb d_S_tick_6 (by decide) ?_
    refine lv_icmp_le (tgt := 20) hx hb d_S_tick_9 (by decide) (fun zz1 => absurd zz1 (Int32.not_le.mpr (h1.resolve_left z1))) (fun _ => ?_)
    exact xt_throw0 (A := A) (names := ["java/lang/RuntimeException", "java/lang/Exception"]) hx hb hno hown (by decide) (by decide) (oa_IAE hG hX) (hG _ cl_S_110) (hG _ in_java_lang_IllegalArgumentException) (xt_none htab) hlocks (hml.trans hl.1.symm) hS d_S_tick_12 d_S_tick_15 d_S_tick_16 d_S_tick_19 (Nat.le_of_ble_eq_true rfl) (Nat.le_of_ble_eq_true rfl) (Nat.le_of_ble_eq_true rfl) (Nat.le_of_ble_eq_true rfl)

set_option maxHeartbeats 4000000 in
set_option maxRecDepth 100000 in
theorem x_S_tick2 (l : Launch) (hno : l.stackTraces = false) (D : va_G) (cI cB cJ cZ : ClassId) (sz : Nat) (h0 tk nd cd rd sl lk od pg gv tp : Nat) (tl ap mn it kp : Int32) (n : Int32) (h1 : ¬ n < 1) (h2 : n ≤ 1000) (h3 : mn < 0) : xt_Met l y_S_tick (Cond.code y_S_tick b_S_tick 2 (some .int) :: gG) { frames := 6, cells := 1, slots := 6, locals := 110 } (va_Pc [.ref h0, .int n] (cx_P D (tyL cI cB cJ cZ) [(h0, .inr (0, [.ref tk, .ref nd, .ref cd, .ref rd, .ref sl, .ref lk, .ref od, .ref pg, .ref gv, .ref tp, .int tl, .int ap, .int mn, .int it, .int kp]))] sz)) "java/lang/IllegalStateException" xt_same (fun _ => False) 1 6 := by
  refine xt_ofW (cc := b_S_tick) (maxL := 2) (ret := (some .int)) (by decide) rfl ?_
  intro p e s m args below meth c s₁ B hml hv
  obtain ⟨rfl, ⟨hsz, hP, hK, hD0⟩, hX⟩ := hv
  have hx := B.exec
  have hb := B.bytes
  have hr := B.returns
  have hts := atoms_spec (ws := Cond.code y_S_tick b_S_tick 2 (some .int) :: gG) B.pre
  have hG : ∀ w ∈ gG, w.before [.ref h0, .int n].toArray s = true := fun w h => hts w (List.mem_cons_of_mem _ h)
  have hown : s.vm.findClass R_S = some m.cls := findClass_of_methodNamed B.named
  have hlocks := B.notSynchronized
  subst hsz
  have hD := hD0.self (sz := s.heap.size)
  generalize hAe : va_A [(h0, .inr (0, [.ref tk, .ref nd, .ref cd, .ref rd, .ref sl, .ref lk, .ref od, .ref pg, .ref gv, .ref tp, .int tl, .int ap, .int mn, .int it, .int kp]))] s.heap.size = A at hD
  have hA : ∀ q : Nat, s.heap.size ≤ q → A q := fun q h => by rw [← hAe]; exact Or.inr h
  have hS : va_S A s.heap s.heap [] := va_S.rf
  have hl := lv_entry ([.ref h0, .int n]) (n := 2) (Nat.le_of_ble_eq_true rfl)
  rw [lg_entry_eq]
  generalize (lg_sl ([.ref h0, .int n]) ++ List.replicate (2 - (lg_sl ([.ref h0, .int n])).length) Slot.unset).toArray = ls at hl ⊢
  have hl : lv_has ls 2 [(0, .ref h0), (1, .int n)] := hl
  have htab := B.noHandlers (hts _ List.mem_cons_self)
  refine lv_iload_n hx hb d_S_tick_0 rfl (lv_at hl 1 rfl) ?_
  refine lv_iconst (v := 1) hx hb d_S_tick_1 (by decide) ?_
  refine lv_icmp_lt (tgt := 12) hx hb d_S_tick_2 (by decide) (fun zz1 => absurd zz1 h1) (fun _ => ?_)
  refine lv_iload_n hx hb d_S_tick_5 rfl (lv_at hl 1 rfl) ?_
  refine lv_sipush (v := 1000) hx hb d_S_tick_6 (by decide) ?_
  refine lv_icmp_le (tgt := 20) hx hb d_S_tick_9 (by decide) (fun _ => ?_) (fun zz2 => absurd h2 zz2)
  refine lv_aload_n hx hb d_S_tick_20 rfl (lv_at hl 0 rfl) ?_
  refine va_get (D := D) (ci := 0) (v := .int mn) (C := R_S) (T := T_S) (N := 15) hx hb hG gi_S hown hK hP 0 rfl rfl 12 (by decide) (hG _ fl_S_26) (fun _ h9 => h9) rfl d_S_tick_21 ?_
  refine lv_if_ge (tgt := 35) hx hb d_S_tick_24 (by decide) (fun zz3 => absurd zz3 (Int32.not_le.mpr h3)) (fun _ => ?_)
  exact xt_throw0 (A := A) (names := ["java/lang/RuntimeException", "java/lang/Exception"]) hx hb hno hown (by decide) (by decide) (oa_ISE hG hX) (hG _ cl_S_103) (hG _ in_java_lang_IllegalStateException) (xt_none htab) hlocks (hml.trans hl.1.symm) hS d_S_tick_27 d_S_tick_30 d_S_tick_31 d_S_tick_34 (Nat.le_of_ble_eq_true rfl) (Nat.le_of_ble_eq_true rfl) (Nat.le_of_ble_eq_true rfl) (Nat.le_of_ble_eq_true rfl)

set_option maxHeartbeats 4000000 in
set_option maxRecDepth 100000 in
theorem x_S_value (l : Launch) (hno : l.stackTraces = false) (D : va_G) (cI cB cJ cZ : ClassId) (sz : Nat) (h0 tk nd cd rd sl lk od pg gv tp : Nat) (tl ap mn it kp : Int32) (k : Int32) (h1 : mn < 0) : xt_Met l y_S_value (Cond.code y_S_value b_S_value 2 (some .long) :: gG) { frames := 6, cells := 1, slots := 6, locals := 110 } (va_Pc [.ref h0, .int k] (cx_P D (tyL cI cB cJ cZ) [(h0, .inr (0, [.ref tk, .ref nd, .ref cd, .ref rd, .ref sl, .ref lk, .ref od, .ref pg, .ref gv, .ref tp, .int tl, .int ap, .int mn, .int it, .int kp]))] sz)) "java/util/NoSuchElementException" xt_same (fun _ => False) 1 6 := by
  refine xt_ofW (cc := b_S_value) (maxL := 2) (ret := (some .long)) (by decide) rfl ?_
  intro p e s m args below meth c s₁ B hml hv
  obtain ⟨rfl, ⟨hsz, hP, hK, hD0⟩, hX⟩ := hv
  have hx := B.exec
  have hb := B.bytes
  have hr := B.returns
  have hts := atoms_spec (ws := Cond.code y_S_value b_S_value 2 (some .long) :: gG) B.pre
  have hG : ∀ w ∈ gG, w.before [.ref h0, .int k].toArray s = true := fun w h => hts w (List.mem_cons_of_mem _ h)
  have hown : s.vm.findClass R_S = some m.cls := findClass_of_methodNamed B.named
  have hlocks := B.notSynchronized
  subst hsz
  have hD := hD0.self (sz := s.heap.size)
  generalize hAe : va_A [(h0, .inr (0, [.ref tk, .ref nd, .ref cd, .ref rd, .ref sl, .ref lk, .ref od, .ref pg, .ref gv, .ref tp, .int tl, .int ap, .int mn, .int it, .int kp]))] s.heap.size = A at hD
  have hA : ∀ q : Nat, s.heap.size ≤ q → A q := fun q h => by rw [← hAe]; exact Or.inr h
  have hS : va_S A s.heap s.heap [] := va_S.rf
  have hl := lv_entry ([.ref h0, .int k]) (n := 2) (Nat.le_of_ble_eq_true rfl)
  rw [lg_entry_eq]
  generalize (lg_sl ([.ref h0, .int k]) ++ List.replicate (2 - (lg_sl ([.ref h0, .int k])).length) Slot.unset).toArray = ls at hl ⊢
  have hl : lv_has ls 2 [(0, .ref h0), (1, .int k)] := hl
  have htab := B.noHandlers (hts _ List.mem_cons_self)
  refine lv_aload_n hx hb d_S_value_0 rfl (lv_at hl 0 rfl) ?_
  refine lv_iload_n hx hb d_S_value_1 rfl (lv_at hl 1 rfl) ?_
  have hPc := hP.sub (ws' := [(h0, .inr (0, [.ref tk, .ref nd, .ref cd, .ref rd, .ref sl, .ref lk, .ref od, .ref pg, .ref gv, .ref tp, .int tl, .int ap, .int mn, .int it, .int kp]))]) [0] rfl
  have hDc := hD.sub (ws' := [(h0, .inr (0, [.ref tk, .ref nd, .ref cd, .ref rd, .ref sl, .ref lk, .ref od, .ref pg, .ref gv, .ref tp, .int tl, .int ap, .int mn, .int it, .int kp]))]) [0] (by decide) rfl
  refine W.callR (W.runV (As := [.int k]) (rest := []) (C := R_S) ⟨hx, hb, hml, hown, hG⟩ (c_S_isVariable0 l D cI cB cJ cZ s.heap.size h0 tk nd cd rd sl lk od pg gv tp tl ap mn it kp k h1) (gcV 1 gG_good hG ml_S_182 im_S_isVariable se_S_isVariable in_S co_S_isVariable rfl rfl (by decide +kernel) ⟨(Nat.le_of_ble_eq_true rfl), (Nat.le_of_ble_eq_true rfl)⟩) (ct_preV hPc hK hDc (ci := 0) (q0 := 0) rfl rfl) rfl rfl hl.1 rfl (lv_room (Nat.le_of_ble_eq_true rfl)) d_S_value_2 ⟨(Nat.le_of_ble_eq_true rfl), (Nat.le_of_ble_eq_true rfl)⟩) ?_
  refine W.eq (g2 := F0 m 5 ls [.int 0]) rfl ?_
  refine lv_if_ne (tgt := 16) hx hb d_S_value_5 (by decide) (fun zz1 => absurd zz1 (fun z => z rfl)) (fun _ => ?_)
  exact xt_throw0 (A := A) (names := ["java/lang/RuntimeException", "java/lang/Exception"]) hx hb hno hown (by decide) (by decide) (oa_NSE hG hX) (hG _ cl_S_170) (hG _ in_java_util_NoSuchElementException) (xt_none htab) hlocks (hml.trans hl.1.symm) hS d_S_value_8 d_S_value_11 d_S_value_12 d_S_value_15 (Nat.le_of_ble_eq_true rfl) (Nat.le_of_ble_eq_true rfl) (Nat.le_of_ble_eq_true rfl) (Nat.le_of_ble_eq_true rfl)

set_option maxHeartbeats 4000000 in
set_option maxRecDepth 100000 in
theorem x_S_about (l : Launch) (hno : l.stackTraces = false) (D : va_G) (cI cB cJ cZ : ClassId) (sz : Nat) (h0 tk nd cd rd sl lk od pg gv tp : Nat) (tl ap mn it kp : Int32) (k q : Int32) (h1 : mn < 0) : xt_Met l y_S_about (Cond.code y_S_about b_S_about 4 (some .int) :: gG) { frames := 6, cells := 1, slots := 6, locals := 110 } (va_Pc [.ref h0, .int k, .int q] (cx_P D (tyL cI cB cJ cZ) [(h0, .inr (0, [.ref tk, .ref nd, .ref cd, .ref rd, .ref sl, .ref lk, .ref od, .ref pg, .ref gv, .ref tp, .int tl, .int ap, .int mn, .int it, .int kp]))] sz)) "java/util/NoSuchElementException" xt_same (fun _ => False) 1 6 := by
  refine xt_ofW (cc := b_S_about) (maxL := 4) (ret := (some .int)) (by decide) rfl ?_
  intro p e s m args below meth c s₁ B hml hv
  obtain ⟨rfl, ⟨hsz, hP, hK, hD0⟩, hX⟩ := hv
  have hx := B.exec
  have hb := B.bytes
  have hr := B.returns
  have hts := atoms_spec (ws := Cond.code y_S_about b_S_about 4 (some .int) :: gG) B.pre
  have hG : ∀ w ∈ gG, w.before [.ref h0, .int k, .int q].toArray s = true := fun w h => hts w (List.mem_cons_of_mem _ h)
  have hown : s.vm.findClass R_S = some m.cls := findClass_of_methodNamed B.named
  have hlocks := B.notSynchronized
  subst hsz
  have hD := hD0.self (sz := s.heap.size)
  generalize hAe : va_A [(h0, .inr (0, [.ref tk, .ref nd, .ref cd, .ref rd, .ref sl, .ref lk, .ref od, .ref pg, .ref gv, .ref tp, .int tl, .int ap, .int mn, .int it, .int kp]))] s.heap.size = A at hD
  have hA : ∀ q : Nat, s.heap.size ≤ q → A q := fun q h => by rw [← hAe]; exact Or.inr h
  have hS : va_S A s.heap s.heap [] := va_S.rf
  have hl := lv_entry ([.ref h0, .int k, .int q]) (n := 4) (Nat.le_of_ble_eq_true rfl)
  rw [lg_entry_eq]
  generalize (lg_sl ([.ref h0, .int k, .int q]) ++ List.replicate (4 - (lg_sl ([.ref h0, .int k, .int q])).length) Slot.unset).toArray = ls at hl ⊢
  have hl : lv_has ls 4 [(0, .ref h0), (1, .int k), (2, .int q)] := hl
  have htab := B.noHandlers (hts _ List.mem_cons_self)
  refine lv_aload_n hx hb d_S_about_0 rfl (lv_at hl 0 rfl) ?_
  refine lv_iload_n hx hb d_S_about_1 rfl (lv_at hl 1 rfl) ?_
  have hPc := hP.sub (ws' := [(h0, .inr (0, [.ref tk, .ref nd, .ref cd, .ref rd, .ref sl, .ref lk, .ref od, .ref pg, .ref gv, .ref tp, .int tl, .int ap, .int mn, .int it, .int kp]))]) [0] rfl
  have hDc := hD.sub (ws' := [(h0, .inr (0, [.ref tk, .ref nd, .ref cd, .ref rd, .ref sl, .ref lk, .ref od, .ref pg, .ref gv, .ref tp, .int tl, .int ap, .int mn, .int it, .int kp]))]) [0] (by decide) rfl
  refine W.callR (W.runV (As := [.int k]) (rest := []) (C := R_S) ⟨hx, hb, hml, hown, hG⟩ (c_S_isVariable0 l D cI cB cJ cZ s.heap.size h0 tk nd cd rd sl lk od pg gv tp tl ap mn it kp k h1) (gcV 1 gG_good hG ml_S_182 im_S_isVariable se_S_isVariable in_S co_S_isVariable rfl rfl (by decide +kernel) ⟨(Nat.le_of_ble_eq_true rfl), (Nat.le_of_ble_eq_true rfl)⟩) (ct_preV hPc hK hDc (ci := 0) (q0 := 0) rfl rfl) rfl rfl hl.1 rfl (lv_room (Nat.le_of_ble_eq_true rfl)) d_S_about_2 ⟨(Nat.le_of_ble_eq_true rfl), (Nat.le_of_ble_eq_true rfl)⟩) ?_
  refine W.eq (g2 := F0 m 5 ls [.int 0]) rfl ?_
  refine lv_if_ne (tgt := 16) hx hb d_S_about_5 (by decide) (fun zz1 => absurd zz1 (fun z => z rfl)) (fun _ => ?_)
  exact xt_throw0 (A := A) (names := ["java/lang/RuntimeException", "java/lang/Exception"]) hx hb hno hown (by decide) (by decide) (oa_NSE hG hX) (hG _ cl_S_170) (hG _ in_java_util_NoSuchElementException) (xt_none htab) hlocks (hml.trans hl.1.symm) hS d_S_about_8 d_S_about_11 d_S_about_12 d_S_about_15 (Nat.le_of_ble_eq_true rfl) (Nat.le_of_ble_eq_true rfl) (Nat.le_of_ble_eq_true rfl) (Nat.le_of_ble_eq_true rfl)

set_option maxHeartbeats 4000000 in
set_option maxRecDepth 100000 in
theorem x_S_causes (l : Launch) (hno : l.stackTraces = false) (D : va_G) (cI cB cJ cZ : ClassId) (sz : Nat) (h0 tk nd cd rd sl lk od pg gv tp : Nat) (tl ap mn it kp : Int32) (k q : Int32) (h1 : mn < 0) : xt_Met l y_S_causes (Cond.code y_S_causes b_S_causes 3 (some .boolean) :: gG) { frames := 6, cells := 1, slots := 6, locals := 110 } (va_Pc [.ref h0, .int k, .int q] (cx_P D (tyL cI cB cJ cZ) [(h0, .inr (0, [.ref tk, .ref nd, .ref cd, .ref rd, .ref sl, .ref lk, .ref od, .ref pg, .ref gv, .ref tp, .int tl, .int ap, .int mn, .int it, .int kp]))] sz)) "java/util/NoSuchElementException" xt_same (fun _ => False) 1 6 := by
  refine xt_ofW (cc := b_S_causes) (maxL := 3) (ret := (some .boolean)) (by decide) rfl ?_
  intro p e s m args below meth c s₁ B hml hv
  obtain ⟨rfl, ⟨hsz, hP, hK, hD0⟩, hX⟩ := hv
  have hx := B.exec
  have hb := B.bytes
  have hr := B.returns
  have hts := atoms_spec (ws := Cond.code y_S_causes b_S_causes 3 (some .boolean) :: gG) B.pre
  have hG : ∀ w ∈ gG, w.before [.ref h0, .int k, .int q].toArray s = true := fun w h => hts w (List.mem_cons_of_mem _ h)
  have hown : s.vm.findClass R_S = some m.cls := findClass_of_methodNamed B.named
  have hlocks := B.notSynchronized
  subst hsz
  have hD := hD0.self (sz := s.heap.size)
  generalize hAe : va_A [(h0, .inr (0, [.ref tk, .ref nd, .ref cd, .ref rd, .ref sl, .ref lk, .ref od, .ref pg, .ref gv, .ref tp, .int tl, .int ap, .int mn, .int it, .int kp]))] s.heap.size = A at hD
  have hA : ∀ q : Nat, s.heap.size ≤ q → A q := fun q h => by rw [← hAe]; exact Or.inr h
  have hS : va_S A s.heap s.heap [] := va_S.rf
  have hl := lv_entry ([.ref h0, .int k, .int q]) (n := 3) (Nat.le_of_ble_eq_true rfl)
  rw [lg_entry_eq]
  generalize (lg_sl ([.ref h0, .int k, .int q]) ++ List.replicate (3 - (lg_sl ([.ref h0, .int k, .int q])).length) Slot.unset).toArray = ls at hl ⊢
  have hl : lv_has ls 3 [(0, .ref h0), (1, .int k), (2, .int q)] := hl
  have htab := B.noHandlers (hts _ List.mem_cons_self)
  refine lv_aload_n hx hb d_S_causes_0 rfl (lv_at hl 0 rfl) ?_
  refine lv_iload_n hx hb d_S_causes_1 rfl (lv_at hl 1 rfl) ?_
  have hPc := hP.sub (ws' := [(h0, .inr (0, [.ref tk, .ref nd, .ref cd, .ref rd, .ref sl, .ref lk, .ref od, .ref pg, .ref gv, .ref tp, .int tl, .int ap, .int mn, .int it, .int kp]))]) [0] rfl
  have hDc := hD.sub (ws' := [(h0, .inr (0, [.ref tk, .ref nd, .ref cd, .ref rd, .ref sl, .ref lk, .ref od, .ref pg, .ref gv, .ref tp, .int tl, .int ap, .int mn, .int it, .int kp]))]) [0] (by decide) rfl
  refine W.callR (W.runV (As := [.int k]) (rest := []) (C := R_S) ⟨hx, hb, hml, hown, hG⟩ (c_S_isVariable0 l D cI cB cJ cZ s.heap.size h0 tk nd cd rd sl lk od pg gv tp tl ap mn it kp k h1) (gcV 1 gG_good hG ml_S_182 im_S_isVariable se_S_isVariable in_S co_S_isVariable rfl rfl (by decide +kernel) ⟨(Nat.le_of_ble_eq_true rfl), (Nat.le_of_ble_eq_true rfl)⟩) (ct_preV hPc hK hDc (ci := 0) (q0 := 0) rfl rfl) rfl rfl hl.1 rfl (lv_room (Nat.le_of_ble_eq_true rfl)) d_S_causes_2 ⟨(Nat.le_of_ble_eq_true rfl), (Nat.le_of_ble_eq_true rfl)⟩) ?_
  refine W.eq (g2 := F0 m 5 ls [.int 0]) rfl ?_
  refine lv_if_eq (tgt := 16) hx hb d_S_causes_5 (by decide) (fun _ => ?_) (fun zz1 => absurd rfl zz1)
  exact xt_throw0 (A := A) (names := ["java/lang/RuntimeException", "java/lang/Exception"]) hx hb hno hown (by decide) (by decide) (oa_NSE hG hX) (hG _ cl_S_170) (hG _ in_java_util_NoSuchElementException) (xt_none htab) hlocks (hml.trans hl.1.symm) hS d_S_causes_16 d_S_causes_19 d_S_causes_20 d_S_causes_23 (Nat.le_of_ble_eq_true rfl) (Nat.le_of_ble_eq_true rfl) (Nat.le_of_ble_eq_true rfl) (Nat.le_of_ble_eq_true rfl)

set_option maxHeartbeats 4000000 in
set_option maxRecDepth 100000 in
theorem c_S_count0 (l : Launch) (D : va_G) (cI cB cJ cZ : ClassId) (sz : Nat) (h0 tk nd cd rd sl lk od pg gv tp : Nat) (tl ap mn it kp : Int32) (q : Int32) (h1 : mn < 0) : Met l y_S_count (Cond.code y_S_count b_S_count 2 (some .int) :: gG) { frames := 0, cells := 0, slots := 0, locals := 0 } (va_Pc [.ref h0, .int q] (ct_P D (tyL cI cB cJ cZ) [(h0, .inr (0, [.ref tk, .ref nd, .ref cd, .ref rd, .ref sl, .ref lk, .ref od, .ref pg, .ref gv, .ref tp, .int tl, .int ap, .int mn, .int it, .int kp]))] sz)) (QcRead (if q = 7 then tl else if q < 0 ∨ 8 < q then -1 else 0)) 0 0 (fun _ => False) := by
  refine Met.ofW (cc := b_S_count) (maxL := 2) (ret := (some .int)) (by decide) rfl ?_
  intro p e s m args below meth c s₁ B hml hv
  obtain ⟨rfl, hsz, hP, hK, hD0⟩ := hv
  have hx := B.exec
  have hb := B.bytes
  have hr := B.returns
  have hts := atoms_spec (ws := Cond.code y_S_count b_S_count 2 (some .int) :: gG) B.pre
  have hG : ∀ w ∈ gG, w.before [.ref h0, .int q].toArray s = true := fun w h => hts w (List.mem_cons_of_mem _ h)
  have hown : s.vm.findClass R_S = some m.cls := findClass_of_methodNamed B.named
  have hlocks := B.notSynchronized
  subst hsz
  have hD := hD0.self (sz := s.heap.size)
  generalize hAe : va_A [(h0, .inr (0, [.ref tk, .ref nd, .ref cd, .ref rd, .ref sl, .ref lk, .ref od, .ref pg, .ref gv, .ref tp, .int tl, .int ap, .int mn, .int it, .int kp]))] s.heap.size = A at hD
  have hA : ∀ q : Nat, s.heap.size ≤ q → A q := fun q h => by rw [← hAe]; exact Or.inr h
  have hS : va_S A s.heap s.heap [] := va_S.rf
  have hl := lv_entry ([.ref h0, .int q]) (n := 2) (Nat.le_of_ble_eq_true rfl)
  rw [lg_entry_eq]
  generalize (lg_sl ([.ref h0, .int q]) ++ List.replicate (2 - (lg_sl ([.ref h0, .int q])).length) Slot.unset).toArray = ls at hl ⊢
  have hl : lv_has ls 2 [(0, .ref h0), (1, .int q)] := hl
  refine lv_iload_n hx hb d_S_count_0 rfl (lv_at hl 1 rfl) ?_
  refine lv_bipush (v := 7) hx hb d_S_count_1 (by decide) ?_
  refine lv_icmp_ne (tgt := 11) hx hb d_S_count_3 (by decide) (fun z7 => ?_) (fun z7 => ?_)
  · refine lv_iload_n hx hb d_S_count_11 rfl (lv_at hl 1 rfl) ?_
    refine lv_if_lt (tgt := 21) hx hb d_S_count_12 (by decide) (fun z8 => ?_) (fun z8 => ?_)
    · refine lv_iconst (v := (-1)) hx hb d_S_count_21 (by decide) ?_
      exact W.iret (v := (-1)) hx hb hr (fun t ht hW => ⟨by rw [if_neg z7, if_pos (Or.inl z8)], ht⟩) (fun q h => by cases h) d_S_count_22
    · refine lv_iload_n hx hb d_S_count_15 rfl (lv_at hl 1 rfl) ?_
      refine lv_bipush (v := 8) hx hb d_S_count_16 (by decide) ?_
      refine lv_icmp_le (tgt := 23) hx hb d_S_count_18 (by decide) (fun z9 => ?_) (fun z9 => ?_)
      · refine lv_aload_n hx hb d_S_count_23 rfl (lv_at hl 0 rfl) ?_
        refine va_get (D := D) (ci := 0) (v := .int mn) (C := R_S) (T := T_S) (N := 15) hx hb hG gi_S hown hK hP 0 rfl rfl 12 (by decide) (hG _ fl_S_26) (fun _ h9 => h9) rfl d_S_count_24 ?_
        refine lv_if_ge (tgt := 34) hx hb d_S_count_27 (by decide) (fun zz1 => absurd zz1 (Int32.not_le.mpr h1)) (fun _ => ?_)
        refine lv_iconst (v := 0) hx hb d_S_count_30 (by decide) ?_
        refine lv_goto (tgt := 39) hx hb d_S_count_31 (by decide) ?_
        exact W.iret (v := 0) hx hb hr (fun t ht hW => ⟨by rw [if_neg z7, if_neg (fun z => z.elim z8 (fun z => absurd z9 (Int32.not_le.mpr z)))], ht⟩) (fun q h => by cases h) d_S_count_39
      · refine lv_iconst (v := (-1)) hx hb d_S_count_21 (by decide) ?_
        exact W.iret (v := (-1)) hx hb hr (fun t ht hW => ⟨by rw [if_neg z7, if_pos (Or.inr (Int32.not_le.mp z9))], ht⟩) (fun q h => by cases h) d_S_count_22
  · refine lv_aload_n hx hb d_S_count_6 rfl (lv_at hl 0 rfl) ?_
    refine va_get (D := D) (ci := 0) (v := .int tl) (C := R_S) (T := T_S) (N := 15) hx hb hG gi_S hown hK hP 0 rfl rfl 10 (by decide) (hG _ fl_S_100) (fun _ h9 => h9) rfl d_S_count_7 ?_
    exact W.iret (v := tl) hx hb hr (fun t ht hW => ⟨by rw [if_pos z7], ht⟩) (fun q h => by cases h) d_S_count_10

