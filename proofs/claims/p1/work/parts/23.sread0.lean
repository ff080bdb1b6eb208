/-! read of an empty text -/
theorem d_Tk_add_0 : decode b_Tk_add 0 = .ok (.aload_n 0, 1) := by decide +kernel
theorem d_Tk_add_1 : decode b_Tk_add 1 = .ok (.getfield 10, 3) := by decide +kernel
theorem d_Tk_add_4 : decode b_Tk_add 4 = .ok (.aload_n 0, 1) := by decide +kernel
theorem d_Tk_add_5 : decode b_Tk_add 5 = .ok (.getfield 38, 3) := by decide +kernel
theorem d_Tk_add_8 : decode b_Tk_add 8 = .ok (.iload_n 1, 1) := by decide +kernel
theorem d_Tk_add_9 : decode b_Tk_add 9 = .ok (.iastore, 1) := by decide +kernel
theorem d_Tk_add_10 : decode b_Tk_add 10 = .ok (.aload_n 0, 1) := by decide +kernel
theorem d_Tk_add_11 : decode b_Tk_add 11 = .ok (.getfield 16, 3) := by decide +kernel
theorem d_Tk_add_14 : decode b_Tk_add 14 = .ok (.aload_n 0, 1) := by decide +kernel
theorem d_Tk_add_15 : decode b_Tk_add 15 = .ok (.getfield 38, 3) := by decide +kernel
theorem d_Tk_add_18 : decode b_Tk_add 18 = .ok (.iload_n 2, 1) := by decide +kernel
theorem d_Tk_add_19 : decode b_Tk_add 19 = .ok (.iastore, 1) := by decide +kernel
theorem d_Tk_add_20 : decode b_Tk_add 20 = .ok (.aload_n 0, 1) := by decide +kernel
theorem d_Tk_add_21 : decode b_Tk_add 21 = .ok (.getfield 19, 3) := by decide +kernel
theorem d_Tk_add_24 : decode b_Tk_add 24 = .ok (.aload_n 0, 1) := by decide +kernel
theorem d_Tk_add_25 : decode b_Tk_add 25 = .ok (.getfield 38, 3) := by decide +kernel
theorem d_Tk_add_28 : decode b_Tk_add 28 = .ok (.iload_n 3, 1) := by decide +kernel
theorem d_Tk_add_29 : decode b_Tk_add 29 = .ok (.iastore, 1) := by decide +kernel
theorem d_Tk_add_30 : decode b_Tk_add 30 = .ok (.aload_n 0, 1) := by decide +kernel
theorem d_Tk_add_31 : decode b_Tk_add 31 = .ok (.dup, 1) := by decide +kernel
theorem d_Tk_add_32 : decode b_Tk_add 32 = .ok (.getfield 38, 3) := by decide +kernel
theorem d_Tk_add_35 : decode b_Tk_add 35 = .ok (.iconst 1, 1) := by decide +kernel
theorem d_Tk_add_36 : decode b_Tk_add 36 = .ok (.iadd, 1) := by decide +kernel
theorem d_Tk_add_37 : decode b_Tk_add 37 = .ok (.putfield 38, 3) := by decide +kernel
theorem d_Tk_add_40 : decode b_Tk_add 40 = .ok (.return_, 1) := by decide +kernel
theorem d_Tk_scan_0 : decode b_Tk_scan 0 = .ok (.aload_n 0, 1) := by decide +kernel
theorem d_Tk_scan_1 : decode b_Tk_scan 1 = .ok (.getfield 31, 3) := by decide +kernel
theorem d_Tk_scan_4 : decode b_Tk_scan 4 = .ok (.invokevirtual 35, 3) := by decide +kernel
theorem d_Tk_scan_7 : decode b_Tk_scan 7 = .ok (.aload_n 0, 1) := by decide +kernel
theorem d_Tk_scan_8 : decode b_Tk_scan 8 = .ok (.iconst 0, 1) := by decide +kernel
theorem d_Tk_scan_9 : decode b_Tk_scan 9 = .ok (.putfield 38, 3) := by decide +kernel
theorem d_Tk_scan_12 : decode b_Tk_scan 12 = .ok (.aload_n 0, 1) := by decide +kernel
theorem d_Tk_scan_13 : decode b_Tk_scan 13 = .ok (.iconst 0, 1) := by decide +kernel
theorem d_Tk_scan_14 : decode b_Tk_scan 14 = .ok (.putfield 42, 3) := by decide +kernel
theorem d_Tk_scan_17 : decode b_Tk_scan 17 = .ok (.aload_n 0, 1) := by decide +kernel
theorem d_Tk_scan_18 : decode b_Tk_scan 18 = .ok (.iconst 0, 1) := by decide +kernel
theorem d_Tk_scan_19 : decode b_Tk_scan 19 = .ok (.putfield 45, 3) := by decide +kernel
theorem d_Tk_scan_22 : decode b_Tk_scan 22 = .ok (.aload_n 0, 1) := by decide +kernel
theorem d_Tk_scan_23 : decode b_Tk_scan 23 = .ok (.iconst 0, 1) := by decide +kernel
theorem d_Tk_scan_24 : decode b_Tk_scan 24 = .ok (.putfield 48, 3) := by decide +kernel
theorem d_Tk_scan_27 : decode b_Tk_scan 27 = .ok (.iconst 0, 1) := by decide +kernel
theorem d_Tk_scan_28 : decode b_Tk_scan 28 = .ok (.istore_n 2, 1) := by decide +kernel
theorem d_Tk_scan_29 : decode b_Tk_scan 29 = .ok (.iconst 0, 1) := by decide +kernel
theorem d_Tk_scan_30 : decode b_Tk_scan 30 = .ok (.istore_n 3, 1) := by decide +kernel
theorem d_Tk_scan_31 : decode b_Tk_scan 31 = .ok (.iload_n 3, 1) := by decide +kernel
theorem d_Tk_scan_32 : decode b_Tk_scan 32 = .ok (.iload_n 1, 1) := by decide +kernel
theorem d_Tk_scan_33 : decode b_Tk_scan 33 = .ok (.if_icmp .ge 21, 3) := by decide +kernel
theorem d_Tk_scan_36 : decode b_Tk_scan 36 = .ok (.iload_n 2, 1) := by decide +kernel
theorem d_Tk_scan_37 : decode b_Tk_scan 37 = .ok (.iload_n 1, 1) := by decide +kernel
theorem d_Tk_scan_38 : decode b_Tk_scan 38 = .ok (.if_icmp .ge 16, 3) := by decide +kernel
theorem d_Tk_scan_41 : decode b_Tk_scan 41 = .ok (.aload_n 0, 1) := by decide +kernel
theorem d_Tk_scan_42 : decode b_Tk_scan 42 = .ok (.iload_n 2, 1) := by decide +kernel
theorem d_Tk_scan_43 : decode b_Tk_scan 43 = .ok (.iload_n 1, 1) := by decide +kernel
theorem d_Tk_scan_44 : decode b_Tk_scan 44 = .ok (.invokevirtual 51, 3) := by decide +kernel
theorem d_Tk_scan_47 : decode b_Tk_scan 47 = .ok (.istore_n 2, 1) := by decide +kernel
theorem d_Tk_scan_48 : decode b_Tk_scan 48 = .ok (.iinc 3 1, 3) := by decide +kernel
theorem d_Tk_scan_51 : decode b_Tk_scan 51 = .ok (.goto (-20), 3) := by decide +kernel
theorem d_Tk_scan_54 : decode b_Tk_scan 54 = .ok (.aload_n 0, 1) := by decide +kernel
theorem d_Tk_scan_55 : decode b_Tk_scan 55 = .ok (.iconst 0, 1) := by decide +kernel
theorem d_Tk_scan_56 : decode b_Tk_scan 56 = .ok (.iload_n 1, 1) := by decide +kernel
theorem d_Tk_scan_57 : decode b_Tk_scan 57 = .ok (.iconst 0, 1) := by decide +kernel
theorem d_Tk_scan_58 : decode b_Tk_scan 58 = .ok (.invokevirtual 55, 3) := by decide +kernel
theorem d_Tk_scan_61 : decode b_Tk_scan 61 = .ok (.return_, 1) := by decide +kernel
theorem d_Tk_kindNow_0 : decode b_Tk_kindNow 0 = .ok (.aload_n 0, 1) := by decide +kernel
theorem d_Tk_kindNow_1 : decode b_Tk_kindNow 1 = .ok (.getfield 10, 3) := by decide +kernel
theorem d_Tk_kindNow_4 : decode b_Tk_kindNow 4 = .ok (.aload_n 0, 1) := by decide +kernel
theorem d_Tk_kindNow_5 : decode b_Tk_kindNow 5 = .ok (.getfield 42, 3) := by decide +kernel
theorem d_Tk_kindNow_8 : decode b_Tk_kindNow 8 = .ok (.iaload, 1) := by decide +kernel
theorem d_Tk_kindNow_9 : decode b_Tk_kindNow 9 = .ok (.ireturn, 1) := by decide +kernel
theorem d_Tk_fail_0 : decode b_Tk_fail 0 = .ok (.aload_n 0, 1) := by decide +kernel
theorem d_Tk_fail_1 : decode b_Tk_fail 1 = .ok (.getfield 45, 3) := by decide +kernel
theorem d_Tk_fail_4 : decode b_Tk_fail 4 = .ok (.ifCond .ne 21, 3) := by decide +kernel
theorem d_Tk_fail_7 : decode b_Tk_fail 7 = .ok (.aload_n 0, 1) := by decide +kernel
theorem d_Tk_fail_8 : decode b_Tk_fail 8 = .ok (.iload_n 1, 1) := by decide +kernel
theorem d_Tk_fail_9 : decode b_Tk_fail 9 = .ok (.putfield 45, 3) := by decide +kernel
theorem d_Tk_fail_12 : decode b_Tk_fail 12 = .ok (.aload_n 0, 1) := by decide +kernel
theorem d_Tk_fail_13 : decode b_Tk_fail 13 = .ok (.aload_n 0, 1) := by decide +kernel
theorem d_Tk_fail_14 : decode b_Tk_fail 14 = .ok (.getfield 16, 3) := by decide +kernel
theorem d_Tk_fail_17 : decode b_Tk_fail 17 = .ok (.aload_n 0, 1) := by decide +kernel
theorem d_Tk_fail_18 : decode b_Tk_fail 18 = .ok (.getfield 42, 3) := by decide +kernel
theorem d_Tk_fail_21 : decode b_Tk_fail 21 = .ok (.iaload, 1) := by decide +kernel
theorem d_Tk_fail_22 : decode b_Tk_fail 22 = .ok (.putfield 48, 3) := by decide +kernel
theorem d_Tk_fail_25 : decode b_Tk_fail 25 = .ok (.iconst 0, 1) := by decide +kernel
theorem d_Tk_fail_26 : decode b_Tk_fail 26 = .ok (.ireturn, 1) := by decide +kernel
theorem d_Tk_expect_0 : decode b_Tk_expect 0 = .ok (.aload_n 0, 1) := by decide +kernel
theorem d_Tk_expect_1 : decode b_Tk_expect 1 = .ok (.getfield 10, 3) := by decide +kernel
theorem d_Tk_expect_4 : decode b_Tk_expect 4 = .ok (.aload_n 0, 1) := by decide +kernel
theorem d_Tk_expect_5 : decode b_Tk_expect 5 = .ok (.getfield 42, 3) := by decide +kernel
theorem d_Tk_expect_8 : decode b_Tk_expect 8 = .ok (.iaload, 1) := by decide +kernel
theorem d_Tk_expect_9 : decode b_Tk_expect 9 = .ok (.iload_n 1, 1) := by decide +kernel
theorem d_Tk_expect_10 : decode b_Tk_expect 10 = .ok (.if_icmp .eq 9, 3) := by decide +kernel
theorem d_Tk_expect_13 : decode b_Tk_expect 13 = .ok (.aload_n 0, 1) := by decide +kernel
theorem d_Tk_expect_14 : decode b_Tk_expect 14 = .ok (.iconst 1, 1) := by decide +kernel
theorem d_Tk_expect_15 : decode b_Tk_expect 15 = .ok (.invokevirtual 59, 3) := by decide +kernel
theorem d_Tk_expect_18 : decode b_Tk_expect 18 = .ok (.ireturn, 1) := by decide +kernel
theorem d_Tk_expect_19 : decode b_Tk_expect 19 = .ok (.aload_n 0, 1) := by decide +kernel
theorem d_Tk_expect_20 : decode b_Tk_expect 20 = .ok (.invokevirtual 63, 3) := by decide +kernel
theorem d_Tk_expect_23 : decode b_Tk_expect 23 = .ok (.iconst 1, 1) := by decide +kernel
theorem d_Tk_expect_24 : decode b_Tk_expect 24 = .ok (.ireturn, 1) := by decide +kernel
theorem d_Nr_readHead_0 : decode b_Nr_readHead 0 = .ok (.aload_n 0, 1) := by decide +kernel
theorem d_Nr_readHead_1 : decode b_Nr_readHead 1 = .ok (.getfield 9, 3) := by decide +kernel
theorem d_Nr_readHead_4 : decode b_Nr_readHead 4 = .ok (.invokevirtual 39, 3) := by decide +kernel
theorem d_Nr_readHead_7 : decode b_Nr_readHead 7 = .ok (.bipush 20, 2) := by decide +kernel
theorem d_Nr_readHead_9 : decode b_Nr_readHead 9 = .ok (.if_icmp .ne 24, 3) := by decide +kernel
theorem d_Nr_readHead_12 : decode b_Nr_readHead 12 = .ok (.aload_n 0, 1) := by decide +kernel
theorem d_Nr_readHead_13 : decode b_Nr_readHead 13 = .ok (.getfield 15, 3) := by decide +kernel
theorem d_Nr_readHead_16 : decode b_Nr_readHead 16 = .ok (.getfield 45, 3) := by decide +kernel
theorem d_Nr_readHead_19 : decode b_Nr_readHead 19 = .ok (.bipush 59, 2) := by decide +kernel
theorem d_Nr_readHead_21 : decode b_Nr_readHead 21 = .ok (.if_icmp .ne 12, 3) := by decide +kernel
theorem d_Nr_readHead_24 : decode b_Nr_readHead 24 = .ok (.aload_n 0, 1) := by decide +kernel
theorem d_Nr_readHead_25 : decode b_Nr_readHead 25 = .ok (.getfield 9, 3) := by decide +kernel
theorem d_Nr_readHead_28 : decode b_Nr_readHead 28 = .ok (.iconst 3, 1) := by decide +kernel
theorem d_Nr_readHead_29 : decode b_Nr_readHead 29 = .ok (.invokevirtual 51, 3) := by decide +kernel
theorem d_Nr_readHead_32 : decode b_Nr_readHead 32 = .ok (.ireturn, 1) := by decide +kernel
theorem d_Nr_readHead_33 : decode b_Nr_readHead 33 = .ok (.aload_n 0, 1) := by decide +kernel
theorem d_Nr_readHead_34 : decode b_Nr_readHead 34 = .ok (.getfield 9, 3) := by decide +kernel
theorem d_Nr_readHead_37 : decode b_Nr_readHead 37 = .ok (.bipush 20, 2) := by decide +kernel
theorem d_Nr_readHead_39 : decode b_Nr_readHead 39 = .ok (.invokevirtual 55, 3) := by decide +kernel
theorem d_Nr_readHead_42 : decode b_Nr_readHead 42 = .ok (.ifCond .eq 52, 3) := by decide +kernel
theorem d_Nr_readHead_45 : decode b_Nr_readHead 45 = .ok (.aload_n 0, 1) := by decide +kernel
theorem d_Nr_readHead_46 : decode b_Nr_readHead 46 = .ok (.invokevirtual 58, 3) := by decide +kernel
theorem d_Nr_readHead_49 : decode b_Nr_readHead 49 = .ok (.ifCond .eq 45, 3) := by decide +kernel
theorem d_Nr_readHead_52 : decode b_Nr_readHead 52 = .ok (.aload_n 0, 1) := by decide +kernel
theorem d_Nr_readHead_53 : decode b_Nr_readHead 53 = .ok (.invokevirtual 62, 3) := by decide +kernel
theorem d_Nr_readHead_56 : decode b_Nr_readHead 56 = .ok (.ifCond .eq 38, 3) := by decide +kernel
theorem d_Nr_readHead_59 : decode b_Nr_readHead 59 = .ok (.aload_n 0, 1) := by decide +kernel
theorem d_Nr_readHead_60 : decode b_Nr_readHead 60 = .ok (.getfield 9, 3) := by decide +kernel
theorem d_Nr_readHead_63 : decode b_Nr_readHead 63 = .ok (.bipush 21, 2) := by decide +kernel
theorem d_Nr_readHead_65 : decode b_Nr_readHead 65 = .ok (.invokevirtual 55, 3) := by decide +kernel
theorem d_Nr_readHead_68 : decode b_Nr_readHead 68 = .ok (.ifCond .eq 26, 3) := by decide +kernel
theorem d_Nr_readHead_71 : decode b_Nr_readHead 71 = .ok (.aload_n 0, 1) := by decide +kernel
theorem d_Nr_readHead_72 : decode b_Nr_readHead 72 = .ok (.invokevirtual 65, 3) := by decide +kernel
theorem d_Nr_readHead_75 : decode b_Nr_readHead 75 = .ok (.ifCond .eq 19, 3) := by decide +kernel
theorem d_Nr_readHead_78 : decode b_Nr_readHead 78 = .ok (.aload_n 0, 1) := by decide +kernel
theorem d_Nr_readHead_79 : decode b_Nr_readHead 79 = .ok (.getfield 9, 3) := by decide +kernel
theorem d_Nr_readHead_82 : decode b_Nr_readHead 82 = .ok (.bipush 7, 2) := by decide +kernel
theorem d_Nr_readHead_84 : decode b_Nr_readHead 84 = .ok (.invokevirtual 55, 3) := by decide +kernel
theorem d_Nr_readHead_87 : decode b_Nr_readHead 87 = .ok (.ifCond .eq 7, 3) := by decide +kernel
theorem d_Nr_readHead_90 : decode b_Nr_readHead 90 = .ok (.iconst 1, 1) := by decide +kernel
theorem d_Nr_readHead_91 : decode b_Nr_readHead 91 = .ok (.goto 4, 3) := by decide +kernel
theorem d_Nr_readHead_94 : decode b_Nr_readHead 94 = .ok (.iconst 0, 1) := by decide +kernel
theorem d_Nr_readHead_95 : decode b_Nr_readHead 95 = .ok (.ireturn, 1) := by decide +kernel
theorem d_Nd_begin_0 : decode b_Nd_begin 0 = .ok (.aload_n 0, 1) := by decide +kernel
theorem d_Nd_begin_1 : decode b_Nd_begin 1 = .ok (.iconst 0, 1) := by decide +kernel
theorem d_Nd_begin_2 : decode b_Nd_begin 2 = .ok (.putfield 54, 3) := by decide +kernel
theorem d_Nd_begin_5 : decode b_Nd_begin 5 = .ok (.aload_n 0, 1) := by decide +kernel
theorem d_Nd_begin_6 : decode b_Nd_begin 6 = .ok (.iconst 0, 1) := by decide +kernel
theorem d_Nd_begin_7 : decode b_Nd_begin 7 = .ok (.putfield 58, 3) := by decide +kernel
theorem d_Nd_begin_10 : decode b_Nd_begin 10 = .ok (.return_, 1) := by decide +kernel
theorem d_Cd_begin_0 : decode b_Cd_begin 0 = .ok (.aload_n 0, 1) := by decide +kernel
theorem d_Cd_begin_1 : decode b_Cd_begin 1 = .ok (.iconst 0, 1) := by decide +kernel
theorem d_Cd_begin_2 : decode b_Cd_begin 2 = .ok (.putfield 44, 3) := by decide +kernel
theorem d_Cd_begin_5 : decode b_Cd_begin 5 = .ok (.aload_n 0, 1) := by decide +kernel
theorem d_Cd_begin_6 : decode b_Cd_begin 6 = .ok (.iconst 0, 1) := by decide +kernel
theorem d_Cd_begin_7 : decode b_Cd_begin 7 = .ok (.putfield 48, 3) := by decide +kernel
theorem d_Cd_begin_10 : decode b_Cd_begin 10 = .ok (.aload_n 0, 1) := by decide +kernel
theorem d_Cd_begin_11 : decode b_Cd_begin 11 = .ok (.iconst 0, 1) := by decide +kernel
theorem d_Cd_begin_12 : decode b_Cd_begin 12 = .ok (.putfield 51, 3) := by decide +kernel
theorem d_Cd_begin_15 : decode b_Cd_begin 15 = .ok (.return_, 1) := by decide +kernel
theorem d_S_read_0 : decode b_S_read 0 = .ok (.aload_n 0, 1) := by decide +kernel
theorem d_S_read_1 : decode b_S_read 1 = .ok (.iconst (-1), 1) := by decide +kernel
theorem d_S_read_2 : decode b_S_read 2 = .ok (.putfield 26, 3) := by decide +kernel
theorem d_S_read_5 : decode b_S_read 5 = .ok (.aload_n 0, 1) := by decide +kernel
theorem d_S_read_6 : decode b_S_read 6 = .ok (.iconst 0, 1) := by decide +kernel
theorem d_S_read_7 : decode b_S_read 7 = .ok (.putfield 113, 3) := by decide +kernel
theorem d_S_read_10 : decode b_S_read 10 = .ok (.aload_n 0, 1) := by decide +kernel
theorem d_S_read_11 : decode b_S_read 11 = .ok (.iconst 0, 1) := by decide +kernel
theorem d_S_read_12 : decode b_S_read 12 = .ok (.putfield 116, 3) := by decide +kernel
theorem d_S_read_15 : decode b_S_read 15 = .ok (.aload_n 0, 1) := by decide +kernel
theorem d_S_read_16 : decode b_S_read 16 = .ok (.getfield 39, 3) := by decide +kernel
theorem d_S_read_19 : decode b_S_read 19 = .ok (.aload_n 0, 1) := by decide +kernel
theorem d_S_read_20 : decode b_S_read 20 = .ok (.getfield 100, 3) := by decide +kernel
theorem d_S_read_23 : decode b_S_read 23 = .ok (.invokevirtual 119, 3) := by decide +kernel
theorem d_S_read_26 : decode b_S_read 26 = .ok (.aload_n 0, 1) := by decide +kernel
theorem d_S_read_27 : decode b_S_read 27 = .ok (.iconst 0, 1) := by decide +kernel
theorem d_S_read_28 : decode b_S_read 28 = .ok (.putfield 100, 3) := by decide +kernel
theorem d_S_read_31 : decode b_S_read 31 = .ok (.aload_n 0, 1) := by decide +kernel
theorem d_S_read_32 : decode b_S_read 32 = .ok (.getfield 46, 3) := by decide +kernel
theorem d_S_read_35 : decode b_S_read 35 = .ok (.invokevirtual 122, 3) := by decide +kernel
theorem d_S_read_38 : decode b_S_read 38 = .ok (.aload_n 0, 1) := by decide +kernel
theorem d_S_read_39 : decode b_S_read 39 = .ok (.getfield 53, 3) := by decide +kernel
theorem d_S_read_42 : decode b_S_read 42 = .ok (.invokevirtual 125, 3) := by decide +kernel
theorem d_S_read_45 : decode b_S_read 45 = .ok (.iconst 1, 1) := by decide +kernel
theorem d_S_read_46 : decode b_S_read 46 = .ok (.istore_n 1, 1) := by decide +kernel
theorem d_S_read_47 : decode b_S_read 47 = .ok (.iconst 0, 1) := by decide +kernel
theorem d_S_read_48 : decode b_S_read 48 = .ok (.istore_n 2, 1) := by decide +kernel
theorem d_S_read_49 : decode b_S_read 49 = .ok (.iload_n 1, 1) := by decide +kernel
theorem d_S_read_50 : decode b_S_read 50 = .ok (.ifCond .eq 51, 3) := by decide +kernel
theorem d_S_read_53 : decode b_S_read 53 = .ok (.iload_n 2, 1) := by decide +kernel
theorem d_S_read_54 : decode b_S_read 54 = .ok (.bipush 59, 2) := by decide +kernel
theorem d_S_read_56 : decode b_S_read 56 = .ok (.if_icmp .gt 45, 3) := by decide +kernel
theorem d_S_read_59 : decode b_S_read 59 = .ok (.aload_n 0, 1) := by decide +kernel
theorem d_S_read_60 : decode b_S_read 60 = .ok (.getfield 62, 3) := by decide +kernel
theorem d_S_read_63 : decode b_S_read 63 = .ok (.invokevirtual 126, 3) := by decide +kernel
theorem d_S_read_66 : decode b_S_read 66 = .ok (.ifCond .eq 27, 3) := by decide +kernel
theorem d_S_read_69 : decode b_S_read 69 = .ok (.aload_n 0, 1) := by decide +kernel
theorem d_S_read_70 : decode b_S_read 70 = .ok (.getfield 62, 3) := by decide +kernel
theorem d_S_read_73 : decode b_S_read 73 = .ok (.invokevirtual 130, 3) := by decide +kernel
theorem d_S_read_76 : decode b_S_read 76 = .ok (.ifCond .eq 17, 3) := by decide +kernel
theorem d_S_read_79 : decode b_S_read 79 = .ok (.aload_n 0, 1) := by decide +kernel
theorem d_S_read_80 : decode b_S_read 80 = .ok (.getfield 39, 3) := by decide +kernel
theorem d_S_read_83 : decode b_S_read 83 = .ok (.invokevirtual 133, 3) := by decide +kernel
theorem d_S_read_86 : decode b_S_read 86 = .ok (.ifCond .eq 7, 3) := by decide +kernel
theorem d_S_read_89 : decode b_S_read 89 = .ok (.iconst 1, 1) := by decide +kernel
theorem d_S_read_90 : decode b_S_read 90 = .ok (.goto 4, 3) := by decide +kernel
theorem d_S_read_93 : decode b_S_read 93 = .ok (.iconst 0, 1) := by decide +kernel
theorem d_S_read_94 : decode b_S_read 94 = .ok (.istore_n 1, 1) := by decide +kernel
theorem d_S_read_95 : decode b_S_read 95 = .ok (.iinc 2 1, 3) := by decide +kernel
theorem d_S_read_98 : decode b_S_read 98 = .ok (.goto (-49), 3) := by decide +kernel
theorem d_S_read_101 : decode b_S_read 101 = .ok (.aload_n 0, 1) := by decide +kernel
theorem d_S_read_102 : decode b_S_read 102 = .ok (.getfield 39, 3) := by decide +kernel
theorem d_S_read_105 : decode b_S_read 105 = .ok (.getfield 136, 3) := by decide +kernel
theorem d_S_read_108 : decode b_S_read 108 = .ok (.ifCond .ne 69, 3) := by decide +kernel
theorem d_S_read_111 : decode b_S_read 111 = .ok (.aload_n 0, 1) := by decide +kernel
theorem d_S_read_112 : decode b_S_read 112 = .ok (.invokevirtual 139, 3) := by decide +kernel
theorem d_S_read_115 : decode b_S_read 115 = .ok (.ifCond .eq 62, 3) := by decide +kernel
theorem d_S_read_118 : decode b_S_read 118 = .ok (.aload_n 0, 1) := by decide +kernel
theorem d_S_read_119 : decode b_S_read 119 = .ok (.invokevirtual 142, 3) := by decide +kernel
theorem d_S_read_122 : decode b_S_read 122 = .ok (.ifCond .eq 55, 3) := by decide +kernel
theorem d_S_read_125 : decode b_S_read 125 = .ok (.aload_n 0, 1) := by decide +kernel
theorem d_S_read_126 : decode b_S_read 126 = .ok (.aload_n 0, 1) := by decide +kernel
theorem d_S_read_127 : decode b_S_read 127 = .ok (.getfield 46, 3) := by decide +kernel
theorem d_S_read_130 : decode b_S_read 130 = .ok (.getfield 145, 3) := by decide +kernel
theorem d_S_read_133 : decode b_S_read 133 = .ok (.iconst 1, 1) := by decide +kernel
theorem d_S_read_134 : decode b_S_read 134 = .ok (.isub, 1) := by decide +kernel
theorem d_S_read_135 : decode b_S_read 135 = .ok (.putfield 26, 3) := by decide +kernel
theorem d_S_read_138 : decode b_S_read 138 = .ok (.aload_n 0, 1) := by decide +kernel
theorem d_S_read_139 : decode b_S_read 139 = .ok (.getfield 96, 3) := by decide +kernel
theorem d_S_read_142 : decode b_S_read 142 = .ok (.aload_n 0, 1) := by decide +kernel
theorem d_S_read_143 : decode b_S_read 143 = .ok (.getfield 46, 3) := by decide +kernel
theorem d_S_read_146 : decode b_S_read 146 = .ok (.getfield 148, 3) := by decide +kernel
theorem d_S_read_149 : decode b_S_read 149 = .ok (.aload_n 0, 1) := by decide +kernel
theorem d_S_read_150 : decode b_S_read 150 = .ok (.getfield 26, 3) := by decide +kernel
theorem d_S_read_153 : decode b_S_read 153 = .ok (.iaload, 1) := by decide +kernel
theorem d_S_read_154 : decode b_S_read 154 = .ok (.aload_n 0, 1) := by decide +kernel
theorem d_S_read_155 : decode b_S_read 155 = .ok (.getfield 46, 3) := by decide +kernel
theorem d_S_read_158 : decode b_S_read 158 = .ok (.getfield 151, 3) := by decide +kernel
theorem d_S_read_161 : decode b_S_read 161 = .ok (.aload_n 0, 1) := by decide +kernel
theorem d_S_read_162 : decode b_S_read 162 = .ok (.getfield 26, 3) := by decide +kernel
theorem d_S_read_165 : decode b_S_read 165 = .ok (.iaload, 1) := by decide +kernel
theorem d_S_read_166 : decode b_S_read 166 = .ok (.invokevirtual 154, 3) := by decide +kernel
theorem d_S_read_169 : decode b_S_read 169 = .ok (.aload_n 0, 1) := by decide +kernel
theorem d_S_read_170 : decode b_S_read 170 = .ok (.getfield 9, 3) := by decide +kernel
theorem d_S_read_173 : decode b_S_read 173 = .ok (.iconst 0, 1) := by decide +kernel
theorem d_S_read_174 : decode b_S_read 174 = .ok (.invokestatic 158, 3) := by decide +kernel
theorem d_S_read_177 : decode b_S_read 177 = .ok (.aload_n 0, 1) := by decide +kernel
theorem d_S_read_178 : decode b_S_read 178 = .ok (.getfield 26, 3) := by decide +kernel
theorem d_S_read_181 : decode b_S_read 181 = .ok (.ifCond .ge 7, 3) := by decide +kernel
theorem d_S_read_184 : decode b_S_read 184 = .ok (.iconst (-1), 1) := by decide +kernel
theorem d_S_read_185 : decode b_S_read 185 = .ok (.goto 10, 3) := by decide +kernel
theorem d_S_read_188 : decode b_S_read 188 = .ok (.aload_n 0, 1) := by decide +kernel
theorem d_S_read_189 : decode b_S_read 189 = .ok (.getfield 69, 3) := by decide +kernel
theorem d_S_read_192 : decode b_S_read 192 = .ok (.getfield 164, 3) := by decide +kernel
theorem d_S_read_195 : decode b_S_read 195 = .ok (.ireturn, 1) := by decide +kernel
set_option maxHeartbeats 4000000 in
set_option maxRecDepth 100000 in
theorem c_Tk_add (l : Launch) (D : va_G) (cI cB cJ cZ : ClassId) (sz : Nat) (tk tx wd t1 t2 t3 : Nat) (kn pn im : Nat → Int32) (z : Nat) (y2 y3 y4 ua ub uc : Int32) (hz : z < 65537) : Met l y_Tk_add (Cond.code y_Tk_add b_Tk_add 4 none :: gG) { frames := 0, cells := 0, slots := 0, locals := 0 } (va_Pc [.ref tk, .int ua, .int ub, .int uc] (ct_P D (tyL cI cB cJ cZ) [(tk, .inr (10, [.ref tx, .ref wd, .ref t1, .ref t2, .ref t3, .int (nI z), .int y2, .int y3, .int y4])), (t1, .inl (cI, 65537, .inl kn)), (t2, .inl (cI, 65537, .inl pn)), (t3, .inl (cI, 65537, .inl im))] sz)) (va_Qv (fun _ : Unit => True) (fun _ t => va_P D kl [(tk, .inr (10, [.ref tx, .ref wd, .ref t1, .ref t2, .ref t3, .int (nI (z + 1)), .int y2, .int y3, .int y4])), (t1, .inl (cI, 65537, .inl (upd kn z ua))), (t2, .inl (cI, 65537, .inl (upd pn z ub))), (t3, .inl (cI, 65537, .inl (upd im z uc)))] t.heap ∧ va_D (va_A [(tk, .inr (10, [.ref tx, .ref wd, .ref t1, .ref t2, .ref t3, .int (nI z), .int y2, .int y3, .int y4])), (t1, .inl (cI, 65537, .inl kn)), (t2, .inl (cI, 65537, .inl pn)), (t3, .inl (cI, 65537, .inl im))] sz) [(tk, .inr (10, [.ref tx, .ref wd, .ref t1, .ref t2, .ref t3, .int (nI (z + 1)), .int y2, .int y3, .int y4])), (t1, .inl (cI, 65537, .inl (upd kn z ua))), (t2, .inl (cI, 65537, .inl (upd pn z ub))), (t3, .inl (cI, 65537, .inl (upd im z uc)))]) (va_A [(tk, .inr (10, [.ref tx, .ref wd, .ref t1, .ref t2, .ref t3, .int (nI z), .int y2, .int y3, .int y4])), (t1, .inl (cI, 65537, .inl kn)), (t2, .inl (cI, 65537, .inl pn)), (t3, .inl (cI, 65537, .inl im))] sz)) 0 0 (va_A [(tk, .inr (10, [.ref tx, .ref wd, .ref t1, .ref t2, .ref t3, .int (nI z), .int y2, .int y3, .int y4])), (t1, .inl (cI, 65537, .inl kn)), (t2, .inl (cI, 65537, .inl pn)), (t3, .inl (cI, 65537, .inl im))] sz) := by
  refine Met.ofW (cc := b_Tk_add) (maxL := 4) (ret := none) (by decide) rfl ?_
  intro p e s m args below meth c s₁ B hml hv
  obtain ⟨rfl, hsz, hP, hK, hD0⟩ := hv
  have hx := B.exec
  have hb := B.bytes
  have hr := B.returns
  have hts := atoms_spec (ws := Cond.code y_Tk_add b_Tk_add 4 none :: gG) B.pre
  have hG : ∀ w9 ∈ gG, w9.before [.ref tk, .int ua, .int ub, .int uc].toArray s = true := fun w9 h => hts w9 (List.mem_cons_of_mem _ h)
  have hown : s.vm.findClass R_Tk = some m.cls := findClass_of_methodNamed B.named
  have hlocks := B.notSynchronized
  subst hsz
  have hD := hD0.self (sz := s.heap.size)
  generalize hAe : va_A [(tk, .inr (10, [.ref tx, .ref wd, .ref t1, .ref t2, .ref t3, .int (nI z), .int y2, .int y3, .int y4])), (t1, .inl (cI, 65537, .inl kn)), (t2, .inl (cI, 65537, .inl pn)), (t3, .inl (cI, 65537, .inl im))] s.heap.size = A at hD ⊢
  have hA : ∀ q : Nat, s.heap.size ≤ q → A q := fun q h => by rw [← hAe]; exact Or.inr h
  have hS : va_S A s.heap s.heap [] := va_S.rf
  have hl := lv_entry ([.ref tk, .int ua, .int ub, .int uc]) (n := 4) (Nat.le_of_ble_eq_true rfl)
  rw [lg_entry_eq]
  generalize (lg_sl ([.ref tk, .int ua, .int ub, .int uc]) ++ List.replicate (4 - (lg_sl ([.ref tk, .int ua, .int ub, .int uc])).length) Slot.unset).toArray = ls at hl ⊢
  have hl : lv_has ls 4 [(0, .ref tk), (1, .int ua), (2, .int ub), (3, .int uc)] := hl
  refine lv_aload_n hx hb d_Tk_add_0 rfl (lv_at hl 0 rfl) ?_
  refine va_get (D := D) (ci := 10) (v := .ref t1) (C := R_Tk) (T := T_Tk) (N := 9) hx hb hG gi_Tk hown hK hP 0 rfl rfl 2 (by decide) (hG _ fl_Tk_10) (fun _ h9 => h9) rfl d_Tk_add_1 ?_
  refine lv_aload_n hx hb d_Tk_add_4 rfl (lv_at hl 0 rfl) ?_
  refine va_get (D := D) (ci := 10) (v := .int (nI z)) (C := R_Tk) (T := T_Tk) (N := 9) hx hb hG gi_Tk hown hK hP 0 rfl rfl 5 (by decide) (hG _ fl_Tk_38) (fun _ h9 => h9) rfl d_Tk_add_5 ?_
  refine lv_iload_n hx hb d_Tk_add_8 rfl (lv_at hl 1 rfl) ?_
  refine va_iast (D := D) hx hb hK hP hD hS 1 0 rfl rfl (vp_in_nI (by omega) (by decide)) d_Tk_add_9 (fun H locs hP hD hS => ?_)
  have hP : va_P D kl [(tk, .inr (10, [.ref tx, .ref wd, .ref t1, .ref t2, .ref t3, .int (nI z), .int y2, .int y3, .int y4])), (t1, .inl (cI, 65537, .inl (upd kn (nI z).toNatClampNeg ua))), (t2, .inl (cI, 65537, .inl pn)), (t3, .inl (cI, 65537, .inl im))] H := hP
  have hD : va_D A [(tk, .inr (10, [.ref tx, .ref wd, .ref t1, .ref t2, .ref t3, .int (nI z), .int y2, .int y3, .int y4])), (t1, .inl (cI, 65537, .inl (upd kn (nI z).toNatClampNeg ua))), (t2, .inl (cI, 65537, .inl pn)), (t3, .inl (cI, 65537, .inl im))] := hD
  refine lv_aload_n hx hb d_Tk_add_10 rfl (lv_at hl 0 rfl) ?_
  refine va_get (D := D) (ci := 10) (v := .ref t2) (C := R_Tk) (T := T_Tk) (N := 9) hx hb hG gi_Tk hown hK hP 0 rfl rfl 3 (by decide) (hG _ fl_Tk_16) (fun _ h9 => h9) rfl d_Tk_add_11 ?_
  refine lv_aload_n hx hb d_Tk_add_14 rfl (lv_at hl 0 rfl) ?_
  refine va_get (D := D) (ci := 10) (v := .int (nI z)) (C := R_Tk) (T := T_Tk) (N := 9) hx hb hG gi_Tk hown hK hP 0 rfl rfl 5 (by decide) (hG _ fl_Tk_38) (fun _ h9 => h9) rfl d_Tk_add_15 ?_
  refine lv_iload_n hx hb d_Tk_add_18 rfl (lv_at hl 2 rfl) ?_
  refine va_iast (D := D) hx hb hK hP hD hS 2 0 rfl rfl (vp_in_nI (by omega) (by decide)) d_Tk_add_19 (fun H locs hP hD hS => ?_)
  have hP : va_P D kl [(tk, .inr (10, [.ref tx, .ref wd, .ref t1, .ref t2, .ref t3, .int (nI z), .int y2, .int y3, .int y4])), (t1, .inl (cI, 65537, .inl (upd kn (nI z).toNatClampNeg ua))), (t2, .inl (cI, 65537, .inl (upd pn (nI z).toNatClampNeg ub))), (t3, .inl (cI, 65537, .inl im))] H := hP
  have hD : va_D A [(tk, .inr (10, [.ref tx, .ref wd, .ref t1, .ref t2, .ref t3, .int (nI z), .int y2, .int y3, .int y4])), (t1, .inl (cI, 65537, .inl (upd kn (nI z).toNatClampNeg ua))), (t2, .inl (cI, 65537, .inl (upd pn (nI z).toNatClampNeg ub))), (t3, .inl (cI, 65537, .inl im))] := hD
  refine lv_aload_n hx hb d_Tk_add_20 rfl (lv_at hl 0 rfl) ?_
  refine va_get (D := D) (ci := 10) (v := .ref t3) (C := R_Tk) (T := T_Tk) (N := 9) hx hb hG gi_Tk hown hK hP 0 rfl rfl 4 (by decide) (hG _ fl_Tk_19) (fun _ h9 => h9) rfl d_Tk_add_21 ?_
  refine lv_aload_n hx hb d_Tk_add_24 rfl (lv_at hl 0 rfl) ?_
  refine va_get (D := D) (ci := 10) (v := .int (nI z)) (C := R_Tk) (T := T_Tk) (N := 9) hx hb hG gi_Tk hown hK hP 0 rfl rfl 5 (by decide) (hG _ fl_Tk_38) (fun _ h9 => h9) rfl d_Tk_add_25 ?_
  refine lv_iload_n hx hb d_Tk_add_28 rfl (lv_at hl 3 rfl) ?_
  refine va_iast (D := D) hx hb hK hP hD hS 3 0 rfl rfl (vp_in_nI (by omega) (by decide)) d_Tk_add_29 (fun H locs hP hD hS => ?_)
  have hP : va_P D kl [(tk, .inr (10, [.ref tx, .ref wd, .ref t1, .ref t2, .ref t3, .int (nI z), .int y2, .int y3, .int y4])), (t1, .inl (cI, 65537, .inl (upd kn (nI z).toNatClampNeg ua))), (t2, .inl (cI, 65537, .inl (upd pn (nI z).toNatClampNeg ub))), (t3, .inl (cI, 65537, .inl (upd im (nI z).toNatClampNeg uc)))] H := hP
  have hD : va_D A [(tk, .inr (10, [.ref tx, .ref wd, .ref t1, .ref t2, .ref t3, .int (nI z), .int y2, .int y3, .int y4])), (t1, .inl (cI, 65537, .inl (upd kn (nI z).toNatClampNeg ua))), (t2, .inl (cI, 65537, .inl (upd pn (nI z).toNatClampNeg ub))), (t3, .inl (cI, 65537, .inl (upd im (nI z).toNatClampNeg uc)))] := hD
  refine lv_aload_n hx hb d_Tk_add_30 rfl (lv_at hl 0 rfl) ?_
  refine lv_dup hx hb d_Tk_add_31 rfl ?_
  refine va_get (D := D) (ci := 10) (v := .int (nI z)) (C := R_Tk) (T := T_Tk) (N := 9) hx hb hG gi_Tk hown hK hP 0 rfl rfl 5 (by decide) (hG _ fl_Tk_38) (fun _ h9 => h9) rfl d_Tk_add_32 ?_
  refine lv_iconst (v := 1) hx hb d_Tk_add_35 (by decide) ?_
  refine lv_iadd hx hb d_Tk_add_36 ?_
  refine va_put (D := D) (ci := 10) (v := .int ((nI z) + 1)) (ty := .int) (C := R_Tk) (T := T_Tk) (N := 9) hx hb hG gi_Tk ty_Tk to_Tk nm_Tk hown hK hP hD hS 0 rfl rfl 5 (by decide) (hG _ fl_Tk_38) (fun _ h9 => h9) rfl (by decide +kernel) rfl rfl (Nat.le_of_ble_eq_true rfl) d_Tk_add_37 (fun H locs hP hD hS => ?_)
  have hP : va_P D kl [(tk, .inr (10, [.ref tx, .ref wd, .ref t1, .ref t2, .ref t3, .int ((nI z) + 1), .int y2, .int y3, .int y4])), (t1, .inl (cI, 65537, .inl (upd kn (nI z).toNatClampNeg ua))), (t2, .inl (cI, 65537, .inl (upd pn (nI z).toNatClampNeg ub))), (t3, .inl (cI, 65537, .inl (upd im (nI z).toNatClampNeg uc)))] H := hP
  have hD : va_D A [(tk, .inr (10, [.ref tx, .ref wd, .ref t1, .ref t2, .ref t3, .int ((nI z) + 1), .int y2, .int y3, .int y4])), (t1, .inl (cI, 65537, .inl (upd kn (nI z).toNatClampNeg ua))), (t2, .inl (cI, 65537, .inl (upd pn (nI z).toNatClampNeg ub))), (t3, .inl (cI, 65537, .inl (upd im (nI z).toNatClampNeg uc)))] := hD
  rw [nI_clamp (show z < 2 ^ 31 by omega), show nI z + 1 = nI (z + 1) from (nI_succ z).symm] at hP hD
  exact W.vret hx hb hr (fun t ht hW => ⟨⟨(), rfl, trivial, by rw [ht]; exact hP, hD⟩, hS.F ht⟩) hS.2.2 d_Tk_add_40

set_option maxHeartbeats 4000000 in
set_option maxRecDepth 100000 in
theorem c_Tk_kindNow (l : Launch) (D : va_G) (cI cB cJ cZ : ClassId) (sz : Nat) (tk tx wd t1 t2 t3 : Nat) (kn pn im : Nat → Int32) (j : Nat) (y1 y3 y4 : Int32) (hj : j < 65537) : Met l y_Tk_kindNow (Cond.code y_Tk_kindNow b_Tk_kindNow 1 (some .int) :: gG) { frames := 0, cells := 0, slots := 0, locals := 0 } (va_Pc [.ref tk] (ct_P D (tyL cI cB cJ cZ) [(tk, .inr (10, [.ref tx, .ref wd, .ref t1, .ref t2, .ref t3, .int y1, .int (nI j), .int y3, .int y4])), (t1, .inl (cI, 65537, .inl kn)), (t2, .inl (cI, 65537, .inl pn)), (t3, .inl (cI, 65537, .inl im))] sz)) (QcRead (kn j)) 0 0 (fun _ => False) := by
  refine Met.ofW (cc := b_Tk_kindNow) (maxL := 1) (ret := (some .int)) (by decide) rfl ?_
  intro p e s m args below meth c s₁ B hml hv
  obtain ⟨rfl, hsz, hP, hK, hD0⟩ := hv
  have hx := B.exec
  have hb := B.bytes
  have hr := B.returns
  have hts := atoms_spec (ws := Cond.code y_Tk_kindNow b_Tk_kindNow 1 (some .int) :: gG) B.pre
  have hG : ∀ w9 ∈ gG, w9.before [.ref tk].toArray s = true := fun w9 h => hts w9 (List.mem_cons_of_mem _ h)
  have hown : s.vm.findClass R_Tk = some m.cls := findClass_of_methodNamed B.named
  have hlocks := B.notSynchronized
  subst hsz
  have hD := hD0.self (sz := s.heap.size)
  generalize hAe : va_A [(tk, .inr (10, [.ref tx, .ref wd, .ref t1, .ref t2, .ref t3, .int y1, .int (nI j), .int y3, .int y4])), (t1, .inl (cI, 65537, .inl kn)), (t2, .inl (cI, 65537, .inl pn)), (t3, .inl (cI, 65537, .inl im))] s.heap.size = A at hD
  have hA : ∀ q : Nat, s.heap.size ≤ q → A q := fun q h => by rw [← hAe]; exact Or.inr h
  have hS : va_S A s.heap s.heap [] := va_S.rf
  have hl := lv_entry ([.ref tk]) (n := 1) (Nat.le_of_ble_eq_true rfl)
  rw [lg_entry_eq]
  generalize (lg_sl ([.ref tk]) ++ List.replicate (1 - (lg_sl ([.ref tk])).length) Slot.unset).toArray = ls at hl ⊢
  have hl : lv_has ls 1 [(0, .ref tk)] := hl
  refine lv_aload_n hx hb d_Tk_kindNow_0 rfl (lv_at hl 0 rfl) ?_
  refine va_get (D := D) (ci := 10) (v := .ref t1) (C := R_Tk) (T := T_Tk) (N := 9) hx hb hG gi_Tk hown hK hP 0 rfl rfl 2 (by decide) (hG _ fl_Tk_10) (fun _ h9 => h9) rfl d_Tk_kindNow_1 ?_
  refine lv_aload_n hx hb d_Tk_kindNow_4 rfl (lv_at hl 0 rfl) ?_
  refine va_get (D := D) (ci := 10) (v := .int (nI j)) (C := R_Tk) (T := T_Tk) (N := 9) hx hb hG gi_Tk hown hK hP 0 rfl rfl 6 (by decide) (hG _ fl_Tk_42) (fun _ h9 => h9) rfl d_Tk_kindNow_5 ?_
  refine va_iald (D := D) hx hb hK hP 1 0 rfl rfl (vp_in_nI (by omega) (by decide)) d_Tk_kindNow_8 ?_
  refine lv_topi (fun v1 ev1 => ?_)
  rw [nI_clamp (by omega)] at ev1
  subst ev1
  exact W.iret (v := (kn j)) hx hb hr (fun t ht hW => ⟨rfl, ht⟩) (fun q h => by cases h) d_Tk_kindNow_9

set_option maxHeartbeats 4000000 in
set_option maxRecDepth 100000 in
theorem c_Tk_fail0 (l : Launch) (D : va_G) (cI cB cJ cZ : ClassId) (sz : Nat) (tk tx wd t1 t2 t3 : Nat) (kn pn im : Nat → Int32) (j : Nat) (y1 y4 q : Int32) (hj : j < 65537) : Met l y_Tk_fail (Cond.code y_Tk_fail b_Tk_fail 2 (some .boolean) :: gG) { frames := 0, cells := 0, slots := 0, locals := 0 } (va_Pc [.ref tk, .int q] (ct_P D (tyL cI cB cJ cZ) [(tk, .inr (10, [.ref tx, .ref wd, .ref t1, .ref t2, .ref t3, .int y1, .int (nI j), .int 0, .int y4])), (t1, .inl (cI, 65537, .inl kn)), (t2, .inl (cI, 65537, .inl pn)), (t3, .inl (cI, 65537, .inl im))] sz)) (va_Qi (fun (r : Int32) (_ : Unit) => r = 0) (fun _ t => va_P D kl [(tk, .inr (10, [.ref tx, .ref wd, .ref t1, .ref t2, .ref t3, .int y1, .int (nI j), .int q, .int (pn j)])), (t1, .inl (cI, 65537, .inl kn)), (t2, .inl (cI, 65537, .inl pn)), (t3, .inl (cI, 65537, .inl im))] t.heap ∧ va_D (va_A [(tk, .inr (10, [.ref tx, .ref wd, .ref t1, .ref t2, .ref t3, .int y1, .int (nI j), .int 0, .int y4])), (t1, .inl (cI, 65537, .inl kn)), (t2, .inl (cI, 65537, .inl pn)), (t3, .inl (cI, 65537, .inl im))] sz) [(tk, .inr (10, [.ref tx, .ref wd, .ref t1, .ref t2, .ref t3, .int y1, .int (nI j), .int q, .int (pn j)])), (t1, .inl (cI, 65537, .inl kn)), (t2, .inl (cI, 65537, .inl pn)), (t3, .inl (cI, 65537, .inl im))]) (va_A [(tk, .inr (10, [.ref tx, .ref wd, .ref t1, .ref t2, .ref t3, .int y1, .int (nI j), .int 0, .int y4])), (t1, .inl (cI, 65537, .inl kn)), (t2, .inl (cI, 65537, .inl pn)), (t3, .inl (cI, 65537, .inl im))] sz)) 0 0 (va_A [(tk, .inr (10, [.ref tx, .ref wd, .ref t1, .ref t2, .ref t3, .int y1, .int (nI j), .int 0, .int y4])), (t1, .inl (cI, 65537, .inl kn)), (t2, .inl (cI, 65537, .inl pn)), (t3, .inl (cI, 65537, .inl im))] sz) := by
  refine Met.ofW (cc := b_Tk_fail) (maxL := 2) (ret := (some .boolean)) (by decide) rfl ?_
  intro p e s m args below meth c s₁ B hml hv
  obtain ⟨rfl, hsz, hP, hK, hD0⟩ := hv
  have hx := B.exec
  have hb := B.bytes
  have hr := B.returns
  have hts := atoms_spec (ws := Cond.code y_Tk_fail b_Tk_fail 2 (some .boolean) :: gG) B.pre
  have hG : ∀ w9 ∈ gG, w9.before [.ref tk, .int q].toArray s = true := fun w9 h => hts w9 (List.mem_cons_of_mem _ h)
  have hown : s.vm.findClass R_Tk = some m.cls := findClass_of_methodNamed B.named
  have hlocks := B.notSynchronized
  subst hsz
  have hD := hD0.self (sz := s.heap.size)
  generalize hAe : va_A [(tk, .inr (10, [.ref tx, .ref wd, .ref t1, .ref t2, .ref t3, .int y1, .int (nI j), .int 0, .int y4])), (t1, .inl (cI, 65537, .inl kn)), (t2, .inl (cI, 65537, .inl pn)), (t3, .inl (cI, 65537, .inl im))] s.heap.size = A at hD ⊢
  have hA : ∀ q : Nat, s.heap.size ≤ q → A q := fun q h => by rw [← hAe]; exact Or.inr h
  have hS : va_S A s.heap s.heap [] := va_S.rf
  have hl := lv_entry ([.ref tk, .int q]) (n := 2) (Nat.le_of_ble_eq_true rfl)
  rw [lg_entry_eq]
  generalize (lg_sl ([.ref tk, .int q]) ++ List.replicate (2 - (lg_sl ([.ref tk, .int q])).length) Slot.unset).toArray = ls at hl ⊢
  have hl : lv_has ls 2 [(0, .ref tk), (1, .int q)] := hl
  refine lv_aload_n hx hb d_Tk_fail_0 rfl (lv_at hl 0 rfl) ?_
  refine va_get (D := D) (ci := 10) (v := .int 0) (C := R_Tk) (T := T_Tk) (N := 9) hx hb hG gi_Tk hown hK hP 0 rfl rfl 7 (by decide) (hG _ fl_Tk_45) (fun _ h9 => h9) rfl d_Tk_fail_1 ?_
  refine lv_if_ne (tgt := 25) hx hb d_Tk_fail_4 (by decide) (fun zz1 => absurd zz1 (fun z => z rfl)) (fun _ => ?_)
  refine lv_aload_n hx hb d_Tk_fail_7 rfl (lv_at hl 0 rfl) ?_
  refine lv_iload_n hx hb d_Tk_fail_8 rfl (lv_at hl 1 rfl) ?_
  refine va_put (D := D) (ci := 10) (v := .int q) (ty := .int) (C := R_Tk) (T := T_Tk) (N := 9) hx hb hG gi_Tk ty_Tk to_Tk nm_Tk hown hK hP hD hS 0 rfl rfl 7 (by decide) (hG _ fl_Tk_45) (fun _ h9 => h9) rfl (by decide +kernel) rfl rfl (Nat.le_of_ble_eq_true rfl) d_Tk_fail_9 (fun H locs hP hD hS => ?_)
  have hP : va_P D kl [(tk, .inr (10, [.ref tx, .ref wd, .ref t1, .ref t2, .ref t3, .int y1, .int (nI j), .int q, .int y4])), (t1, .inl (cI, 65537, .inl kn)), (t2, .inl (cI, 65537, .inl pn)), (t3, .inl (cI, 65537, .inl im))] H := hP
  have hD : va_D A [(tk, .inr (10, [.ref tx, .ref wd, .ref t1, .ref t2, .ref t3, .int y1, .int (nI j), .int q, .int y4])), (t1, .inl (cI, 65537, .inl kn)), (t2, .inl (cI, 65537, .inl pn)), (t3, .inl (cI, 65537, .inl im))] := hD
  refine lv_aload_n hx hb d_Tk_fail_12 rfl (lv_at hl 0 rfl) ?_
  refine lv_aload_n hx hb d_Tk_fail_13 rfl (lv_at hl 0 rfl) ?_
  refine va_get (D := D) (ci := 10) (v := .ref t2) (C := R_Tk) (T := T_Tk) (N := 9) hx hb hG gi_Tk hown hK hP 0 rfl rfl 3 (by decide) (hG _ fl_Tk_16) (fun _ h9 => h9) rfl d_Tk_fail_14 ?_
  refine lv_aload_n hx hb d_Tk_fail_17 rfl (lv_at hl 0 rfl) ?_
  refine va_get (D := D) (ci := 10) (v := .int (nI j)) (C := R_Tk) (T := T_Tk) (N := 9) hx hb hG gi_Tk hown hK hP 0 rfl rfl 6 (by decide) (hG _ fl_Tk_42) (fun _ h9 => h9) rfl d_Tk_fail_18 ?_
  refine va_iald (D := D) hx hb hK hP 2 0 rfl rfl (vp_in_nI (by omega) (by decide)) d_Tk_fail_21 ?_
  refine lv_topi (fun v2 ev2 => ?_)
  rw [nI_clamp (by omega)] at ev2
  subst ev2
  refine va_put (D := D) (ci := 10) (v := .int (pn j)) (ty := .int) (C := R_Tk) (T := T_Tk) (N := 9) hx hb hG gi_Tk ty_Tk to_Tk nm_Tk hown hK hP hD hS 0 rfl rfl 8 (by decide) (hG _ fl_Tk_48) (fun _ h9 => h9) rfl (by decide +kernel) rfl rfl (Nat.le_of_ble_eq_true rfl) d_Tk_fail_22 (fun H locs hP hD hS => ?_)
  have hP : va_P D kl [(tk, .inr (10, [.ref tx, .ref wd, .ref t1, .ref t2, .ref t3, .int y1, .int (nI j), .int q, .int (pn j)])), (t1, .inl (cI, 65537, .inl kn)), (t2, .inl (cI, 65537, .inl pn)), (t3, .inl (cI, 65537, .inl im))] H := hP
  have hD : va_D A [(tk, .inr (10, [.ref tx, .ref wd, .ref t1, .ref t2, .ref t3, .int y1, .int (nI j), .int q, .int (pn j)])), (t1, .inl (cI, 65537, .inl kn)), (t2, .inl (cI, 65537, .inl pn)), (t3, .inl (cI, 65537, .inl im))] := hD
  refine lv_iconst (v := 0) hx hb d_Tk_fail_25 (by decide) ?_
  exact W.zret (v := 0) hx hb hr (by first | rfl | decide) (fun t ht hW => ⟨⟨0, (), rfl, rfl, by rw [ht]; exact hP, hD⟩, hS.F ht⟩) hS.2.2 d_Tk_fail_26

set_option maxHeartbeats 4000000 in
set_option maxRecDepth 100000 in
theorem c_Tk_expect0 (l : Launch) (D : va_G) (cI cB cJ cZ : ClassId) (sz : Nat) (tk tx wd t1 t2 t3 : Nat) (kn pn im : Nat → Int32) (j : Nat) (y1 y4 q : Int32) (hj : j < 65537) (hq : ¬ kn j = q) : Met l y_Tk_expect (Cond.code y_Tk_expect b_Tk_expect 2 (some .boolean) :: gG) { frames := 1, cells := 0, slots := 0, locals := 25 } (va_Pc [.ref tk, .int q] (ct_P D (tyL cI cB cJ cZ) [(tk, .inr (10, [.ref tx, .ref wd, .ref t1, .ref t2, .ref t3, .int y1, .int (nI j), .int 0, .int y4])), (t1, .inl (cI, 65537, .inl kn)), (t2, .inl (cI, 65537, .inl pn)), (t3, .inl (cI, 65537, .inl im))] sz)) (va_Qi (fun (r : Int32) (_ : Unit) => r = 0) (fun _ t => va_P D kl [(tk, .inr (10, [.ref tx, .ref wd, .ref t1, .ref t2, .ref t3, .int y1, .int (nI j), .int 1, .int (pn j)])), (t1, .inl (cI, 65537, .inl kn)), (t2, .inl (cI, 65537, .inl pn)), (t3, .inl (cI, 65537, .inl im))] t.heap ∧ va_D (va_A [(tk, .inr (10, [.ref tx, .ref wd, .ref t1, .ref t2, .ref t3, .int y1, .int (nI j), .int 0, .int y4])), (t1, .inl (cI, 65537, .inl kn)), (t2, .inl (cI, 65537, .inl pn)), (t3, .inl (cI, 65537, .inl im))] sz) [(tk, .inr (10, [.ref tx, .ref wd, .ref t1, .ref t2, .ref t3, .int y1, .int (nI j), .int 1, .int (pn j)])), (t1, .inl (cI, 65537, .inl kn)), (t2, .inl (cI, 65537, .inl pn)), (t3, .inl (cI, 65537, .inl im))]) (va_A [(tk, .inr (10, [.ref tx, .ref wd, .ref t1, .ref t2, .ref t3, .int y1, .int (nI j), .int 0, .int y4])), (t1, .inl (cI, 65537, .inl kn)), (t2, .inl (cI, 65537, .inl pn)), (t3, .inl (cI, 65537, .inl im))] sz)) 0 0 (va_A [(tk, .inr (10, [.ref tx, .ref wd, .ref t1, .ref t2, .ref t3, .int y1, .int (nI j), .int 0, .int y4])), (t1, .inl (cI, 65537, .inl kn)), (t2, .inl (cI, 65537, .inl pn)), (t3, .inl (cI, 65537, .inl im))] sz) := by
  refine Met.ofW (cc := b_Tk_expect) (maxL := 2) (ret := (some .boolean)) (by decide) rfl ?_
  intro p e s m args below meth c s₁ B hml hv
  obtain ⟨rfl, hsz, hP, hK, hD0⟩ := hv
  have hx := B.exec
  have hb := B.bytes
  have hr := B.returns
  have hts := atoms_spec (ws := Cond.code y_Tk_expect b_Tk_expect 2 (some .boolean) :: gG) B.pre
  have hG : ∀ w9 ∈ gG, w9.before [.ref tk, .int q].toArray s = true := fun w9 h => hts w9 (List.mem_cons_of_mem _ h)
  have hown : s.vm.findClass R_Tk = some m.cls := findClass_of_methodNamed B.named
  have hlocks := B.notSynchronized
  subst hsz
  have hD := hD0.self (sz := s.heap.size)
  generalize hAe : va_A [(tk, .inr (10, [.ref tx, .ref wd, .ref t1, .ref t2, .ref t3, .int y1, .int (nI j), .int 0, .int y4])), (t1, .inl (cI, 65537, .inl kn)), (t2, .inl (cI, 65537, .inl pn)), (t3, .inl (cI, 65537, .inl im))] s.heap.size = A at hD ⊢
  have hA : ∀ q : Nat, s.heap.size ≤ q → A q := fun q h => by rw [← hAe]; exact Or.inr h
  have hS : va_S A s.heap s.heap [] := va_S.rf
  have hl := lv_entry ([.ref tk, .int q]) (n := 2) (Nat.le_of_ble_eq_true rfl)
  rw [lg_entry_eq]
  generalize (lg_sl ([.ref tk, .int q]) ++ List.replicate (2 - (lg_sl ([.ref tk, .int q])).length) Slot.unset).toArray = ls at hl ⊢
  have hl : lv_has ls 2 [(0, .ref tk), (1, .int q)] := hl
  refine lv_aload_n hx hb d_Tk_expect_0 rfl (lv_at hl 0 rfl) ?_
  refine va_get (D := D) (ci := 10) (v := .ref t1) (C := R_Tk) (T := T_Tk) (N := 9) hx hb hG gi_Tk hown hK hP 0 rfl rfl 2 (by decide) (hG _ fl_Tk_10) (fun _ h9 => h9) rfl d_Tk_expect_1 ?_
  refine lv_aload_n hx hb d_Tk_expect_4 rfl (lv_at hl 0 rfl) ?_
  refine va_get (D := D) (ci := 10) (v := .int (nI j)) (C := R_Tk) (T := T_Tk) (N := 9) hx hb hG gi_Tk hown hK hP 0 rfl rfl 6 (by decide) (hG _ fl_Tk_42) (fun _ h9 => h9) rfl d_Tk_expect_5 ?_
  refine va_iald (D := D) hx hb hK hP 1 0 rfl rfl (vp_in_nI (by omega) (by decide)) d_Tk_expect_8 ?_
  refine lv_topi (fun v1 ev1 => ?_)
  rw [nI_clamp (by omega)] at ev1
  subst ev1
  refine lv_iload_n hx hb d_Tk_expect_9 rfl (lv_at hl 1 rfl) ?_
  refine lv_icmp_eq (tgt := 19) hx hb d_Tk_expect_10 (by decide) (fun zz2 => absurd zz2 hq) (fun _ => ?_)
  refine lv_aload_n hx hb d_Tk_expect_13 rfl (lv_at hl 0 rfl) ?_
  refine lv_iconst (v := 1) hx hb d_Tk_expect_14 (by decide) ?_
  have hPc := hP.sub (ws' := [(tk, .inr (10, [.ref tx, .ref wd, .ref t1, .ref t2, .ref t3, .int y1, .int (nI j), .int 0, .int y4])), (t1, .inl (cI, 65537, .inl kn)), (t2, .inl (cI, 65537, .inl pn)), (t3, .inl (cI, 65537, .inl im))]) [0, 1, 2, 3] rfl
  have hDc := hD.sub (ws' := [(tk, .inr (10, [.ref tx, .ref wd, .ref t1, .ref t2, .ref t3, .int y1, .int (nI j), .int 0, .int y4])), (t1, .inl (cI, 65537, .inl kn)), (t2, .inl (cI, 65537, .inl pn)), (t3, .inl (cI, 65537, .inl im))]) [0, 1, 2, 3] (by decide) rfl
  have hFc := va_free (wc := [(tk, .inr (10, [.ref tx, .ref wd, .ref t1, .ref t2, .ref t3, .int y1, .int (nI j), .int 0, .int y4])), (t1, .inl (cI, 65537, .inl kn)), (t2, .inl (cI, 65537, .inl pn)), (t3, .inl (cI, 65537, .inl im))]) hD hS hA [0, 1, 2, 3] rfl
  refine va_calli (va_runV (As := [.int 1]) (rest := []) ⟨hx, hb, hml, hown, hG⟩ (c_Tk_fail0 l D cI cB cJ cZ s.heap.size tk tx wd t1 t2 t3 kn pn im j y1 y4 1 hj) (gcV 1 gG_good hG ml_Tk_59 im_Tk_fail se_Tk_fail in_Tk co_Tk_fail rfl rfl (by decide +kernel) ⟨(Nat.le_of_ble_eq_true rfl), (Nat.le_of_ble_eq_true rfl)⟩) (ct_preV hPc hK hDc (ci := 10) (q0 := 0) rfl rfl) rfl rfl hl.1 rfl (lv_room (Nat.le_of_ble_eq_true rfl)) d_Tk_expect_15 ⟨(Nat.le_of_ble_eq_true rfl), (Nat.le_of_ble_eq_true rfl)⟩) hS (fun q _ h => hFc q h) hFc (fun rr _ t H1 locs ht hvm hw hB hz1 hk1 hS => ?_)
  obtain ⟨hP1, hD1⟩ := hB
  rw [ht] at hP1
  obtain ⟨hP, hD⟩ := va_join (wr := []) (w1 := [(tk, .inr (10, [.ref tx, .ref wd, .ref t1, .ref t2, .ref t3, .int y1, .int (nI j), .int 1, .int (pn j)])), (t1, .inl (cI, 65537, .inl kn)), (t2, .inl (cI, 65537, .inl pn)), (t3, .inl (cI, 65537, .inl im))]) hP hD [0, 1, 2, 3] [] rfl rfl (by decide) (by decide) hk1 hFc hP1 hD1
  generalize H1 = H at hP hS ⊢
  have hP : va_P D kl [(tk, .inr (10, [.ref tx, .ref wd, .ref t1, .ref t2, .ref t3, .int y1, .int (nI j), .int 1, .int (pn j)])), (t1, .inl (cI, 65537, .inl kn)), (t2, .inl (cI, 65537, .inl pn)), (t3, .inl (cI, 65537, .inl im))] H := hP
  have hD : va_D A [(tk, .inr (10, [.ref tx, .ref wd, .ref t1, .ref t2, .ref t3, .int y1, .int (nI j), .int 1, .int (pn j)])), (t1, .inl (cI, 65537, .inl kn)), (t2, .inl (cI, 65537, .inl pn)), (t3, .inl (cI, 65537, .inl im))] := hD
  rw [hw]
  exact W.zret (v := 0) hx hb hr (by first | rfl | decide) (fun t ht hW => ⟨⟨0, (), rfl, rfl, by rw [ht]; exact hP, hD⟩, hS.F ht⟩) hS.2.2 d_Tk_expect_18

set_option maxHeartbeats 4000000 in
set_option maxRecDepth 100000 in
theorem c_Nr_readHead0 (l : Launch) (D : va_G) (cI cB cJ cZ : ClassId) (sz : Nat) (rd nd cd er ck : Nat) (tk tx wd t1 t2 t3 : Nat) (kn pn im : Nat → Int32) (j : Nat) (y1 y4 : Int32) (hj : j < 65537) (hq : ¬ kn j = 20) : Met l y_Nr_readHead (Cond.code y_Nr_readHead b_Nr_readHead 1 (some .boolean) :: gG) { frames := 2, cells := 0, slots := 0, locals := 60 } (va_Pc [.ref rd] (ct_P D (tyL cI cB cJ cZ) [(rd, .inr (5, [.ref tk, .ref nd, .ref cd, .ref er, .ref ck])), (tk, .inr (10, [.ref tx, .ref wd, .ref t1, .ref t2, .ref t3, .int y1, .int (nI j), .int 0, .int y4])), (t1, .inl (cI, 65537, .inl kn)), (t2, .inl (cI, 65537, .inl pn)), (t3, .inl (cI, 65537, .inl im))] sz)) (va_Qi (fun (r : Int32) (_ : Unit) => r = 0) (fun _ t => va_P D kl [(rd, .inr (5, [.ref tk, .ref nd, .ref cd, .ref er, .ref ck])), (tk, .inr (10, [.ref tx, .ref wd, .ref t1, .ref t2, .ref t3, .int y1, .int (nI j), .int 1, .int (pn j)])), (t1, .inl (cI, 65537, .inl kn)), (t2, .inl (cI, 65537, .inl pn)), (t3, .inl (cI, 65537, .inl im))] t.heap ∧ va_D (va_A [(rd, .inr (5, [.ref tk, .ref nd, .ref cd, .ref er, .ref ck])), (tk, .inr (10, [.ref tx, .ref wd, .ref t1, .ref t2, .ref t3, .int y1, .int (nI j), .int 0, .int y4])), (t1, .inl (cI, 65537, .inl kn)), (t2, .inl (cI, 65537, .inl pn)), (t3, .inl (cI, 65537, .inl im))] sz) [(rd, .inr (5, [.ref tk, .ref nd, .ref cd, .ref er, .ref ck])), (tk, .inr (10, [.ref tx, .ref wd, .ref t1, .ref t2, .ref t3, .int y1, .int (nI j), .int 1, .int (pn j)])), (t1, .inl (cI, 65537, .inl kn)), (t2, .inl (cI, 65537, .inl pn)), (t3, .inl (cI, 65537, .inl im))]) (va_A [(rd, .inr (5, [.ref tk, .ref nd, .ref cd, .ref er, .ref ck])), (tk, .inr (10, [.ref tx, .ref wd, .ref t1, .ref t2, .ref t3, .int y1, .int (nI j), .int 0, .int y4])), (t1, .inl (cI, 65537, .inl kn)), (t2, .inl (cI, 65537, .inl pn)), (t3, .inl (cI, 65537, .inl im))] sz)) 0 0 (va_A [(rd, .inr (5, [.ref tk, .ref nd, .ref cd, .ref er, .ref ck])), (tk, .inr (10, [.ref tx, .ref wd, .ref t1, .ref t2, .ref t3, .int y1, .int (nI j), .int 0, .int y4])), (t1, .inl (cI, 65537, .inl kn)), (t2, .inl (cI, 65537, .inl pn)), (t3, .inl (cI, 65537, .inl im))] sz) := by
  refine Met.ofW (cc := b_Nr_readHead) (maxL := 1) (ret := (some .boolean)) (by decide) rfl ?_
  intro p e s m args below meth c s₁ B hml hv
  obtain ⟨rfl, hsz, hP, hK, hD0⟩ := hv
  have hx := B.exec
  have hb := B.bytes
  have hr := B.returns
  have hts := atoms_spec (ws := Cond.code y_Nr_readHead b_Nr_readHead 1 (some .boolean) :: gG) B.pre
  have hG : ∀ w9 ∈ gG, w9.before [.ref rd].toArray s = true := fun w9 h => hts w9 (List.mem_cons_of_mem _ h)
  have hown : s.vm.findClass R_Nr = some m.cls := findClass_of_methodNamed B.named
  have hlocks := B.notSynchronized
  subst hsz
  have hD := hD0.self (sz := s.heap.size)
  generalize hAe : va_A [(rd, .inr (5, [.ref tk, .ref nd, .ref cd, .ref er, .ref ck])), (tk, .inr (10, [.ref tx, .ref wd, .ref t1, .ref t2, .ref t3, .int y1, .int (nI j), .int 0, .int y4])), (t1, .inl (cI, 65537, .inl kn)), (t2, .inl (cI, 65537, .inl pn)), (t3, .inl (cI, 65537, .inl im))] s.heap.size = A at hD ⊢
  have hA : ∀ q : Nat, s.heap.size ≤ q → A q := fun q h => by rw [← hAe]; exact Or.inr h
  have hS : va_S A s.heap s.heap [] := va_S.rf
  have hl := lv_entry ([.ref rd]) (n := 1) (Nat.le_of_ble_eq_true rfl)
  rw [lg_entry_eq]
  generalize (lg_sl ([.ref rd]) ++ List.replicate (1 - (lg_sl ([.ref rd])).length) Slot.unset).toArray = ls at hl ⊢
  have hl : lv_has ls 1 [(0, .ref rd)] := hl
  refine lv_aload_n hx hb d_Nr_readHead_0 rfl (lv_at hl 0 rfl) ?_
  refine va_get (D := D) (ci := 5) (v := .ref tk) (C := R_Nr) (T := T_Nr) (N := 5) hx hb hG gi_Nr hown hK hP 0 rfl rfl 0 (by decide) (hG _ fl_Nr_9) (fun _ h9 => h9) rfl d_Nr_readHead_1 ?_
  have hPc := hP.sub (ws' := [(tk, .inr (10, [.ref tx, .ref wd, .ref t1, .ref t2, .ref t3, .int y1, .int (nI j), .int 0, .int y4])), (t1, .inl (cI, 65537, .inl kn)), (t2, .inl (cI, 65537, .inl pn)), (t3, .inl (cI, 65537, .inl im))]) [1, 2, 3, 4] rfl
  have hDc := hD.sub (ws' := [(tk, .inr (10, [.ref tx, .ref wd, .ref t1, .ref t2, .ref t3, .int y1, .int (nI j), .int 0, .int y4])), (t1, .inl (cI, 65537, .inl kn)), (t2, .inl (cI, 65537, .inl pn)), (t3, .inl (cI, 65537, .inl im))]) [1, 2, 3, 4] (by decide) rfl
  refine W.callR (W.runV (As := []) (rest := []) (C := R_Tk) ⟨hx, hb, hml, hown, hG⟩ (c_Tk_kindNow l D cI cB cJ cZ s.heap.size tk tx wd t1 t2 t3 kn pn im j y1 0 y4 hj) (gcV 0 gG_good hG ml_Nr_39 im_Tk_kindNow se_Tk_kindNow in_Tk co_Tk_kindNow rfl rfl (by decide +kernel) ⟨(Nat.le_of_ble_eq_true rfl), (Nat.le_of_ble_eq_true rfl)⟩) (ct_preV hPc hK hDc (ci := 10) (q0 := 0) rfl rfl) rfl rfl hl.1 rfl (lv_room (Nat.le_of_ble_eq_true rfl)) d_Nr_readHead_4 ⟨(Nat.le_of_ble_eq_true rfl), (Nat.le_of_ble_eq_true rfl)⟩) ?_
  refine W.eq (g2 := F0 m 7 ls [.int (kn j)]) rfl ?_
  refine lv_bipush (v := 20) hx hb d_Nr_readHead_7 (by decide) ?_
  refine lv_icmp_ne (tgt := 33) hx hb d_Nr_readHead_9 (by decide) (fun _ => ?_) (fun zz1 => absurd zz1 hq)
  refine lv_aload_n hx hb d_Nr_readHead_33 rfl (lv_at hl 0 rfl) ?_
  refine va_get (D := D) (ci := 5) (v := .ref tk) (C := R_Nr) (T := T_Nr) (N := 5) hx hb hG gi_Nr hown hK hP 0 rfl rfl 0 (by decide) (hG _ fl_Nr_9) (fun _ h9 => h9) rfl d_Nr_readHead_34 ?_
  refine lv_bipush (v := 20) hx hb d_Nr_readHead_37 (by decide) ?_
  have hPc := hP.sub (ws' := [(tk, .inr (10, [.ref tx, .ref wd, .ref t1, .ref t2, .ref t3, .int y1, .int (nI j), .int 0, .int y4])), (t1, .inl (cI, 65537, .inl kn)), (t2, .inl (cI, 65537, .inl pn)), (t3, .inl (cI, 65537, .inl im))]) [1, 2, 3, 4] rfl
  have hDc := hD.sub (ws' := [(tk, .inr (10, [.ref tx, .ref wd, .ref t1, .ref t2, .ref t3, .int y1, .int (nI j), .int 0, .int y4])), (t1, .inl (cI, 65537, .inl kn)), (t2, .inl (cI, 65537, .inl pn)), (t3, .inl (cI, 65537, .inl im))]) [1, 2, 3, 4] (by decide) rfl
  have hFc := va_free (wc := [(tk, .inr (10, [.ref tx, .ref wd, .ref t1, .ref t2, .ref t3, .int y1, .int (nI j), .int 0, .int y4])), (t1, .inl (cI, 65537, .inl kn)), (t2, .inl (cI, 65537, .inl pn)), (t3, .inl (cI, 65537, .inl im))]) hD hS hA [1, 2, 3, 4] rfl
  refine va_calli (va_runV (As := [.int 20]) (rest := []) ⟨hx, hb, hml, hown, hG⟩ (c_Tk_expect0 l D cI cB cJ cZ s.heap.size tk tx wd t1 t2 t3 kn pn im j y1 y4 20 hj hq) (gcV 1 gG_good hG ml_Nr_55 im_Tk_expect se_Tk_expect in_Tk co_Tk_expect rfl rfl (by decide +kernel) ⟨(Nat.le_of_ble_eq_true rfl), (Nat.le_of_ble_eq_true rfl)⟩) (ct_preV hPc hK hDc (ci := 10) (q0 := 0) rfl rfl) rfl rfl hl.1 rfl (lv_room (Nat.le_of_ble_eq_true rfl)) d_Nr_readHead_39 ⟨(Nat.le_of_ble_eq_true rfl), (Nat.le_of_ble_eq_true rfl)⟩) hS (fun q _ h => hFc q h) hFc (fun rr _ t H1 locs ht hvm hw hB hz1 hk1 hS => ?_)
  obtain ⟨hP1, hD1⟩ := hB
  rw [ht] at hP1
  obtain ⟨hP, hD⟩ := va_join (wr := [(rd, .inr (5, [.ref tk, .ref nd, .ref cd, .ref er, .ref ck]))]) (w1 := [(tk, .inr (10, [.ref tx, .ref wd, .ref t1, .ref t2, .ref t3, .int y1, .int (nI j), .int 1, .int (pn j)])), (t1, .inl (cI, 65537, .inl kn)), (t2, .inl (cI, 65537, .inl pn)), (t3, .inl (cI, 65537, .inl im))]) hP hD [1, 2, 3, 4] [0] rfl rfl (by decide) (by decide) hk1 hFc hP1 hD1
  generalize H1 = H at hP hS ⊢
  have hP : va_P D kl [(rd, .inr (5, [.ref tk, .ref nd, .ref cd, .ref er, .ref ck])), (tk, .inr (10, [.ref tx, .ref wd, .ref t1, .ref t2, .ref t3, .int y1, .int (nI j), .int 1, .int (pn j)])), (t1, .inl (cI, 65537, .inl kn)), (t2, .inl (cI, 65537, .inl pn)), (t3, .inl (cI, 65537, .inl im))] H := hP
  have hD : va_D A [(rd, .inr (5, [.ref tk, .ref nd, .ref cd, .ref er, .ref ck])), (tk, .inr (10, [.ref tx, .ref wd, .ref t1, .ref t2, .ref t3, .int y1, .int (nI j), .int 1, .int (pn j)])), (t1, .inl (cI, 65537, .inl kn)), (t2, .inl (cI, 65537, .inl pn)), (t3, .inl (cI, 65537, .inl im))] := hD
  rw [hw]
  refine lv_if_eq (tgt := 94) hx hb d_Nr_readHead_42 (by decide) (fun _ => ?_) (fun zz3 => absurd rfl zz3)
  refine lv_iconst (v := 0) hx hb d_Nr_readHead_94 (by decide) ?_
  exact W.zret (v := 0) hx hb hr (by first | rfl | decide) (fun t ht hW => ⟨⟨0, (), rfl, rfl, by rw [ht]; exact hP, hD⟩, hS.F ht⟩) hS.2.2 d_Nr_readHead_95

set_option maxHeartbeats 4000000 in
set_option maxRecDepth 100000 in
theorem c_Nd_begin (l : Launch) (D : va_G) (cI cB cJ cZ : ClassId) (sz : Nat) (nd d0 d1 d2 d3 d4 d5 d6 d7 d8 d9 d10 d11 d12 d13 : Nat) (n1 n2 : Int32) : Met l y_Nd_begin (Cond.code y_Nd_begin b_Nd_begin 1 none :: gG) { frames := 0, cells := 0, slots := 0, locals := 0 } (va_Pc [.ref nd] (ct_P D (tyL cI cB cJ cZ) [(nd, .inr (6, [.ref d0, .ref d1, .ref d2, .ref d3, .ref d4, .ref d5, .ref d6, .ref d7, .ref d8, .int n1, .ref d9, .ref d10, .ref d11, .ref d12, .ref d13, .int n2]))] sz)) (va_Qv (fun _ : Unit => True) (fun _ t => va_P D kl [(nd, .inr (6, [.ref d0, .ref d1, .ref d2, .ref d3, .ref d4, .ref d5, .ref d6, .ref d7, .ref d8, .int 0, .ref d9, .ref d10, .ref d11, .ref d12, .ref d13, .int 0]))] t.heap ∧ va_D (va_A [(nd, .inr (6, [.ref d0, .ref d1, .ref d2, .ref d3, .ref d4, .ref d5, .ref d6, .ref d7, .ref d8, .int n1, .ref d9, .ref d10, .ref d11, .ref d12, .ref d13, .int n2]))] sz) [(nd, .inr (6, [.ref d0, .ref d1, .ref d2, .ref d3, .ref d4, .ref d5, .ref d6, .ref d7, .ref d8, .int 0, .ref d9, .ref d10, .ref d11, .ref d12, .ref d13, .int 0]))]) (va_A [(nd, .inr (6, [.ref d0, .ref d1, .ref d2, .ref d3, .ref d4, .ref d5, .ref d6, .ref d7, .ref d8, .int n1, .ref d9, .ref d10, .ref d11, .ref d12, .ref d13, .int n2]))] sz)) 0 0 (va_A [(nd, .inr (6, [.ref d0, .ref d1, .ref d2, .ref d3, .ref d4, .ref d5, .ref d6, .ref d7, .ref d8, .int n1, .ref d9, .ref d10, .ref d11, .ref d12, .ref d13, .int n2]))] sz) := by
  refine Met.ofW (cc := b_Nd_begin) (maxL := 1) (ret := none) (by decide) rfl ?_
  intro p e s m args below meth c s₁ B hml hv
  obtain ⟨rfl, hsz, hP, hK, hD0⟩ := hv
  have hx := B.exec
  have hb := B.bytes
  have hr := B.returns
  have hts := atoms_spec (ws := Cond.code y_Nd_begin b_Nd_begin 1 none :: gG) B.pre
  have hG : ∀ w9 ∈ gG, w9.before [.ref nd].toArray s = true := fun w9 h => hts w9 (List.mem_cons_of_mem _ h)
  have hown : s.vm.findClass R_Nd = some m.cls := findClass_of_methodNamed B.named
  have hlocks := B.notSynchronized
  subst hsz
  have hD := hD0.self (sz := s.heap.size)
  generalize hAe : va_A [(nd, .inr (6, [.ref d0, .ref d1, .ref d2, .ref d3, .ref d4, .ref d5, .ref d6, .ref d7, .ref d8, .int n1, .ref d9, .ref d10, .ref d11, .ref d12, .ref d13, .int n2]))] s.heap.size = A at hD ⊢
  have hA : ∀ q : Nat, s.heap.size ≤ q → A q := fun q h => by rw [← hAe]; exact Or.inr h
  have hS : va_S A s.heap s.heap [] := va_S.rf
  have hl := lv_entry ([.ref nd]) (n := 1) (Nat.le_of_ble_eq_true rfl)
  rw [lg_entry_eq]
  generalize (lg_sl ([.ref nd]) ++ List.replicate (1 - (lg_sl ([.ref nd])).length) Slot.unset).toArray = ls at hl ⊢
  have hl : lv_has ls 1 [(0, .ref nd)] := hl
  refine lv_aload_n hx hb d_Nd_begin_0 rfl (lv_at hl 0 rfl) ?_
  refine lv_iconst (v := 0) hx hb d_Nd_begin_1 (by decide) ?_
  refine va_put (D := D) (ci := 6) (v := .int 0) (ty := .int) (C := R_Nd) (T := T_Nd) (N := 16) hx hb hG gi_Nd ty_Nd to_Nd nm_Nd hown hK hP hD hS 0 rfl rfl 9 (by decide) (hG _ fl_Nd_54) (fun _ h9 => h9) rfl (by decide +kernel) rfl rfl (Nat.le_of_ble_eq_true rfl) d_Nd_begin_2 (fun H locs hP hD hS => ?_)
  have hP : va_P D kl [(nd, .inr (6, [.ref d0, .ref d1, .ref d2, .ref d3, .ref d4, .ref d5, .ref d6, .ref d7, .ref d8, .int 0, .ref d9, .ref d10, .ref d11, .ref d12, .ref d13, .int n2]))] H := hP
  have hD : va_D A [(nd, .inr (6, [.ref d0, .ref d1, .ref d2, .ref d3, .ref d4, .ref d5, .ref d6, .ref d7, .ref d8, .int 0, .ref d9, .ref d10, .ref d11, .ref d12, .ref d13, .int n2]))] := hD
  refine lv_aload_n hx hb d_Nd_begin_5 rfl (lv_at hl 0 rfl) ?_
  refine lv_iconst (v := 0) hx hb d_Nd_begin_6 (by decide) ?_
  refine va_put (D := D) (ci := 6) (v := .int 0) (ty := .int) (C := R_Nd) (T := T_Nd) (N := 16) hx hb hG gi_Nd ty_Nd to_Nd nm_Nd hown hK hP hD hS 0 rfl rfl 15 (by decide) (hG _ fl_Nd_58) (fun _ h9 => h9) rfl (by decide +kernel) rfl rfl (Nat.le_of_ble_eq_true rfl) d_Nd_begin_7 (fun H locs hP hD hS => ?_)
  have hP : va_P D kl [(nd, .inr (6, [.ref d0, .ref d1, .ref d2, .ref d3, .ref d4, .ref d5, .ref d6, .ref d7, .ref d8, .int 0, .ref d9, .ref d10, .ref d11, .ref d12, .ref d13, .int 0]))] H := hP
  have hD : va_D A [(nd, .inr (6, [.ref d0, .ref d1, .ref d2, .ref d3, .ref d4, .ref d5, .ref d6, .ref d7, .ref d8, .int 0, .ref d9, .ref d10, .ref d11, .ref d12, .ref d13, .int 0]))] := hD
  exact W.vret hx hb hr (fun t ht hW => ⟨⟨(), rfl, trivial, by rw [ht]; exact hP, hD⟩, hS.F ht⟩) hS.2.2 d_Nd_begin_10

set_option maxHeartbeats 4000000 in
set_option maxRecDepth 100000 in
theorem c_Cd_begin (l : Launch) (D : va_G) (cI cB cJ cZ : ClassId) (sz : Nat) (cd e0_ e1_ e2_ e3_ e4_ e5_ e6_ e7_ e8_ e9_ : Nat) (c1_ c2_ c3_ : Int32) : Met l y_Cd_begin (Cond.code y_Cd_begin b_Cd_begin 1 none :: gG) { frames := 0, cells := 0, slots := 0, locals := 0 } (va_Pc [.ref cd] (ct_P D (tyL cI cB cJ cZ) [(cd, .inr (2, [.ref e0_, .ref e1_, .ref e2_, .ref e3_, .int c1_, .ref e4_, .ref e5_, .ref e6_, .ref e7_, .ref e8_, .int c2_, .ref e9_, .int c3_]))] sz)) (va_Qv (fun _ : Unit => True) (fun _ t => va_P D kl [(cd, .inr (2, [.ref e0_, .ref e1_, .ref e2_, .ref e3_, .int 0, .ref e4_, .ref e5_, .ref e6_, .ref e7_, .ref e8_, .int 0, .ref e9_, .int 0]))] t.heap ∧ va_D (va_A [(cd, .inr (2, [.ref e0_, .ref e1_, .ref e2_, .ref e3_, .int c1_, .ref e4_, .ref e5_, .ref e6_, .ref e7_, .ref e8_, .int c2_, .ref e9_, .int c3_]))] sz) [(cd, .inr (2, [.ref e0_, .ref e1_, .ref e2_, .ref e3_, .int 0, .ref e4_, .ref e5_, .ref e6_, .ref e7_, .ref e8_, .int 0, .ref e9_, .int 0]))]) (va_A [(cd, .inr (2, [.ref e0_, .ref e1_, .ref e2_, .ref e3_, .int c1_, .ref e4_, .ref e5_, .ref e6_, .ref e7_, .ref e8_, .int c2_, .ref e9_, .int c3_]))] sz)) 0 0 (va_A [(cd, .inr (2, [.ref e0_, .ref e1_, .ref e2_, .ref e3_, .int c1_, .ref e4_, .ref e5_, .ref e6_, .ref e7_, .ref e8_, .int c2_, .ref e9_, .int c3_]))] sz) := by
  refine Met.ofW (cc := b_Cd_begin) (maxL := 1) (ret := none) (by decide) rfl ?_
  intro p e s m args below meth c s₁ B hml hv
  obtain ⟨rfl, hsz, hP, hK, hD0⟩ := hv
  have hx := B.exec
  have hb := B.bytes
  have hr := B.returns
  have hts := atoms_spec (ws := Cond.code y_Cd_begin b_Cd_begin 1 none :: gG) B.pre
  have hG : ∀ w9 ∈ gG, w9.before [.ref cd].toArray s = true := fun w9 h => hts w9 (List.mem_cons_of_mem _ h)
  have hown : s.vm.findClass R_Cd = some m.cls := findClass_of_methodNamed B.named
  have hlocks := B.notSynchronized
  subst hsz
  have hD := hD0.self (sz := s.heap.size)
  generalize hAe : va_A [(cd, .inr (2, [.ref e0_, .ref e1_, .ref e2_, .ref e3_, .int c1_, .ref e4_, .ref e5_, .ref e6_, .ref e7_, .ref e8_, .int c2_, .ref e9_, .int c3_]))] s.heap.size = A at hD ⊢
  have hA : ∀ q : Nat, s.heap.size ≤ q → A q := fun q h => by rw [← hAe]; exact Or.inr h
  have hS : va_S A s.heap s.heap [] := va_S.rf
  have hl := lv_entry ([.ref cd]) (n := 1) (Nat.le_of_ble_eq_true rfl)
  rw [lg_entry_eq]
  generalize (lg_sl ([.ref cd]) ++ List.replicate (1 - (lg_sl ([.ref cd])).length) Slot.unset).toArray = ls at hl ⊢
  have hl : lv_has ls 1 [(0, .ref cd)] := hl
  refine lv_aload_n hx hb d_Cd_begin_0 rfl (lv_at hl 0 rfl) ?_
  refine lv_iconst (v := 0) hx hb d_Cd_begin_1 (by decide) ?_
  refine va_put (D := D) (ci := 2) (v := .int 0) (ty := .int) (C := R_Cd) (T := T_Cd) (N := 13) hx hb hG gi_Cd ty_Cd to_Cd nm_Cd hown hK hP hD hS 0 rfl rfl 4 (by decide) (hG _ fl_Cd_44) (fun _ h9 => h9) rfl (by decide +kernel) rfl rfl (Nat.le_of_ble_eq_true rfl) d_Cd_begin_2 (fun H locs hP hD hS => ?_)
  have hP : va_P D kl [(cd, .inr (2, [.ref e0_, .ref e1_, .ref e2_, .ref e3_, .int 0, .ref e4_, .ref e5_, .ref e6_, .ref e7_, .ref e8_, .int c2_, .ref e9_, .int c3_]))] H := hP
  have hD : va_D A [(cd, .inr (2, [.ref e0_, .ref e1_, .ref e2_, .ref e3_, .int 0, .ref e4_, .ref e5_, .ref e6_, .ref e7_, .ref e8_, .int c2_, .ref e9_, .int c3_]))] := hD
  refine lv_aload_n hx hb d_Cd_begin_5 rfl (lv_at hl 0 rfl) ?_
  refine lv_iconst (v := 0) hx hb d_Cd_begin_6 (by decide) ?_
  refine va_put (D := D) (ci := 2) (v := .int 0) (ty := .int) (C := R_Cd) (T := T_Cd) (N := 13) hx hb hG gi_Cd ty_Cd to_Cd nm_Cd hown hK hP hD hS 0 rfl rfl 10 (by decide) (hG _ fl_Cd_48) (fun _ h9 => h9) rfl (by decide +kernel) rfl rfl (Nat.le_of_ble_eq_true rfl) d_Cd_begin_7 (fun H locs hP hD hS => ?_)
  have hP : va_P D kl [(cd, .inr (2, [.ref e0_, .ref e1_, .ref e2_, .ref e3_, .int 0, .ref e4_, .ref e5_, .ref e6_, .ref e7_, .ref e8_, .int 0, .ref e9_, .int c3_]))] H := hP
  have hD : va_D A [(cd, .inr (2, [.ref e0_, .ref e1_, .ref e2_, .ref e3_, .int 0, .ref e4_, .ref e5_, .ref e6_, .ref e7_, .ref e8_, .int 0, .ref e9_, .int c3_]))] := hD
  refine lv_aload_n hx hb d_Cd_begin_10 rfl (lv_at hl 0 rfl) ?_
  refine lv_iconst (v := 0) hx hb d_Cd_begin_11 (by decide) ?_
  refine va_put (D := D) (ci := 2) (v := .int 0) (ty := .int) (C := R_Cd) (T := T_Cd) (N := 13) hx hb hG gi_Cd ty_Cd to_Cd nm_Cd hown hK hP hD hS 0 rfl rfl 12 (by decide) (hG _ fl_Cd_51) (fun _ h9 => h9) rfl (by decide +kernel) rfl rfl (Nat.le_of_ble_eq_true rfl) d_Cd_begin_12 (fun H locs hP hD hS => ?_)
  have hP : va_P D kl [(cd, .inr (2, [.ref e0_, .ref e1_, .ref e2_, .ref e3_, .int 0, .ref e4_, .ref e5_, .ref e6_, .ref e7_, .ref e8_, .int 0, .ref e9_, .int 0]))] H := hP
  have hD : va_D A [(cd, .inr (2, [.ref e0_, .ref e1_, .ref e2_, .ref e3_, .int 0, .ref e4_, .ref e5_, .ref e6_, .ref e7_, .ref e8_, .int 0, .ref e9_, .int 0]))] := hD
  exact W.vret hx hb hr (fun t ht hW => ⟨⟨(), rfl, trivial, by rw [ht]; exact hP, hD⟩, hS.F ht⟩) hS.2.2 d_Cd_begin_15

set_option maxHeartbeats 4000000 in
set_option maxRecDepth 100000 in
theorem c_Tk_scan0 (l : Launch) (D : va_G) (cI cB cJ cZ : ClassId) (sz : Nat) (tk t1 t2 t3 : Nat) (kn pn im : Nat → Int32) (y1 y2 y3 y4 : Int32) (wd tx w1 w2 w3 w4 w5 w6 w7 z : Nat) (F hd fr ln nx vr ow no : Nat → Int32) : Met l y_Tk_scan (Cond.code y_Tk_scan b_Tk_scan 4 none :: gG) { frames := 3, cells := 0, slots := 0, locals := 110 } (va_Pc [.ref tk, .int 0] (ct_P D (tyL cI cB cJ cZ) [(tk, .inr (10, [.ref tx, .ref wd, .ref t1, .ref t2, .ref t3, .int y1, .int y2, .int y3, .int y4])), (t1, .inl (cI, 65537, .inl kn)), (t2, .inl (cI, 65537, .inl pn)), (t3, .inl (cI, 65537, .inl im)), (wd, .inr (11, [.ref tx, .ref w1, .ref w2, .ref w3, .ref w4, .ref w5, .ref w6, .ref w7, .int (nI z)])), (tx, .inl (cB, 65638, .inl F)), (w1, .inl (cI, 512, .inl hd)), (w2, .inl (cI, 5923, .inl fr)), (w3, .inl (cI, 5923, .inl ln)), (w4, .inl (cI, 5923, .inl nx)), (w5, .inl (cI, 5923, .inl vr)), (w6, .inl (cI, 5923, .inl ow)), (w7, .inl (cI, 5923, .inl no))] sz)) (va_Qv (fun _ : Unit => True) (fun _ t => ∃ (z1 : Nat) (hd1 fr1 ln1 nx1 vr1 ow1 no1 : Nat → Int32), WI z1 hd1 fr1 ln1 nx1 ∧ va_P D kl [(wd, .inr (11, [.ref tx, .ref w1, .ref w2, .ref w3, .ref w4, .ref w5, .ref w6, .ref w7, .int (nI z1)])), (tx, .inl (cB, 65638, .inl F)), (w1, .inl (cI, 512, .inl hd1)), (w2, .inl (cI, 5923, .inl fr1)), (w3, .inl (cI, 5923, .inl ln1)), (w4, .inl (cI, 5923, .inl nx1)), (w5, .inl (cI, 5923, .inl vr1)), (w6, .inl (cI, 5923, .inl ow1)), (w7, .inl (cI, 5923, .inl no1)), (tk, .inr (10, [.ref tx, .ref wd, .ref t1, .ref t2, .ref t3, .int (nI 1), .int 0, .int 0, .int 0])), (t1, .inl (cI, 65537, .inl (upd kn 0 0))), (t2, .inl (cI, 65537, .inl (upd pn 0 0))), (t3, .inl (cI, 65537, .inl (upd im 0 0)))] t.heap ∧ va_D (va_A [(tk, .inr (10, [.ref tx, .ref wd, .ref t1, .ref t2, .ref t3, .int y1, .int y2, .int y3, .int y4])), (t1, .inl (cI, 65537, .inl kn)), (t2, .inl (cI, 65537, .inl pn)), (t3, .inl (cI, 65537, .inl im)), (wd, .inr (11, [.ref tx, .ref w1, .ref w2, .ref w3, .ref w4, .ref w5, .ref w6, .ref w7, .int (nI z)])), (tx, .inl (cB, 65638, .inl F)), (w1, .inl (cI, 512, .inl hd)), (w2, .inl (cI, 5923, .inl fr)), (w3, .inl (cI, 5923, .inl ln)), (w4, .inl (cI, 5923, .inl nx)), (w5, .inl (cI, 5923, .inl vr)), (w6, .inl (cI, 5923, .inl ow)), (w7, .inl (cI, 5923, .inl no))] sz) [(wd, .inr (11, [.ref tx, .ref w1, .ref w2, .ref w3, .ref w4, .ref w5, .ref w6, .ref w7, .int (nI z1)])), (tx, .inl (cB, 65638, .inl F)), (w1, .inl (cI, 512, .inl hd1)), (w2, .inl (cI, 5923, .inl fr1)), (w3, .inl (cI, 5923, .inl ln1)), (w4, .inl (cI, 5923, .inl nx1)), (w5, .inl (cI, 5923, .inl vr1)), (w6, .inl (cI, 5923, .inl ow1)), (w7, .inl (cI, 5923, .inl no1)), (tk, .inr (10, [.ref tx, .ref wd, .ref t1, .ref t2, .ref t3, .int (nI 1), .int 0, .int 0, .int 0])), (t1, .inl (cI, 65537, .inl (upd kn 0 0))), (t2, .inl (cI, 65537, .inl (upd pn 0 0))), (t3, .inl (cI, 65537, .inl (upd im 0 0)))]) (va_A [(tk, .inr (10, [.ref tx, .ref wd, .ref t1, .ref t2, .ref t3, .int y1, .int y2, .int y3, .int y4])), (t1, .inl (cI, 65537, .inl kn)), (t2, .inl (cI, 65537, .inl pn)), (t3, .inl (cI, 65537, .inl im)), (wd, .inr (11, [.ref tx, .ref w1, .ref w2, .ref w3, .ref w4, .ref w5, .ref w6, .ref w7, .int (nI z)])), (tx, .inl (cB, 65638, .inl F)), (w1, .inl (cI, 512, .inl hd)), (w2, .inl (cI, 5923, .inl fr)), (w3, .inl (cI, 5923, .inl ln)), (w4, .inl (cI, 5923, .inl nx)), (w5, .inl (cI, 5923, .inl vr)), (w6, .inl (cI, 5923, .inl ow)), (w7, .inl (cI, 5923, .inl no))] sz)) 0 0 (va_A [(tk, .inr (10, [.ref tx, .ref wd, .ref t1, .ref t2, .ref t3, .int y1, .int y2, .int y3, .int y4])), (t1, .inl (cI, 65537, .inl kn)), (t2, .inl (cI, 65537, .inl pn)), (t3, .inl (cI, 65537, .inl im)), (wd, .inr (11, [.ref tx, .ref w1, .ref w2, .ref w3, .ref w4, .ref w5, .ref w6, .ref w7, .int (nI z)])), (tx, .inl (cB, 65638, .inl F)), (w1, .inl (cI, 512, .inl hd)), (w2, .inl (cI, 5923, .inl fr)), (w3, .inl (cI, 5923, .inl ln)), (w4, .inl (cI, 5923, .inl nx)), (w5, .inl (cI, 5923, .inl vr)), (w6, .inl (cI, 5923, .inl ow)), (w7, .inl (cI, 5923, .inl no))] sz) := by
  refine Met.ofW (cc := b_Tk_scan) (maxL := 4) (ret := none) (by decide) rfl ?_
  intro p e s m args below meth c s₁ B hml hv
  obtain ⟨rfl, hsz, hP, hK, hD0⟩ := hv
  have hx := B.exec
  have hb := B.bytes
  have hr := B.returns
  have hts := atoms_spec (ws := Cond.code y_Tk_scan b_Tk_scan 4 none :: gG) B.pre
  have hG : ∀ w9 ∈ gG, w9.before [.ref tk, .int 0].toArray s = true := fun w9 h => hts w9 (List.mem_cons_of_mem _ h)
  have hown : s.vm.findClass R_Tk = some m.cls := findClass_of_methodNamed B.named
  have hlocks := B.notSynchronized
  subst hsz
  have hD := hD0.self (sz := s.heap.size)
  generalize hAe : va_A [(tk, .inr (10, [.ref tx, .ref wd, .ref t1, .ref t2, .ref t3, .int y1, .int y2, .int y3, .int y4])), (t1, .inl (cI, 65537, .inl kn)), (t2, .inl (cI, 65537, .inl pn)), (t3, .inl (cI, 65537, .inl im)), (wd, .inr (11, [.ref tx, .ref w1, .ref w2, .ref w3, .ref w4, .ref w5, .ref w6, .ref w7, .int (nI z)])), (tx, .inl (cB, 65638, .inl F)), (w1, .inl (cI, 512, .inl hd)), (w2, .inl (cI, 5923, .inl fr)), (w3, .inl (cI, 5923, .inl ln)), (w4, .inl (cI, 5923, .inl nx)), (w5, .inl (cI, 5923, .inl vr)), (w6, .inl (cI, 5923, .inl ow)), (w7, .inl (cI, 5923, .inl no))] s.heap.size = A at hD ⊢
  have hA : ∀ q : Nat, s.heap.size ≤ q → A q := fun q h => by rw [← hAe]; exact Or.inr h
  have hS : va_S A s.heap s.heap [] := va_S.rf
  have hl := lv_entry ([.ref tk, .int 0]) (n := 4) (Nat.le_of_ble_eq_true rfl)
  rw [lg_entry_eq]
  generalize (lg_sl ([.ref tk, .int 0]) ++ List.replicate (4 - (lg_sl ([.ref tk, .int 0])).length) Slot.unset).toArray = ls at hl ⊢
  have hl : lv_has ls 4 [(0, .ref tk), (1, .int 0)] := hl
  refine lv_aload_n hx hb d_Tk_scan_0 rfl (lv_at hl 0 rfl) ?_
  refine va_get (D := D) (ci := 10) (v := .ref wd) (C := R_Tk) (T := T_Tk) (N := 9) hx hb hG gi_Tk hown hK hP 0 rfl rfl 1 (by decide) (hG _ fl_Tk_31) (fun _ h9 => h9) rfl d_Tk_scan_1 ?_
  have hPc := hP.sub (ws' := [(wd, .inr (11, [.ref tx, .ref w1, .ref w2, .ref w3, .ref w4, .ref w5, .ref w6, .ref w7, .int (nI z)])), (tx, .inl (cB, 65638, .inl F)), (w1, .inl (cI, 512, .inl hd)), (w2, .inl (cI, 5923, .inl fr)), (w3, .inl (cI, 5923, .inl ln)), (w4, .inl (cI, 5923, .inl nx)), (w5, .inl (cI, 5923, .inl vr)), (w6, .inl (cI, 5923, .inl ow)), (w7, .inl (cI, 5923, .inl no))]) [4, 5, 6, 7, 8, 9, 10, 11, 12] rfl
  have hDc := hD.sub (ws' := [(wd, .inr (11, [.ref tx, .ref w1, .ref w2, .ref w3, .ref w4, .ref w5, .ref w6, .ref w7, .int (nI z)])), (tx, .inl (cB, 65638, .inl F)), (w1, .inl (cI, 512, .inl hd)), (w2, .inl (cI, 5923, .inl fr)), (w3, .inl (cI, 5923, .inl ln)), (w4, .inl (cI, 5923, .inl nx)), (w5, .inl (cI, 5923, .inl vr)), (w6, .inl (cI, 5923, .inl ow)), (w7, .inl (cI, 5923, .inl no))]) [4, 5, 6, 7, 8, 9, 10, 11, 12] (by decide) rfl
  have hFc := va_free (wc := [(wd, .inr (11, [.ref tx, .ref w1, .ref w2, .ref w3, .ref w4, .ref w5, .ref w6, .ref w7, .int (nI z)])), (tx, .inl (cB, 65638, .inl F)), (w1, .inl (cI, 512, .inl hd)), (w2, .inl (cI, 5923, .inl fr)), (w3, .inl (cI, 5923, .inl ln)), (w4, .inl (cI, 5923, .inl nx)), (w5, .inl (cI, 5923, .inl vr)), (w6, .inl (cI, 5923, .inl ow)), (w7, .inl (cI, 5923, .inl no))]) hD hS hA [4, 5, 6, 7, 8, 9, 10, 11, 12] rfl
  refine va_callv (va_runV (As := []) (rest := []) ⟨hx, hb, hml, hown, hG⟩ (c_Wd_begin l D cI cB cJ cZ s.heap.size wd tx w1 w2 w3 w4 w5 w6 w7 z F hd fr ln nx vr ow no) (gcV 0 gG_good hG ml_Tk_35 im_Wd_begin se_Wd_begin in_Wd co_Wd_begin rfl rfl (by decide +kernel) ⟨(Nat.le_of_ble_eq_true rfl), (Nat.le_of_ble_eq_true rfl)⟩) (ct_preV hPc hK hDc (ci := 11) (q0 := 0) rfl rfl) rfl rfl hl.1 rfl (lv_room (Nat.le_of_ble_eq_true rfl)) d_Tk_scan_4 ⟨(Nat.le_of_ble_eq_true rfl), (Nat.le_of_ble_eq_true rfl)⟩) hS (fun q _ h => hFc q h) hFc (fun _ t H1 locs ht hvm hw hB hz1 hk1 hS => ?_)
  obtain ⟨z1, hd1, fr1, ln1, nx1, vr1, ow1, no1, hI1, hP1, hD1⟩ := hB
  rw [ht] at hP1
  obtain ⟨hP, hD⟩ := va_join (wr := [(tk, .inr (10, [.ref tx, .ref wd, .ref t1, .ref t2, .ref t3, .int y1, .int y2, .int y3, .int y4])), (t1, .inl (cI, 65537, .inl kn)), (t2, .inl (cI, 65537, .inl pn)), (t3, .inl (cI, 65537, .inl im))]) (w1 := [(wd, .inr (11, [.ref tx, .ref w1, .ref w2, .ref w3, .ref w4, .ref w5, .ref w6, .ref w7, .int (nI z1)])), (tx, .inl (cB, 65638, .inl F)), (w1, .inl (cI, 512, .inl hd1)), (w2, .inl (cI, 5923, .inl fr1)), (w3, .inl (cI, 5923, .inl ln1)), (w4, .inl (cI, 5923, .inl nx1)), (w5, .inl (cI, 5923, .inl vr1)), (w6, .inl (cI, 5923, .inl ow1)), (w7, .inl (cI, 5923, .inl no1))]) hP hD [4, 5, 6, 7, 8, 9, 10, 11, 12] [0, 1, 2, 3] rfl rfl (by decide) (by decide) hk1 hFc hP1 hD1
  generalize H1 = H at hP hS ⊢
  have hP : va_P D kl [(tk, .inr (10, [.ref tx, .ref wd, .ref t1, .ref t2, .ref t3, .int y1, .int y2, .int y3, .int y4])), (t1, .inl (cI, 65537, .inl kn)), (t2, .inl (cI, 65537, .inl pn)), (t3, .inl (cI, 65537, .inl im)), (wd, .inr (11, [.ref tx, .ref w1, .ref w2, .ref w3, .ref w4, .ref w5, .ref w6, .ref w7, .int (nI z1)])), (tx, .inl (cB, 65638, .inl F)), (w1, .inl (cI, 512, .inl hd1)), (w2, .inl (cI, 5923, .inl fr1)), (w3, .inl (cI, 5923, .inl ln1)), (w4, .inl (cI, 5923, .inl nx1)), (w5, .inl (cI, 5923, .inl vr1)), (w6, .inl (cI, 5923, .inl ow1)), (w7, .inl (cI, 5923, .inl no1))] H := hP
  have hD : va_D A [(tk, .inr (10, [.ref tx, .ref wd, .ref t1, .ref t2, .ref t3, .int y1, .int y2, .int y3, .int y4])), (t1, .inl (cI, 65537, .inl kn)), (t2, .inl (cI, 65537, .inl pn)), (t3, .inl (cI, 65537, .inl im)), (wd, .inr (11, [.ref tx, .ref w1, .ref w2, .ref w3, .ref w4, .ref w5, .ref w6, .ref w7, .int (nI z1)])), (tx, .inl (cB, 65638, .inl F)), (w1, .inl (cI, 512, .inl hd1)), (w2, .inl (cI, 5923, .inl fr1)), (w3, .inl (cI, 5923, .inl ln1)), (w4, .inl (cI, 5923, .inl nx1)), (w5, .inl (cI, 5923, .inl vr1)), (w6, .inl (cI, 5923, .inl ow1)), (w7, .inl (cI, 5923, .inl no1))] := hD
  refine lv_aload_n hx hb d_Tk_scan_7 rfl (lv_at hl 0 rfl) ?_
  refine lv_iconst (v := 0) hx hb d_Tk_scan_8 (by decide) ?_
  refine va_put (D := D) (ci := 10) (v := .int 0) (ty := .int) (C := R_Tk) (T := T_Tk) (N := 9) hx hb hG gi_Tk ty_Tk to_Tk nm_Tk hown hK hP hD hS 0 rfl rfl 5 (by decide) (hG _ fl_Tk_38) (fun _ h9 => h9) rfl (by decide +kernel) rfl rfl (Nat.le_of_ble_eq_true rfl) d_Tk_scan_9 (fun H locs hP hD hS => ?_)
  have hP : va_P D kl [(tk, .inr (10, [.ref tx, .ref wd, .ref t1, .ref t2, .ref t3, .int 0, .int y2, .int y3, .int y4])), (t1, .inl (cI, 65537, .inl kn)), (t2, .inl (cI, 65537, .inl pn)), (t3, .inl (cI, 65537, .inl im)), (wd, .inr (11, [.ref tx, .ref w1, .ref w2, .ref w3, .ref w4, .ref w5, .ref w6, .ref w7, .int (nI z1)])), (tx, .inl (cB, 65638, .inl F)), (w1, .inl (cI, 512, .inl hd1)), (w2, .inl (cI, 5923, .inl fr1)), (w3, .inl (cI, 5923, .inl ln1)), (w4, .inl (cI, 5923, .inl nx1)), (w5, .inl (cI, 5923, .inl vr1)), (w6, .inl (cI, 5923, .inl ow1)), (w7, .inl (cI, 5923, .inl no1))] H := hP
  have hD : va_D A [(tk, .inr (10, [.ref tx, .ref wd, .ref t1, .ref t2, .ref t3, .int 0, .int y2, .int y3, .int y4])), (t1, .inl (cI, 65537, .inl kn)), (t2, .inl (cI, 65537, .inl pn)), (t3, .inl (cI, 65537, .inl im)), (wd, .inr (11, [.ref tx, .ref w1, .ref w2, .ref w3, .ref w4, .ref w5, .ref w6, .ref w7, .int (nI z1)])), (tx, .inl (cB, 65638, .inl F)), (w1, .inl (cI, 512, .inl hd1)), (w2, .inl (cI, 5923, .inl fr1)), (w3, .inl (cI, 5923, .inl ln1)), (w4, .inl (cI, 5923, .inl nx1)), (w5, .inl (cI, 5923, .inl vr1)), (w6, .inl (cI, 5923, .inl ow1)), (w7, .inl (cI, 5923, .inl no1))] := hD
  refine lv_aload_n hx hb d_Tk_scan_12 rfl (lv_at hl 0 rfl) ?_
  refine lv_iconst (v := 0) hx hb d_Tk_scan_13 (by decide) ?_
  refine va_put (D := D) (ci := 10) (v := .int 0) (ty := .int) (C := R_Tk) (T := T_Tk) (N := 9) hx hb hG gi_Tk ty_Tk to_Tk nm_Tk hown hK hP hD hS 0 rfl rfl 6 (by decide) (hG _ fl_Tk_42) (fun _ h9 => h9) rfl (by decide +kernel) rfl rfl (Nat.le_of_ble_eq_true rfl) d_Tk_scan_14 (fun H locs hP hD hS => ?_)
  have hP : va_P D kl [(tk, .inr (10, [.ref tx, .ref wd, .ref t1, .ref t2, .ref t3, .int 0, .int 0, .int y3, .int y4])), (t1, .inl (cI, 65537, .inl kn)), (t2, .inl (cI, 65537, .inl pn)), (t3, .inl (cI, 65537, .inl im)), (wd, .inr (11, [.ref tx, .ref w1, .ref w2, .ref w3, .ref w4, .ref w5, .ref w6, .ref w7, .int (nI z1)])), (tx, .inl (cB, 65638, .inl F)), (w1, .inl (cI, 512, .inl hd1)), (w2, .inl (cI, 5923, .inl fr1)), (w3, .inl (cI, 5923, .inl ln1)), (w4, .inl (cI, 5923, .inl nx1)), (w5, .inl (cI, 5923, .inl vr1)), (w6, .inl (cI, 5923, .inl ow1)), (w7, .inl (cI, 5923, .inl no1))] H := hP
  have hD : va_D A [(tk, .inr (10, [.ref tx, .ref wd, .ref t1, .ref t2, .ref t3, .int 0, .int 0, .int y3, .int y4])), (t1, .inl (cI, 65537, .inl kn)), (t2, .inl (cI, 65537, .inl pn)), (t3, .inl (cI, 65537, .inl im)), (wd, .inr (11, [.ref tx, .ref w1, .ref w2, .ref w3, .ref w4, .ref w5, .ref w6, .ref w7, .int (nI z1)])), (tx, .inl (cB, 65638, .inl F)), (w1, .inl (cI, 512, .inl hd1)), (w2, .inl (cI, 5923, .inl fr1)), (w3, .inl (cI, 5923, .inl ln1)), (w4, .inl (cI, 5923, .inl nx1)), (w5, .inl (cI, 5923, .inl vr1)), (w6, .inl (cI, 5923, .inl ow1)), (w7, .inl (cI, 5923, .inl no1))] := hD
  refine lv_aload_n hx hb d_Tk_scan_17 rfl (lv_at hl 0 rfl) ?_
  refine lv_iconst (v := 0) hx hb d_Tk_scan_18 (by decide) ?_
  refine va_put (D := D) (ci := 10) (v := .int 0) (ty := .int) (C := R_Tk) (T := T_Tk) (N := 9) hx hb hG gi_Tk ty_Tk to_Tk nm_Tk hown hK hP hD hS 0 rfl rfl 7 (by decide) (hG _ fl_Tk_45) (fun _ h9 => h9) rfl (by decide +kernel) rfl rfl (Nat.le_of_ble_eq_true rfl) d_Tk_scan_19 (fun H locs hP hD hS => ?_)
  have hP : va_P D kl [(tk, .inr (10, [.ref tx, .ref wd, .ref t1, .ref t2, .ref t3, .int 0, .int 0, .int 0, .int y4])), (t1, .inl (cI, 65537, .inl kn)), (t2, .inl (cI, 65537, .inl pn)), (t3, .inl (cI, 65537, .inl im)), (wd, .inr (11, [.ref tx, .ref w1, .ref w2, .ref w3, .ref w4, .ref w5, .ref w6, .ref w7, .int (nI z1)])), (tx, .inl (cB, 65638, .inl F)), (w1, .inl (cI, 512, .inl hd1)), (w2, .inl (cI, 5923, .inl fr1)), (w3, .inl (cI, 5923, .inl ln1)), (w4, .inl (cI, 5923, .inl nx1)), (w5, .inl (cI, 5923, .inl vr1)), (w6, .inl (cI, 5923, .inl ow1)), (w7, .inl (cI, 5923, .inl no1))] H := hP
  have hD : va_D A [(tk, .inr (10, [.ref tx, .ref wd, .ref t1, .ref t2, .ref t3, .int 0, .int 0, .int 0, .int y4])), (t1, .inl (cI, 65537, .inl kn)), (t2, .inl (cI, 65537, .inl pn)), (t3, .inl (cI, 65537, .inl im)), (wd, .inr (11, [.ref tx, .ref w1, .ref w2, .ref w3, .ref w4, .ref w5, .ref w6, .ref w7, .int (nI z1)])), (tx, .inl (cB, 65638, .inl F)), (w1, .inl (cI, 512, .inl hd1)), (w2, .inl (cI, 5923, .inl fr1)), (w3, .inl (cI, 5923, .inl ln1)), (w4, .inl (cI, 5923, .inl nx1)), (w5, .inl (cI, 5923, .inl vr1)), (w6, .inl (cI, 5923, .inl ow1)), (w7, .inl (cI, 5923, .inl no1))] := hD
  refine lv_aload_n hx hb d_Tk_scan_22 rfl (lv_at hl 0 rfl) ?_
  refine lv_iconst (v := 0) hx hb d_Tk_scan_23 (by decide) ?_
  refine va_put (D := D) (ci := 10) (v := .int 0) (ty := .int) (C := R_Tk) (T := T_Tk) (N := 9) hx hb hG gi_Tk ty_Tk to_Tk nm_Tk hown hK hP hD hS 0 rfl rfl 8 (by decide) (hG _ fl_Tk_48) (fun _ h9 => h9) rfl (by decide +kernel) rfl rfl (Nat.le_of_ble_eq_true rfl) d_Tk_scan_24 (fun H locs hP hD hS => ?_)
  have hP : va_P D kl [(tk, .inr (10, [.ref tx, .ref wd, .ref t1, .ref t2, .ref t3, .int 0, .int 0, .int 0, .int 0])), (t1, .inl (cI, 65537, .inl kn)), (t2, .inl (cI, 65537, .inl pn)), (t3, .inl (cI, 65537, .inl im)), (wd, .inr (11, [.ref tx, .ref w1, .ref w2, .ref w3, .ref w4, .ref w5, .ref w6, .ref w7, .int (nI z1)])), (tx, .inl (cB, 65638, .inl F)), (w1, .inl (cI, 512, .inl hd1)), (w2, .inl (cI, 5923, .inl fr1)), (w3, .inl (cI, 5923, .inl ln1)), (w4, .inl (cI, 5923, .inl nx1)), (w5, .inl (cI, 5923, .inl vr1)), (w6, .inl (cI, 5923, .inl ow1)), (w7, .inl (cI, 5923, .inl no1))] H := hP
  have hD : va_D A [(tk, .inr (10, [.ref tx, .ref wd, .ref t1, .ref t2, .ref t3, .int 0, .int 0, .int 0, .int 0])), (t1, .inl (cI, 65537, .inl kn)), (t2, .inl (cI, 65537, .inl pn)), (t3, .inl (cI, 65537, .inl im)), (wd, .inr (11, [.ref tx, .ref w1, .ref w2, .ref w3, .ref w4, .ref w5, .ref w6, .ref w7, .int (nI z1)])), (tx, .inl (cB, 65638, .inl F)), (w1, .inl (cI, 512, .inl hd1)), (w2, .inl (cI, 5923, .inl fr1)), (w3, .inl (cI, 5923, .inl ln1)), (w4, .inl (cI, 5923, .inl nx1)), (w5, .inl (cI, 5923, .inl vr1)), (w6, .inl (cI, 5923, .inl ow1)), (w7, .inl (cI, 5923, .inl no1))] := hD
  refine lv_iconst (v := 0) hx hb d_Tk_scan_27 (by decide) ?_
  refine lv_istore_n (lv' := [(2, .int 0), (0, .ref tk), (1, .int 0)]) hx hb d_Tk_scan_28 rfl hl (by decide) rfl (fun ls hl => ?_)
  refine lv_iconst (v := 0) hx hb d_Tk_scan_29 (by decide) ?_
  refine lv_istore_n (lv' := [(3, .int 0), (2, .int 0), (0, .ref tk), (1, .int 0)]) hx hb d_Tk_scan_30 rfl hl (by decide) rfl (fun ls hl => ?_)
  refine lv_iload_n hx hb d_Tk_scan_31 rfl (lv_at hl 0 rfl) ?_
  refine lv_iload_n hx hb d_Tk_scan_32 rfl (lv_at hl 3 rfl) ?_
  refine lv_icmp_ge (tgt := 54) hx hb d_Tk_scan_33 (by decide) (fun _ => ?_) (fun zz3 => absurd (Int32.le_refl _) zz3)
  refine lv_aload_n hx hb d_Tk_scan_54 rfl (lv_at hl 2 rfl) ?_
  refine lv_iconst (v := 0) hx hb d_Tk_scan_55 (by decide) ?_
  refine lv_iload_n hx hb d_Tk_scan_56 rfl (lv_at hl 3 rfl) ?_
  refine lv_iconst (v := 0) hx hb d_Tk_scan_57 (by decide) ?_
  have hPc := hP.sub (ws' := [(tk, .inr (10, [.ref tx, .ref wd, .ref t1, .ref t2, .ref t3, .int 0, .int 0, .int 0, .int 0])), (t1, .inl (cI, 65537, .inl kn)), (t2, .inl (cI, 65537, .inl pn)), (t3, .inl (cI, 65537, .inl im))]) [0, 1, 2, 3] rfl
  have hDc := hD.sub (ws' := [(tk, .inr (10, [.ref tx, .ref wd, .ref t1, .ref t2, .ref t3, .int 0, .int 0, .int 0, .int 0])), (t1, .inl (cI, 65537, .inl kn)), (t2, .inl (cI, 65537, .inl pn)), (t3, .inl (cI, 65537, .inl im))]) [0, 1, 2, 3] (by decide) rfl
  have hFc := va_free (wc := [(tk, .inr (10, [.ref tx, .ref wd, .ref t1, .ref t2, .ref t3, .int 0, .int 0, .int 0, .int 0])), (t1, .inl (cI, 65537, .inl kn)), (t2, .inl (cI, 65537, .inl pn)), (t3, .inl (cI, 65537, .inl im))]) hD hS hA [0, 1, 2, 3] rfl
  refine va_callv (va_runV (As := [.int 0, .int 0, .int 0]) (rest := []) ⟨hx, hb, hml, hown, hG⟩ (c_Tk_add l D cI cB cJ cZ H.size tk tx wd t1 t2 t3 kn pn im 0 0 0 0 0 0 0 (by decide)) (gcV 3 gG_good hG ml_Tk_55 im_Tk_add se_Tk_add in_Tk co_Tk_add rfl rfl (by decide +kernel) ⟨(Nat.le_of_ble_eq_true rfl), (Nat.le_of_ble_eq_true rfl)⟩) (ct_preV hPc hK hDc (ci := 10) (q0 := 0) rfl rfl) rfl rfl hl.1 rfl (lv_room (Nat.le_of_ble_eq_true rfl)) d_Tk_scan_58 ⟨(Nat.le_of_ble_eq_true rfl), (Nat.le_of_ble_eq_true rfl)⟩) hS (fun q _ h => hFc q h) hFc (fun _ t H1 locs ht hvm hw hB hz1 hk1 hS => ?_)
  obtain ⟨hP1, hD1⟩ := hB
  rw [ht] at hP1
  obtain ⟨hP, hD⟩ := va_join (wr := [(wd, .inr (11, [.ref tx, .ref w1, .ref w2, .ref w3, .ref w4, .ref w5, .ref w6, .ref w7, .int (nI z1)])), (tx, .inl (cB, 65638, .inl F)), (w1, .inl (cI, 512, .inl hd1)), (w2, .inl (cI, 5923, .inl fr1)), (w3, .inl (cI, 5923, .inl ln1)), (w4, .inl (cI, 5923, .inl nx1)), (w5, .inl (cI, 5923, .inl vr1)), (w6, .inl (cI, 5923, .inl ow1)), (w7, .inl (cI, 5923, .inl no1))]) (w1 := [(tk, .inr (10, [.ref tx, .ref wd, .ref t1, .ref t2, .ref t3, .int (nI 1), .int 0, .int 0, .int 0])), (t1, .inl (cI, 65537, .inl (upd kn 0 0))), (t2, .inl (cI, 65537, .inl (upd pn 0 0))), (t3, .inl (cI, 65537, .inl (upd im 0 0)))]) hP hD [0, 1, 2, 3] [4, 5, 6, 7, 8, 9, 10, 11, 12] rfl rfl (by decide) (by decide) hk1 hFc hP1 hD1
  generalize H1 = H at hP hS ⊢
  have hP : va_P D kl [(wd, .inr (11, [.ref tx, .ref w1, .ref w2, .ref w3, .ref w4, .ref w5, .ref w6, .ref w7, .int (nI z1)])), (tx, .inl (cB, 65638, .inl F)), (w1, .inl (cI, 512, .inl hd1)), (w2, .inl (cI, 5923, .inl fr1)), (w3, .inl (cI, 5923, .inl ln1)), (w4, .inl (cI, 5923, .inl nx1)), (w5, .inl (cI, 5923, .inl vr1)), (w6, .inl (cI, 5923, .inl ow1)), (w7, .inl (cI, 5923, .inl no1)), (tk, .inr (10, [.ref tx, .ref wd, .ref t1, .ref t2, .ref t3, .int (nI 1), .int 0, .int 0, .int 0])), (t1, .inl (cI, 65537, .inl (upd kn 0 0))), (t2, .inl (cI, 65537, .inl (upd pn 0 0))), (t3, .inl (cI, 65537, .inl (upd im 0 0)))] H := hP
  have hD : va_D A [(wd, .inr (11, [.ref tx, .ref w1, .ref w2, .ref w3, .ref w4, .ref w5, .ref w6, .ref w7, .int (nI z1)])), (tx, .inl (cB, 65638, .inl F)), (w1, .inl (cI, 512, .inl hd1)), (w2, .inl (cI, 5923, .inl fr1)), (w3, .inl (cI, 5923, .inl ln1)), (w4, .inl (cI, 5923, .inl nx1)), (w5, .inl (cI, 5923, .inl vr1)), (w6, .inl (cI, 5923, .inl ow1)), (w7, .inl (cI, 5923, .inl no1)), (tk, .inr (10, [.ref tx, .ref wd, .ref t1, .ref t2, .ref t3, .int (nI 1), .int 0, .int 0, .int 0])), (t1, .inl (cI, 65537, .inl (upd kn 0 0))), (t2, .inl (cI, 65537, .inl (upd pn 0 0))), (t3, .inl (cI, 65537, .inl (upd im 0 0)))] := hD
  exact W.vret hx hb hr (fun t ht hW => ⟨⟨(), rfl, trivial, z1, hd1, fr1, ln1, nx1, vr1, ow1, no1, hI1, by rw [ht]; exact hP, hD⟩, hS.F ht⟩) hS.2.2 d_Tk_scan_61

set_option maxHeartbeats 4000000 in
set_option maxRecDepth 100000 in
theorem c_S_read0 (l : Launch) (D : va_G) (cI cB cJ cZ : ClassId) (sz : Nat) (h0 rd sl lk od pg gv tp er ck : Nat) (ap mn it kp : Int32) (tk t1 t2 t3 : Nat) (kn pn im : Nat → Int32) (y1 y2 y3 y4 : Int32) (wd w1 w2 w3 w4 w5 w6 w7 z : Nat) (F hd fr ln nx vr ow no : Nat → Int32) (nd d0 d1 d2 d3 d4 d5 d6 d7 d8 d9 d10 d11 d12 d13 : Nat) (n1 n2 : Int32) (cd e0_ e1_ e2_ e3_ e4_ e5_ e6_ e7_ e8_ e9_ : Nat) (c1_ c2_ c3_ : Int32) : Met l y_S_read (Cond.code y_S_read b_S_read 3 (some .int) :: gG) { frames := 4, cells := 0, slots := 0, locals := 150 } (va_Pc [.ref h0] (ct_P D (tyL cI cB cJ cZ) [(h0, .inr (0, [.ref tk, .ref nd, .ref cd, .ref rd, .ref sl, .ref lk, .ref od, .ref pg, .ref gv, .ref tp, .int 0, .int ap, .int mn, .int it, .int kp])), (tk, .inr (10, [.ref tp, .ref wd, .ref t1, .ref t2, .ref t3, .int y1, .int y2, .int y3, .int y4])), (t1, .inl (cI, 65537, .inl kn)), (t2, .inl (cI, 65537, .inl pn)), (t3, .inl (cI, 65537, .inl im)), (wd, .inr (11, [.ref tp, .ref w1, .ref w2, .ref w3, .ref w4, .ref w5, .ref w6, .ref w7, .int (nI z)])), (tp, .inl (cB, 65638, .inl F)), (w1, .inl (cI, 512, .inl hd)), (w2, .inl (cI, 5923, .inl fr)), (w3, .inl (cI, 5923, .inl ln)), (w4, .inl (cI, 5923, .inl nx)), (w5, .inl (cI, 5923, .inl vr)), (w6, .inl (cI, 5923, .inl ow)), (w7, .inl (cI, 5923, .inl no)), (rd, .inr (5, [.ref tk, .ref nd, .ref cd, .ref er, .ref ck])), (nd, .inr (6, [.ref d0, .ref d1, .ref d2, .ref d3, .ref d4, .ref d5, .ref d6, .ref d7, .ref d8, .int n1, .ref d9, .ref d10, .ref d11, .ref d12, .ref d13, .int n2])), (cd, .inr (2, [.ref e0_, .ref e1_, .ref e2_, .ref e3_, .int c1_, .ref e4_, .ref e5_, .ref e6_, .ref e7_, .ref e8_, .int c2_, .ref e9_, .int c3_]))] sz)) (va_Qi (fun (r : Int32) (_ : Unit) => r = -1) (fun _ t => ∃ (z1 : Nat) (hd1 fr1 ln1 nx1 vr1 ow1 no1 : Nat → Int32), WI z1 hd1 fr1 ln1 nx1 ∧ va_P D kl [(wd, .inr (11, [.ref tp, .ref w1, .ref w2, .ref w3, .ref w4, .ref w5, .ref w6, .ref w7, .int (nI z1)])), (tp, .inl (cB, 65638, .inl F)), (w1, .inl (cI, 512, .inl hd1)), (w2, .inl (cI, 5923, .inl fr1)), (w3, .inl (cI, 5923, .inl ln1)), (w4, .inl (cI, 5923, .inl nx1)), (w5, .inl (cI, 5923, .inl vr1)), (w6, .inl (cI, 5923, .inl ow1)), (w7, .inl (cI, 5923, .inl no1)), (h0, .inr (0, [.ref tk, .ref nd, .ref cd, .ref rd, .ref sl, .ref lk, .ref od, .ref pg, .ref gv, .ref tp, .int 0, .int ap, .int (-1), .int 0, .int 0])), (nd, .inr (6, [.ref d0, .ref d1, .ref d2, .ref d3, .ref d4, .ref d5, .ref d6, .ref d7, .ref d8, .int 0, .ref d9, .ref d10, .ref d11, .ref d12, .ref d13, .int 0])), (cd, .inr (2, [.ref e0_, .ref e1_, .ref e2_, .ref e3_, .int 0, .ref e4_, .ref e5_, .ref e6_, .ref e7_, .ref e8_, .int 0, .ref e9_, .int 0])), (rd, .inr (5, [.ref tk, .ref nd, .ref cd, .ref er, .ref ck])), (tk, .inr (10, [.ref tp, .ref wd, .ref t1, .ref t2, .ref t3, .int (nI 1), .int 0, .int 1, .int 0])), (t1, .inl (cI, 65537, .inl (upd kn 0 0))), (t2, .inl (cI, 65537, .inl (upd pn 0 0))), (t3, .inl (cI, 65537, .inl (upd im 0 0)))] t.heap ∧ va_D (va_A [(h0, .inr (0, [.ref tk, .ref nd, .ref cd, .ref rd, .ref sl, .ref lk, .ref od, .ref pg, .ref gv, .ref tp, .int 0, .int ap, .int mn, .int it, .int kp])), (tk, .inr (10, [.ref tp, .ref wd, .ref t1, .ref t2, .ref t3, .int y1, .int y2, .int y3, .int y4])), (t1, .inl (cI, 65537, .inl kn)), (t2, .inl (cI, 65537, .inl pn)), (t3, .inl (cI, 65537, .inl im)), (wd, .inr (11, [.ref tp, .ref w1, .ref w2, .ref w3, .ref w4, .ref w5, .ref w6, .ref w7, .int (nI z)])), (tp, .inl (cB, 65638, .inl F)), (w1, .inl (cI, 512, .inl hd)), (w2, .inl (cI, 5923, .inl fr)), (w3, .inl (cI, 5923, .inl ln)), (w4, .inl (cI, 5923, .inl nx)), (w5, .inl (cI, 5923, .inl vr)), (w6, .inl (cI, 5923, .inl ow)), (w7, .inl (cI, 5923, .inl no)), (rd, .inr (5, [.ref tk, .ref nd, .ref cd, .ref er, .ref ck])), (nd, .inr (6, [.ref d0, .ref d1, .ref d2, .ref d3, .ref d4, .ref d5, .ref d6, .ref d7, .ref d8, .int n1, .ref d9, .ref d10, .ref d11, .ref d12, .ref d13, .int n2])), (cd, .inr (2, [.ref e0_, .ref e1_, .ref e2_, .ref e3_, .int c1_, .ref e4_, .ref e5_, .ref e6_, .ref e7_, .ref e8_, .int c2_, .ref e9_, .int c3_]))] sz) [(wd, .inr (11, [.ref tp, .ref w1, .ref w2, .ref w3, .ref w4, .ref w5, .ref w6, .ref w7, .int (nI z1)])), (tp, .inl (cB, 65638, .inl F)), (w1, .inl (cI, 512, .inl hd1)), (w2, .inl (cI, 5923, .inl fr1)), (w3, .inl (cI, 5923, .inl ln1)), (w4, .inl (cI, 5923, .inl nx1)), (w5, .inl (cI, 5923, .inl vr1)), (w6, .inl (cI, 5923, .inl ow1)), (w7, .inl (cI, 5923, .inl no1)), (h0, .inr (0, [.ref tk, .ref nd, .ref cd, .ref rd, .ref sl, .ref lk, .ref od, .ref pg, .ref gv, .ref tp, .int 0, .int ap, .int (-1), .int 0, .int 0])), (nd, .inr (6, [.ref d0, .ref d1, .ref d2, .ref d3, .ref d4, .ref d5, .ref d6, .ref d7, .ref d8, .int 0, .ref d9, .ref d10, .ref d11, .ref d12, .ref d13, .int 0])), (cd, .inr (2, [.ref e0_, .ref e1_, .ref e2_, .ref e3_, .int 0, .ref e4_, .ref e5_, .ref e6_, .ref e7_, .ref e8_, .int 0, .ref e9_, .int 0])), (rd, .inr (5, [.ref tk, .ref nd, .ref cd, .ref er, .ref ck])), (tk, .inr (10, [.ref tp, .ref wd, .ref t1, .ref t2, .ref t3, .int (nI 1), .int 0, .int 1, .int 0])), (t1, .inl (cI, 65537, .inl (upd kn 0 0))), (t2, .inl (cI, 65537, .inl (upd pn 0 0))), (t3, .inl (cI, 65537, .inl (upd im 0 0)))]) (va_A [(h0, .inr (0, [.ref tk, .ref nd, .ref cd, .ref rd, .ref sl, .ref lk, .ref od, .ref pg, .ref gv, .ref tp, .int 0, .int ap, .int mn, .int it, .int kp])), (tk, .inr (10, [.ref tp, .ref wd, .ref t1, .ref t2, .ref t3, .int y1, .int y2, .int y3, .int y4])), (t1, .inl (cI, 65537, .inl kn)), (t2, .inl (cI, 65537, .inl pn)), (t3, .inl (cI, 65537, .inl im)), (wd, .inr (11, [.ref tp, .ref w1, .ref w2, .ref w3, .ref w4, .ref w5, .ref w6, .ref w7, .int (nI z)])), (tp, .inl (cB, 65638, .inl F)), (w1, .inl (cI, 512, .inl hd)), (w2, .inl (cI, 5923, .inl fr)), (w3, .inl (cI, 5923, .inl ln)), (w4, .inl (cI, 5923, .inl nx)), (w5, .inl (cI, 5923, .inl vr)), (w6, .inl (cI, 5923, .inl ow)), (w7, .inl (cI, 5923, .inl no)), (rd, .inr (5, [.ref tk, .ref nd, .ref cd, .ref er, .ref ck])), (nd, .inr (6, [.ref d0, .ref d1, .ref d2, .ref d3, .ref d4, .ref d5, .ref d6, .ref d7, .ref d8, .int n1, .ref d9, .ref d10, .ref d11, .ref d12, .ref d13, .int n2])), (cd, .inr (2, [.ref e0_, .ref e1_, .ref e2_, .ref e3_, .int c1_, .ref e4_, .ref e5_, .ref e6_, .ref e7_, .ref e8_, .int c2_, .ref e9_, .int c3_]))] sz)) 0 0 (va_A [(h0, .inr (0, [.ref tk, .ref nd, .ref cd, .ref rd, .ref sl, .ref lk, .ref od, .ref pg, .ref gv, .ref tp, .int 0, .int ap, .int mn, .int it, .int kp])), (tk, .inr (10, [.ref tp, .ref wd, .ref t1, .ref t2, .ref t3, .int y1, .int y2, .int y3, .int y4])), (t1, .inl (cI, 65537, .inl kn)), (t2, .inl (cI, 65537, .inl pn)), (t3, .inl (cI, 65537, .inl im)), (wd, .inr (11, [.ref tp, .ref w1, .ref w2, .ref w3, .ref w4, .ref w5, .ref w6, .ref w7, .int (nI z)])), (tp, .inl (cB, 65638, .inl F)), (w1, .inl (cI, 512, .inl hd)), (w2, .inl (cI, 5923, .inl fr)), (w3, .inl (cI, 5923, .inl ln)), (w4, .inl (cI, 5923, .inl nx)), (w5, .inl (cI, 5923, .inl vr)), (w6, .inl (cI, 5923, .inl ow)), (w7, .inl (cI, 5923, .inl no)), (rd, .inr (5, [.ref tk, .ref nd, .ref cd, .ref er, .ref ck])), (nd, .inr (6, [.ref d0, .ref d1, .ref d2, .ref d3, .ref d4, .ref d5, .ref d6, .ref d7, .ref d8, .int n1, .ref d9, .ref d10, .ref d11, .ref d12, .ref d13, .int n2])), (cd, .inr (2, [.ref e0_, .ref e1_, .ref e2_, .ref e3_, .int c1_, .ref e4_, .ref e5_, .ref e6_, .ref e7_, .ref e8_, .int c2_, .ref e9_, .int c3_]))] sz) := by
  refine Met.ofW (cc := b_S_read) (maxL := 3) (ret := (some .int)) (by decide) rfl ?_
  intro p e s m args below meth c s₁ B hml hv
  obtain ⟨rfl, hsz, hP, hK, hD0⟩ := hv
  have hx := B.exec
  have hb := B.bytes
  have hr := B.returns
  have hts := atoms_spec (ws := Cond.code y_S_read b_S_read 3 (some .int) :: gG) B.pre
  have hG : ∀ w9 ∈ gG, w9.before [.ref h0].toArray s = true := fun w9 h => hts w9 (List.mem_cons_of_mem _ h)
  have hown : s.vm.findClass R_S = some m.cls := findClass_of_methodNamed B.named
  have hlocks := B.notSynchronized
  subst hsz
  have hD := hD0.self (sz := s.heap.size)
  generalize hAe : va_A [(h0, .inr (0, [.ref tk, .ref nd, .ref cd, .ref rd, .ref sl, .ref lk, .ref od, .ref pg, .ref gv, .ref tp, .int 0, .int ap, .int mn, .int it, .int kp])), (tk, .inr (10, [.ref tp, .ref wd, .ref t1, .ref t2, .ref t3, .int y1, .int y2, .int y3, .int y4])), (t1, .inl (cI, 65537, .inl kn)), (t2, .inl (cI, 65537, .inl pn)), (t3, .inl (cI, 65537, .inl im)), (wd, .inr (11, [.ref tp, .ref w1, .ref w2, .ref w3, .ref w4, .ref w5, .ref w6, .ref w7, .int (nI z)])), (tp, .inl (cB, 65638, .inl F)), (w1, .inl (cI, 512, .inl hd)), (w2, .inl (cI, 5923, .inl fr)), (w3, .inl (cI, 5923, .inl ln)), (w4, .inl (cI, 5923, .inl nx)), (w5, .inl (cI, 5923, .inl vr)), (w6, .inl (cI, 5923, .inl ow)), (w7, .inl (cI, 5923, .inl no)), (rd, .inr (5, [.ref tk, .ref nd, .ref cd, .ref er, .ref ck])), (nd, .inr (6, [.ref d0, .ref d1, .ref d2, .ref d3, .ref d4, .ref d5, .ref d6, .ref d7, .ref d8, .int n1, .ref d9, .ref d10, .ref d11, .ref d12, .ref d13, .int n2])), (cd, .inr (2, [.ref e0_, .ref e1_, .ref e2_, .ref e3_, .int c1_, .ref e4_, .ref e5_, .ref e6_, .ref e7_, .ref e8_, .int c2_, .ref e9_, .int c3_]))] s.heap.size = A at hD ⊢
  have hA : ∀ q : Nat, s.heap.size ≤ q → A q := fun q h => by rw [← hAe]; exact Or.inr h
  have hS : va_S A s.heap s.heap [] := va_S.rf
  have hl := lv_entry ([.ref h0]) (n := 3) (Nat.le_of_ble_eq_true rfl)
  rw [lg_entry_eq]
  generalize (lg_sl ([.ref h0]) ++ List.replicate (3 - (lg_sl ([.ref h0])).length) Slot.unset).toArray = ls at hl ⊢
  have hl : lv_has ls 3 [(0, .ref h0)] := hl
  refine lv_aload_n hx hb d_S_read_0 rfl (lv_at hl 0 rfl) ?_
  refine lv_iconst (v := (-1)) hx hb d_S_read_1 (by decide) ?_
  refine va_put (D := D) (ci := 0) (v := .int (-1)) (ty := .int) (C := R_S) (T := T_S) (N := 15) hx hb hG gi_S ty_S to_S nm_S hown hK hP hD hS 0 rfl rfl 12 (by decide) (hG _ fl_S_26) (fun _ h9 => h9) rfl (by decide +kernel) rfl rfl (Nat.le_of_ble_eq_true rfl) d_S_read_2 (fun H locs hP hD hS => ?_)
  have hP : va_P D kl [(h0, .inr (0, [.ref tk, .ref nd, .ref cd, .ref rd, .ref sl, .ref lk, .ref od, .ref pg, .ref gv, .ref tp, .int 0, .int ap, .int (-1), .int it, .int kp])), (tk, .inr (10, [.ref tp, .ref wd, .ref t1, .ref t2, .ref t3, .int y1, .int y2, .int y3, .int y4])), (t1, .inl (cI, 65537, .inl kn)), (t2, .inl (cI, 65537, .inl pn)), (t3, .inl (cI, 65537, .inl im)), (wd, .inr (11, [.ref tp, .ref w1, .ref w2, .ref w3, .ref w4, .ref w5, .ref w6, .ref w7, .int (nI z)])), (tp, .inl (cB, 65638, .inl F)), (w1, .inl (cI, 512, .inl hd)), (w2, .inl (cI, 5923, .inl fr)), (w3, .inl (cI, 5923, .inl ln)), (w4, .inl (cI, 5923, .inl nx)), (w5, .inl (cI, 5923, .inl vr)), (w6, .inl (cI, 5923, .inl ow)), (w7, .inl (cI, 5923, .inl no)), (rd, .inr (5, [.ref tk, .ref nd, .ref cd, .ref er, .ref ck])), (nd, .inr (6, [.ref d0, .ref d1, .ref d2, .ref d3, .ref d4, .ref d5, .ref d6, .ref d7, .ref d8, .int n1, .ref d9, .ref d10, .ref d11, .ref d12, .ref d13, .int n2])), (cd, .inr (2, [.ref e0_, .ref e1_, .ref e2_, .ref e3_, .int c1_, .ref e4_, .ref e5_, .ref e6_, .ref e7_, .ref e8_, .int c2_, .ref e9_, .int c3_]))] H := hP
  have hD : va_D A [(h0, .inr (0, [.ref tk, .ref nd, .ref cd, .ref rd, .ref sl, .ref lk, .ref od, .ref pg, .ref gv, .ref tp, .int 0, .int ap, .int (-1), .int it, .int kp])), (tk, .inr (10, [.ref tp, .ref wd, .ref t1, .ref t2, .ref t3, .int y1, .int y2, .int y3, .int y4])), (t1, .inl (cI, 65537, .inl kn)), (t2, .inl (cI, 65537, .inl pn)), (t3, .inl (cI, 65537, .inl im)), (wd, .inr (11, [.ref tp, .ref w1, .ref w2, .ref w3, .ref w4, .ref w5, .ref w6, .ref w7, .int (nI z)])), (tp, .inl (cB, 65638, .inl F)), (w1, .inl (cI, 512, .inl hd)), (w2, .inl (cI, 5923, .inl fr)), (w3, .inl (cI, 5923, .inl ln)), (w4, .inl (cI, 5923, .inl nx)), (w5, .inl (cI, 5923, .inl vr)), (w6, .inl (cI, 5923, .inl ow)), (w7, .inl (cI, 5923, .inl no)), (rd, .inr (5, [.ref tk, .ref nd, .ref cd, .ref er, .ref ck])), (nd, .inr (6, [.ref d0, .ref d1, .ref d2, .ref d3, .ref d4, .ref d5, .ref d6, .ref d7, .ref d8, .int n1, .ref d9, .ref d10, .ref d11, .ref d12, .ref d13, .int n2])), (cd, .inr (2, [.ref e0_, .ref e1_, .ref e2_, .ref e3_, .int c1_, .ref e4_, .ref e5_, .ref e6_, .ref e7_, .ref e8_, .int c2_, .ref e9_, .int c3_]))] := hD
  refine lv_aload_n hx hb d_S_read_5 rfl (lv_at hl 0 rfl) ?_
  refine lv_iconst (v := 0) hx hb d_S_read_6 (by decide) ?_
  refine va_put (D := D) (ci := 0) (v := .int 0) (ty := .int) (C := R_S) (T := T_S) (N := 15) hx hb hG gi_S ty_S to_S nm_S hown hK hP hD hS 0 rfl rfl 13 (by decide) (hG _ fl_S_113) (fun _ h9 => h9) rfl (by decide +kernel) rfl rfl (Nat.le_of_ble_eq_true rfl) d_S_read_7 (fun H locs hP hD hS => ?_)
  have hP : va_P D kl [(h0, .inr (0, [.ref tk, .ref nd, .ref cd, .ref rd, .ref sl, .ref lk, .ref od, .ref pg, .ref gv, .ref tp, .int 0, .int ap, .int (-1), .int 0, .int kp])), (tk, .inr (10, [.ref tp, .ref wd, .ref t1, .ref t2, .ref t3, .int y1, .int y2, .int y3, .int y4])), (t1, .inl (cI, 65537, .inl kn)), (t2, .inl (cI, 65537, .inl pn)), (t3, .inl (cI, 65537, .inl im)), (wd, .inr (11, [.ref tp, .ref w1, .ref w2, .ref w3, .ref w4, .ref w5, .ref w6, .ref w7, .int (nI z)])), (tp, .inl (cB, 65638, .inl F)), (w1, .inl (cI, 512, .inl hd)), (w2, .inl (cI, 5923, .inl fr)), (w3, .inl (cI, 5923, .inl ln)), (w4, .inl (cI, 5923, .inl nx)), (w5, .inl (cI, 5923, .inl vr)), (w6, .inl (cI, 5923, .inl ow)), (w7, .inl (cI, 5923, .inl no)), (rd, .inr (5, [.ref tk, .ref nd, .ref cd, .ref er, .ref ck])), (nd, .inr (6, [.ref d0, .ref d1, .ref d2, .ref d3, .ref d4, .ref d5, .ref d6, .ref d7, .ref d8, .int n1, .ref d9, .ref d10, .ref d11, .ref d12, .ref d13, .int n2])), (cd, .inr (2, [.ref e0_, .ref e1_, .ref e2_, .ref e3_, .int c1_, .ref e4_, .ref e5_, .ref e6_, .ref e7_, .ref e8_, .int c2_, .ref e9_, .int c3_]))] H := hP
  have hD : va_D A [(h0, .inr (0, [.ref tk, .ref nd, .ref cd, .ref rd, .ref sl, .ref lk, .ref od, .ref pg, .ref gv, .ref tp, .int 0, .int ap, .int (-1), .int 0, .int kp])), (tk, .inr (10, [.ref tp, .ref wd, .ref t1, .ref t2, .ref t3, .int y1, .int y2, .int y3, .int y4])), (t1, .inl (cI, 65537, .inl kn)), (t2, .inl (cI, 65537, .inl pn)), (t3, .inl (cI, 65537, .inl im)), (wd, .inr (11, [.ref tp, .ref w1, .ref w2, .ref w3, .ref w4, .ref w5, .ref w6, .ref w7, .int (nI z)])), (tp, .inl (cB, 65638, .inl F)), (w1, .inl (cI, 512, .inl hd)), (w2, .inl (cI, 5923, .inl fr)), (w3, .inl (cI, 5923, .inl ln)), (w4, .inl (cI, 5923, .inl nx)), (w5, .inl (cI, 5923, .inl vr)), (w6, .inl (cI, 5923, .inl ow)), (w7, .inl (cI, 5923, .inl no)), (rd, .inr (5, [.ref tk, .ref nd, .ref cd, .ref er, .ref ck])), (nd, .inr (6, [.ref d0, .ref d1, .ref d2, .ref d3, .ref d4, .ref d5, .ref d6, .ref d7, .ref d8, .int n1, .ref d9, .ref d10, .ref d11, .ref d12, .ref d13, .int n2])), (cd, .inr (2, [.ref e0_, .ref e1_, .ref e2_, .ref e3_, .int c1_, .ref e4_, .ref e5_, .ref e6_, .ref e7_, .ref e8_, .int c2_, .ref e9_, .int c3_]))] := hD
  refine lv_aload_n hx hb d_S_read_10 rfl (lv_at hl 0 rfl) ?_
  refine lv_iconst (v := 0) hx hb d_S_read_11 (by decide) ?_
  refine va_put (D := D) (ci := 0) (v := .int 0) (ty := .int) (C := R_S) (T := T_S) (N := 15) hx hb hG gi_S ty_S to_S nm_S hown hK hP hD hS 0 rfl rfl 14 (by decide) (hG _ fl_S_116) (fun _ h9 => h9) rfl (by decide +kernel) rfl rfl (Nat.le_of_ble_eq_true rfl) d_S_read_12 (fun H locs hP hD hS => ?_)
  have hP : va_P D kl [(h0, .inr (0, [.ref tk, .ref nd, .ref cd, .ref rd, .ref sl, .ref lk, .ref od, .ref pg, .ref gv, .ref tp, .int 0, .int ap, .int (-1), .int 0, .int 0])), (tk, .inr (10, [.ref tp, .ref wd, .ref t1, .ref t2, .ref t3, .int y1, .int y2, .int y3, .int y4])), (t1, .inl (cI, 65537, .inl kn)), (t2, .inl (cI, 65537, .inl pn)), (t3, .inl (cI, 65537, .inl im)), (wd, .inr (11, [.ref tp, .ref w1, .ref w2, .ref w3, .ref w4, .ref w5, .ref w6, .ref w7, .int (nI z)])), (tp, .inl (cB, 65638, .inl F)), (w1, .inl (cI, 512, .inl hd)), (w2, .inl (cI, 5923, .inl fr)), (w3, .inl (cI, 5923, .inl ln)), (w4, .inl (cI, 5923, .inl nx)), (w5, .inl (cI, 5923, .inl vr)), (w6, .inl (cI, 5923, .inl ow)), (w7, .inl (cI, 5923, .inl no)), (rd, .inr (5, [.ref tk, .ref nd, .ref cd, .ref er, .ref ck])), (nd, .inr (6, [.ref d0, .ref d1, .ref d2, .ref d3, .ref d4, .ref d5, .ref d6, .ref d7, .ref d8, .int n1, .ref d9, .ref d10, .ref d11, .ref d12, .ref d13, .int n2])), (cd, .inr (2, [.ref e0_, .ref e1_, .ref e2_, .ref e3_, .int c1_, .ref e4_, .ref e5_, .ref e6_, .ref e7_, .ref e8_, .int c2_, .ref e9_, .int c3_]))] H := hP
  have hD : va_D A [(h0, .inr (0, [.ref tk, .ref nd, .ref cd, .ref rd, .ref sl, .ref lk, .ref od, .ref pg, .ref gv, .ref tp, .int 0, .int ap, .int (-1), .int 0, .int 0])), (tk, .inr (10, [.ref tp, .ref wd, .ref t1, .ref t2, .ref t3, .int y1, .int y2, .int y3, .int y4])), (t1, .inl (cI, 65537, .inl kn)), (t2, .inl (cI, 65537, .inl pn)), (t3, .inl (cI, 65537, .inl im)), (wd, .inr (11, [.ref tp, .ref w1, .ref w2, .ref w3, .ref w4, .ref w5, .ref w6, .ref w7, .int (nI z)])), (tp, .inl (cB, 65638, .inl F)), (w1, .inl (cI, 512, .inl hd)), (w2, .inl (cI, 5923, .inl fr)), (w3, .inl (cI, 5923, .inl ln)), (w4, .inl (cI, 5923, .inl nx)), (w5, .inl (cI, 5923, .inl vr)), (w6, .inl (cI, 5923, .inl ow)), (w7, .inl (cI, 5923, .inl no)), (rd, .inr (5, [.ref tk, .ref nd, .ref cd, .ref er, .ref ck])), (nd, .inr (6, [.ref d0, .ref d1, .ref d2, .ref d3, .ref d4, .ref d5, .ref d6, .ref d7, .ref d8, .int n1, .ref d9, .ref d10, .ref d11, .ref d12, .ref d13, .int n2])), (cd, .inr (2, [.ref e0_, .ref e1_, .ref e2_, .ref e3_, .int c1_, .ref e4_, .ref e5_, .ref e6_, .ref e7_, .ref e8_, .int c2_, .ref e9_, .int c3_]))] := hD
  refine lv_aload_n hx hb d_S_read_15 rfl (lv_at hl 0 rfl) ?_
  refine va_get (D := D) (ci := 0) (v := .ref tk) (C := R_S) (T := T_S) (N := 15) hx hb hG gi_S hown hK hP 0 rfl rfl 0 (by decide) (hG _ fl_S_39) (fun _ h9 => h9) rfl d_S_read_16 ?_
  refine lv_aload_n hx hb d_S_read_19 rfl (lv_at hl 0 rfl) ?_
  refine va_get (D := D) (ci := 0) (v := .int 0) (C := R_S) (T := T_S) (N := 15) hx hb hG gi_S hown hK hP 0 rfl rfl 10 (by decide) (hG _ fl_S_100) (fun _ h9 => h9) rfl d_S_read_20 ?_
  have hPc := hP.sub (ws' := [(tk, .inr (10, [.ref tp, .ref wd, .ref t1, .ref t2, .ref t3, .int y1, .int y2, .int y3, .int y4])), (t1, .inl (cI, 65537, .inl kn)), (t2, .inl (cI, 65537, .inl pn)), (t3, .inl (cI, 65537, .inl im)), (wd, .inr (11, [.ref tp, .ref w1, .ref w2, .ref w3, .ref w4, .ref w5, .ref w6, .ref w7, .int (nI z)])), (tp, .inl (cB, 65638, .inl F)), (w1, .inl (cI, 512, .inl hd)), (w2, .inl (cI, 5923, .inl fr)), (w3, .inl (cI, 5923, .inl ln)), (w4, .inl (cI, 5923, .inl nx)), (w5, .inl (cI, 5923, .inl vr)), (w6, .inl (cI, 5923, .inl ow)), (w7, .inl (cI, 5923, .inl no))]) [1, 2, 3, 4, 5, 6, 7, 8, 9, 10, 11, 12, 13] rfl
  have hDc := hD.sub (ws' := [(tk, .inr (10, [.ref tp, .ref wd, .ref t1, .ref t2, .ref t3, .int y1, .int y2, .int y3, .int y4])), (t1, .inl (cI, 65537, .inl kn)), (t2, .inl (cI, 65537, .inl pn)), (t3, .inl (cI, 65537, .inl im)), (wd, .inr (11, [.ref tp, .ref w1, .ref w2, .ref w3, .ref w4, .ref w5, .ref w6, .ref w7, .int (nI z)])), (tp, .inl (cB, 65638, .inl F)), (w1, .inl (cI, 512, .inl hd)), (w2, .inl (cI, 5923, .inl fr)), (w3, .inl (cI, 5923, .inl ln)), (w4, .inl (cI, 5923, .inl nx)), (w5, .inl (cI, 5923, .inl vr)), (w6, .inl (cI, 5923, .inl ow)), (w7, .inl (cI, 5923, .inl no))]) [1, 2, 3, 4, 5, 6, 7, 8, 9, 10, 11, 12, 13] (by decide) rfl
  have hFc := va_free (wc := [(tk, .inr (10, [.ref tp, .ref wd, .ref t1, .ref t2, .ref t3, .int y1, .int y2, .int y3, .int y4])), (t1, .inl (cI, 65537, .inl kn)), (t2, .inl (cI, 65537, .inl pn)), (t3, .inl (cI, 65537, .inl im)), (wd, .inr (11, [.ref tp, .ref w1, .ref w2, .ref w3, .ref w4, .ref w5, .ref w6, .ref w7, .int (nI z)])), (tp, .inl (cB, 65638, .inl F)), (w1, .inl (cI, 512, .inl hd)), (w2, .inl (cI, 5923, .inl fr)), (w3, .inl (cI, 5923, .inl ln)), (w4, .inl (cI, 5923, .inl nx)), (w5, .inl (cI, 5923, .inl vr)), (w6, .inl (cI, 5923, .inl ow)), (w7, .inl (cI, 5923, .inl no))]) hD hS hA [1, 2, 3, 4, 5, 6, 7, 8, 9, 10, 11, 12, 13] rfl
  refine va_callv (va_runV (As := [.int 0]) (rest := []) ⟨hx, hb, hml, hown, hG⟩ (c_Tk_scan0 l D cI cB cJ cZ H.size tk t1 t2 t3 kn pn im y1 y2 y3 y4 wd tp w1 w2 w3 w4 w5 w6 w7 z F hd fr ln nx vr ow no) (gcV 1 gG_good hG ml_S_119 im_Tk_scan se_Tk_scan in_Tk co_Tk_scan rfl rfl (by decide +kernel) ⟨(Nat.le_of_ble_eq_true rfl), (Nat.le_of_ble_eq_true rfl)⟩) (ct_preV hPc hK hDc (ci := 10) (q0 := 0) rfl rfl) rfl rfl hl.1 rfl (lv_room (Nat.le_of_ble_eq_true rfl)) d_S_read_23 ⟨(Nat.le_of_ble_eq_true rfl), (Nat.le_of_ble_eq_true rfl)⟩) hS (fun q _ h => hFc q h) hFc (fun _ t H1 locs ht hvm hw hB hz1 hk1 hS => ?_)
  obtain ⟨z1, hd1, fr1, ln1, nx1, vr1, ow1, no1, hI1, hP1, hD1⟩ := hB
  rw [ht] at hP1
  obtain ⟨hP, hD⟩ := va_join (wr := [(h0, .inr (0, [.ref tk, .ref nd, .ref cd, .ref rd, .ref sl, .ref lk, .ref od, .ref pg, .ref gv, .ref tp, .int 0, .int ap, .int (-1), .int 0, .int 0])), (rd, .inr (5, [.ref tk, .ref nd, .ref cd, .ref er, .ref ck])), (nd, .inr (6, [.ref d0, .ref d1, .ref d2, .ref d3, .ref d4, .ref d5, .ref d6, .ref d7, .ref d8, .int n1, .ref d9, .ref d10, .ref d11, .ref d12, .ref d13, .int n2])), (cd, .inr (2, [.ref e0_, .ref e1_, .ref e2_, .ref e3_, .int c1_, .ref e4_, .ref e5_, .ref e6_, .ref e7_, .ref e8_, .int c2_, .ref e9_, .int c3_]))]) (w1 := [(wd, .inr (11, [.ref tp, .ref w1, .ref w2, .ref w3, .ref w4, .ref w5, .ref w6, .ref w7, .int (nI z1)])), (tp, .inl (cB, 65638, .inl F)), (w1, .inl (cI, 512, .inl hd1)), (w2, .inl (cI, 5923, .inl fr1)), (w3, .inl (cI, 5923, .inl ln1)), (w4, .inl (cI, 5923, .inl nx1)), (w5, .inl (cI, 5923, .inl vr1)), (w6, .inl (cI, 5923, .inl ow1)), (w7, .inl (cI, 5923, .inl no1)), (tk, .inr (10, [.ref tp, .ref wd, .ref t1, .ref t2, .ref t3, .int (nI 1), .int 0, .int 0, .int 0])), (t1, .inl (cI, 65537, .inl (upd kn 0 0))), (t2, .inl (cI, 65537, .inl (upd pn 0 0))), (t3, .inl (cI, 65537, .inl (upd im 0 0)))]) hP hD [1, 2, 3, 4, 5, 6, 7, 8, 9, 10, 11, 12, 13] [0, 14, 15, 16] rfl rfl (by decide) (by decide) hk1 hFc hP1 hD1
  generalize H1 = H at hP hS ⊢
  have hP : va_P D kl [(h0, .inr (0, [.ref tk, .ref nd, .ref cd, .ref rd, .ref sl, .ref lk, .ref od, .ref pg, .ref gv, .ref tp, .int 0, .int ap, .int (-1), .int 0, .int 0])), (rd, .inr (5, [.ref tk, .ref nd, .ref cd, .ref er, .ref ck])), (nd, .inr (6, [.ref d0, .ref d1, .ref d2, .ref d3, .ref d4, .ref d5, .ref d6, .ref d7, .ref d8, .int n1, .ref d9, .ref d10, .ref d11, .ref d12, .ref d13, .int n2])), (cd, .inr (2, [.ref e0_, .ref e1_, .ref e2_, .ref e3_, .int c1_, .ref e4_, .ref e5_, .ref e6_, .ref e7_, .ref e8_, .int c2_, .ref e9_, .int c3_])), (wd, .inr (11, [.ref tp, .ref w1, .ref w2, .ref w3, .ref w4, .ref w5, .ref w6, .ref w7, .int (nI z1)])), (tp, .inl (cB, 65638, .inl F)), (w1, .inl (cI, 512, .inl hd1)), (w2, .inl (cI, 5923, .inl fr1)), (w3, .inl (cI, 5923, .inl ln1)), (w4, .inl (cI, 5923, .inl nx1)), (w5, .inl (cI, 5923, .inl vr1)), (w6, .inl (cI, 5923, .inl ow1)), (w7, .inl (cI, 5923, .inl no1)), (tk, .inr (10, [.ref tp, .ref wd, .ref t1, .ref t2, .ref t3, .int (nI 1), .int 0, .int 0, .int 0])), (t1, .inl (cI, 65537, .inl (upd kn 0 0))), (t2, .inl (cI, 65537, .inl (upd pn 0 0))), (t3, .inl (cI, 65537, .inl (upd im 0 0)))] H := hP
  have hD : va_D A [(h0, .inr (0, [.ref tk, .ref nd, .ref cd, .ref rd, .ref sl, .ref lk, .ref od, .ref pg, .ref gv, .ref tp, .int 0, .int ap, .int (-1), .int 0, .int 0])), (rd, .inr (5, [.ref tk, .ref nd, .ref cd, .ref er, .ref ck])), (nd, .inr (6, [.ref d0, .ref d1, .ref d2, .ref d3, .ref d4, .ref d5, .ref d6, .ref d7, .ref d8, .int n1, .ref d9, .ref d10, .ref d11, .ref d12, .ref d13, .int n2])), (cd, .inr (2, [.ref e0_, .ref e1_, .ref e2_, .ref e3_, .int c1_, .ref e4_, .ref e5_, .ref e6_, .ref e7_, .ref e8_, .int c2_, .ref e9_, .int c3_])), (wd, .inr (11, [.ref tp, .ref w1, .ref w2, .ref w3, .ref w4, .ref w5, .ref w6, .ref w7, .int (nI z1)])), (tp, .inl (cB, 65638, .inl F)), (w1, .inl (cI, 512, .inl hd1)), (w2, .inl (cI, 5923, .inl fr1)), (w3, .inl (cI, 5923, .inl ln1)), (w4, .inl (cI, 5923, .inl nx1)), (w5, .inl (cI, 5923, .inl vr1)), (w6, .inl (cI, 5923, .inl ow1)), (w7, .inl (cI, 5923, .inl no1)), (tk, .inr (10, [.ref tp, .ref wd, .ref t1, .ref t2, .ref t3, .int (nI 1), .int 0, .int 0, .int 0])), (t1, .inl (cI, 65537, .inl (upd kn 0 0))), (t2, .inl (cI, 65537, .inl (upd pn 0 0))), (t3, .inl (cI, 65537, .inl (upd im 0 0)))] := hD
  refine lv_aload_n hx hb d_S_read_26 rfl (lv_at hl 0 rfl) ?_
  refine lv_iconst (v := 0) hx hb d_S_read_27 (by decide) ?_
  refine va_put (D := D) (ci := 0) (v := .int 0) (ty := .int) (C := R_S) (T := T_S) (N := 15) hx hb hG gi_S ty_S to_S nm_S hown hK hP hD hS 0 rfl rfl 10 (by decide) (hG _ fl_S_100) (fun _ h9 => h9) rfl (by decide +kernel) rfl rfl (Nat.le_of_ble_eq_true rfl) d_S_read_28 (fun H locs hP hD hS => ?_)
  have hP : va_P D kl [(h0, .inr (0, [.ref tk, .ref nd, .ref cd, .ref rd, .ref sl, .ref lk, .ref od, .ref pg, .ref gv, .ref tp, .int 0, .int ap, .int (-1), .int 0, .int 0])), (rd, .inr (5, [.ref tk, .ref nd, .ref cd, .ref er, .ref ck])), (nd, .inr (6, [.ref d0, .ref d1, .ref d2, .ref d3, .ref d4, .ref d5, .ref d6, .ref d7, .ref d8, .int n1, .ref d9, .ref d10, .ref d11, .ref d12, .ref d13, .int n2])), (cd, .inr (2, [.ref e0_, .ref e1_, .ref e2_, .ref e3_, .int c1_, .ref e4_, .ref e5_, .ref e6_, .ref e7_, .ref e8_, .int c2_, .ref e9_, .int c3_])), (wd, .inr (11, [.ref tp, .ref w1, .ref w2, .ref w3, .ref w4, .ref w5, .ref w6, .ref w7, .int (nI z1)])), (tp, .inl (cB, 65638, .inl F)), (w1, .inl (cI, 512, .inl hd1)), (w2, .inl (cI, 5923, .inl fr1)), (w3, .inl (cI, 5923, .inl ln1)), (w4, .inl (cI, 5923, .inl nx1)), (w5, .inl (cI, 5923, .inl vr1)), (w6, .inl (cI, 5923, .inl ow1)), (w7, .inl (cI, 5923, .inl no1)), (tk, .inr (10, [.ref tp, .ref wd, .ref t1, .ref t2, .ref t3, .int (nI 1), .int 0, .int 0, .int 0])), (t1, .inl (cI, 65537, .inl (upd kn 0 0))), (t2, .inl (cI, 65537, .inl (upd pn 0 0))), (t3, .inl (cI, 65537, .inl (upd im 0 0)))] H := hP
  have hD : va_D A [(h0, .inr (0, [.ref tk, .ref nd, .ref cd, .ref rd, .ref sl, .ref lk, .ref od, .ref pg, .ref gv, .ref tp, .int 0, .int ap, .int (-1), .int 0, .int 0])), (rd, .inr (5, [.ref tk, .ref nd, .ref cd, .ref er, .ref ck])), (nd, .inr (6, [.ref d0, .ref d1, .ref d2, .ref d3, .ref d4, .ref d5, .ref d6, .ref d7, .ref d8, .int n1, .ref d9, .ref d10, .ref d11, .ref d12, .ref d13, .int n2])), (cd, .inr (2, [.ref e0_, .ref e1_, .ref e2_, .ref e3_, .int c1_, .ref e4_, .ref e5_, .ref e6_, .ref e7_, .ref e8_, .int c2_, .ref e9_, .int c3_])), (wd, .inr (11, [.ref tp, .ref w1, .ref w2, .ref w3, .ref w4, .ref w5, .ref w6, .ref w7, .int (nI z1)])), (tp, .inl (cB, 65638, .inl F)), (w1, .inl (cI, 512, .inl hd1)), (w2, .inl (cI, 5923, .inl fr1)), (w3, .inl (cI, 5923, .inl ln1)), (w4, .inl (cI, 5923, .inl nx1)), (w5, .inl (cI, 5923, .inl vr1)), (w6, .inl (cI, 5923, .inl ow1)), (w7, .inl (cI, 5923, .inl no1)), (tk, .inr (10, [.ref tp, .ref wd, .ref t1, .ref t2, .ref t3, .int (nI 1), .int 0, .int 0, .int 0])), (t1, .inl (cI, 65537, .inl (upd kn 0 0))), (t2, .inl (cI, 65537, .inl (upd pn 0 0))), (t3, .inl (cI, 65537, .inl (upd im 0 0)))] := hD
  refine lv_aload_n hx hb d_S_read_31 rfl (lv_at hl 0 rfl) ?_
  refine va_get (D := D) (ci := 0) (v := .ref nd) (C := R_S) (T := T_S) (N := 15) hx hb hG gi_S hown hK hP 0 rfl rfl 1 (by decide) (hG _ fl_S_46) (fun _ h9 => h9) rfl d_S_read_32 ?_
  have hPc := hP.sub (ws' := [(nd, .inr (6, [.ref d0, .ref d1, .ref d2, .ref d3, .ref d4, .ref d5, .ref d6, .ref d7, .ref d8, .int n1, .ref d9, .ref d10, .ref d11, .ref d12, .ref d13, .int n2]))]) [2] rfl
  have hDc := hD.sub (ws' := [(nd, .inr (6, [.ref d0, .ref d1, .ref d2, .ref d3, .ref d4, .ref d5, .ref d6, .ref d7, .ref d8, .int n1, .ref d9, .ref d10, .ref d11, .ref d12, .ref d13, .int n2]))]) [2] (by decide) rfl
  have hFc := va_free (wc := [(nd, .inr (6, [.ref d0, .ref d1, .ref d2, .ref d3, .ref d4, .ref d5, .ref d6, .ref d7, .ref d8, .int n1, .ref d9, .ref d10, .ref d11, .ref d12, .ref d13, .int n2]))]) hD hS hA [2] rfl
  refine va_callv (va_runV (As := []) (rest := []) ⟨hx, hb, hml, hown, hG⟩ (c_Nd_begin l D cI cB cJ cZ H.size nd d0 d1 d2 d3 d4 d5 d6 d7 d8 d9 d10 d11 d12 d13 n1 n2) (gcV 0 gG_good hG ml_S_122 im_Nd_begin se_Nd_begin in_Nd co_Nd_begin rfl rfl (by decide +kernel) ⟨(Nat.le_of_ble_eq_true rfl), (Nat.le_of_ble_eq_true rfl)⟩) (ct_preV hPc hK hDc (ci := 6) (q0 := 0) rfl rfl) rfl rfl hl.1 rfl (lv_room (Nat.le_of_ble_eq_true rfl)) d_S_read_35 ⟨(Nat.le_of_ble_eq_true rfl), (Nat.le_of_ble_eq_true rfl)⟩) hS (fun q _ h => hFc q h) hFc (fun _ t H1 locs ht hvm hw hB hz1 hk1 hS => ?_)
  obtain ⟨hP1, hD1⟩ := hB
  rw [ht] at hP1
  obtain ⟨hP, hD⟩ := va_join (wr := [(h0, .inr (0, [.ref tk, .ref nd, .ref cd, .ref rd, .ref sl, .ref lk, .ref od, .ref pg, .ref gv, .ref tp, .int 0, .int ap, .int (-1), .int 0, .int 0])), (rd, .inr (5, [.ref tk, .ref nd, .ref cd, .ref er, .ref ck])), (cd, .inr (2, [.ref e0_, .ref e1_, .ref e2_, .ref e3_, .int c1_, .ref e4_, .ref e5_, .ref e6_, .ref e7_, .ref e8_, .int c2_, .ref e9_, .int c3_])), (wd, .inr (11, [.ref tp, .ref w1, .ref w2, .ref w3, .ref w4, .ref w5, .ref w6, .ref w7, .int (nI z1)])), (tp, .inl (cB, 65638, .inl F)), (w1, .inl (cI, 512, .inl hd1)), (w2, .inl (cI, 5923, .inl fr1)), (w3, .inl (cI, 5923, .inl ln1)), (w4, .inl (cI, 5923, .inl nx1)), (w5, .inl (cI, 5923, .inl vr1)), (w6, .inl (cI, 5923, .inl ow1)), (w7, .inl (cI, 5923, .inl no1)), (tk, .inr (10, [.ref tp, .ref wd, .ref t1, .ref t2, .ref t3, .int (nI 1), .int 0, .int 0, .int 0])), (t1, .inl (cI, 65537, .inl (upd kn 0 0))), (t2, .inl (cI, 65537, .inl (upd pn 0 0))), (t3, .inl (cI, 65537, .inl (upd im 0 0)))]) (w1 := [(nd, .inr (6, [.ref d0, .ref d1, .ref d2, .ref d3, .ref d4, .ref d5, .ref d6, .ref d7, .ref d8, .int 0, .ref d9, .ref d10, .ref d11, .ref d12, .ref d13, .int 0]))]) hP hD [2] [0, 1, 3, 4, 5, 6, 7, 8, 9, 10, 11, 12, 13, 14, 15, 16] rfl rfl (by decide) (by decide) hk1 hFc hP1 hD1
  generalize H1 = H at hP hS ⊢
  have hP : va_P D kl [(h0, .inr (0, [.ref tk, .ref nd, .ref cd, .ref rd, .ref sl, .ref lk, .ref od, .ref pg, .ref gv, .ref tp, .int 0, .int ap, .int (-1), .int 0, .int 0])), (rd, .inr (5, [.ref tk, .ref nd, .ref cd, .ref er, .ref ck])), (cd, .inr (2, [.ref e0_, .ref e1_, .ref e2_, .ref e3_, .int c1_, .ref e4_, .ref e5_, .ref e6_, .ref e7_, .ref e8_, .int c2_, .ref e9_, .int c3_])), (wd, .inr (11, [.ref tp, .ref w1, .ref w2, .ref w3, .ref w4, .ref w5, .ref w6, .ref w7, .int (nI z1)])), (tp, .inl (cB, 65638, .inl F)), (w1, .inl (cI, 512, .inl hd1)), (w2, .inl (cI, 5923, .inl fr1)), (w3, .inl (cI, 5923, .inl ln1)), (w4, .inl (cI, 5923, .inl nx1)), (w5, .inl (cI, 5923, .inl vr1)), (w6, .inl (cI, 5923, .inl ow1)), (w7, .inl (cI, 5923, .inl no1)), (tk, .inr (10, [.ref tp, .ref wd, .ref t1, .ref t2, .ref t3, .int (nI 1), .int 0, .int 0, .int 0])), (t1, .inl (cI, 65537, .inl (upd kn 0 0))), (t2, .inl (cI, 65537, .inl (upd pn 0 0))), (t3, .inl (cI, 65537, .inl (upd im 0 0))), (nd, .inr (6, [.ref d0, .ref d1, .ref d2, .ref d3, .ref d4, .ref d5, .ref d6, .ref d7, .ref d8, .int 0, .ref d9, .ref d10, .ref d11, .ref d12, .ref d13, .int 0]))] H := hP
  have hD : va_D A [(h0, .inr (0, [.ref tk, .ref nd, .ref cd, .ref rd, .ref sl, .ref lk, .ref od, .ref pg, .ref gv, .ref tp, .int 0, .int ap, .int (-1), .int 0, .int 0])), (rd, .inr (5, [.ref tk, .ref nd, .ref cd, .ref er, .ref ck])), (cd, .inr (2, [.ref e0_, .ref e1_, .ref e2_, .ref e3_, .int c1_, .ref e4_, .ref e5_, .ref e6_, .ref e7_, .ref e8_, .int c2_, .ref e9_, .int c3_])), (wd, .inr (11, [.ref tp, .ref w1, .ref w2, .ref w3, .ref w4, .ref w5, .ref w6, .ref w7, .int (nI z1)])), (tp, .inl (cB, 65638, .inl F)), (w1, .inl (cI, 512, .inl hd1)), (w2, .inl (cI, 5923, .inl fr1)), (w3, .inl (cI, 5923, .inl ln1)), (w4, .inl (cI, 5923, .inl nx1)), (w5, .inl (cI, 5923, .inl vr1)), (w6, .inl (cI, 5923, .inl ow1)), (w7, .inl (cI, 5923, .inl no1)), (tk, .inr (10, [.ref tp, .ref wd, .ref t1, .ref t2, .ref t3, .int (nI 1), .int 0, .int 0, .int 0])), (t1, .inl (cI, 65537, .inl (upd kn 0 0))), (t2, .inl (cI, 65537, .inl (upd pn 0 0))), (t3, .inl (cI, 65537, .inl (upd im 0 0))), (nd, .inr (6, [.ref d0, .ref d1, .ref d2, .ref d3, .ref d4, .ref d5, .ref d6, .ref d7, .ref d8, .int 0, .ref d9, .ref d10, .ref d11, .ref d12, .ref d13, .int 0]))] := hD
  refine lv_aload_n hx hb d_S_read_38 rfl (lv_at hl 0 rfl) ?_
  refine va_get (D := D) (ci := 0) (v := .ref cd) (C := R_S) (T := T_S) (N := 15) hx hb hG gi_S hown hK hP 0 rfl rfl 2 (by decide) (hG _ fl_S_53) (fun _ h9 => h9) rfl d_S_read_39 ?_
  have hPc := hP.sub (ws' := [(cd, .inr (2, [.ref e0_, .ref e1_, .ref e2_, .ref e3_, .int c1_, .ref e4_, .ref e5_, .ref e6_, .ref e7_, .ref e8_, .int c2_, .ref e9_, .int c3_]))]) [2] rfl
  have hDc := hD.sub (ws' := [(cd, .inr (2, [.ref e0_, .ref e1_, .ref e2_, .ref e3_, .int c1_, .ref e4_, .ref e5_, .ref e6_, .ref e7_, .ref e8_, .int c2_, .ref e9_, .int c3_]))]) [2] (by decide) rfl
  have hFc := va_free (wc := [(cd, .inr (2, [.ref e0_, .ref e1_, .ref e2_, .ref e3_, .int c1_, .ref e4_, .ref e5_, .ref e6_, .ref e7_, .ref e8_, .int c2_, .ref e9_, .int c3_]))]) hD hS hA [2] rfl
  refine va_callv (va_runV (As := []) (rest := []) ⟨hx, hb, hml, hown, hG⟩ (c_Cd_begin l D cI cB cJ cZ H.size cd e0_ e1_ e2_ e3_ e4_ e5_ e6_ e7_ e8_ e9_ c1_ c2_ c3_) (gcV 0 gG_good hG ml_S_125 im_Cd_begin se_Cd_begin in_Cd co_Cd_begin rfl rfl (by decide +kernel) ⟨(Nat.le_of_ble_eq_true rfl), (Nat.le_of_ble_eq_true rfl)⟩) (ct_preV hPc hK hDc (ci := 2) (q0 := 0) rfl rfl) rfl rfl hl.1 rfl (lv_room (Nat.le_of_ble_eq_true rfl)) d_S_read_42 ⟨(Nat.le_of_ble_eq_true rfl), (Nat.le_of_ble_eq_true rfl)⟩) hS (fun q _ h => hFc q h) hFc (fun _ t H1 locs ht hvm hw hB hz1 hk1 hS => ?_)
  obtain ⟨hP1, hD1⟩ := hB
  rw [ht] at hP1
  obtain ⟨hP, hD⟩ := va_join (wr := [(h0, .inr (0, [.ref tk, .ref nd, .ref cd, .ref rd, .ref sl, .ref lk, .ref od, .ref pg, .ref gv, .ref tp, .int 0, .int ap, .int (-1), .int 0, .int 0])), (rd, .inr (5, [.ref tk, .ref nd, .ref cd, .ref er, .ref ck])), (wd, .inr (11, [.ref tp, .ref w1, .ref w2, .ref w3, .ref w4, .ref w5, .ref w6, .ref w7, .int (nI z1)])), (tp, .inl (cB, 65638, .inl F)), (w1, .inl (cI, 512, .inl hd1)), (w2, .inl (cI, 5923, .inl fr1)), (w3, .inl (cI, 5923, .inl ln1)), (w4, .inl (cI, 5923, .inl nx1)), (w5, .inl (cI, 5923, .inl vr1)), (w6, .inl (cI, 5923, .inl ow1)), (w7, .inl (cI, 5923, .inl no1)), (tk, .inr (10, [.ref tp, .ref wd, .ref t1, .ref t2, .ref t3, .int (nI 1), .int 0, .int 0, .int 0])), (t1, .inl (cI, 65537, .inl (upd kn 0 0))), (t2, .inl (cI, 65537, .inl (upd pn 0 0))), (t3, .inl (cI, 65537, .inl (upd im 0 0))), (nd, .inr (6, [.ref d0, .ref d1, .ref d2, .ref d3, .ref d4, .ref d5, .ref d6, .ref d7, .ref d8, .int 0, .ref d9, .ref d10, .ref d11, .ref d12, .ref d13, .int 0]))]) (w1 := [(cd, .inr (2, [.ref e0_, .ref e1_, .ref e2_, .ref e3_, .int 0, .ref e4_, .ref e5_, .ref e6_, .ref e7_, .ref e8_, .int 0, .ref e9_, .int 0]))]) hP hD [2] [0, 1, 3, 4, 5, 6, 7, 8, 9, 10, 11, 12, 13, 14, 15, 16] rfl rfl (by decide) (by decide) hk1 hFc hP1 hD1
  generalize H1 = H at hP hS ⊢
  have hP : va_P D kl [(h0, .inr (0, [.ref tk, .ref nd, .ref cd, .ref rd, .ref sl, .ref lk, .ref od, .ref pg, .ref gv, .ref tp, .int 0, .int ap, .int (-1), .int 0, .int 0])), (rd, .inr (5, [.ref tk, .ref nd, .ref cd, .ref er, .ref ck])), (wd, .inr (11, [.ref tp, .ref w1, .ref w2, .ref w3, .ref w4, .ref w5, .ref w6, .ref w7, .int (nI z1)])), (tp, .inl (cB, 65638, .inl F)), (w1, .inl (cI, 512, .inl hd1)), (w2, .inl (cI, 5923, .inl fr1)), (w3, .inl (cI, 5923, .inl ln1)), (w4, .inl (cI, 5923, .inl nx1)), (w5, .inl (cI, 5923, .inl vr1)), (w6, .inl (cI, 5923, .inl ow1)), (w7, .inl (cI, 5923, .inl no1)), (tk, .inr (10, [.ref tp, .ref wd, .ref t1, .ref t2, .ref t3, .int (nI 1), .int 0, .int 0, .int 0])), (t1, .inl (cI, 65537, .inl (upd kn 0 0))), (t2, .inl (cI, 65537, .inl (upd pn 0 0))), (t3, .inl (cI, 65537, .inl (upd im 0 0))), (nd, .inr (6, [.ref d0, .ref d1, .ref d2, .ref d3, .ref d4, .ref d5, .ref d6, .ref d7, .ref d8, .int 0, .ref d9, .ref d10, .ref d11, .ref d12, .ref d13, .int 0])), (cd, .inr (2, [.ref e0_, .ref e1_, .ref e2_, .ref e3_, .int 0, .ref e4_, .ref e5_, .ref e6_, .ref e7_, .ref e8_, .int 0, .ref e9_, .int 0]))] H := hP
  have hD : va_D A [(h0, .inr (0, [.ref tk, .ref nd, .ref cd, .ref rd, .ref sl, .ref lk, .ref od, .ref pg, .ref gv, .ref tp, .int 0, .int ap, .int (-1), .int 0, .int 0])), (rd, .inr (5, [.ref tk, .ref nd, .ref cd, .ref er, .ref ck])), (wd, .inr (11, [.ref tp, .ref w1, .ref w2, .ref w3, .ref w4, .ref w5, .ref w6, .ref w7, .int (nI z1)])), (tp, .inl (cB, 65638, .inl F)), (w1, .inl (cI, 512, .inl hd1)), (w2, .inl (cI, 5923, .inl fr1)), (w3, .inl (cI, 5923, .inl ln1)), (w4, .inl (cI, 5923, .inl nx1)), (w5, .inl (cI, 5923, .inl vr1)), (w6, .inl (cI, 5923, .inl ow1)), (w7, .inl (cI, 5923, .inl no1)), (tk, .inr (10, [.ref tp, .ref wd, .ref t1, .ref t2, .ref t3, .int (nI 1), .int 0, .int 0, .int 0])), (t1, .inl (cI, 65537, .inl (upd kn 0 0))), (t2, .inl (cI, 65537, .inl (upd pn 0 0))), (t3, .inl (cI, 65537, .inl (upd im 0 0))), (nd, .inr (6, [.ref d0, .ref d1, .ref d2, .ref d3, .ref d4, .ref d5, .ref d6, .ref d7, .ref d8, .int 0, .ref d9, .ref d10, .ref d11, .ref d12, .ref d13, .int 0])), (cd, .inr (2, [.ref e0_, .ref e1_, .ref e2_, .ref e3_, .int 0, .ref e4_, .ref e5_, .ref e6_, .ref e7_, .ref e8_, .int 0, .ref e9_, .int 0]))] := hD
  refine lv_iconst (v := 1) hx hb d_S_read_45 (by decide) ?_
  refine lv_istore_n (lv' := [(1, .int 1), (0, .ref h0)]) hx hb d_S_read_46 rfl hl (by decide) rfl (fun ls hl => ?_)
  refine lv_iconst (v := 0) hx hb d_S_read_47 (by decide) ?_
  refine lv_istore_n (lv' := [(2, .int 0), (1, .int 1), (0, .ref h0)]) hx hb d_S_read_48 rfl hl (by decide) rfl (fun ls hl => ?_)
  refine lv_iload_n hx hb d_S_read_49 rfl (lv_at hl 1 rfl) ?_
  refine lv_if_eq (tgt := 101) hx hb d_S_read_50 (by decide) (fun zz7 => absurd zz7 (by decide)) (fun _ => ?_)
  refine lv_iload_n hx hb d_S_read_53 rfl (lv_at hl 0 rfl) ?_
  refine lv_bipush (v := 59) hx hb d_S_read_54 (by decide) ?_
  refine lv_icmp_gt (tgt := 101) hx hb d_S_read_56 (by decide) (fun zz8 => absurd zz8 (by decide)) (fun _ => ?_)
  refine lv_aload_n hx hb d_S_read_59 rfl (lv_at hl 2 rfl) ?_
  refine va_get (D := D) (ci := 0) (v := .ref rd) (C := R_S) (T := T_S) (N := 15) hx hb hG gi_S hown hK hP 0 rfl rfl 3 (by decide) (hG _ fl_S_62) (fun _ h9 => h9) rfl d_S_read_60 ?_
  have hPc := hP.sub (ws' := [(rd, .inr (5, [.ref tk, .ref nd, .ref cd, .ref er, .ref ck])), (tk, .inr (10, [.ref tp, .ref wd, .ref t1, .ref t2, .ref t3, .int (nI 1), .int 0, .int 0, .int 0])), (t1, .inl (cI, 65537, .inl (upd kn 0 0))), (t2, .inl (cI, 65537, .inl (upd pn 0 0))), (t3, .inl (cI, 65537, .inl (upd im 0 0)))]) [1, 11, 12, 13, 14] rfl
  have hDc := hD.sub (ws' := [(rd, .inr (5, [.ref tk, .ref nd, .ref cd, .ref er, .ref ck])), (tk, .inr (10, [.ref tp, .ref wd, .ref t1, .ref t2, .ref t3, .int (nI 1), .int 0, .int 0, .int 0])), (t1, .inl (cI, 65537, .inl (upd kn 0 0))), (t2, .inl (cI, 65537, .inl (upd pn 0 0))), (t3, .inl (cI, 65537, .inl (upd im 0 0)))]) [1, 11, 12, 13, 14] (by decide) rfl
  have hFc := va_free (wc := [(rd, .inr (5, [.ref tk, .ref nd, .ref cd, .ref er, .ref ck])), (tk, .inr (10, [.ref tp, .ref wd, .ref t1, .ref t2, .ref t3, .int (nI 1), .int 0, .int 0, .int 0])), (t1, .inl (cI, 65537, .inl (upd kn 0 0))), (t2, .inl (cI, 65537, .inl (upd pn 0 0))), (t3, .inl (cI, 65537, .inl (upd im 0 0)))]) hD hS hA [1, 11, 12, 13, 14] rfl
  refine va_calli (va_runV (As := []) (rest := []) ⟨hx, hb, hml, hown, hG⟩ (c_Nr_readHead0 l D cI cB cJ cZ H.size rd nd cd er ck tk tp wd t1 t2 t3 (upd kn 0 0) (upd pn 0 0) (upd im 0 0) 0 (nI 1) 0 (by decide) (by rw [pk_us]; decide)) (gcV 0 gG_good hG ml_S_126 im_Nr_readHead se_Nr_readHead in_Nr co_Nr_readHead rfl rfl (by decide +kernel) ⟨(Nat.le_of_ble_eq_true rfl), (Nat.le_of_ble_eq_true rfl)⟩) (ct_preV hPc hK hDc (ci := 5) (q0 := 0) rfl rfl) rfl rfl hl.1 rfl (lv_room (Nat.le_of_ble_eq_true rfl)) d_S_read_63 ⟨(Nat.le_of_ble_eq_true rfl), (Nat.le_of_ble_eq_true rfl)⟩) hS (fun q _ h => hFc q h) hFc (fun rr _ t H1 locs ht hvm hw hB hz1 hk1 hS => ?_)
  obtain ⟨hP1, hD1⟩ := hB
  rw [ht] at hP1
  obtain ⟨hP, hD⟩ := va_join (wr := [(h0, .inr (0, [.ref tk, .ref nd, .ref cd, .ref rd, .ref sl, .ref lk, .ref od, .ref pg, .ref gv, .ref tp, .int 0, .int ap, .int (-1), .int 0, .int 0])), (wd, .inr (11, [.ref tp, .ref w1, .ref w2, .ref w3, .ref w4, .ref w5, .ref w6, .ref w7, .int (nI z1)])), (tp, .inl (cB, 65638, .inl F)), (w1, .inl (cI, 512, .inl hd1)), (w2, .inl (cI, 5923, .inl fr1)), (w3, .inl (cI, 5923, .inl ln1)), (w4, .inl (cI, 5923, .inl nx1)), (w5, .inl (cI, 5923, .inl vr1)), (w6, .inl (cI, 5923, .inl ow1)), (w7, .inl (cI, 5923, .inl no1)), (nd, .inr (6, [.ref d0, .ref d1, .ref d2, .ref d3, .ref d4, .ref d5, .ref d6, .ref d7, .ref d8, .int 0, .ref d9, .ref d10, .ref d11, .ref d12, .ref d13, .int 0])), (cd, .inr (2, [.ref e0_, .ref e1_, .ref e2_, .ref e3_, .int 0, .ref e4_, .ref e5_, .ref e6_, .ref e7_, .ref e8_, .int 0, .ref e9_, .int 0]))]) (w1 := [(rd, .inr (5, [.ref tk, .ref nd, .ref cd, .ref er, .ref ck])), (tk, .inr (10, [.ref tp, .ref wd, .ref t1, .ref t2, .ref t3, .int (nI 1), .int 0, .int 1, .int ((upd pn 0 0) 0)])), (t1, .inl (cI, 65537, .inl (upd kn 0 0))), (t2, .inl (cI, 65537, .inl (upd pn 0 0))), (t3, .inl (cI, 65537, .inl (upd im 0 0)))]) hP hD [1, 11, 12, 13, 14] [0, 2, 3, 4, 5, 6, 7, 8, 9, 10, 15, 16] rfl rfl (by decide) (by decide) hk1 hFc hP1 hD1
  generalize H1 = H at hP hS ⊢
  have hP : va_P D kl [(h0, .inr (0, [.ref tk, .ref nd, .ref cd, .ref rd, .ref sl, .ref lk, .ref od, .ref pg, .ref gv, .ref tp, .int 0, .int ap, .int (-1), .int 0, .int 0])), (wd, .inr (11, [.ref tp, .ref w1, .ref w2, .ref w3, .ref w4, .ref w5, .ref w6, .ref w7, .int (nI z1)])), (tp, .inl (cB, 65638, .inl F)), (w1, .inl (cI, 512, .inl hd1)), (w2, .inl (cI, 5923, .inl fr1)), (w3, .inl (cI, 5923, .inl ln1)), (w4, .inl (cI, 5923, .inl nx1)), (w5, .inl (cI, 5923, .inl vr1)), (w6, .inl (cI, 5923, .inl ow1)), (w7, .inl (cI, 5923, .inl no1)), (nd, .inr (6, [.ref d0, .ref d1, .ref d2, .ref d3, .ref d4, .ref d5, .ref d6, .ref d7, .ref d8, .int 0, .ref d9, .ref d10, .ref d11, .ref d12, .ref d13, .int 0])), (cd, .inr (2, [.ref e0_, .ref e1_, .ref e2_, .ref e3_, .int 0, .ref e4_, .ref e5_, .ref e6_, .ref e7_, .ref e8_, .int 0, .ref e9_, .int 0])), (rd, .inr (5, [.ref tk, .ref nd, .ref cd, .ref er, .ref ck])), (tk, .inr (10, [.ref tp, .ref wd, .ref t1, .ref t2, .ref t3, .int (nI 1), .int 0, .int 1, .int ((upd pn 0 0) 0)])), (t1, .inl (cI, 65537, .inl (upd kn 0 0))), (t2, .inl (cI, 65537, .inl (upd pn 0 0))), (t3, .inl (cI, 65537, .inl (upd im 0 0)))] H := hP
  have hD : va_D A [(h0, .inr (0, [.ref tk, .ref nd, .ref cd, .ref rd, .ref sl, .ref lk, .ref od, .ref pg, .ref gv, .ref tp, .int 0, .int ap, .int (-1), .int 0, .int 0])), (wd, .inr (11, [.ref tp, .ref w1, .ref w2, .ref w3, .ref w4, .ref w5, .ref w6, .ref w7, .int (nI z1)])), (tp, .inl (cB, 65638, .inl F)), (w1, .inl (cI, 512, .inl hd1)), (w2, .inl (cI, 5923, .inl fr1)), (w3, .inl (cI, 5923, .inl ln1)), (w4, .inl (cI, 5923, .inl nx1)), (w5, .inl (cI, 5923, .inl vr1)), (w6, .inl (cI, 5923, .inl ow1)), (w7, .inl (cI, 5923, .inl no1)), (nd, .inr (6, [.ref d0, .ref d1, .ref d2, .ref d3, .ref d4, .ref d5, .ref d6, .ref d7, .ref d8, .int 0, .ref d9, .ref d10, .ref d11, .ref d12, .ref d13, .int 0])), (cd, .inr (2, [.ref e0_, .ref e1_, .ref e2_, .ref e3_, .int 0, .ref e4_, .ref e5_, .ref e6_, .ref e7_, .ref e8_, .int 0, .ref e9_, .int 0])), (rd, .inr (5, [.ref tk, .ref nd, .ref cd, .ref er, .ref ck])), (tk, .inr (10, [.ref tp, .ref wd, .ref t1, .ref t2, .ref t3, .int (nI 1), .int 0, .int 1, .int ((upd pn 0 0) 0)])), (t1, .inl (cI, 65537, .inl (upd kn 0 0))), (t2, .inl (cI, 65537, .inl (upd pn 0 0))), (t3, .inl (cI, 65537, .inl (upd im 0 0)))] := hD
  rw [hw]
  refine lv_if_eq (tgt := 93) hx hb d_S_read_66 (by decide) (fun _ => ?_) (fun zz10 => absurd rfl zz10)
  refine lv_iconst (v := 0) hx hb d_S_read_93 (by decide) ?_
  refine lv_istore_n (lv' := [(1, .int 0), (2, .int 0), (0, .ref h0)]) hx hb d_S_read_94 rfl hl (by decide) rfl (fun ls hl => ?_)
  refine lv_iinc (k := 1) (x := 0) (v := (0 + 1)) (lv' := [(2, .int (0 + 1)), (1, .int 0), (0, .ref h0)]) hx hb d_S_read_95 hl rfl (congrArg (0 + ·) (by decide)) (by decide) rfl (fun ls hl => ?_)
  refine lv_goto (tgt := 49) hx hb d_S_read_98 (by decide) ?_
  refine lv_iload_n hx hb d_S_read_49 rfl (lv_at hl 1 rfl) ?_
  refine lv_if_eq (tgt := 101) hx hb d_S_read_50 (by decide) (fun _ => ?_) (fun zz11 => absurd rfl zz11)
  refine lv_aload_n hx hb d_S_read_101 rfl (lv_at hl 2 rfl) ?_
  refine va_get (D := D) (ci := 0) (v := .ref tk) (C := R_S) (T := T_S) (N := 15) hx hb hG gi_S hown hK hP 0 rfl rfl 0 (by decide) (hG _ fl_S_39) (fun _ h9 => h9) rfl d_S_read_102 ?_
  refine va_get (D := D) (ci := 10) (v := .int 1) (C := R_Tk) (T := T_Tk) (N := 9) hx hb hG gi_Tk hown hK hP 13 rfl rfl 7 (by decide) (hG _ fl_S_136) (fun _ h9 => h9) rfl d_S_read_105 ?_
  refine lv_if_ne (tgt := 177) hx hb d_S_read_108 (by decide) (fun _ => ?_) (fun zz12 => absurd zz12 (by decide))
  refine lv_aload_n hx hb d_S_read_177 rfl (lv_at hl 2 rfl) ?_
  refine va_get (D := D) (ci := 0) (v := .int (-1)) (C := R_S) (T := T_S) (N := 15) hx hb hG gi_S hown hK hP 0 rfl rfl 12 (by decide) (hG _ fl_S_26) (fun _ h9 => h9) rfl d_S_read_178 ?_
  refine lv_if_ge (tgt := 188) hx hb d_S_read_181 (by decide) (fun zz13 => absurd zz13 (by decide)) (fun _ => ?_)
  refine lv_iconst (v := (-1)) hx hb d_S_read_184 (by decide) ?_
  refine lv_goto (tgt := 195) hx hb d_S_read_185 (by decide) ?_
  rw [pk_us] at hP hD
  have hP : va_P D kl [(wd, .inr (11, [.ref tp, .ref w1, .ref w2, .ref w3, .ref w4, .ref w5, .ref w6, .ref w7, .int (nI z1)])), (tp, .inl (cB, 65638, .inl F)), (w1, .inl (cI, 512, .inl hd1)), (w2, .inl (cI, 5923, .inl fr1)), (w3, .inl (cI, 5923, .inl ln1)), (w4, .inl (cI, 5923, .inl nx1)), (w5, .inl (cI, 5923, .inl vr1)), (w6, .inl (cI, 5923, .inl ow1)), (w7, .inl (cI, 5923, .inl no1)), (h0, .inr (0, [.ref tk, .ref nd, .ref cd, .ref rd, .ref sl, .ref lk, .ref od, .ref pg, .ref gv, .ref tp, .int 0, .int ap, .int (-1), .int 0, .int 0])), (nd, .inr (6, [.ref d0, .ref d1, .ref d2, .ref d3, .ref d4, .ref d5, .ref d6, .ref d7, .ref d8, .int 0, .ref d9, .ref d10, .ref d11, .ref d12, .ref d13, .int 0])), (cd, .inr (2, [.ref e0_, .ref e1_, .ref e2_, .ref e3_, .int 0, .ref e4_, .ref e5_, .ref e6_, .ref e7_, .ref e8_, .int 0, .ref e9_, .int 0])), (rd, .inr (5, [.ref tk, .ref nd, .ref cd, .ref er, .ref ck])), (tk, .inr (10, [.ref tp, .ref wd, .ref t1, .ref t2, .ref t3, .int (nI 1), .int 0, .int 1, .int 0])), (t1, .inl (cI, 65537, .inl (upd kn 0 0))), (t2, .inl (cI, 65537, .inl (upd pn 0 0))), (t3, .inl (cI, 65537, .inl (upd im 0 0)))] H := hP.sub [1, 2, 3, 4, 5, 6, 7, 8, 9, 0, 10, 11, 12, 13, 14, 15, 16] rfl
  have hD : va_D A [(wd, .inr (11, [.ref tp, .ref w1, .ref w2, .ref w3, .ref w4, .ref w5, .ref w6, .ref w7, .int (nI z1)])), (tp, .inl (cB, 65638, .inl F)), (w1, .inl (cI, 512, .inl hd1)), (w2, .inl (cI, 5923, .inl fr1)), (w3, .inl (cI, 5923, .inl ln1)), (w4, .inl (cI, 5923, .inl nx1)), (w5, .inl (cI, 5923, .inl vr1)), (w6, .inl (cI, 5923, .inl ow1)), (w7, .inl (cI, 5923, .inl no1)), (h0, .inr (0, [.ref tk, .ref nd, .ref cd, .ref rd, .ref sl, .ref lk, .ref od, .ref pg, .ref gv, .ref tp, .int 0, .int ap, .int (-1), .int 0, .int 0])), (nd, .inr (6, [.ref d0, .ref d1, .ref d2, .ref d3, .ref d4, .ref d5, .ref d6, .ref d7, .ref d8, .int 0, .ref d9, .ref d10, .ref d11, .ref d12, .ref d13, .int 0])), (cd, .inr (2, [.ref e0_, .ref e1_, .ref e2_, .ref e3_, .int 0, .ref e4_, .ref e5_, .ref e6_, .ref e7_, .ref e8_, .int 0, .ref e9_, .int 0])), (rd, .inr (5, [.ref tk, .ref nd, .ref cd, .ref er, .ref ck])), (tk, .inr (10, [.ref tp, .ref wd, .ref t1, .ref t2, .ref t3, .int (nI 1), .int 0, .int 1, .int 0])), (t1, .inl (cI, 65537, .inl (upd kn 0 0))), (t2, .inl (cI, 65537, .inl (upd pn 0 0))), (t3, .inl (cI, 65537, .inl (upd im 0 0)))] := hD.sub [1, 2, 3, 4, 5, 6, 7, 8, 9, 0, 10, 11, 12, 13, 14, 15, 16] (by decide) rfl
  exact W.iret (v := (-1)) hx hb hr (fun t ht hW => ⟨⟨(-1), (), rfl, rfl, z1, hd1, fr1, ln1, nx1, vr1, ow1, no1, hI1, by rw [ht]; exact hP, hD⟩, hS.F ht⟩) hS.2.2 d_S_read_195

