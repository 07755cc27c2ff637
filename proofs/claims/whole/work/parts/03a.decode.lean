theorem dX0_init_0 : decode cX0_init 0 = .ok (.aload_n 0, 1) := by decide +kernel
theorem dX0_init_1 : decode cX0_init 1 = .ok (.invokespecial 3, 3) := by decide +kernel
theorem dX0_init_4 : decode cX0_init 4 = .ok (.aload_n 0, 1) := by decide +kernel
theorem dX0_init_5 : decode cX0_init 5 = .ok (.bipush 50, 2) := by decide +kernel
theorem dX0_init_7 : decode cX0_init 7 = .ok (.newarray .int, 2) := by decide +kernel
theorem dX0_init_9 : decode cX0_init 9 = .ok (.putfield 11, 3) := by decide +kernel
theorem dX0_init_12 : decode cX0_init 12 = .ok (.aload_n 0, 1) := by decide +kernel
theorem dX0_init_13 : decode cX0_init 13 = .ok (.bipush 24, 2) := by decide +kernel
theorem dX0_init_15 : decode cX0_init 15 = .ok (.newarray .int, 2) := by decide +kernel
theorem dX0_init_17 : decode cX0_init 17 = .ok (.putfield 15, 3) := by decide +kernel
theorem dX0_init_20 : decode cX0_init 20 = .ok (.return_, 1) := by decide +kernel
theorem dX0_has_0 : decode cX0_has 0 = .ok (.iload_n 1, 1) := by decide +kernel
theorem dX0_has_1 : decode cX0_has 1 = .ok (.ifCond .lt 15, 3) := by decide +kernel
theorem dX0_has_4 : decode cX0_has 4 = .ok (.iload_n 1, 1) := by decide +kernel
theorem dX0_has_5 : decode cX0_has 5 = .ok (.aload_n 0, 1) := by decide +kernel
theorem dX0_has_6 : decode cX0_has 6 = .ok (.getfield 18, 3) := by decide +kernel
theorem dX0_has_9 : decode cX0_has 9 = .ok (.if_icmp .ge 7, 3) := by decide +kernel
theorem dX0_has_12 : decode cX0_has 12 = .ok (.iconst 1, 1) := by decide +kernel
theorem dX0_has_13 : decode cX0_has 13 = .ok (.goto 4, 3) := by decide +kernel
theorem dX0_has_16 : decode cX0_has 16 = .ok (.iconst 0, 1) := by decide +kernel
theorem dX0_has_17 : decode cX0_has 17 = .ok (.ireturn, 1) := by decide +kernel
theorem dX0_add_0 : decode cX0_add 0 = .ok (.aload_n 0, 1) := by decide +kernel
theorem dX0_add_1 : decode cX0_add 1 = .ok (.getfield 18, 3) := by decide +kernel
theorem dX0_add_4 : decode cX0_add 4 = .ok (.bipush 50, 2) := by decide +kernel
theorem dX0_add_6 : decode cX0_add 6 = .ok (.if_icmp .lt 6, 3) := by decide +kernel
theorem dX0_add_9 : decode cX0_add 9 = .ok (.bipush (-3), 2) := by decide +kernel
theorem dX0_add_11 : decode cX0_add 11 = .ok (.ireturn, 1) := by decide +kernel
theorem dX0_add_12 : decode cX0_add 12 = .ok (.aload_n 0, 1) := by decide +kernel
theorem dX0_add_13 : decode cX0_add 13 = .ok (.getfield 11, 3) := by decide +kernel
theorem dX0_add_16 : decode cX0_add 16 = .ok (.aload_n 0, 1) := by decide +kernel
theorem dX0_add_17 : decode cX0_add 17 = .ok (.getfield 18, 3) := by decide +kernel
theorem dX0_add_20 : decode cX0_add 20 = .ok (.iload_n 1, 1) := by decide +kernel
theorem dX0_add_21 : decode cX0_add 21 = .ok (.iastore, 1) := by decide +kernel
theorem dX0_add_22 : decode cX0_add 22 = .ok (.aload_n 0, 1) := by decide +kernel
theorem dX0_add_23 : decode cX0_add 23 = .ok (.dup, 1) := by decide +kernel
theorem dX0_add_24 : decode cX0_add 24 = .ok (.getfield 18, 3) := by decide +kernel
theorem dX0_add_27 : decode cX0_add 27 = .ok (.iconst 1, 1) := by decide +kernel
theorem dX0_add_28 : decode cX0_add 28 = .ok (.iadd, 1) := by decide +kernel
theorem dX0_add_29 : decode cX0_add 29 = .ok (.putfield 18, 3) := by decide +kernel
theorem dX0_add_32 : decode cX0_add 32 = .ok (.aload_n 0, 1) := by decide +kernel
theorem dX0_add_33 : decode cX0_add 33 = .ok (.getfield 18, 3) := by decide +kernel
theorem dX0_add_36 : decode cX0_add 36 = .ok (.iconst 1, 1) := by decide +kernel
theorem dX0_add_37 : decode cX0_add 37 = .ok (.isub, 1) := by decide +kernel
theorem dX0_add_38 : decode cX0_add 38 = .ok (.ireturn, 1) := by decide +kernel
theorem dX0_kindOf_0 : decode cX0_kindOf 0 = .ok (.aload_n 0, 1) := by decide +kernel
theorem dX0_kindOf_1 : decode cX0_kindOf 1 = .ok (.iload_n 1, 1) := by decide +kernel
theorem dX0_kindOf_2 : decode cX0_kindOf 2 = .ok (.invokevirtual 22, 3) := by decide +kernel
theorem dX0_kindOf_5 : decode cX0_kindOf 5 = .ok (.ifCond .eq 12, 3) := by decide +kernel
theorem dX0_kindOf_8 : decode cX0_kindOf 8 = .ok (.aload_n 0, 1) := by decide +kernel
theorem dX0_kindOf_9 : decode cX0_kindOf 9 = .ok (.getfield 11, 3) := by decide +kernel
theorem dX0_kindOf_12 : decode cX0_kindOf 12 = .ok (.iload_n 1, 1) := by decide +kernel
theorem dX0_kindOf_13 : decode cX0_kindOf 13 = .ok (.iaload, 1) := by decide +kernel
theorem dX0_kindOf_14 : decode cX0_kindOf 14 = .ok (.goto 4, 3) := by decide +kernel
theorem dX0_kindOf_17 : decode cX0_kindOf 17 = .ok (.iconst 0, 1) := by decide +kernel
theorem dX0_kindOf_18 : decode cX0_kindOf 18 = .ok (.ireturn, 1) := by decide +kernel
theorem dX0_isOrUnder_0 : decode cX0_isOrUnder 0 = .ok (.iload_n 0, 1) := by decide +kernel
theorem dX0_isOrUnder_1 : decode cX0_isOrUnder 1 = .ok (.istore_n 2, 1) := by decide +kernel
theorem dX0_isOrUnder_2 : decode cX0_isOrUnder 2 = .ok (.iconst 0, 1) := by decide +kernel
theorem dX0_isOrUnder_3 : decode cX0_isOrUnder 3 = .ok (.istore_n 3, 1) := by decide +kernel
theorem dX0_isOrUnder_4 : decode cX0_isOrUnder 4 = .ok (.iload_n 3, 1) := by decide +kernel
theorem dX0_isOrUnder_5 : decode cX0_isOrUnder 5 = .ok (.bipush 8, 2) := by decide +kernel
theorem dX0_isOrUnder_7 : decode cX0_isOrUnder 7 = .ok (.if_icmp .ge 32, 3) := by decide +kernel
theorem dX0_isOrUnder_10 : decode cX0_isOrUnder 10 = .ok (.iload_n 2, 1) := by decide +kernel
theorem dX0_isOrUnder_11 : decode cX0_isOrUnder 11 = .ok (.iconst 0, 1) := by decide +kernel
theorem dX0_isOrUnder_12 : decode cX0_isOrUnder 12 = .ok (.bipush 7, 2) := by decide +kernel
theorem dX0_isOrUnder_14 : decode cX0_isOrUnder 14 = .ok (.invokestatic 26, 3) := by decide +kernel
theorem dX0_isOrUnder_17 : decode cX0_isOrUnder 17 = .ok (.ifCond .eq 22, 3) := by decide +kernel
theorem dX0_isOrUnder_20 : decode cX0_isOrUnder 20 = .ok (.iload_n 2, 1) := by decide +kernel
theorem dX0_isOrUnder_21 : decode cX0_isOrUnder 21 = .ok (.iload_n 1, 1) := by decide +kernel
theorem dX0_isOrUnder_22 : decode cX0_isOrUnder 22 = .ok (.if_icmp .ne 5, 3) := by decide +kernel
theorem dX0_isOrUnder_25 : decode cX0_isOrUnder 25 = .ok (.iconst 1, 1) := by decide +kernel
theorem dX0_isOrUnder_26 : decode cX0_isOrUnder 26 = .ok (.ireturn, 1) := by decide +kernel
theorem dX0_isOrUnder_27 : decode cX0_isOrUnder 27 = .ok (.getstatic 30, 3) := by decide +kernel
theorem dX0_isOrUnder_30 : decode cX0_isOrUnder 30 = .ok (.iload_n 2, 1) := by decide +kernel
theorem dX0_isOrUnder_31 : decode cX0_isOrUnder 31 = .ok (.iaload, 1) := by decide +kernel
theorem dX0_isOrUnder_32 : decode cX0_isOrUnder 32 = .ok (.istore_n 2, 1) := by decide +kernel
theorem dX0_isOrUnder_33 : decode cX0_isOrUnder 33 = .ok (.iinc 3 1, 3) := by decide +kernel
theorem dX0_isOrUnder_36 : decode cX0_isOrUnder 36 = .ok (.goto (-32), 3) := by decide +kernel
theorem dX0_isOrUnder_39 : decode cX0_isOrUnder 39 = .ok (.iconst 0, 1) := by decide +kernel
theorem dX0_isOrUnder_40 : decode cX0_isOrUnder 40 = .ok (.ireturn, 1) := by decide +kernel
theorem dX0_forgetTrace_0 : decode cX0_forgetTrace 0 = .ok (.aload_n 0, 1) := by decide +kernel
theorem dX0_forgetTrace_1 : decode cX0_forgetTrace 1 = .ok (.iconst 0, 1) := by decide +kernel
theorem dX0_forgetTrace_2 : decode cX0_forgetTrace 2 = .ok (.putfield 33, 3) := by decide +kernel
theorem dX0_forgetTrace_5 : decode cX0_forgetTrace 5 = .ok (.return_, 1) := by decide +kernel
theorem dX0_traced_0 : decode cX0_traced 0 = .ok (.iload_n 1, 1) := by decide +kernel
theorem dX0_traced_1 : decode cX0_traced 1 = .ok (.ifCond .lt 26, 3) := by decide +kernel
theorem dX0_traced_4 : decode cX0_traced 4 = .ok (.iload_n 1, 1) := by decide +kernel
theorem dX0_traced_5 : decode cX0_traced 5 = .ok (.aload_n 0, 1) := by decide +kernel
theorem dX0_traced_6 : decode cX0_traced 6 = .ok (.getfield 33, 3) := by decide +kernel
theorem dX0_traced_9 : decode cX0_traced 9 = .ok (.if_icmp .ge 18, 3) := by decide +kernel
theorem dX0_traced_12 : decode cX0_traced 12 = .ok (.iload_n 1, 1) := by decide +kernel
theorem dX0_traced_13 : decode cX0_traced 13 = .ok (.bipush 24, 2) := by decide +kernel
theorem dX0_traced_15 : decode cX0_traced 15 = .ok (.if_icmp .ge 12, 3) := by decide +kernel
theorem dX0_traced_18 : decode cX0_traced 18 = .ok (.aload_n 0, 1) := by decide +kernel
theorem dX0_traced_19 : decode cX0_traced 19 = .ok (.getfield 15, 3) := by decide +kernel
theorem dX0_traced_22 : decode cX0_traced 22 = .ok (.iload_n 1, 1) := by decide +kernel
theorem dX0_traced_23 : decode cX0_traced 23 = .ok (.iaload, 1) := by decide +kernel
theorem dX0_traced_24 : decode cX0_traced 24 = .ok (.goto 4, 3) := by decide +kernel
theorem dX0_traced_27 : decode cX0_traced 27 = .ok (.iconst (-1), 1) := by decide +kernel
theorem dX0_traced_28 : decode cX0_traced 28 = .ok (.ireturn, 1) := by decide +kernel
theorem dX0_start_0 : decode cX0_start 0 = .ok (.aload_n 0, 1) := by decide +kernel
theorem dX0_start_1 : decode cX0_start 1 = .ok (.iload_n 1, 1) := by decide +kernel
theorem dX0_start_2 : decode cX0_start 2 = .ok (.putfield 36, 3) := by decide +kernel
theorem dX0_start_5 : decode cX0_start 5 = .ok (.aload_n 0, 1) := by decide +kernel
theorem dX0_start_6 : decode cX0_start 6 = .ok (.iload_n 2, 1) := by decide +kernel
theorem dX0_start_7 : decode cX0_start 7 = .ok (.iload_n 3, 1) := by decide +kernel
theorem dX0_start_8 : decode cX0_start 8 = .ok (.iconst 0, 1) := by decide +kernel
theorem dX0_start_9 : decode cX0_start 9 = .ok (.invokevirtual 39, 3) := by decide +kernel
theorem dX0_start_12 : decode cX0_start 12 = .ok (.ireturn, 1) := by decide +kernel
theorem dX0_own_0 : decode cX0_own 0 = .ok (.aload_n 0, 1) := by decide +kernel
theorem dX0_own_1 : decode cX0_own 1 = .ok (.aload_n 0, 1) := by decide +kernel
theorem dX0_own_2 : decode cX0_own 2 = .ok (.aload_n 0, 1) := by decide +kernel
theorem dX0_own_3 : decode cX0_own 3 = .ok (.getfield 36, 3) := by decide +kernel
theorem dX0_own_6 : decode cX0_own 6 = .ok (.invokevirtual 43, 3) := by decide +kernel
theorem dX0_own_9 : decode cX0_own 9 = .ok (.iload_n 1, 1) := by decide +kernel
theorem dX0_own_10 : decode cX0_own 10 = .ok (.iload_n 2, 1) := by decide +kernel
theorem dX0_own_11 : decode cX0_own 11 = .ok (.iload_n 3, 1) := by decide +kernel
theorem dX0_own_12 : decode cX0_own 12 = .ok (.invokevirtual 47, 3) := by decide +kernel
theorem dX0_own_15 : decode cX0_own 15 = .ok (.ireturn, 1) := by decide +kernel
theorem dX0_run_0 : decode cX0_run 0 = .ok (.iload_n 1, 1) := by decide +kernel
theorem dX0_run_1 : decode cX0_run 1 = .ok (.iload_n 2, 1) := by decide +kernel
theorem dX0_run_2 : decode cX0_run 2 = .ok (.invokestatic 51, 3) := by decide +kernel
theorem dX0_run_5 : decode cX0_run 5 = .ok (.istore 5, 2) := by decide +kernel
theorem dX0_run_7 : decode cX0_run 7 = .ok (.iload 5, 2) := by decide +kernel
theorem dX0_run_9 : decode cX0_run 9 = .ok (.ifCond .lt 10, 3) := by decide +kernel
theorem dX0_run_12 : decode cX0_run 12 = .ok (.iload 4, 2) := by decide +kernel
theorem dX0_run_14 : decode cX0_run 14 = .ok (.bipush 40, 2) := by decide +kernel
theorem dX0_run_16 : decode cX0_run 16 = .ok (.if_icmp .le 5, 3) := by decide +kernel
theorem dX0_run_19 : decode cX0_run 19 = .ok (.iconst 0, 1) := by decide +kernel
theorem dX0_run_20 : decode cX0_run 20 = .ok (.ireturn, 1) := by decide +kernel
theorem dX0_run_21 : decode cX0_run 21 = .ok (.getstatic 55, 3) := by decide +kernel
theorem dX0_run_24 : decode cX0_run 24 = .ok (.iconst 4, 1) := by decide +kernel
theorem dX0_run_25 : decode cX0_run 25 = .ok (.iload 5, 2) := by decide +kernel
theorem dX0_run_27 : decode cX0_run 27 = .ok (.imul, 1) := by decide +kernel
theorem dX0_run_28 : decode cX0_run 28 = .ok (.iload_n 2, 1) := by decide +kernel
theorem dX0_run_29 : decode cX0_run 29 = .ok (.iadd, 1) := by decide +kernel
theorem dX0_run_30 : decode cX0_run 30 = .ok (.iaload, 1) := by decide +kernel
theorem dX0_run_31 : decode cX0_run 31 = .ok (.istore 6, 2) := by decide +kernel
theorem dX0_run_33 : decode cX0_run 33 = .ok (.aload_n 0, 1) := by decide +kernel
theorem dX0_run_34 : decode cX0_run 34 = .ok (.getfield 33, 3) := by decide +kernel
theorem dX0_run_37 : decode cX0_run 37 = .ok (.bipush 24, 2) := by decide +kernel
theorem dX0_run_39 : decode cX0_run 39 = .ok (.if_icmp .ge 14, 3) := by decide +kernel
theorem dX0_run_42 : decode cX0_run 42 = .ok (.aload_n 0, 1) := by decide +kernel
theorem dX0_run_43 : decode cX0_run 43 = .ok (.getfield 15, 3) := by decide +kernel
theorem dX0_run_46 : decode cX0_run 46 = .ok (.aload_n 0, 1) := by decide +kernel
theorem dX0_run_47 : decode cX0_run 47 = .ok (.getfield 33, 3) := by decide +kernel
theorem dX0_run_50 : decode cX0_run 50 = .ok (.iload 6, 2) := by decide +kernel
theorem dX0_run_52 : decode cX0_run 52 = .ok (.iastore, 1) := by decide +kernel
theorem dX0_run_53 : decode cX0_run 53 = .ok (.aload_n 0, 1) := by decide +kernel
theorem dX0_run_54 : decode cX0_run 54 = .ok (.dup, 1) := by decide +kernel
theorem dX0_run_55 : decode cX0_run 55 = .ok (.getfield 33, 3) := by decide +kernel
theorem dX0_run_58 : decode cX0_run 58 = .ok (.iconst 1, 1) := by decide +kernel
theorem dX0_run_59 : decode cX0_run 59 = .ok (.iadd, 1) := by decide +kernel
theorem dX0_run_60 : decode cX0_run 60 = .ok (.putfield 33, 3) := by decide +kernel
theorem dX0_run_63 : decode cX0_run 63 = .ok (.iload 5, 2) := by decide +kernel
theorem dX0_run_65 : decode cX0_run 65 = .ok (.ifCond .ne 17, 3) := by decide +kernel
theorem dX0_run_68 : decode cX0_run 68 = .ok (.aload_n 0, 1) := by decide +kernel
theorem dX0_run_69 : decode cX0_run 69 = .ok (.iload 6, 2) := by decide +kernel
theorem dX0_run_71 : decode cX0_run 71 = .ok (.iload_n 3, 1) := by decide +kernel
theorem dX0_run_72 : decode cX0_run 72 = .ok (.iload 4, 2) := by decide +kernel
theorem dX0_run_74 : decode cX0_run 74 = .ok (.iconst 1, 1) := by decide +kernel
theorem dX0_run_75 : decode cX0_run 75 = .ok (.iadd, 1) := by decide +kernel
theorem dX0_run_76 : decode cX0_run 76 = .ok (.invokevirtual 58, 3) := by decide +kernel
theorem dX0_run_79 : decode cX0_run 79 = .ok (.goto 20, 3) := by decide +kernel
theorem dX0_run_82 : decode cX0_run 82 = .ok (.aload_n 0, 1) := by decide +kernel
theorem dX0_run_83 : decode cX0_run 83 = .ok (.iload 6, 2) := by decide +kernel
theorem dX0_run_85 : decode cX0_run 85 = .ok (.getstatic 30, 3) := by decide +kernel
theorem dX0_run_88 : decode cX0_run 88 = .ok (.iload 5, 2) := by decide +kernel
theorem dX0_run_90 : decode cX0_run 90 = .ok (.iaload, 1) := by decide +kernel
theorem dX0_run_91 : decode cX0_run 91 = .ok (.iload_n 3, 1) := by decide +kernel
theorem dX0_run_92 : decode cX0_run 92 = .ok (.iload 4, 2) := by decide +kernel
theorem dX0_run_94 : decode cX0_run 94 = .ok (.iconst 1, 1) := by decide +kernel
theorem dX0_run_95 : decode cX0_run 95 = .ok (.iadd, 1) := by decide +kernel
theorem dX0_run_96 : decode cX0_run 96 = .ok (.invokevirtual 61, 3) := by decide +kernel
theorem dX0_run_99 : decode cX0_run 99 = .ok (.ireturn, 1) := by decide +kernel
theorem dX0_holderOf_0 : decode cX0_holderOf 0 = .ok (.iload_n 0, 1) := by decide +kernel
theorem dX0_holderOf_1 : decode cX0_holderOf 1 = .ok (.istore_n 2, 1) := by decide +kernel
theorem dX0_holderOf_2 : decode cX0_holderOf 2 = .ok (.iconst 0, 1) := by decide +kernel
theorem dX0_holderOf_3 : decode cX0_holderOf 3 = .ok (.istore_n 3, 1) := by decide +kernel
theorem dX0_holderOf_4 : decode cX0_holderOf 4 = .ok (.iload_n 3, 1) := by decide +kernel
theorem dX0_holderOf_5 : decode cX0_holderOf 5 = .ok (.bipush 8, 2) := by decide +kernel
theorem dX0_holderOf_7 : decode cX0_holderOf 7 = .ok (.if_icmp .ge 39, 3) := by decide +kernel
theorem dX0_holderOf_10 : decode cX0_holderOf 10 = .ok (.iload_n 2, 1) := by decide +kernel
theorem dX0_holderOf_11 : decode cX0_holderOf 11 = .ok (.iconst 0, 1) := by decide +kernel
theorem dX0_holderOf_12 : decode cX0_holderOf 12 = .ok (.bipush 7, 2) := by decide +kernel
theorem dX0_holderOf_14 : decode cX0_holderOf 14 = .ok (.invokestatic 26, 3) := by decide +kernel
theorem dX0_holderOf_17 : decode cX0_holderOf 17 = .ok (.ifCond .eq 29, 3) := by decide +kernel
theorem dX0_holderOf_20 : decode cX0_holderOf 20 = .ok (.getstatic 55, 3) := by decide +kernel
theorem dX0_holderOf_23 : decode cX0_holderOf 23 = .ok (.iconst 4, 1) := by decide +kernel
theorem dX0_holderOf_24 : decode cX0_holderOf 24 = .ok (.iload_n 2, 1) := by decide +kernel
theorem dX0_holderOf_25 : decode cX0_holderOf 25 = .ok (.imul, 1) := by decide +kernel
theorem dX0_holderOf_26 : decode cX0_holderOf 26 = .ok (.iload_n 1, 1) := by decide +kernel
theorem dX0_holderOf_27 : decode cX0_holderOf 27 = .ok (.iadd, 1) := by decide +kernel
theorem dX0_holderOf_28 : decode cX0_holderOf 28 = .ok (.iaload, 1) := by decide +kernel
theorem dX0_holderOf_29 : decode cX0_holderOf 29 = .ok (.ifCond .eq 5, 3) := by decide +kernel
theorem dX0_holderOf_32 : decode cX0_holderOf 32 = .ok (.iload_n 2, 1) := by decide +kernel
theorem dX0_holderOf_33 : decode cX0_holderOf 33 = .ok (.ireturn, 1) := by decide +kernel
theorem dX0_holderOf_34 : decode cX0_holderOf 34 = .ok (.getstatic 30, 3) := by decide +kernel
theorem dX0_holderOf_37 : decode cX0_holderOf 37 = .ok (.iload_n 2, 1) := by decide +kernel
theorem dX0_holderOf_38 : decode cX0_holderOf 38 = .ok (.iaload, 1) := by decide +kernel
theorem dX0_holderOf_39 : decode cX0_holderOf 39 = .ok (.istore_n 2, 1) := by decide +kernel
theorem dX0_holderOf_40 : decode cX0_holderOf 40 = .ok (.iinc 3 1, 3) := by decide +kernel
theorem dX0_holderOf_43 : decode cX0_holderOf 43 = .ok (.goto (-39), 3) := by decide +kernel
theorem dX0_holderOf_46 : decode cX0_holderOf 46 = .ok (.iconst (-1), 1) := by decide +kernel
theorem dX0_holderOf_47 : decode cX0_holderOf 47 = .ok (.ireturn, 1) := by decide +kernel
theorem dX0_first_0 : decode cX0_first 0 = .ok (.iload_n 1, 1) := by decide +kernel
theorem dX0_first_1 : decode cX0_first 1 = .ok (.lookupswitch 83 #[(1, 43), (2, 67), (10, 50), (11, 60)], 43) := by decide +kernel
theorem dX0_first_44 : decode cX0_first 44 = .ok (.iload_n 2, 1) := by decide +kernel
theorem dX0_first_45 : decode cX0_first 45 = .ok (.aload_n 0, 1) := by decide +kernel
theorem dX0_first_46 : decode cX0_first 46 = .ok (.getfield 36, 3) := by decide +kernel
theorem dX0_first_49 : decode cX0_first 49 = .ok (.iadd, 1) := by decide +kernel
theorem dX0_first_50 : decode cX0_first 50 = .ok (.ireturn, 1) := by decide +kernel
theorem dX0_first_51 : decode cX0_first 51 = .ok (.aload_n 0, 1) := by decide +kernel
theorem dX0_first_52 : decode cX0_first 52 = .ok (.iconst 0, 1) := by decide +kernel
theorem dX0_first_53 : decode cX0_first 53 = .ok (.iload_n 2, 1) := by decide +kernel
theorem dX0_first_54 : decode cX0_first 54 = .ok (.iload_n 3, 1) := by decide +kernel
theorem dX0_first_55 : decode cX0_first 55 = .ok (.invokevirtual 39, 3) := by decide +kernel
theorem dX0_first_58 : decode cX0_first 58 = .ok (.iconst 2, 1) := by decide +kernel
theorem dX0_first_59 : decode cX0_first 59 = .ok (.imul, 1) := by decide +kernel
theorem dX0_first_60 : decode cX0_first 60 = .ok (.ireturn, 1) := by decide +kernel
theorem dX0_first_61 : decode cX0_first 61 = .ok (.iload_n 2, 1) := by decide +kernel
theorem dX0_first_62 : decode cX0_first 62 = .ok (.aload_n 0, 1) := by decide +kernel
theorem dX0_first_63 : decode cX0_first 63 = .ok (.getfield 36, 3) := by decide +kernel
theorem dX0_first_66 : decode cX0_first 66 = .ok (.ixor, 1) := by decide +kernel
theorem dX0_first_67 : decode cX0_first 67 = .ok (.ireturn, 1) := by decide +kernel
theorem dX0_first_68 : decode cX0_first 68 = .ok (.aload_n 0, 1) := by decide +kernel
theorem dX0_first_69 : decode cX0_first 69 = .ok (.iconst 1, 1) := by decide +kernel
theorem dX0_first_70 : decode cX0_first 70 = .ok (.iload_n 2, 1) := by decide +kernel
theorem dX0_first_71 : decode cX0_first 71 = .ok (.iload_n 3, 1) := by decide +kernel
theorem dX0_first_72 : decode cX0_first 72 = .ok (.invokevirtual 39, 3) := by decide +kernel
theorem dX0_first_75 : decode cX0_first 75 = .ok (.aload_n 0, 1) := by decide +kernel
theorem dX0_first_76 : decode cX0_first 76 = .ok (.iconst 2, 1) := by decide +kernel
theorem dX0_first_77 : decode cX0_first 77 = .ok (.iconst 1, 1) := by decide +kernel
theorem dX0_first_78 : decode cX0_first 78 = .ok (.iload_n 3, 1) := by decide +kernel
theorem dX0_first_79 : decode cX0_first 79 = .ok (.invokevirtual 39, 3) := by decide +kernel
theorem dX0_first_82 : decode cX0_first 82 = .ok (.isub, 1) := by decide +kernel
theorem dX0_first_83 : decode cX0_first 83 = .ok (.ireturn, 1) := by decide +kernel
theorem dX0_first_84 : decode cX0_first 84 = .ok (.iconst 0, 1) := by decide +kernel
theorem dX0_first_85 : decode cX0_first 85 = .ok (.ireturn, 1) := by decide +kernel
theorem dX0_inherited_0 : decode cX0_inherited 0 = .ok (.iload_n 1, 1) := by decide +kernel
theorem dX0_inherited_1 : decode cX0_inherited 1 = .ok (.lookupswitch 224 #[(20, 91), (30, 103), (40, 114), (41, 126), (50, 138), (60, 150), (61, 169), (70, 181), (80, 193), (81, 212)], 91) := by decide +kernel
theorem dX0_inherited_92 : decode cX0_inherited 92 = .ok (.aload_n 0, 1) := by decide +kernel
theorem dX0_inherited_93 : decode cX0_inherited 93 = .ok (.iload_n 2, 1) := by decide +kernel
theorem dX0_inherited_94 : decode cX0_inherited 94 = .ok (.iconst 0, 1) := by decide +kernel
theorem dX0_inherited_95 : decode cX0_inherited 95 = .ok (.iload_n 3, 1) := by decide +kernel
theorem dX0_inherited_96 : decode cX0_inherited 96 = .ok (.iload 4, 2) := by decide +kernel
theorem dX0_inherited_98 : decode cX0_inherited 98 = .ok (.invokevirtual 47, 3) := by decide +kernel
theorem dX0_inherited_101 : decode cX0_inherited 101 = .ok (.iconst 3, 1) := by decide +kernel
theorem dX0_inherited_102 : decode cX0_inherited 102 = .ok (.iadd, 1) := by decide +kernel
theorem dX0_inherited_103 : decode cX0_inherited 103 = .ok (.ireturn, 1) := by decide +kernel
theorem dX0_inherited_104 : decode cX0_inherited 104 = .ok (.aload_n 0, 1) := by decide +kernel
theorem dX0_inherited_105 : decode cX0_inherited 105 = .ok (.iload_n 2, 1) := by decide +kernel
theorem dX0_inherited_106 : decode cX0_inherited 106 = .ok (.iconst 1, 1) := by decide +kernel
theorem dX0_inherited_107 : decode cX0_inherited 107 = .ok (.iload_n 3, 1) := by decide +kernel
theorem dX0_inherited_108 : decode cX0_inherited 108 = .ok (.iload 4, 2) := by decide +kernel
theorem dX0_inherited_110 : decode cX0_inherited 110 = .ok (.invokevirtual 47, 3) := by decide +kernel
theorem dX0_inherited_113 : decode cX0_inherited 113 = .ok (.ineg, 1) := by decide +kernel
theorem dX0_inherited_114 : decode cX0_inherited 114 = .ok (.ireturn, 1) := by decide +kernel
theorem dX0_inherited_115 : decode cX0_inherited 115 = .ok (.aload_n 0, 1) := by decide +kernel
theorem dX0_inherited_116 : decode cX0_inherited 116 = .ok (.iload_n 2, 1) := by decide +kernel
theorem dX0_inherited_117 : decode cX0_inherited 117 = .ok (.iconst 2, 1) := by decide +kernel
theorem dX0_inherited_118 : decode cX0_inherited 118 = .ok (.iload_n 3, 1) := by decide +kernel
theorem dX0_inherited_119 : decode cX0_inherited 119 = .ok (.iload 4, 2) := by decide +kernel
theorem dX0_inherited_121 : decode cX0_inherited 121 = .ok (.invokevirtual 47, 3) := by decide +kernel
theorem dX0_inherited_124 : decode cX0_inherited 124 = .ok (.iconst 3, 1) := by decide +kernel
theorem dX0_inherited_125 : decode cX0_inherited 125 = .ok (.imul, 1) := by decide +kernel
theorem dX0_inherited_126 : decode cX0_inherited 126 = .ok (.ireturn, 1) := by decide +kernel
theorem dX0_inherited_127 : decode cX0_inherited 127 = .ok (.aload_n 0, 1) := by decide +kernel
theorem dX0_inherited_128 : decode cX0_inherited 128 = .ok (.iload_n 2, 1) := by decide +kernel
theorem dX0_inherited_129 : decode cX0_inherited 129 = .ok (.iconst 1, 1) := by decide +kernel
theorem dX0_inherited_130 : decode cX0_inherited 130 = .ok (.iload_n 3, 1) := by decide +kernel
theorem dX0_inherited_131 : decode cX0_inherited 131 = .ok (.iconst 1, 1) := by decide +kernel
theorem dX0_inherited_132 : decode cX0_inherited 132 = .ok (.iadd, 1) := by decide +kernel
theorem dX0_inherited_133 : decode cX0_inherited 133 = .ok (.iload 4, 2) := by decide +kernel
theorem dX0_inherited_135 : decode cX0_inherited 135 = .ok (.invokevirtual 47, 3) := by decide +kernel
theorem dX0_inherited_138 : decode cX0_inherited 138 = .ok (.ireturn, 1) := by decide +kernel
theorem dX0_inherited_139 : decode cX0_inherited 139 = .ok (.aload_n 0, 1) := by decide +kernel
theorem dX0_inherited_140 : decode cX0_inherited 140 = .ok (.iload_n 2, 1) := by decide +kernel
theorem dX0_inherited_141 : decode cX0_inherited 141 = .ok (.iconst 3, 1) := by decide +kernel
theorem dX0_inherited_142 : decode cX0_inherited 142 = .ok (.iload_n 3, 1) := by decide +kernel
theorem dX0_inherited_143 : decode cX0_inherited 143 = .ok (.iload 4, 2) := by decide +kernel
theorem dX0_inherited_145 : decode cX0_inherited 145 = .ok (.invokevirtual 47, 3) := by decide +kernel
theorem dX0_inherited_148 : decode cX0_inherited 148 = .ok (.iconst 5, 1) := by decide +kernel
theorem dX0_inherited_149 : decode cX0_inherited 149 = .ok (.ixor, 1) := by decide +kernel
theorem dX0_inherited_150 : decode cX0_inherited 150 = .ok (.ireturn, 1) := by decide +kernel
theorem dX0_inherited_151 : decode cX0_inherited 151 = .ok (.aload_n 0, 1) := by decide +kernel
theorem dX0_inherited_152 : decode cX0_inherited 152 = .ok (.iload_n 2, 1) := by decide +kernel
theorem dX0_inherited_153 : decode cX0_inherited 153 = .ok (.iconst 2, 1) := by decide +kernel
theorem dX0_inherited_154 : decode cX0_inherited 154 = .ok (.iload_n 3, 1) := by decide +kernel
theorem dX0_inherited_155 : decode cX0_inherited 155 = .ok (.iload 4, 2) := by decide +kernel
theorem dX0_inherited_157 : decode cX0_inherited 157 = .ok (.invokevirtual 47, 3) := by decide +kernel
theorem dX0_inherited_160 : decode cX0_inherited 160 = .ok (.aload_n 0, 1) := by decide +kernel
theorem dX0_inherited_161 : decode cX0_inherited 161 = .ok (.iconst 0, 1) := by decide +kernel
theorem dX0_inherited_162 : decode cX0_inherited 162 = .ok (.iconst 2, 1) := by decide +kernel
theorem dX0_inherited_163 : decode cX0_inherited 163 = .ok (.iload 4, 2) := by decide +kernel
theorem dX0_inherited_165 : decode cX0_inherited 165 = .ok (.invokevirtual 39, 3) := by decide +kernel
theorem dX0_inherited_168 : decode cX0_inherited 168 = .ok (.isub, 1) := by decide +kernel
theorem dX0_inherited_169 : decode cX0_inherited 169 = .ok (.ireturn, 1) := by decide +kernel
theorem dX0_inherited_170 : decode cX0_inherited 170 = .ok (.aload_n 0, 1) := by decide +kernel
theorem dX0_inherited_171 : decode cX0_inherited 171 = .ok (.iload_n 2, 1) := by decide +kernel
theorem dX0_inherited_172 : decode cX0_inherited 172 = .ok (.iconst 3, 1) := by decide +kernel
theorem dX0_inherited_173 : decode cX0_inherited 173 = .ok (.iload_n 3, 1) := by decide +kernel
theorem dX0_inherited_174 : decode cX0_inherited 174 = .ok (.iload 4, 2) := by decide +kernel
theorem dX0_inherited_176 : decode cX0_inherited 176 = .ok (.invokevirtual 47, 3) := by decide +kernel
theorem dX0_inherited_179 : decode cX0_inherited 179 = .ok (.iconst 1, 1) := by decide +kernel
theorem dX0_inherited_180 : decode cX0_inherited 180 = .ok (.iadd, 1) := by decide +kernel
theorem dX0_inherited_181 : decode cX0_inherited 181 = .ok (.ireturn, 1) := by decide +kernel
theorem dX0_inherited_182 : decode cX0_inherited 182 = .ok (.aload_n 0, 1) := by decide +kernel
theorem dX0_inherited_183 : decode cX0_inherited 183 = .ok (.iload_n 2, 1) := by decide +kernel
theorem dX0_inherited_184 : decode cX0_inherited 184 = .ok (.iconst 0, 1) := by decide +kernel
theorem dX0_inherited_185 : decode cX0_inherited 185 = .ok (.iload_n 3, 1) := by decide +kernel
theorem dX0_inherited_186 : decode cX0_inherited 186 = .ok (.iload 4, 2) := by decide +kernel
theorem dX0_inherited_188 : decode cX0_inherited 188 = .ok (.invokevirtual 47, 3) := by decide +kernel
theorem dX0_inherited_191 : decode cX0_inherited 191 = .ok (.iconst 2, 1) := by decide +kernel
theorem dX0_inherited_192 : decode cX0_inherited 192 = .ok (.imul, 1) := by decide +kernel
theorem dX0_inherited_193 : decode cX0_inherited 193 = .ok (.ireturn, 1) := by decide +kernel
theorem dX0_inherited_194 : decode cX0_inherited 194 = .ok (.aload_n 0, 1) := by decide +kernel
theorem dX0_inherited_195 : decode cX0_inherited 195 = .ok (.iload_n 2, 1) := by decide +kernel
theorem dX0_inherited_196 : decode cX0_inherited 196 = .ok (.iconst 1, 1) := by decide +kernel
theorem dX0_inherited_197 : decode cX0_inherited 197 = .ok (.iload_n 3, 1) := by decide +kernel
theorem dX0_inherited_198 : decode cX0_inherited 198 = .ok (.iload 4, 2) := by decide +kernel
theorem dX0_inherited_200 : decode cX0_inherited 200 = .ok (.invokevirtual 47, 3) := by decide +kernel
theorem dX0_inherited_203 : decode cX0_inherited 203 = .ok (.aload_n 0, 1) := by decide +kernel
theorem dX0_inherited_204 : decode cX0_inherited 204 = .ok (.iconst 2, 1) := by decide +kernel
theorem dX0_inherited_205 : decode cX0_inherited 205 = .ok (.iconst 2, 1) := by decide +kernel
theorem dX0_inherited_206 : decode cX0_inherited 206 = .ok (.iload 4, 2) := by decide +kernel
theorem dX0_inherited_208 : decode cX0_inherited 208 = .ok (.invokevirtual 39, 3) := by decide +kernel
theorem dX0_inherited_211 : decode cX0_inherited 211 = .ok (.iadd, 1) := by decide +kernel
theorem dX0_inherited_212 : decode cX0_inherited 212 = .ok (.ireturn, 1) := by decide +kernel
theorem dX0_inherited_213 : decode cX0_inherited 213 = .ok (.aload_n 0, 1) := by decide +kernel
theorem dX0_inherited_214 : decode cX0_inherited 214 = .ok (.iload_n 2, 1) := by decide +kernel
theorem dX0_inherited_215 : decode cX0_inherited 215 = .ok (.iconst 0, 1) := by decide +kernel
theorem dX0_inherited_216 : decode cX0_inherited 216 = .ok (.iload_n 3, 1) := by decide +kernel
theorem dX0_inherited_217 : decode cX0_inherited 217 = .ok (.iload 4, 2) := by decide +kernel
theorem dX0_inherited_219 : decode cX0_inherited 219 = .ok (.invokevirtual 47, 3) := by decide +kernel
theorem dX0_inherited_222 : decode cX0_inherited 222 = .ok (.iconst 1, 1) := by decide +kernel
theorem dX0_inherited_223 : decode cX0_inherited 223 = .ok (.isub, 1) := by decide +kernel
theorem dX0_inherited_224 : decode cX0_inherited 224 = .ok (.ireturn, 1) := by decide +kernel
theorem dX0_inherited_225 : decode cX0_inherited 225 = .ok (.iconst 0, 1) := by decide +kernel
theorem dX0_inherited_226 : decode cX0_inherited 226 = .ok (.ireturn, 1) := by decide +kernel
theorem dX1_init_0 : decode cX1_init 0 = .ok (.aload_n 0, 1) := by decide +kernel
theorem dX1_init_1 : decode cX1_init 1 = .ok (.invokespecial 7, 3) := by decide +kernel
theorem dX1_init_4 : decode cX1_init 4 = .ok (.aload_n 0, 1) := by decide +kernel
theorem dX1_init_5 : decode cX1_init 5 = .ok (.sipush 2048, 3) := by decide +kernel
theorem dX1_init_8 : decode cX1_init 8 = .ok (.newarray .int, 2) := by decide +kernel
theorem dX1_init_10 : decode cX1_init 10 = .ok (.putfield 13, 3) := by decide +kernel
theorem dX1_init_13 : decode cX1_init 13 = .ok (.aload_n 0, 1) := by decide +kernel
theorem dX1_init_14 : decode cX1_init 14 = .ok (.sipush 2048, 3) := by decide +kernel
theorem dX1_init_17 : decode cX1_init 17 = .ok (.newarray .int, 2) := by decide +kernel
theorem dX1_init_19 : decode cX1_init 19 = .ok (.putfield 17, 3) := by decide +kernel
theorem dX1_init_22 : decode cX1_init 22 = .ok (.aload_n 0, 1) := by decide +kernel
theorem dX1_init_23 : decode cX1_init 23 = .ok (.bipush 6, 2) := by decide +kernel
theorem dX1_init_25 : decode cX1_init 25 = .ok (.newarray .int, 2) := by decide +kernel
theorem dX1_init_27 : decode cX1_init 27 = .ok (.putfield 20, 3) := by decide +kernel
theorem dX1_init_30 : decode cX1_init 30 = .ok (.aload_n 0, 1) := by decide +kernel
theorem dX1_init_31 : decode cX1_init 31 = .ok (.aload_n 1, 1) := by decide +kernel
theorem dX1_init_32 : decode cX1_init 32 = .ok (.putfield 23, 3) := by decide +kernel
theorem dX1_init_35 : decode cX1_init 35 = .ok (.aload_n 0, 1) := by decide +kernel
theorem dX1_init_36 : decode cX1_init 36 = .ok (.aload_n 2, 1) := by decide +kernel
theorem dX1_init_37 : decode cX1_init 37 = .ok (.putfield 27, 3) := by decide +kernel
theorem dX1_init_40 : decode cX1_init 40 = .ok (.return_, 1) := by decide +kernel
theorem dX1_fewestReins_0 : decode cX1_fewestReins 0 = .ok (.aload_n 0, 1) := by decide +kernel
theorem dX1_fewestReins_1 : decode cX1_fewestReins 1 = .ok (.getfield 27, 3) := by decide +kernel
theorem dX1_fewestReins_4 : decode cX1_fewestReins 4 = .ok (.iload_n 1, 1) := by decide +kernel
theorem dX1_fewestReins_5 : decode cX1_fewestReins 5 = .ok (.aaload, 1) := by decide +kernel
theorem dX1_fewestReins_6 : decode cX1_fewestReins 6 = .ok (.astore 4, 2) := by decide +kernel
theorem dX1_fewestReins_8 : decode cX1_fewestReins 8 = .ok (.aload 4, 2) := by decide +kernel
theorem dX1_fewestReins_10 : decode cX1_fewestReins 10 = .ok (.aload_n 0, 1) := by decide +kernel
theorem dX1_fewestReins_11 : decode cX1_fewestReins 11 = .ok (.getfield 23, 3) := by decide +kernel
theorem dX1_fewestReins_14 : decode cX1_fewestReins 14 = .ok (.getfield 31, 3) := by decide +kernel
theorem dX1_fewestReins_17 : decode cX1_fewestReins 17 = .ok (.iload_n 1, 1) := by decide +kernel
theorem dX1_fewestReins_18 : decode cX1_fewestReins 18 = .ok (.iaload, 1) := by decide +kernel
theorem dX1_fewestReins_19 : decode cX1_fewestReins 19 = .ok (.invokevirtual 36, 3) := by decide +kernel
theorem dX1_fewestReins_22 : decode cX1_fewestReins 22 = .ok (.aload_n 0, 1) := by decide +kernel
theorem dX1_fewestReins_23 : decode cX1_fewestReins 23 = .ok (.getfield 13, 3) := by decide +kernel
theorem dX1_fewestReins_26 : decode cX1_fewestReins 26 = .ok (.astore 5, 2) := by decide +kernel
theorem dX1_fewestReins_28 : decode cX1_fewestReins 28 = .ok (.aload_n 0, 1) := by decide +kernel
theorem dX1_fewestReins_29 : decode cX1_fewestReins 29 = .ok (.getfield 17, 3) := by decide +kernel
theorem dX1_fewestReins_32 : decode cX1_fewestReins 32 = .ok (.astore 6, 2) := by decide +kernel
theorem dX1_fewestReins_34 : decode cX1_fewestReins 34 = .ok (.aload 5, 2) := by decide +kernel
theorem dX1_fewestReins_36 : decode cX1_fewestReins 36 = .ok (.ldc 42, 2) := by decide +kernel
theorem dX1_fewestReins_38 : decode cX1_fewestReins 38 = .ok (.invokestatic 43, 3) := by decide +kernel
theorem dX1_fewestReins_41 : decode cX1_fewestReins 41 = .ok (.aload 5, 2) := by decide +kernel
theorem dX1_fewestReins_43 : decode cX1_fewestReins 43 = .ok (.aload 4, 2) := by decide +kernel
theorem dX1_fewestReins_45 : decode cX1_fewestReins 45 = .ok (.invokevirtual 49, 3) := by decide +kernel
theorem dX1_fewestReins_48 : decode cX1_fewestReins 48 = .ok (.iconst 0, 1) := by decide +kernel
theorem dX1_fewestReins_49 : decode cX1_fewestReins 49 = .ok (.iastore, 1) := by decide +kernel
theorem dX1_fewestReins_50 : decode cX1_fewestReins 50 = .ok (.iconst 0, 1) := by decide +kernel
theorem dX1_fewestReins_51 : decode cX1_fewestReins 51 = .ok (.istore 7, 2) := by decide +kernel
theorem dX1_fewestReins_53 : decode cX1_fewestReins 53 = .ok (.iload 7, 2) := by decide +kernel
theorem dX1_fewestReins_55 : decode cX1_fewestReins 55 = .ok (.iload_n 3, 1) := by decide +kernel
theorem dX1_fewestReins_56 : decode cX1_fewestReins 56 = .ok (.if_icmp .ge 32, 3) := by decide +kernel
theorem dX1_fewestReins_59 : decode cX1_fewestReins 59 = .ok (.aload 4, 2) := by decide +kernel
theorem dX1_fewestReins_61 : decode cX1_fewestReins 61 = .ok (.iload 7, 2) := by decide +kernel
theorem dX1_fewestReins_63 : decode cX1_fewestReins 63 = .ok (.aload 5, 2) := by decide +kernel
theorem dX1_fewestReins_65 : decode cX1_fewestReins 65 = .ok (.aload 6, 2) := by decide +kernel
theorem dX1_fewestReins_67 : decode cX1_fewestReins 67 = .ok (.invokestatic 53, 3) := by decide +kernel
theorem dX1_fewestReins_70 : decode cX1_fewestReins 70 = .ok (.aload 5, 2) := by decide +kernel
theorem dX1_fewestReins_72 : decode cX1_fewestReins 72 = .ok (.astore 8, 2) := by decide +kernel
theorem dX1_fewestReins_74 : decode cX1_fewestReins 74 = .ok (.aload 6, 2) := by decide +kernel
theorem dX1_fewestReins_76 : decode cX1_fewestReins 76 = .ok (.astore 5, 2) := by decide +kernel
theorem dX1_fewestReins_78 : decode cX1_fewestReins 78 = .ok (.aload 8, 2) := by decide +kernel
theorem dX1_fewestReins_80 : decode cX1_fewestReins 80 = .ok (.astore 6, 2) := by decide +kernel
theorem dX1_fewestReins_82 : decode cX1_fewestReins 82 = .ok (.iinc 7 1, 3) := by decide +kernel
theorem dX1_fewestReins_85 : decode cX1_fewestReins 85 = .ok (.goto (-32), 3) := by decide +kernel
theorem dX1_fewestReins_88 : decode cX1_fewestReins 88 = .ok (.aload_n 0, 1) := by decide +kernel
theorem dX1_fewestReins_89 : decode cX1_fewestReins 89 = .ok (.aload 5, 2) := by decide +kernel
theorem dX1_fewestReins_91 : decode cX1_fewestReins 91 = .ok (.iload_n 2, 1) := by decide +kernel
theorem dX1_fewestReins_92 : decode cX1_fewestReins 92 = .ok (.invokevirtual 57, 3) := by decide +kernel
theorem dX1_fewestReins_95 : decode cX1_fewestReins 95 = .ok (.ireturn, 1) := by decide +kernel
theorem dX1_goOn_0 : decode cX1_goOn 0 = .ok (.aload_n 3, 1) := by decide +kernel
theorem dX1_goOn_1 : decode cX1_goOn 1 = .ok (.ldc 42, 2) := by decide +kernel
theorem dX1_goOn_3 : decode cX1_goOn 3 = .ok (.invokestatic 43, 3) := by decide +kernel
theorem dX1_goOn_6 : decode cX1_goOn 6 = .ok (.iconst 0, 1) := by decide +kernel
theorem dX1_goOn_7 : decode cX1_goOn 7 = .ok (.istore 4, 2) := by decide +kernel
theorem dX1_goOn_9 : decode cX1_goOn 9 = .ok (.iload 4, 2) := by decide +kernel
theorem dX1_goOn_11 : decode cX1_goOn 11 = .ok (.sipush 2048, 3) := by decide +kernel
theorem dX1_goOn_14 : decode cX1_goOn 14 = .ok (.if_icmp .ge 90, 3) := by decide +kernel
theorem dX1_goOn_17 : decode cX1_goOn 17 = .ok (.aload_n 2, 1) := by decide +kernel
theorem dX1_goOn_18 : decode cX1_goOn 18 = .ok (.iload 4, 2) := by decide +kernel
theorem dX1_goOn_20 : decode cX1_goOn 20 = .ok (.iaload, 1) := by decide +kernel
theorem dX1_goOn_21 : decode cX1_goOn 21 = .ok (.ldc 42, 2) := by decide +kernel
theorem dX1_goOn_23 : decode cX1_goOn 23 = .ok (.if_icmp .ne 6, 3) := by decide +kernel
theorem dX1_goOn_26 : decode cX1_goOn 26 = .ok (.goto 72, 3) := by decide +kernel
theorem dX1_goOn_29 : decode cX1_goOn 29 = .ok (.iconst 0, 1) := by decide +kernel
theorem dX1_goOn_30 : decode cX1_goOn 30 = .ok (.istore 5, 2) := by decide +kernel
theorem dX1_goOn_32 : decode cX1_goOn 32 = .ok (.iload 5, 2) := by decide +kernel
theorem dX1_goOn_34 : decode cX1_goOn 34 = .ok (.iconst 3, 1) := by decide +kernel
theorem dX1_goOn_35 : decode cX1_goOn 35 = .ok (.if_icmp .ge 63, 3) := by decide +kernel
theorem dX1_goOn_38 : decode cX1_goOn 38 = .ok (.aload_n 2, 1) := by decide +kernel
theorem dX1_goOn_39 : decode cX1_goOn 39 = .ok (.iload 4, 2) := by decide +kernel
theorem dX1_goOn_41 : decode cX1_goOn 41 = .ok (.iaload, 1) := by decide +kernel
theorem dX1_goOn_42 : decode cX1_goOn 42 = .ok (.iload 5, 2) := by decide +kernel
theorem dX1_goOn_44 : decode cX1_goOn 44 = .ok (.ifCond .ne 7, 3) := by decide +kernel
theorem dX1_goOn_47 : decode cX1_goOn 47 = .ok (.iconst 0, 1) := by decide +kernel
theorem dX1_goOn_48 : decode cX1_goOn 48 = .ok (.goto 5, 3) := by decide +kernel
theorem dX1_goOn_51 : decode cX1_goOn 51 = .ok (.ldc 61, 2) := by decide +kernel
theorem dX1_goOn_53 : decode cX1_goOn 53 = .ok (.iadd, 1) := by decide +kernel
theorem dX1_goOn_54 : decode cX1_goOn 54 = .ok (.iload 5, 2) := by decide +kernel
theorem dX1_goOn_56 : decode cX1_goOn 56 = .ok (.iload_n 1, 1) := by decide +kernel
theorem dX1_goOn_57 : decode cX1_goOn 57 = .ok (.invokestatic 62, 3) := by decide +kernel
theorem dX1_goOn_60 : decode cX1_goOn 60 = .ok (.ishl, 1) := by decide +kernel
theorem dX1_goOn_61 : decode cX1_goOn 61 = .ok (.iadd, 1) := by decide +kernel
theorem dX1_goOn_62 : decode cX1_goOn 62 = .ok (.istore 6, 2) := by decide +kernel
theorem dX1_goOn_64 : decode cX1_goOn 64 = .ok (.aload_n 0, 1) := by decide +kernel
theorem dX1_goOn_65 : decode cX1_goOn 65 = .ok (.iload 4, 2) := by decide +kernel
theorem dX1_goOn_67 : decode cX1_goOn 67 = .ok (.iload_n 1, 1) := by decide +kernel
theorem dX1_goOn_68 : decode cX1_goOn 68 = .ok (.getstatic 66, 3) := by decide +kernel
theorem dX1_goOn_71 : decode cX1_goOn 71 = .ok (.iload 5, 2) := by decide +kernel
theorem dX1_goOn_73 : decode cX1_goOn 73 = .ok (.iaload, 1) := by decide +kernel
theorem dX1_goOn_74 : decode cX1_goOn 74 = .ok (.invokevirtual 69, 3) := by decide +kernel
theorem dX1_goOn_77 : decode cX1_goOn 77 = .ok (.istore 7, 2) := by decide +kernel
theorem dX1_goOn_79 : decode cX1_goOn 79 = .ok (.aload_n 3, 1) := by decide +kernel
theorem dX1_goOn_80 : decode cX1_goOn 80 = .ok (.iload 7, 2) := by decide +kernel
theorem dX1_goOn_82 : decode cX1_goOn 82 = .ok (.aload_n 3, 1) := by decide +kernel
theorem dX1_goOn_83 : decode cX1_goOn 83 = .ok (.iload 7, 2) := by decide +kernel
theorem dX1_goOn_85 : decode cX1_goOn 85 = .ok (.iaload, 1) := by decide +kernel
theorem dX1_goOn_86 : decode cX1_goOn 86 = .ok (.iload 6, 2) := by decide +kernel
theorem dX1_goOn_88 : decode cX1_goOn 88 = .ok (.invokestatic 73, 3) := by decide +kernel
theorem dX1_goOn_91 : decode cX1_goOn 91 = .ok (.iastore, 1) := by decide +kernel
theorem dX1_goOn_92 : decode cX1_goOn 92 = .ok (.iinc 5 1, 3) := by decide +kernel
theorem dX1_goOn_95 : decode cX1_goOn 95 = .ok (.goto (-63), 3) := by decide +kernel
theorem dX1_goOn_98 : decode cX1_goOn 98 = .ok (.iinc 4 1, 3) := by decide +kernel
theorem dX1_goOn_101 : decode cX1_goOn 101 = .ok (.goto (-92), 3) := by decide +kernel
theorem dX1_goOn_104 : decode cX1_goOn 104 = .ok (.return_, 1) := by decide +kernel
theorem dX1_leastNear_0 : decode cX1_leastNear 0 = .ok (.ldc 42, 2) := by decide +kernel
theorem dX1_leastNear_2 : decode cX1_leastNear 2 = .ok (.istore_n 3, 1) := by decide +kernel
theorem dX1_leastNear_3 : decode cX1_leastNear 3 = .ok (.iconst 0, 1) := by decide +kernel
theorem dX1_leastNear_4 : decode cX1_leastNear 4 = .ok (.istore 4, 2) := by decide +kernel
theorem dX1_leastNear_6 : decode cX1_leastNear 6 = .ok (.iload 4, 2) := by decide +kernel
theorem dX1_leastNear_8 : decode cX1_leastNear 8 = .ok (.sipush 2048, 3) := by decide +kernel
theorem dX1_leastNear_11 : decode cX1_leastNear 11 = .ok (.if_icmp .ge 37, 3) := by decide +kernel
theorem dX1_leastNear_14 : decode cX1_leastNear 14 = .ok (.aload_n 1, 1) := by decide +kernel
theorem dX1_leastNear_15 : decode cX1_leastNear 15 = .ok (.iload 4, 2) := by decide +kernel
theorem dX1_leastNear_17 : decode cX1_leastNear 17 = .ok (.iaload, 1) := by decide +kernel
theorem dX1_leastNear_18 : decode cX1_leastNear 18 = .ok (.iload_n 3, 1) := by decide +kernel
theorem dX1_leastNear_19 : decode cX1_leastNear 19 = .ok (.if_icmp .ge 23, 3) := by decide +kernel
theorem dX1_leastNear_22 : decode cX1_leastNear 22 = .ok (.aload_n 0, 1) := by decide +kernel
theorem dX1_leastNear_23 : decode cX1_leastNear 23 = .ok (.getfield 23, 3) := by decide +kernel
theorem dX1_leastNear_26 : decode cX1_leastNear 26 = .ok (.iload 4, 2) := by decide +kernel
theorem dX1_leastNear_28 : decode cX1_leastNear 28 = .ok (.iconst 3, 1) := by decide +kernel
theorem dX1_leastNear_29 : decode cX1_leastNear 29 = .ok (.ishr, 1) := by decide +kernel
theorem dX1_leastNear_30 : decode cX1_leastNear 30 = .ok (.iload_n 2, 1) := by decide +kernel
theorem dX1_leastNear_31 : decode cX1_leastNear 31 = .ok (.invokevirtual 79, 3) := by decide +kernel
theorem dX1_leastNear_34 : decode cX1_leastNear 34 = .ok (.ifCond .eq 8, 3) := by decide +kernel
theorem dX1_leastNear_37 : decode cX1_leastNear 37 = .ok (.aload_n 1, 1) := by decide +kernel
theorem dX1_leastNear_38 : decode cX1_leastNear 38 = .ok (.iload 4, 2) := by decide +kernel
theorem dX1_leastNear_40 : decode cX1_leastNear 40 = .ok (.iaload, 1) := by decide +kernel
theorem dX1_leastNear_41 : decode cX1_leastNear 41 = .ok (.istore_n 3, 1) := by decide +kernel
theorem dX1_leastNear_42 : decode cX1_leastNear 42 = .ok (.iinc 4 1, 3) := by decide +kernel
theorem dX1_leastNear_45 : decode cX1_leastNear 45 = .ok (.goto (-39), 3) := by decide +kernel
theorem dX1_leastNear_48 : decode cX1_leastNear 48 = .ok (.iload_n 3, 1) := by decide +kernel
theorem dX1_leastNear_49 : decode cX1_leastNear 49 = .ok (.ireturn, 1) := by decide +kernel
theorem dX1_shiftOf_0 : decode cX1_shiftOf 0 = .ok (.iconst 2, 1) := by decide +kernel
theorem dX1_shiftOf_1 : decode cX1_shiftOf 1 = .ok (.bipush 11, 2) := by decide +kernel
theorem dX1_shiftOf_3 : decode cX1_shiftOf 3 = .ok (.iload_n 0, 1) := by decide +kernel
theorem dX1_shiftOf_4 : decode cX1_shiftOf 4 = .ok (.isub, 1) := by decide +kernel
theorem dX1_shiftOf_5 : decode cX1_shiftOf 5 = .ok (.imul, 1) := by decide +kernel
theorem dX1_shiftOf_6 : decode cX1_shiftOf 6 = .ok (.ireturn, 1) := by decide +kernel
theorem dX1_reinsIn_0 : decode cX1_reinsIn 0 = .ok (.iload_n 0, 1) := by decide +kernel
theorem dX1_reinsIn_1 : decode cX1_reinsIn 1 = .ok (.ldc 61, 2) := by decide +kernel
theorem dX1_reinsIn_3 : decode cX1_reinsIn 3 = .ok (.idiv, 1) := by decide +kernel
theorem dX1_reinsIn_4 : decode cX1_reinsIn 4 = .ok (.ireturn, 1) := by decide +kernel
theorem dX1_reinAt_0 : decode cX1_reinAt 0 = .ok (.iload_n 0, 1) := by decide +kernel
theorem dX1_reinAt_1 : decode cX1_reinAt 1 = .ok (.iload_n 1, 1) := by decide +kernel
theorem dX1_reinAt_2 : decode cX1_reinAt 2 = .ok (.invokestatic 62, 3) := by decide +kernel
theorem dX1_reinAt_5 : decode cX1_reinAt 5 = .ok (.ishr, 1) := by decide +kernel
theorem dX1_reinAt_6 : decode cX1_reinAt 6 = .ok (.iconst 3, 1) := by decide +kernel
theorem dX1_reinAt_7 : decode cX1_reinAt 7 = .ok (.iand, 1) := by decide +kernel
theorem dX1_reinAt_8 : decode cX1_reinAt 8 = .ok (.istore_n 2, 1) := by decide +kernel
theorem dX1_reinAt_9 : decode cX1_reinAt 9 = .ok (.iload_n 2, 1) := by decide +kernel
theorem dX1_reinAt_10 : decode cX1_reinAt 10 = .ok (.iconst 3, 1) := by decide +kernel
theorem dX1_reinAt_11 : decode cX1_reinAt 11 = .ok (.if_icmp .ge 13, 3) := by decide +kernel
theorem dX1_reinAt_14 : decode cX1_reinAt 14 = .ok (.iconst 1, 1) := by decide +kernel
theorem dX1_reinAt_15 : decode cX1_reinAt 15 = .ok (.getstatic 66, 3) := by decide +kernel
theorem dX1_reinAt_18 : decode cX1_reinAt 18 = .ok (.iload_n 2, 1) := by decide +kernel
theorem dX1_reinAt_19 : decode cX1_reinAt 19 = .ok (.iaload, 1) := by decide +kernel
theorem dX1_reinAt_20 : decode cX1_reinAt 20 = .ok (.iadd, 1) := by decide +kernel
theorem dX1_reinAt_21 : decode cX1_reinAt 21 = .ok (.goto 4, 3) := by decide +kernel
theorem dX1_reinAt_24 : decode cX1_reinAt 24 = .ok (.iconst 1, 1) := by decide +kernel
theorem dX1_reinAt_25 : decode cX1_reinAt 25 = .ok (.ireturn, 1) := by decide +kernel
theorem dX1_weight_0 : decode cX1_weight 0 = .ok (.aload_n 0, 1) := by decide +kernel
theorem dX1_weight_1 : decode cX1_weight 1 = .ok (.getfield 27, 3) := by decide +kernel
theorem dX1_weight_4 : decode cX1_weight 4 = .ok (.iload_n 1, 1) := by decide +kernel
theorem dX1_weight_5 : decode cX1_weight 5 = .ok (.bipush 10, 2) := by decide +kernel
theorem dX1_weight_7 : decode cX1_weight 7 = .ok (.idiv, 1) := by decide +kernel
theorem dX1_weight_8 : decode cX1_weight 8 = .ok (.aaload, 1) := by decide +kernel
theorem dX1_weight_9 : decode cX1_weight 9 = .ok (.astore 5, 2) := by decide +kernel
theorem dX1_weight_11 : decode cX1_weight 11 = .ok (.aload 5, 2) := by decide +kernel
theorem dX1_weight_13 : decode cX1_weight 13 = .ok (.aload_n 0, 1) := by decide +kernel
theorem dX1_weight_14 : decode cX1_weight 14 = .ok (.getfield 23, 3) := by decide +kernel
theorem dX1_weight_17 : decode cX1_weight 17 = .ok (.getfield 31, 3) := by decide +kernel
theorem dX1_weight_20 : decode cX1_weight 20 = .ok (.iload_n 1, 1) := by decide +kernel
theorem dX1_weight_21 : decode cX1_weight 21 = .ok (.bipush 10, 2) := by decide +kernel
theorem dX1_weight_23 : decode cX1_weight 23 = .ok (.idiv, 1) := by decide +kernel
theorem dX1_weight_24 : decode cX1_weight 24 = .ok (.iaload, 1) := by decide +kernel
theorem dX1_weight_25 : decode cX1_weight 25 = .ok (.invokevirtual 36, 3) := by decide +kernel
theorem dX1_weight_28 : decode cX1_weight 28 = .ok (.aload_n 0, 1) := by decide +kernel
theorem dX1_weight_29 : decode cX1_weight 29 = .ok (.getfield 23, 3) := by decide +kernel
theorem dX1_weight_32 : decode cX1_weight 32 = .ok (.getfield 83, 3) := by decide +kernel
theorem dX1_weight_35 : decode cX1_weight 35 = .ok (.iload_n 1, 1) := by decide +kernel
theorem dX1_weight_36 : decode cX1_weight 36 = .ok (.bipush 10, 2) := by decide +kernel
theorem dX1_weight_38 : decode cX1_weight 38 = .ok (.irem, 1) := by decide +kernel
theorem dX1_weight_39 : decode cX1_weight 39 = .ok (.iaload, 1) := by decide +kernel
theorem dX1_weight_40 : decode cX1_weight 40 = .ok (.istore 6, 2) := by decide +kernel
theorem dX1_weight_42 : decode cX1_weight 42 = .ok (.lconst 0, 1) := by decide +kernel
theorem dX1_weight_43 : decode cX1_weight 43 = .ok (.lstore 7, 2) := by decide +kernel
theorem dX1_weight_45 : decode cX1_weight 45 = .ok (.iconst 0, 1) := by decide +kernel
theorem dX1_weight_46 : decode cX1_weight 46 = .ok (.istore 9, 2) := by decide +kernel
theorem dX1_weight_48 : decode cX1_weight 48 = .ok (.iload 9, 2) := by decide +kernel
theorem dX1_weight_50 : decode cX1_weight 50 = .ok (.iconst 1, 1) := by decide +kernel
theorem dX1_weight_51 : decode cX1_weight 51 = .ok (.iload_n 2, 1) := by decide +kernel
theorem dX1_weight_52 : decode cX1_weight 52 = .ok (.ishl, 1) := by decide +kernel
theorem dX1_weight_53 : decode cX1_weight 53 = .ok (.if_icmp .ge 131, 3) := by decide +kernel
theorem dX1_weight_56 : decode cX1_weight 56 = .ok (.lconst 1, 1) := by decide +kernel
theorem dX1_weight_57 : decode cX1_weight 57 = .ok (.lstore 10, 2) := by decide +kernel
theorem dX1_weight_59 : decode cX1_weight 59 = .ok (.aload 5, 2) := by decide +kernel
theorem dX1_weight_61 : decode cX1_weight 61 = .ok (.invokevirtual 49, 3) := by decide +kernel
theorem dX1_weight_64 : decode cX1_weight 64 = .ok (.istore 12, 2) := by decide +kernel
theorem dX1_weight_66 : decode cX1_weight 66 = .ok (.iconst 0, 1) := by decide +kernel
theorem dX1_weight_67 : decode cX1_weight 67 = .ok (.istore 13, 2) := by decide +kernel
theorem dX1_weight_69 : decode cX1_weight 69 = .ok (.iload 13, 2) := by decide +kernel
theorem dX1_weight_71 : decode cX1_weight 71 = .ok (.iload_n 2, 1) := by decide +kernel
theorem dX1_weight_72 : decode cX1_weight 72 = .ok (.if_icmp .ge 59, 3) := by decide +kernel
theorem dX1_weight_75 : decode cX1_weight 75 = .ok (.lload 10, 2) := by decide +kernel
theorem dX1_weight_77 : decode cX1_weight 77 = .ok (.lconst 0, 1) := by decide +kernel
theorem dX1_weight_78 : decode cX1_weight 78 = .ok (.lcmp, 1) := by decide +kernel
theorem dX1_weight_79 : decode cX1_weight 79 = .ok (.ifCond .eq 52, 3) := by decide +kernel
theorem dX1_weight_82 : decode cX1_weight 82 = .ok (.iload 9, 2) := by decide +kernel
theorem dX1_weight_84 : decode cX1_weight 84 = .ok (.iload 13, 2) := by decide +kernel
theorem dX1_weight_86 : decode cX1_weight 86 = .ok (.ishr, 1) := by decide +kernel
theorem dX1_weight_87 : decode cX1_weight 87 = .ok (.iconst 1, 1) := by decide +kernel
theorem dX1_weight_88 : decode cX1_weight 88 = .ok (.iand, 1) := by decide +kernel
theorem dX1_weight_89 : decode cX1_weight 89 = .ok (.istore 14, 2) := by decide +kernel
theorem dX1_weight_91 : decode cX1_weight 91 = .ok (.lload 10, 2) := by decide +kernel
theorem dX1_weight_93 : decode cX1_weight 93 = .ok (.iload 14, 2) := by decide +kernel
theorem dX1_weight_95 : decode cX1_weight 95 = .ok (.iconst 1, 1) := by decide +kernel
theorem dX1_weight_96 : decode cX1_weight 96 = .ok (.if_icmp .ne 8, 3) := by decide +kernel
theorem dX1_weight_99 : decode cX1_weight 99 = .ok (.iload_n 3, 1) := by decide +kernel
theorem dX1_weight_100 : decode cX1_weight 100 = .ok (.i2l, 1) := by decide +kernel
theorem dX1_weight_101 : decode cX1_weight 101 = .ok (.goto 8, 3) := by decide +kernel
theorem dX1_weight_104 : decode cX1_weight 104 = .ok (.bipush 12, 2) := by decide +kernel
theorem dX1_weight_106 : decode cX1_weight 106 = .ok (.iload_n 3, 1) := by decide +kernel
theorem dX1_weight_107 : decode cX1_weight 107 = .ok (.isub, 1) := by decide +kernel
theorem dX1_weight_108 : decode cX1_weight 108 = .ok (.i2l, 1) := by decide +kernel
theorem dX1_weight_109 : decode cX1_weight 109 = .ok (.lmul, 1) := by decide +kernel
theorem dX1_weight_110 : decode cX1_weight 110 = .ok (.lstore 10, 2) := by decide +kernel
theorem dX1_weight_112 : decode cX1_weight 112 = .ok (.aload 5, 2) := by decide +kernel
theorem dX1_weight_114 : decode cX1_weight 114 = .ok (.iload 12, 2) := by decide +kernel
theorem dX1_weight_116 : decode cX1_weight 116 = .ok (.iload 13, 2) := by decide +kernel
theorem dX1_weight_118 : decode cX1_weight 118 = .ok (.iload 14, 2) := by decide +kernel
theorem dX1_weight_120 : decode cX1_weight 120 = .ok (.invokevirtual 69, 3) := by decide +kernel
theorem dX1_weight_123 : decode cX1_weight 123 = .ok (.istore 12, 2) := by decide +kernel
theorem dX1_weight_125 : decode cX1_weight 125 = .ok (.iinc 13 1, 3) := by decide +kernel
theorem dX1_weight_128 : decode cX1_weight 128 = .ok (.goto (-59), 3) := by decide +kernel
theorem dX1_weight_131 : decode cX1_weight 131 = .ok (.iload 12, 2) := by decide +kernel
theorem dX1_weight_133 : decode cX1_weight 133 = .ok (.iconst 3, 1) := by decide +kernel
theorem dX1_weight_134 : decode cX1_weight 134 = .ok (.ishr, 1) := by decide +kernel
theorem dX1_weight_135 : decode cX1_weight 135 = .ok (.iload 6, 2) := by decide +kernel
theorem dX1_weight_137 : decode cX1_weight 137 = .ok (.invokestatic 86, 3) := by decide +kernel
theorem dX1_weight_140 : decode cX1_weight 140 = .ok (.istore 13, 2) := by decide +kernel
theorem dX1_weight_142 : decode cX1_weight 142 = .ok (.lload 7, 2) := by decide +kernel
theorem dX1_weight_144 : decode cX1_weight 144 = .ok (.lload 10, 2) := by decide +kernel
theorem dX1_weight_146 : decode cX1_weight 146 = .ok (.iload 4, 2) := by decide +kernel
theorem dX1_weight_148 : decode cX1_weight 148 = .ok (.ifCond .eq 8, 3) := by decide +kernel
theorem dX1_weight_151 : decode cX1_weight 151 = .ok (.iload 13, 2) := by decide +kernel
theorem dX1_weight_153 : decode cX1_weight 153 = .ok (.goto 20, 3) := by decide +kernel
theorem dX1_weight_156 : decode cX1_weight 156 = .ok (.iload 13, 2) := by decide +kernel
theorem dX1_weight_158 : decode cX1_weight 158 = .ok (.aload_n 0, 1) := by decide +kernel
theorem dX1_weight_159 : decode cX1_weight 159 = .ok (.getfield 23, 3) := by decide +kernel
theorem dX1_weight_162 : decode cX1_weight 162 = .ok (.getfield 89, 3) := by decide +kernel
theorem dX1_weight_165 : decode cX1_weight 165 = .ok (.if_icmp .gt 7, 3) := by decide +kernel
theorem dX1_weight_168 : decode cX1_weight 168 = .ok (.iconst 1, 1) := by decide +kernel
theorem dX1_weight_169 : decode cX1_weight 169 = .ok (.goto 4, 3) := by decide +kernel
theorem dX1_weight_172 : decode cX1_weight 172 = .ok (.iconst 0, 1) := by decide +kernel
theorem dX1_weight_173 : decode cX1_weight 173 = .ok (.i2l, 1) := by decide +kernel
theorem dX1_weight_174 : decode cX1_weight 174 = .ok (.lmul, 1) := by decide +kernel
theorem dX1_weight_175 : decode cX1_weight 175 = .ok (.ladd, 1) := by decide +kernel
theorem dX1_weight_176 : decode cX1_weight 176 = .ok (.lstore 7, 2) := by decide +kernel
theorem dX1_weight_178 : decode cX1_weight 178 = .ok (.iinc 9 1, 3) := by decide +kernel
theorem dX1_weight_181 : decode cX1_weight 181 = .ok (.goto (-133), 3) := by decide +kernel
theorem dX1_weight_184 : decode cX1_weight 184 = .ok (.lload 7, 2) := by decide +kernel
theorem dX1_weight_186 : decode cX1_weight 186 = .ok (.lreturn, 1) := by decide +kernel
theorem dX1_fraction_0 : decode cX1_fraction 0 = .ok (.lconst 1, 1) := by decide +kernel
theorem dX1_fraction_1 : decode cX1_fraction 1 = .ok (.lstore 5, 2) := by decide +kernel
theorem dX1_fraction_3 : decode cX1_fraction 3 = .ok (.iconst 0, 1) := by decide +kernel
theorem dX1_fraction_4 : decode cX1_fraction 4 = .ok (.istore 7, 2) := by decide +kernel
theorem dX1_fraction_6 : decode cX1_fraction 6 = .ok (.iload 7, 2) := by decide +kernel
theorem dX1_fraction_8 : decode cX1_fraction 8 = .ok (.iload_n 3, 1) := by decide +kernel
theorem dX1_fraction_9 : decode cX1_fraction 9 = .ok (.if_icmp .ge 17, 3) := by decide +kernel
theorem dX1_fraction_12 : decode cX1_fraction 12 = .ok (.lload 5, 2) := by decide +kernel
theorem dX1_fraction_14 : decode cX1_fraction 14 = .ok (.ldc2_w 93, 3) := by decide +kernel
theorem dX1_fraction_17 : decode cX1_fraction 17 = .ok (.lmul, 1) := by decide +kernel
theorem dX1_fraction_18 : decode cX1_fraction 18 = .ok (.lstore 5, 2) := by decide +kernel
theorem dX1_fraction_20 : decode cX1_fraction 20 = .ok (.iinc 7 1, 3) := by decide +kernel
theorem dX1_fraction_23 : decode cX1_fraction 23 = .ok (.goto (-17), 3) := by decide +kernel
theorem dX1_fraction_26 : decode cX1_fraction 26 = .ok (.lload_n 1, 1) := by decide +kernel
theorem dX1_fraction_27 : decode cX1_fraction 27 = .ok (.lload 5, 2) := by decide +kernel
theorem dX1_fraction_29 : decode cX1_fraction 29 = .ok (.invokestatic 95, 3) := by decide +kernel
theorem dX1_fraction_32 : decode cX1_fraction 32 = .ok (.lstore 7, 2) := by decide +kernel
theorem dX1_fraction_34 : decode cX1_fraction 34 = .ok (.iload 4, 2) := by decide +kernel
theorem dX1_fraction_36 : decode cX1_fraction 36 = .ok (.ifCond .ne 7, 3) := by decide +kernel
theorem dX1_fraction_39 : decode cX1_fraction 39 = .ok (.lload_n 1, 1) := by decide +kernel
theorem dX1_fraction_40 : decode cX1_fraction 40 = .ok (.goto 5, 3) := by decide +kernel
theorem dX1_fraction_43 : decode cX1_fraction 43 = .ok (.lload 5, 2) := by decide +kernel
theorem dX1_fraction_45 : decode cX1_fraction 45 = .ok (.lload 7, 2) := by decide +kernel
theorem dX1_fraction_47 : decode cX1_fraction 47 = .ok (.ldiv, 1) := by decide +kernel
theorem dX1_fraction_48 : decode cX1_fraction 48 = .ok (.lreturn, 1) := by decide +kernel
theorem dX1_commonDivisor_0 : decode cX1_commonDivisor 0 = .ok (.lload_n 0, 1) := by decide +kernel
theorem dX1_commonDivisor_1 : decode cX1_commonDivisor 1 = .ok (.lstore 4, 2) := by decide +kernel
theorem dX1_commonDivisor_3 : decode cX1_commonDivisor 3 = .ok (.lload_n 2, 1) := by decide +kernel
theorem dX1_commonDivisor_4 : decode cX1_commonDivisor 4 = .ok (.lstore 6, 2) := by decide +kernel
theorem dX1_commonDivisor_6 : decode cX1_commonDivisor 6 = .ok (.iconst 0, 1) := by decide +kernel
theorem dX1_commonDivisor_7 : decode cX1_commonDivisor 7 = .ok (.istore 8, 2) := by decide +kernel
theorem dX1_commonDivisor_9 : decode cX1_commonDivisor 9 = .ok (.iload 8, 2) := by decide +kernel
theorem dX1_commonDivisor_11 : decode cX1_commonDivisor 11 = .ok (.bipush 100, 2) := by decide +kernel
theorem dX1_commonDivisor_13 : decode cX1_commonDivisor 13 = .ok (.if_icmp .ge 31, 3) := by decide +kernel
theorem dX1_commonDivisor_16 : decode cX1_commonDivisor 16 = .ok (.lload 6, 2) := by decide +kernel
theorem dX1_commonDivisor_18 : decode cX1_commonDivisor 18 = .ok (.lconst 0, 1) := by decide +kernel
theorem dX1_commonDivisor_19 : decode cX1_commonDivisor 19 = .ok (.lcmp, 1) := by decide +kernel
theorem dX1_commonDivisor_20 : decode cX1_commonDivisor 20 = .ok (.ifCond .eq 24, 3) := by decide +kernel
theorem dX1_commonDivisor_23 : decode cX1_commonDivisor 23 = .ok (.lload 4, 2) := by decide +kernel
theorem dX1_commonDivisor_25 : decode cX1_commonDivisor 25 = .ok (.lload 6, 2) := by decide +kernel
theorem dX1_commonDivisor_27 : decode cX1_commonDivisor 27 = .ok (.lrem, 1) := by decide +kernel
theorem dX1_commonDivisor_28 : decode cX1_commonDivisor 28 = .ok (.lstore 9, 2) := by decide +kernel
theorem dX1_commonDivisor_30 : decode cX1_commonDivisor 30 = .ok (.lload 6, 2) := by decide +kernel
theorem dX1_commonDivisor_32 : decode cX1_commonDivisor 32 = .ok (.lstore 4, 2) := by decide +kernel
theorem dX1_commonDivisor_34 : decode cX1_commonDivisor 34 = .ok (.lload 9, 2) := by decide +kernel
theorem dX1_commonDivisor_36 : decode cX1_commonDivisor 36 = .ok (.lstore 6, 2) := by decide +kernel
theorem dX1_commonDivisor_38 : decode cX1_commonDivisor 38 = .ok (.iinc 8 1, 3) := by decide +kernel
theorem dX1_commonDivisor_41 : decode cX1_commonDivisor 41 = .ok (.goto (-32), 3) := by decide +kernel
theorem dX1_commonDivisor_44 : decode cX1_commonDivisor 44 = .ok (.lconst 1, 1) := by decide +kernel
theorem dX1_commonDivisor_45 : decode cX1_commonDivisor 45 = .ok (.lload 4, 2) := by decide +kernel
theorem dX1_commonDivisor_47 : decode cX1_commonDivisor 47 = .ok (.invokestatic 99, 3) := by decide +kernel
theorem dX1_commonDivisor_50 : decode cX1_commonDivisor 50 = .ok (.lreturn, 1) := by decide +kernel
theorem dX1_herBest_0 : decode cX1_herBest 0 = .ok (.aload_n 0, 1) := by decide +kernel
theorem dX1_herBest_1 : decode cX1_herBest 1 = .ok (.getfield 27, 3) := by decide +kernel
theorem dX1_herBest_4 : decode cX1_herBest 4 = .ok (.iload_n 1, 1) := by decide +kernel
theorem dX1_herBest_5 : decode cX1_herBest 5 = .ok (.aaload, 1) := by decide +kernel
theorem dX1_herBest_6 : decode cX1_herBest 6 = .ok (.astore 5, 2) := by decide +kernel
theorem dX1_herBest_8 : decode cX1_herBest 8 = .ok (.aload 5, 2) := by decide +kernel
theorem dX1_herBest_10 : decode cX1_herBest 10 = .ok (.aload_n 0, 1) := by decide +kernel
theorem dX1_herBest_11 : decode cX1_herBest 11 = .ok (.getfield 23, 3) := by decide +kernel
theorem dX1_herBest_14 : decode cX1_herBest 14 = .ok (.getfield 31, 3) := by decide +kernel
theorem dX1_herBest_17 : decode cX1_herBest 17 = .ok (.iload_n 1, 1) := by decide +kernel
theorem dX1_herBest_18 : decode cX1_herBest 18 = .ok (.iaload, 1) := by decide +kernel
theorem dX1_herBest_19 : decode cX1_herBest 19 = .ok (.invokevirtual 36, 3) := by decide +kernel
theorem dX1_herBest_22 : decode cX1_herBest 22 = .ok (.ldc 42, 2) := by decide +kernel
theorem dX1_herBest_24 : decode cX1_herBest 24 = .ok (.istore 6, 2) := by decide +kernel
theorem dX1_herBest_26 : decode cX1_herBest 26 = .ok (.iconst 0, 1) := by decide +kernel
theorem dX1_herBest_27 : decode cX1_herBest 27 = .ok (.istore 7, 2) := by decide +kernel
theorem dX1_herBest_29 : decode cX1_herBest 29 = .ok (.iconst 0, 1) := by decide +kernel
theorem dX1_herBest_30 : decode cX1_herBest 30 = .ok (.istore 8, 2) := by decide +kernel
theorem dX1_herBest_32 : decode cX1_herBest 32 = .ok (.iload 8, 2) := by decide +kernel
theorem dX1_herBest_34 : decode cX1_herBest 34 = .ok (.iconst 3, 1) := by decide +kernel
theorem dX1_herBest_35 : decode cX1_herBest 35 = .ok (.if_icmp .ge 51, 3) := by decide +kernel
theorem dX1_herBest_38 : decode cX1_herBest 38 = .ok (.aload 5, 2) := by decide +kernel
theorem dX1_herBest_40 : decode cX1_herBest 40 = .ok (.aload 5, 2) := by decide +kernel
theorem dX1_herBest_42 : decode cX1_herBest 42 = .ok (.aload 5, 2) := by decide +kernel
theorem dX1_herBest_44 : decode cX1_herBest 44 = .ok (.invokevirtual 49, 3) := by decide +kernel
theorem dX1_herBest_47 : decode cX1_herBest 47 = .ok (.iconst 0, 1) := by decide +kernel
theorem dX1_herBest_48 : decode cX1_herBest 48 = .ok (.getstatic 66, 3) := by decide +kernel
theorem dX1_herBest_51 : decode cX1_herBest 51 = .ok (.iload 8, 2) := by decide +kernel
theorem dX1_herBest_53 : decode cX1_herBest 53 = .ok (.iaload, 1) := by decide +kernel
theorem dX1_herBest_54 : decode cX1_herBest 54 = .ok (.invokevirtual 69, 3) := by decide +kernel
theorem dX1_herBest_57 : decode cX1_herBest 57 = .ok (.iconst 1, 1) := by decide +kernel
theorem dX1_herBest_58 : decode cX1_herBest 58 = .ok (.iload_n 3, 1) := by decide +kernel
theorem dX1_herBest_59 : decode cX1_herBest 59 = .ok (.iload_n 2, 1) := by decide +kernel
theorem dX1_herBest_60 : decode cX1_herBest 60 = .ok (.invokestatic 102, 3) := by decide +kernel
theorem dX1_herBest_63 : decode cX1_herBest 63 = .ok (.istore 9, 2) := by decide +kernel
theorem dX1_herBest_65 : decode cX1_herBest 65 = .ok (.iload 9, 2) := by decide +kernel
theorem dX1_herBest_67 : decode cX1_herBest 67 = .ok (.iload 6, 2) := by decide +kernel
theorem dX1_herBest_69 : decode cX1_herBest 69 = .ok (.if_icmp .ge 11, 3) := by decide +kernel
theorem dX1_herBest_72 : decode cX1_herBest 72 = .ok (.iload 9, 2) := by decide +kernel
theorem dX1_herBest_74 : decode cX1_herBest 74 = .ok (.istore 6, 2) := by decide +kernel
theorem dX1_herBest_76 : decode cX1_herBest 76 = .ok (.iload 8, 2) := by decide +kernel
theorem dX1_herBest_78 : decode cX1_herBest 78 = .ok (.istore 7, 2) := by decide +kernel
theorem dX1_herBest_80 : decode cX1_herBest 80 = .ok (.iinc 8 1, 3) := by decide +kernel
theorem dX1_herBest_83 : decode cX1_herBest 83 = .ok (.goto (-51), 3) := by decide +kernel
theorem dX1_herBest_86 : decode cX1_herBest 86 = .ok (.iload 4, 2) := by decide +kernel
theorem dX1_herBest_88 : decode cX1_herBest 88 = .ok (.ifCond .eq 14, 3) := by decide +kernel
theorem dX1_herBest_91 : decode cX1_herBest 91 = .ok (.iconst 1, 1) := by decide +kernel
theorem dX1_herBest_92 : decode cX1_herBest 92 = .ok (.getstatic 66, 3) := by decide +kernel
theorem dX1_herBest_95 : decode cX1_herBest 95 = .ok (.iload 7, 2) := by decide +kernel
theorem dX1_herBest_97 : decode cX1_herBest 97 = .ok (.iaload, 1) := by decide +kernel
theorem dX1_herBest_98 : decode cX1_herBest 98 = .ok (.iadd, 1) := by decide +kernel
theorem dX1_herBest_99 : decode cX1_herBest 99 = .ok (.goto 5, 3) := by decide +kernel
theorem dX1_herBest_102 : decode cX1_herBest 102 = .ok (.iload 6, 2) := by decide +kernel
theorem dX1_herBest_104 : decode cX1_herBest 104 = .ok (.ireturn, 1) := by decide +kernel
theorem dX1_farAtLast_0 : decode cX1_farAtLast 0 = .ok (.iload_n 2, 1) := by decide +kernel
theorem dX1_farAtLast_1 : decode cX1_farAtLast 1 = .ok (.iload_n 3, 1) := by decide +kernel
theorem dX1_farAtLast_2 : decode cX1_farAtLast 2 = .ok (.if_icmp .lt 12, 3) := by decide +kernel
theorem dX1_farAtLast_5 : decode cX1_farAtLast 5 = .ok (.iload_n 1, 1) := by decide +kernel
theorem dX1_farAtLast_6 : decode cX1_farAtLast 6 = .ok (.iconst 3, 1) := by decide +kernel
theorem dX1_farAtLast_7 : decode cX1_farAtLast 7 = .ok (.ishr, 1) := by decide +kernel
theorem dX1_farAtLast_8 : decode cX1_farAtLast 8 = .ok (.iload 4, 2) := by decide +kernel
theorem dX1_farAtLast_10 : decode cX1_farAtLast 10 = .ok (.invokestatic 86, 3) := by decide +kernel
theorem dX1_farAtLast_13 : decode cX1_farAtLast 13 = .ok (.ireturn, 1) := by decide +kernel
theorem dX1_farAtLast_14 : decode cX1_farAtLast 14 = .ok (.iload_n 2, 1) := by decide +kernel
theorem dX1_farAtLast_15 : decode cX1_farAtLast 15 = .ok (.iconst 2, 1) := by decide +kernel
theorem dX1_farAtLast_16 : decode cX1_farAtLast 16 = .ok (.irem, 1) := by decide +kernel
theorem dX1_farAtLast_17 : decode cX1_farAtLast 17 = .ok (.ifCond .ne 7, 3) := by decide +kernel
theorem dX1_farAtLast_20 : decode cX1_farAtLast 20 = .ok (.iconst 1, 1) := by decide +kernel
theorem dX1_farAtLast_21 : decode cX1_farAtLast 21 = .ok (.goto 4, 3) := by decide +kernel
theorem dX1_farAtLast_24 : decode cX1_farAtLast 24 = .ok (.iconst 0, 1) := by decide +kernel
theorem dX1_farAtLast_25 : decode cX1_farAtLast 25 = .ok (.istore 5, 2) := by decide +kernel
theorem dX1_farAtLast_27 : decode cX1_farAtLast 27 = .ok (.iload 5, 2) := by decide +kernel
theorem dX1_farAtLast_29 : decode cX1_farAtLast 29 = .ok (.ifCond .eq 8, 3) := by decide +kernel
theorem dX1_farAtLast_32 : decode cX1_farAtLast 32 = .ok (.ldc 42, 2) := by decide +kernel
theorem dX1_farAtLast_34 : decode cX1_farAtLast 34 = .ok (.goto 4, 3) := by decide +kernel
theorem dX1_farAtLast_37 : decode cX1_farAtLast 37 = .ok (.iconst (-1), 1) := by decide +kernel
theorem dX1_farAtLast_38 : decode cX1_farAtLast 38 = .ok (.istore 6, 2) := by decide +kernel
theorem dX1_farAtLast_40 : decode cX1_farAtLast 40 = .ok (.iconst 0, 1) := by decide +kernel
theorem dX1_farAtLast_41 : decode cX1_farAtLast 41 = .ok (.istore 7, 2) := by decide +kernel
theorem dX1_farAtLast_43 : decode cX1_farAtLast 43 = .ok (.iload 7, 2) := by decide +kernel
theorem dX1_farAtLast_45 : decode cX1_farAtLast 45 = .ok (.iconst 3, 1) := by decide +kernel
theorem dX1_farAtLast_46 : decode cX1_farAtLast 46 = .ok (.if_icmp .ge 57, 3) := by decide +kernel
theorem dX1_farAtLast_49 : decode cX1_farAtLast 49 = .ok (.aload_n 0, 1) := by decide +kernel
theorem dX1_farAtLast_50 : decode cX1_farAtLast 50 = .ok (.aload_n 0, 1) := by decide +kernel
theorem dX1_farAtLast_51 : decode cX1_farAtLast 51 = .ok (.iload_n 1, 1) := by decide +kernel
theorem dX1_farAtLast_52 : decode cX1_farAtLast 52 = .ok (.iload_n 2, 1) := by decide +kernel
theorem dX1_farAtLast_53 : decode cX1_farAtLast 53 = .ok (.getstatic 66, 3) := by decide +kernel
theorem dX1_farAtLast_56 : decode cX1_farAtLast 56 = .ok (.iload 7, 2) := by decide +kernel
theorem dX1_farAtLast_58 : decode cX1_farAtLast 58 = .ok (.iaload, 1) := by decide +kernel
theorem dX1_farAtLast_59 : decode cX1_farAtLast 59 = .ok (.invokevirtual 69, 3) := by decide +kernel
theorem dX1_farAtLast_62 : decode cX1_farAtLast 62 = .ok (.iload_n 2, 1) := by decide +kernel
theorem dX1_farAtLast_63 : decode cX1_farAtLast 63 = .ok (.iconst 1, 1) := by decide +kernel
theorem dX1_farAtLast_64 : decode cX1_farAtLast 64 = .ok (.iadd, 1) := by decide +kernel
theorem dX1_farAtLast_65 : decode cX1_farAtLast 65 = .ok (.iload_n 3, 1) := by decide +kernel
theorem dX1_farAtLast_66 : decode cX1_farAtLast 66 = .ok (.iload 4, 2) := by decide +kernel
theorem dX1_farAtLast_68 : decode cX1_farAtLast 68 = .ok (.invokestatic 102, 3) := by decide +kernel
theorem dX1_farAtLast_71 : decode cX1_farAtLast 71 = .ok (.istore 8, 2) := by decide +kernel
theorem dX1_farAtLast_73 : decode cX1_farAtLast 73 = .ok (.iload 5, 2) := by decide +kernel
theorem dX1_farAtLast_75 : decode cX1_farAtLast 75 = .ok (.ifCond .eq 13, 3) := by decide +kernel
theorem dX1_farAtLast_78 : decode cX1_farAtLast 78 = .ok (.iload 6, 2) := by decide +kernel
theorem dX1_farAtLast_80 : decode cX1_farAtLast 80 = .ok (.iload 8, 2) := by decide +kernel
theorem dX1_farAtLast_82 : decode cX1_farAtLast 82 = .ok (.invokestatic 73, 3) := by decide +kernel
theorem dX1_farAtLast_85 : decode cX1_farAtLast 85 = .ok (.goto 10, 3) := by decide +kernel
theorem dX1_farAtLast_88 : decode cX1_farAtLast 88 = .ok (.iload 6, 2) := by decide +kernel
theorem dX1_farAtLast_90 : decode cX1_farAtLast 90 = .ok (.iload 8, 2) := by decide +kernel
theorem dX1_farAtLast_92 : decode cX1_farAtLast 92 = .ok (.invokestatic 106, 3) := by decide +kernel
theorem dX1_farAtLast_95 : decode cX1_farAtLast 95 = .ok (.istore 6, 2) := by decide +kernel
theorem dX1_farAtLast_97 : decode cX1_farAtLast 97 = .ok (.iinc 7 1, 3) := by decide +kernel
theorem dX1_farAtLast_100 : decode cX1_farAtLast 100 = .ok (.goto (-57), 3) := by decide +kernel
theorem dX1_farAtLast_103 : decode cX1_farAtLast 103 = .ok (.iload 6, 2) := by decide +kernel
theorem dX1_farAtLast_105 : decode cX1_farAtLast 105 = .ok (.ireturn, 1) := by decide +kernel
theorem dX1_byDraws_0 : decode cX1_byDraws 0 = .ok (.iconst 0, 1) := by decide +kernel
theorem dX1_byDraws_1 : decode cX1_byDraws 1 = .ok (.istore 5, 2) := by decide +kernel
theorem dX1_byDraws_3 : decode cX1_byDraws 3 = .ok (.iload 5, 2) := by decide +kernel
theorem dX1_byDraws_5 : decode cX1_byDraws 5 = .ok (.aload_n 0, 1) := by decide +kernel
theorem dX1_byDraws_6 : decode cX1_byDraws 6 = .ok (.getfield 23, 3) := by decide +kernel
theorem dX1_byDraws_9 : decode cX1_byDraws 9 = .ok (.getfield 108, 3) := by decide +kernel
theorem dX1_byDraws_12 : decode cX1_byDraws 12 = .ok (.if_icmp .ge 29, 3) := by decide +kernel
theorem dX1_byDraws_15 : decode cX1_byDraws 15 = .ok (.aload_n 0, 1) := by decide +kernel
theorem dX1_byDraws_16 : decode cX1_byDraws 16 = .ok (.getfield 27, 3) := by decide +kernel
theorem dX1_byDraws_19 : decode cX1_byDraws 19 = .ok (.iload 5, 2) := by decide +kernel
theorem dX1_byDraws_21 : decode cX1_byDraws 21 = .ok (.aaload, 1) := by decide +kernel
theorem dX1_byDraws_22 : decode cX1_byDraws 22 = .ok (.aload_n 0, 1) := by decide +kernel
theorem dX1_byDraws_23 : decode cX1_byDraws 23 = .ok (.getfield 23, 3) := by decide +kernel
theorem dX1_byDraws_26 : decode cX1_byDraws 26 = .ok (.getfield 31, 3) := by decide +kernel
theorem dX1_byDraws_29 : decode cX1_byDraws 29 = .ok (.iload 5, 2) := by decide +kernel
theorem dX1_byDraws_31 : decode cX1_byDraws 31 = .ok (.iaload, 1) := by decide +kernel
theorem dX1_byDraws_32 : decode cX1_byDraws 32 = .ok (.invokevirtual 36, 3) := by decide +kernel
theorem dX1_byDraws_35 : decode cX1_byDraws 35 = .ok (.iinc 5 1, 3) := by decide +kernel
theorem dX1_byDraws_38 : decode cX1_byDraws 38 = .ok (.goto (-35), 3) := by decide +kernel
theorem dX1_byDraws_41 : decode cX1_byDraws 41 = .ok (.iload_n 1, 1) := by decide +kernel
theorem dX1_byDraws_42 : decode cX1_byDraws 42 = .ok (.istore 5, 2) := by decide +kernel
theorem dX1_byDraws_44 : decode cX1_byDraws 44 = .ok (.iconst 0, 1) := by decide +kernel
theorem dX1_byDraws_45 : decode cX1_byDraws 45 = .ok (.istore 6, 2) := by decide +kernel
theorem dX1_byDraws_47 : decode cX1_byDraws 47 = .ok (.iconst 0, 1) := by decide +kernel
theorem dX1_byDraws_48 : decode cX1_byDraws 48 = .ok (.istore 7, 2) := by decide +kernel
theorem dX1_byDraws_50 : decode cX1_byDraws 50 = .ok (.iload 7, 2) := by decide +kernel
theorem dX1_byDraws_52 : decode cX1_byDraws 52 = .ok (.iload_n 2, 1) := by decide +kernel
theorem dX1_byDraws_53 : decode cX1_byDraws 53 = .ok (.if_icmp .ge 50, 3) := by decide +kernel
theorem dX1_byDraws_56 : decode cX1_byDraws 56 = .ok (.aload_n 0, 1) := by decide +kernel
theorem dX1_byDraws_57 : decode cX1_byDraws 57 = .ok (.iload 5, 2) := by decide +kernel
theorem dX1_byDraws_59 : decode cX1_byDraws 59 = .ok (.iload_n 3, 1) := by decide +kernel
theorem dX1_byDraws_60 : decode cX1_byDraws 60 = .ok (.invokevirtual 111, 3) := by decide +kernel
theorem dX1_byDraws_63 : decode cX1_byDraws 63 = .ok (.istore 5, 2) := by decide +kernel
theorem dX1_byDraws_65 : decode cX1_byDraws 65 = .ok (.iload 6, 2) := by decide +kernel
theorem dX1_byDraws_67 : decode cX1_byDraws 67 = .ok (.iload 4, 2) := by decide +kernel
theorem dX1_byDraws_69 : decode cX1_byDraws 69 = .ok (.iconst (-1), 1) := by decide +kernel
theorem dX1_byDraws_70 : decode cX1_byDraws 70 = .ok (.if_icmp .ne 10, 3) := by decide +kernel
theorem dX1_byDraws_73 : decode cX1_byDraws 73 = .ok (.aload_n 0, 1) := by decide +kernel
theorem dX1_byDraws_74 : decode cX1_byDraws 74 = .ok (.invokevirtual 114, 3) := by decide +kernel
theorem dX1_byDraws_77 : decode cX1_byDraws 77 = .ok (.goto 17, 3) := by decide +kernel
theorem dX1_byDraws_80 : decode cX1_byDraws 80 = .ok (.aload_n 0, 1) := by decide +kernel
theorem dX1_byDraws_81 : decode cX1_byDraws 81 = .ok (.aload_n 0, 1) := by decide +kernel
theorem dX1_byDraws_82 : decode cX1_byDraws 82 = .ok (.getfield 23, 3) := by decide +kernel
theorem dX1_byDraws_85 : decode cX1_byDraws 85 = .ok (.getfield 83, 3) := by decide +kernel
theorem dX1_byDraws_88 : decode cX1_byDraws 88 = .ok (.iload 4, 2) := by decide +kernel
theorem dX1_byDraws_90 : decode cX1_byDraws 90 = .ok (.iaload, 1) := by decide +kernel
theorem dX1_byDraws_91 : decode cX1_byDraws 91 = .ok (.invokevirtual 117, 3) := by decide +kernel
theorem dX1_byDraws_94 : decode cX1_byDraws 94 = .ok (.iadd, 1) := by decide +kernel
theorem dX1_byDraws_95 : decode cX1_byDraws 95 = .ok (.istore 6, 2) := by decide +kernel
theorem dX1_byDraws_97 : decode cX1_byDraws 97 = .ok (.iinc 7 1, 3) := by decide +kernel
theorem dX1_byDraws_100 : decode cX1_byDraws 100 = .ok (.goto (-50), 3) := by decide +kernel
theorem dX1_byDraws_103 : decode cX1_byDraws 103 = .ok (.iload 6, 2) := by decide +kernel
theorem dX1_byDraws_105 : decode cX1_byDraws 105 = .ok (.ireturn, 1) := by decide +kernel
theorem dX1_drawYear_0 : decode cX1_drawYear 0 = .ok (.iload_n 1, 1) := by decide +kernel
theorem dX1_drawYear_1 : decode cX1_drawYear 1 = .ok (.istore_n 3, 1) := by decide +kernel
theorem dX1_drawYear_2 : decode cX1_drawYear 2 = .ok (.iconst 0, 1) := by decide +kernel
theorem dX1_drawYear_3 : decode cX1_drawYear 3 = .ok (.istore 4, 2) := by decide +kernel
theorem dX1_drawYear_5 : decode cX1_drawYear 5 = .ok (.iload 4, 2) := by decide +kernel
theorem dX1_drawYear_7 : decode cX1_drawYear 7 = .ok (.aload_n 0, 1) := by decide +kernel
theorem dX1_drawYear_8 : decode cX1_drawYear 8 = .ok (.getfield 23, 3) := by decide +kernel
theorem dX1_drawYear_11 : decode cX1_drawYear 11 = .ok (.getfield 108, 3) := by decide +kernel
theorem dX1_drawYear_14 : decode cX1_drawYear 14 = .ok (.if_icmp .ge 26, 3) := by decide +kernel
theorem dX1_drawYear_17 : decode cX1_drawYear 17 = .ok (.aload_n 0, 1) := by decide +kernel
theorem dX1_drawYear_18 : decode cX1_drawYear 18 = .ok (.getfield 20, 3) := by decide +kernel
theorem dX1_drawYear_21 : decode cX1_drawYear 21 = .ok (.iload 4, 2) := by decide +kernel
theorem dX1_drawYear_23 : decode cX1_drawYear 23 = .ok (.aload_n 0, 1) := by decide +kernel
theorem dX1_drawYear_24 : decode cX1_drawYear 24 = .ok (.getfield 27, 3) := by decide +kernel
theorem dX1_drawYear_27 : decode cX1_drawYear 27 = .ok (.iload 4, 2) := by decide +kernel
theorem dX1_drawYear_29 : decode cX1_drawYear 29 = .ok (.aaload, 1) := by decide +kernel
theorem dX1_drawYear_30 : decode cX1_drawYear 30 = .ok (.invokevirtual 49, 3) := by decide +kernel
theorem dX1_drawYear_33 : decode cX1_drawYear 33 = .ok (.iastore, 1) := by decide +kernel
theorem dX1_drawYear_34 : decode cX1_drawYear 34 = .ok (.iinc 4 1, 3) := by decide +kernel
theorem dX1_drawYear_37 : decode cX1_drawYear 37 = .ok (.goto (-32), 3) := by decide +kernel
theorem dX1_drawYear_40 : decode cX1_drawYear 40 = .ok (.iconst 0, 1) := by decide +kernel
theorem dX1_drawYear_41 : decode cX1_drawYear 41 = .ok (.istore 4, 2) := by decide +kernel
theorem dX1_drawYear_43 : decode cX1_drawYear 43 = .ok (.iload 4, 2) := by decide +kernel
theorem dX1_drawYear_45 : decode cX1_drawYear 45 = .ok (.iload_n 2, 1) := by decide +kernel
theorem dX1_drawYear_46 : decode cX1_drawYear 46 = .ok (.if_icmp .ge 73, 3) := by decide +kernel
theorem dX1_drawYear_49 : decode cX1_drawYear 49 = .ok (.iconst 0, 1) := by decide +kernel
theorem dX1_drawYear_50 : decode cX1_drawYear 50 = .ok (.istore 5, 2) := by decide +kernel
theorem dX1_drawYear_52 : decode cX1_drawYear 52 = .ok (.iload 5, 2) := by decide +kernel
theorem dX1_drawYear_54 : decode cX1_drawYear 54 = .ok (.aload_n 0, 1) := by decide +kernel
theorem dX1_drawYear_55 : decode cX1_drawYear 55 = .ok (.getfield 23, 3) := by decide +kernel
theorem dX1_drawYear_58 : decode cX1_drawYear 58 = .ok (.getfield 108, 3) := by decide +kernel
theorem dX1_drawYear_61 : decode cX1_drawYear 61 = .ok (.if_icmp .ge 52, 3) := by decide +kernel
theorem dX1_drawYear_64 : decode cX1_drawYear 64 = .ok (.iload_n 3, 1) := by decide +kernel
theorem dX1_drawYear_65 : decode cX1_drawYear 65 = .ok (.ldc 120, 2) := by decide +kernel
theorem dX1_drawYear_67 : decode cX1_drawYear 67 = .ok (.imul, 1) := by decide +kernel
theorem dX1_drawYear_68 : decode cX1_drawYear 68 = .ok (.sipush 12345, 3) := by decide +kernel
theorem dX1_drawYear_71 : decode cX1_drawYear 71 = .ok (.iadd, 1) := by decide +kernel
theorem dX1_drawYear_72 : decode cX1_drawYear 72 = .ok (.istore_n 3, 1) := by decide +kernel
theorem dX1_drawYear_73 : decode cX1_drawYear 73 = .ok (.aload_n 0, 1) := by decide +kernel
theorem dX1_drawYear_74 : decode cX1_drawYear 74 = .ok (.getfield 20, 3) := by decide +kernel
theorem dX1_drawYear_77 : decode cX1_drawYear 77 = .ok (.iload 5, 2) := by decide +kernel
theorem dX1_drawYear_79 : decode cX1_drawYear 79 = .ok (.aload_n 0, 1) := by decide +kernel
theorem dX1_drawYear_80 : decode cX1_drawYear 80 = .ok (.getfield 27, 3) := by decide +kernel
theorem dX1_drawYear_83 : decode cX1_drawYear 83 = .ok (.iload 5, 2) := by decide +kernel
theorem dX1_drawYear_85 : decode cX1_drawYear 85 = .ok (.aaload, 1) := by decide +kernel
theorem dX1_drawYear_86 : decode cX1_drawYear 86 = .ok (.aload_n 0, 1) := by decide +kernel
theorem dX1_drawYear_87 : decode cX1_drawYear 87 = .ok (.getfield 20, 3) := by decide +kernel
theorem dX1_drawYear_90 : decode cX1_drawYear 90 = .ok (.iload 5, 2) := by decide +kernel
theorem dX1_drawYear_92 : decode cX1_drawYear 92 = .ok (.iaload, 1) := by decide +kernel
theorem dX1_drawYear_93 : decode cX1_drawYear 93 = .ok (.iload 4, 2) := by decide +kernel
theorem dX1_drawYear_95 : decode cX1_drawYear 95 = .ok (.iload_n 3, 1) := by decide +kernel
theorem dX1_drawYear_96 : decode cX1_drawYear 96 = .ok (.bipush 8, 2) := by decide +kernel
theorem dX1_drawYear_98 : decode cX1_drawYear 98 = .ok (.iushr, 1) := by decide +kernel
theorem dX1_drawYear_99 : decode cX1_drawYear 99 = .ok (.iconst 3, 1) := by decide +kernel
theorem dX1_drawYear_100 : decode cX1_drawYear 100 = .ok (.irem, 1) := by decide +kernel
theorem dX1_drawYear_101 : decode cX1_drawYear 101 = .ok (.iconst 1, 1) := by decide +kernel
theorem dX1_drawYear_102 : decode cX1_drawYear 102 = .ok (.isub, 1) := by decide +kernel
theorem dX1_drawYear_103 : decode cX1_drawYear 103 = .ok (.invokevirtual 69, 3) := by decide +kernel
theorem dX1_drawYear_106 : decode cX1_drawYear 106 = .ok (.iastore, 1) := by decide +kernel
theorem dX1_drawYear_107 : decode cX1_drawYear 107 = .ok (.iinc 5 1, 3) := by decide +kernel
theorem dX1_drawYear_110 : decode cX1_drawYear 110 = .ok (.goto (-58), 3) := by decide +kernel
theorem dX1_drawYear_113 : decode cX1_drawYear 113 = .ok (.iinc 4 1, 3) := by decide +kernel
theorem dX1_drawYear_116 : decode cX1_drawYear 116 = .ok (.goto (-73), 3) := by decide +kernel
theorem dX1_drawYear_119 : decode cX1_drawYear 119 = .ok (.iload_n 3, 1) := by decide +kernel
theorem dX1_drawYear_120 : decode cX1_drawYear 120 = .ok (.ireturn, 1) := by decide +kernel
theorem dX1_carriagesAt_0 : decode cX1_carriagesAt 0 = .ok (.iconst 0, 1) := by decide +kernel
theorem dX1_carriagesAt_1 : decode cX1_carriagesAt 1 = .ok (.istore_n 2, 1) := by decide +kernel
theorem dX1_carriagesAt_2 : decode cX1_carriagesAt 2 = .ok (.iconst 0, 1) := by decide +kernel
theorem dX1_carriagesAt_3 : decode cX1_carriagesAt 3 = .ok (.istore_n 3, 1) := by decide +kernel
theorem dX1_carriagesAt_4 : decode cX1_carriagesAt 4 = .ok (.iload_n 3, 1) := by decide +kernel
theorem dX1_carriagesAt_5 : decode cX1_carriagesAt 5 = .ok (.aload_n 0, 1) := by decide +kernel
theorem dX1_carriagesAt_6 : decode cX1_carriagesAt 6 = .ok (.getfield 23, 3) := by decide +kernel
theorem dX1_carriagesAt_9 : decode cX1_carriagesAt 9 = .ok (.getfield 108, 3) := by decide +kernel
theorem dX1_carriagesAt_12 : decode cX1_carriagesAt 12 = .ok (.if_icmp .ge 31, 3) := by decide +kernel
theorem dX1_carriagesAt_15 : decode cX1_carriagesAt 15 = .ok (.aload_n 0, 1) := by decide +kernel
theorem dX1_carriagesAt_16 : decode cX1_carriagesAt 16 = .ok (.getfield 23, 3) := by decide +kernel
theorem dX1_carriagesAt_19 : decode cX1_carriagesAt 19 = .ok (.aload_n 0, 1) := by decide +kernel
theorem dX1_carriagesAt_20 : decode cX1_carriagesAt 20 = .ok (.getfield 20, 3) := by decide +kernel
theorem dX1_carriagesAt_23 : decode cX1_carriagesAt 23 = .ok (.iload_n 3, 1) := by decide +kernel
theorem dX1_carriagesAt_24 : decode cX1_carriagesAt 24 = .ok (.iaload, 1) := by decide +kernel
theorem dX1_carriagesAt_25 : decode cX1_carriagesAt 25 = .ok (.iconst 3, 1) := by decide +kernel
theorem dX1_carriagesAt_26 : decode cX1_carriagesAt 26 = .ok (.ishr, 1) := by decide +kernel
theorem dX1_carriagesAt_27 : decode cX1_carriagesAt 27 = .ok (.iload_n 1, 1) := by decide +kernel
theorem dX1_carriagesAt_28 : decode cX1_carriagesAt 28 = .ok (.invokevirtual 79, 3) := by decide +kernel
theorem dX1_carriagesAt_31 : decode cX1_carriagesAt 31 = .ok (.ifCond .eq 6, 3) := by decide +kernel
theorem dX1_carriagesAt_34 : decode cX1_carriagesAt 34 = .ok (.iinc 2 1, 3) := by decide +kernel
theorem dX1_carriagesAt_37 : decode cX1_carriagesAt 37 = .ok (.iinc 3 1, 3) := by decide +kernel
theorem dX1_carriagesAt_40 : decode cX1_carriagesAt 40 = .ok (.goto (-36), 3) := by decide +kernel
theorem dX1_carriagesAt_43 : decode cX1_carriagesAt 43 = .ok (.iload_n 2, 1) := by decide +kernel
theorem dX1_carriagesAt_44 : decode cX1_carriagesAt 44 = .ok (.ireturn, 1) := by decide +kernel
theorem dX1_placesReached_0 : decode cX1_placesReached 0 = .ok (.iconst 0, 1) := by decide +kernel
theorem dX1_placesReached_1 : decode cX1_placesReached 1 = .ok (.istore_n 1, 1) := by decide +kernel
theorem dX1_placesReached_2 : decode cX1_placesReached 2 = .ok (.iconst 0, 1) := by decide +kernel
theorem dX1_placesReached_3 : decode cX1_placesReached 3 = .ok (.istore_n 2, 1) := by decide +kernel
theorem dX1_placesReached_4 : decode cX1_placesReached 4 = .ok (.iload_n 2, 1) := by decide +kernel
theorem dX1_placesReached_5 : decode cX1_placesReached 5 = .ok (.aload_n 0, 1) := by decide +kernel
theorem dX1_placesReached_6 : decode cX1_placesReached 6 = .ok (.getfield 23, 3) := by decide +kernel
theorem dX1_placesReached_9 : decode cX1_placesReached 9 = .ok (.getfield 108, 3) := by decide +kernel
theorem dX1_placesReached_12 : decode cX1_placesReached 12 = .ok (.if_icmp .ge 27, 3) := by decide +kernel
theorem dX1_placesReached_15 : decode cX1_placesReached 15 = .ok (.iload_n 1, 1) := by decide +kernel
theorem dX1_placesReached_16 : decode cX1_placesReached 16 = .ok (.aload_n 0, 1) := by decide +kernel
theorem dX1_placesReached_17 : decode cX1_placesReached 17 = .ok (.getfield 23, 3) := by decide +kernel
theorem dX1_placesReached_20 : decode cX1_placesReached 20 = .ok (.aload_n 0, 1) := by decide +kernel
theorem dX1_placesReached_21 : decode cX1_placesReached 21 = .ok (.getfield 20, 3) := by decide +kernel
theorem dX1_placesReached_24 : decode cX1_placesReached 24 = .ok (.iload_n 2, 1) := by decide +kernel
theorem dX1_placesReached_25 : decode cX1_placesReached 25 = .ok (.iaload, 1) := by decide +kernel
theorem dX1_placesReached_26 : decode cX1_placesReached 26 = .ok (.iconst 3, 1) := by decide +kernel
theorem dX1_placesReached_27 : decode cX1_placesReached 27 = .ok (.ishr, 1) := by decide +kernel
theorem dX1_placesReached_28 : decode cX1_placesReached 28 = .ok (.invokevirtual 121, 3) := by decide +kernel
theorem dX1_placesReached_31 : decode cX1_placesReached 31 = .ok (.ior, 1) := by decide +kernel
theorem dX1_placesReached_32 : decode cX1_placesReached 32 = .ok (.istore_n 1, 1) := by decide +kernel
theorem dX1_placesReached_33 : decode cX1_placesReached 33 = .ok (.iinc 2 1, 3) := by decide +kernel
theorem dX1_placesReached_36 : decode cX1_placesReached 36 = .ok (.goto (-32), 3) := by decide +kernel
theorem dX1_placesReached_39 : decode cX1_placesReached 39 = .ok (.iload_n 1, 1) := by decide +kernel
theorem dX1_placesReached_40 : decode cX1_placesReached 40 = .ok (.invokestatic 124, 3) := by decide +kernel
theorem dX1_placesReached_43 : decode cX1_placesReached 43 = .ok (.ireturn, 1) := by decide +kernel
theorem dX2_init_0 : decode cX2_init 0 = .ok (.aload_n 0, 1) := by decide +kernel
theorem dX2_init_1 : decode cX2_init 1 = .ok (.invokespecial 3, 3) := by decide +kernel
theorem dX2_init_4 : decode cX2_init 4 = .ok (.aload_n 0, 1) := by decide +kernel
theorem dX2_init_5 : decode cX2_init 5 = .ok (.sipush 160, 3) := by decide +kernel
theorem dX2_init_8 : decode cX2_init 8 = .ok (.newarray .int, 2) := by decide +kernel
theorem dX2_init_10 : decode cX2_init 10 = .ok (.putfield 11, 3) := by decide +kernel
theorem dX2_init_13 : decode cX2_init 13 = .ok (.aload_n 0, 1) := by decide +kernel
theorem dX2_init_14 : decode cX2_init 14 = .ok (.aload_n 1, 1) := by decide +kernel
theorem dX2_init_15 : decode cX2_init 15 = .ok (.putfield 15, 3) := by decide +kernel
theorem dX2_init_18 : decode cX2_init 18 = .ok (.return_, 1) := by decide +kernel
theorem dX2_note_0 : decode cX2_note 0 = .ok (.aload_n 0, 1) := by decide +kernel
theorem dX2_note_1 : decode cX2_note 1 = .ok (.getfield 19, 3) := by decide +kernel
theorem dX2_note_4 : decode cX2_note 4 = .ok (.bipush 40, 2) := by decide +kernel
theorem dX2_note_6 : decode cX2_note 6 = .ok (.if_icmp .lt 25, 3) := by decide +kernel
theorem dX2_note_9 : decode cX2_note 9 = .ok (.aload_n 0, 1) := by decide +kernel
theorem dX2_note_10 : decode cX2_note 10 = .ok (.getfield 11, 3) := by decide +kernel
theorem dX2_note_13 : decode cX2_note 13 = .ok (.iconst 4, 1) := by decide +kernel
theorem dX2_note_14 : decode cX2_note 14 = .ok (.aload_n 0, 1) := by decide +kernel
theorem dX2_note_15 : decode cX2_note 15 = .ok (.getfield 11, 3) := by decide +kernel
theorem dX2_note_18 : decode cX2_note 18 = .ok (.iconst 0, 1) := by decide +kernel
theorem dX2_note_19 : decode cX2_note 19 = .ok (.sipush 156, 3) := by decide +kernel
theorem dX2_note_22 : decode cX2_note 22 = .ok (.invokestatic 23, 3) := by decide +kernel
theorem dX2_note_25 : decode cX2_note 25 = .ok (.aload_n 0, 1) := by decide +kernel
theorem dX2_note_26 : decode cX2_note 26 = .ok (.bipush 39, 2) := by decide +kernel
theorem dX2_note_28 : decode cX2_note 28 = .ok (.putfield 19, 3) := by decide +kernel
theorem dX2_note_31 : decode cX2_note 31 = .ok (.iconst 4, 1) := by decide +kernel
theorem dX2_note_32 : decode cX2_note 32 = .ok (.aload_n 0, 1) := by decide +kernel
theorem dX2_note_33 : decode cX2_note 33 = .ok (.getfield 19, 3) := by decide +kernel
theorem dX2_note_36 : decode cX2_note 36 = .ok (.imul, 1) := by decide +kernel
theorem dX2_note_37 : decode cX2_note 37 = .ok (.istore 5, 2) := by decide +kernel
theorem dX2_note_39 : decode cX2_note 39 = .ok (.aload_n 0, 1) := by decide +kernel
theorem dX2_note_40 : decode cX2_note 40 = .ok (.getfield 11, 3) := by decide +kernel
theorem dX2_note_43 : decode cX2_note 43 = .ok (.iload 5, 2) := by decide +kernel
theorem dX2_note_45 : decode cX2_note 45 = .ok (.iload_n 1, 1) := by decide +kernel
theorem dX2_note_46 : decode cX2_note 46 = .ok (.iastore, 1) := by decide +kernel
theorem dX2_note_47 : decode cX2_note 47 = .ok (.aload_n 0, 1) := by decide +kernel
theorem dX2_note_48 : decode cX2_note 48 = .ok (.getfield 11, 3) := by decide +kernel
theorem dX2_note_51 : decode cX2_note 51 = .ok (.iload 5, 2) := by decide +kernel
theorem dX2_note_53 : decode cX2_note 53 = .ok (.iconst 1, 1) := by decide +kernel
theorem dX2_note_54 : decode cX2_note 54 = .ok (.iadd, 1) := by decide +kernel
theorem dX2_note_55 : decode cX2_note 55 = .ok (.iload_n 2, 1) := by decide +kernel
theorem dX2_note_56 : decode cX2_note 56 = .ok (.iastore, 1) := by decide +kernel
theorem dX2_note_57 : decode cX2_note 57 = .ok (.aload_n 0, 1) := by decide +kernel
theorem dX2_note_58 : decode cX2_note 58 = .ok (.getfield 11, 3) := by decide +kernel
theorem dX2_note_61 : decode cX2_note 61 = .ok (.iload 5, 2) := by decide +kernel
theorem dX2_note_63 : decode cX2_note 63 = .ok (.iconst 2, 1) := by decide +kernel
theorem dX2_note_64 : decode cX2_note 64 = .ok (.iadd, 1) := by decide +kernel
theorem dX2_note_65 : decode cX2_note 65 = .ok (.iload_n 3, 1) := by decide +kernel
theorem dX2_note_66 : decode cX2_note 66 = .ok (.iastore, 1) := by decide +kernel
theorem dX2_note_67 : decode cX2_note 67 = .ok (.aload_n 0, 1) := by decide +kernel
theorem dX2_note_68 : decode cX2_note 68 = .ok (.getfield 11, 3) := by decide +kernel
theorem dX2_note_71 : decode cX2_note 71 = .ok (.iload 5, 2) := by decide +kernel
theorem dX2_note_73 : decode cX2_note 73 = .ok (.iconst 3, 1) := by decide +kernel
theorem dX2_note_74 : decode cX2_note 74 = .ok (.iadd, 1) := by decide +kernel
theorem dX2_note_75 : decode cX2_note 75 = .ok (.iload 4, 2) := by decide +kernel
theorem dX2_note_77 : decode cX2_note 77 = .ok (.iastore, 1) := by decide +kernel
theorem dX2_note_78 : decode cX2_note 78 = .ok (.aload_n 0, 1) := by decide +kernel
theorem dX2_note_79 : decode cX2_note 79 = .ok (.dup, 1) := by decide +kernel
theorem dX2_note_80 : decode cX2_note 80 = .ok (.getfield 19, 3) := by decide +kernel
theorem dX2_note_83 : decode cX2_note 83 = .ok (.iconst 1, 1) := by decide +kernel
theorem dX2_note_84 : decode cX2_note 84 = .ok (.iadd, 1) := by decide +kernel
theorem dX2_note_85 : decode cX2_note 85 = .ok (.putfield 19, 3) := by decide +kernel
theorem dX2_note_88 : decode cX2_note 88 = .ok (.aload_n 0, 1) := by decide +kernel
theorem dX2_note_89 : decode cX2_note 89 = .ok (.aload_n 0, 1) := by decide +kernel
theorem dX2_note_90 : decode cX2_note 90 = .ok (.getfield 19, 3) := by decide +kernel
theorem dX2_note_93 : decode cX2_note 93 = .ok (.putfield 29, 3) := by decide +kernel
theorem dX2_note_96 : decode cX2_note 96 = .ok (.return_, 1) := by decide +kernel
theorem dX2_takeBack_0 : decode cX2_takeBack 0 = .ok (.aload_n 0, 1) := by decide +kernel
theorem dX2_takeBack_1 : decode cX2_takeBack 1 = .ok (.getfield 19, 3) := by decide +kernel
theorem dX2_takeBack_4 : decode cX2_takeBack 4 = .ok (.ifCond .ne 6, 3) := by decide +kernel
theorem dX2_takeBack_7 : decode cX2_takeBack 7 = .ok (.bipush (-5), 2) := by decide +kernel
theorem dX2_takeBack_9 : decode cX2_takeBack 9 = .ok (.ireturn, 1) := by decide +kernel
theorem dX2_takeBack_10 : decode cX2_takeBack 10 = .ok (.aload_n 0, 1) := by decide +kernel
theorem dX2_takeBack_11 : decode cX2_takeBack 11 = .ok (.dup, 1) := by decide +kernel
theorem dX2_takeBack_12 : decode cX2_takeBack 12 = .ok (.getfield 19, 3) := by decide +kernel
theorem dX2_takeBack_15 : decode cX2_takeBack 15 = .ok (.iconst 1, 1) := by decide +kernel
theorem dX2_takeBack_16 : decode cX2_takeBack 16 = .ok (.isub, 1) := by decide +kernel
theorem dX2_takeBack_17 : decode cX2_takeBack 17 = .ok (.putfield 19, 3) := by decide +kernel
theorem dX2_takeBack_20 : decode cX2_takeBack 20 = .ok (.iconst 4, 1) := by decide +kernel
theorem dX2_takeBack_21 : decode cX2_takeBack 21 = .ok (.aload_n 0, 1) := by decide +kernel
theorem dX2_takeBack_22 : decode cX2_takeBack 22 = .ok (.getfield 19, 3) := by decide +kernel
theorem dX2_takeBack_25 : decode cX2_takeBack 25 = .ok (.imul, 1) := by decide +kernel
theorem dX2_takeBack_26 : decode cX2_takeBack 26 = .ok (.istore_n 1, 1) := by decide +kernel
theorem dX2_takeBack_27 : decode cX2_takeBack 27 = .ok (.aload_n 0, 1) := by decide +kernel
theorem dX2_takeBack_28 : decode cX2_takeBack 28 = .ok (.getfield 15, 3) := by decide +kernel
theorem dX2_takeBack_31 : decode cX2_takeBack 31 = .ok (.aload_n 0, 1) := by decide +kernel
theorem dX2_takeBack_32 : decode cX2_takeBack 32 = .ok (.getfield 11, 3) := by decide +kernel
theorem dX2_takeBack_35 : decode cX2_takeBack 35 = .ok (.iload_n 1, 1) := by decide +kernel
theorem dX2_takeBack_36 : decode cX2_takeBack 36 = .ok (.iaload, 1) := by decide +kernel
theorem dX2_takeBack_37 : decode cX2_takeBack 37 = .ok (.aload_n 0, 1) := by decide +kernel
theorem dX2_takeBack_38 : decode cX2_takeBack 38 = .ok (.getfield 11, 3) := by decide +kernel
theorem dX2_takeBack_41 : decode cX2_takeBack 41 = .ok (.iload_n 1, 1) := by decide +kernel
theorem dX2_takeBack_42 : decode cX2_takeBack 42 = .ok (.iconst 1, 1) := by decide +kernel
theorem dX2_takeBack_43 : decode cX2_takeBack 43 = .ok (.iadd, 1) := by decide +kernel
theorem dX2_takeBack_44 : decode cX2_takeBack 44 = .ok (.iaload, 1) := by decide +kernel
theorem dX2_takeBack_45 : decode cX2_takeBack 45 = .ok (.aload_n 0, 1) := by decide +kernel
theorem dX2_takeBack_46 : decode cX2_takeBack 46 = .ok (.getfield 11, 3) := by decide +kernel
theorem dX2_takeBack_49 : decode cX2_takeBack 49 = .ok (.iload_n 1, 1) := by decide +kernel
theorem dX2_takeBack_50 : decode cX2_takeBack 50 = .ok (.iconst 2, 1) := by decide +kernel
theorem dX2_takeBack_51 : decode cX2_takeBack 51 = .ok (.iadd, 1) := by decide +kernel
theorem dX2_takeBack_52 : decode cX2_takeBack 52 = .ok (.iaload, 1) := by decide +kernel
theorem dX2_takeBack_53 : decode cX2_takeBack 53 = .ok (.invokevirtual 32, 3) := by decide +kernel
theorem dX2_takeBack_56 : decode cX2_takeBack 56 = .ok (.aload_n 0, 1) := by decide +kernel
theorem dX2_takeBack_57 : decode cX2_takeBack 57 = .ok (.getfield 19, 3) := by decide +kernel
theorem dX2_takeBack_60 : decode cX2_takeBack 60 = .ok (.ireturn, 1) := by decide +kernel
theorem dX2_doAgain_0 : decode cX2_doAgain 0 = .ok (.aload_n 0, 1) := by decide +kernel
theorem dX2_doAgain_1 : decode cX2_doAgain 1 = .ok (.getfield 19, 3) := by decide +kernel
theorem dX2_doAgain_4 : decode cX2_doAgain 4 = .ok (.aload_n 0, 1) := by decide +kernel
theorem dX2_doAgain_5 : decode cX2_doAgain 5 = .ok (.getfield 29, 3) := by decide +kernel
theorem dX2_doAgain_8 : decode cX2_doAgain 8 = .ok (.if_icmp .ne 6, 3) := by decide +kernel
theorem dX2_doAgain_11 : decode cX2_doAgain 11 = .ok (.bipush (-5), 2) := by decide +kernel
theorem dX2_doAgain_13 : decode cX2_doAgain 13 = .ok (.ireturn, 1) := by decide +kernel
theorem dX2_doAgain_14 : decode cX2_doAgain 14 = .ok (.iconst 4, 1) := by decide +kernel
theorem dX2_doAgain_15 : decode cX2_doAgain 15 = .ok (.aload_n 0, 1) := by decide +kernel
theorem dX2_doAgain_16 : decode cX2_doAgain 16 = .ok (.getfield 19, 3) := by decide +kernel
theorem dX2_doAgain_19 : decode cX2_doAgain 19 = .ok (.imul, 1) := by decide +kernel
theorem dX2_doAgain_20 : decode cX2_doAgain 20 = .ok (.istore_n 1, 1) := by decide +kernel
theorem dX2_doAgain_21 : decode cX2_doAgain 21 = .ok (.aload_n 0, 1) := by decide +kernel
theorem dX2_doAgain_22 : decode cX2_doAgain 22 = .ok (.getfield 15, 3) := by decide +kernel
theorem dX2_doAgain_25 : decode cX2_doAgain 25 = .ok (.aload_n 0, 1) := by decide +kernel
theorem dX2_doAgain_26 : decode cX2_doAgain 26 = .ok (.getfield 11, 3) := by decide +kernel
theorem dX2_doAgain_29 : decode cX2_doAgain 29 = .ok (.iload_n 1, 1) := by decide +kernel
theorem dX2_doAgain_30 : decode cX2_doAgain 30 = .ok (.iaload, 1) := by decide +kernel
theorem dX2_doAgain_31 : decode cX2_doAgain 31 = .ok (.aload_n 0, 1) := by decide +kernel
theorem dX2_doAgain_32 : decode cX2_doAgain 32 = .ok (.getfield 11, 3) := by decide +kernel
theorem dX2_doAgain_35 : decode cX2_doAgain 35 = .ok (.iload_n 1, 1) := by decide +kernel
theorem dX2_doAgain_36 : decode cX2_doAgain 36 = .ok (.iconst 1, 1) := by decide +kernel
theorem dX2_doAgain_37 : decode cX2_doAgain 37 = .ok (.iadd, 1) := by decide +kernel
theorem dX2_doAgain_38 : decode cX2_doAgain 38 = .ok (.iaload, 1) := by decide +kernel
theorem dX2_doAgain_39 : decode cX2_doAgain 39 = .ok (.aload_n 0, 1) := by decide +kernel
theorem dX2_doAgain_40 : decode cX2_doAgain 40 = .ok (.getfield 11, 3) := by decide +kernel
theorem dX2_doAgain_43 : decode cX2_doAgain 43 = .ok (.iload_n 1, 1) := by decide +kernel
theorem dX2_doAgain_44 : decode cX2_doAgain 44 = .ok (.iconst 3, 1) := by decide +kernel
theorem dX2_doAgain_45 : decode cX2_doAgain 45 = .ok (.iadd, 1) := by decide +kernel
theorem dX2_doAgain_46 : decode cX2_doAgain 46 = .ok (.iaload, 1) := by decide +kernel
theorem dX2_doAgain_47 : decode cX2_doAgain 47 = .ok (.invokevirtual 32, 3) := by decide +kernel
theorem dX2_doAgain_50 : decode cX2_doAgain 50 = .ok (.aload_n 0, 1) := by decide +kernel
theorem dX2_doAgain_51 : decode cX2_doAgain 51 = .ok (.dup, 1) := by decide +kernel
theorem dX2_doAgain_52 : decode cX2_doAgain 52 = .ok (.getfield 19, 3) := by decide +kernel
theorem dX2_doAgain_55 : decode cX2_doAgain 55 = .ok (.iconst 1, 1) := by decide +kernel
theorem dX2_doAgain_56 : decode cX2_doAgain 56 = .ok (.iadd, 1) := by decide +kernel
theorem dX2_doAgain_57 : decode cX2_doAgain 57 = .ok (.putfield 19, 3) := by decide +kernel
theorem dX2_doAgain_60 : decode cX2_doAgain 60 = .ok (.aload_n 0, 1) := by decide +kernel
theorem dX2_doAgain_61 : decode cX2_doAgain 61 = .ok (.getfield 29, 3) := by decide +kernel
theorem dX2_doAgain_64 : decode cX2_doAgain 64 = .ok (.aload_n 0, 1) := by decide +kernel
theorem dX2_doAgain_65 : decode cX2_doAgain 65 = .ok (.getfield 19, 3) := by decide +kernel
theorem dX2_doAgain_68 : decode cX2_doAgain 68 = .ok (.isub, 1) := by decide +kernel
theorem dX2_doAgain_69 : decode cX2_doAgain 69 = .ok (.ireturn, 1) := by decide +kernel
theorem dX3_init_0 : decode cX3_init 0 = .ok (.aload_n 0, 1) := by decide +kernel
theorem dX3_init_1 : decode cX3_init 1 = .ok (.invokespecial 3, 3) := by decide +kernel
theorem dX3_init_4 : decode cX3_init 4 = .ok (.aload_n 0, 1) := by decide +kernel
theorem dX3_init_5 : decode cX3_init 5 = .ok (.sipush 480, 3) := by decide +kernel
theorem dX3_init_8 : decode cX3_init 8 = .ok (.newarray .int, 2) := by decide +kernel
theorem dX3_init_10 : decode cX3_init 10 = .ok (.putfield 9, 3) := by decide +kernel
theorem dX3_init_13 : decode cX3_init 13 = .ok (.aload_n 0, 1) := by decide +kernel
theorem dX3_init_14 : decode cX3_init 14 = .ok (.iload_n 1, 1) := by decide +kernel
theorem dX3_init_15 : decode cX3_init 15 = .ok (.putfield 15, 3) := by decide +kernel
theorem dX3_init_18 : decode cX3_init 18 = .ok (.aload_n 0, 1) := by decide +kernel
theorem dX3_init_19 : decode cX3_init 19 = .ok (.aload_n 2, 1) := by decide +kernel
theorem dX3_init_20 : decode cX3_init 20 = .ok (.putfield 19, 3) := by decide +kernel
theorem dX3_init_23 : decode cX3_init 23 = .ok (.aload_n 0, 1) := by decide +kernel
theorem dX3_init_24 : decode cX3_init 24 = .ok (.aload_n 3, 1) := by decide +kernel
theorem dX3_init_25 : decode cX3_init 25 = .ok (.putfield 23, 3) := by decide +kernel
theorem dX3_init_28 : decode cX3_init 28 = .ok (.return_, 1) := by decide +kernel
theorem dX3_start_0 : decode cX3_start 0 = .ok (.aload_n 0, 1) := by decide +kernel
theorem dX3_start_1 : decode cX3_start 1 = .ok (.iload_n 1, 1) := by decide +kernel
theorem dX3_start_2 : decode cX3_start 2 = .ok (.putfield 27, 3) := by decide +kernel
theorem dX3_start_5 : decode cX3_start 5 = .ok (.aload_n 0, 1) := by decide +kernel
theorem dX3_start_6 : decode cX3_start 6 = .ok (.dup, 1) := by decide +kernel
theorem dX3_start_7 : decode cX3_start 7 = .ok (.getfield 30, 3) := by decide +kernel
theorem dX3_start_10 : decode cX3_start 10 = .ok (.iconst 1, 1) := by decide +kernel
theorem dX3_start_11 : decode cX3_start 11 = .ok (.iadd, 1) := by decide +kernel
theorem dX3_start_12 : decode cX3_start 12 = .ok (.putfield 30, 3) := by decide +kernel
theorem dX3_start_15 : decode cX3_start 15 = .ok (.return_, 1) := by decide +kernel
theorem dX3_standNow_0 : decode cX3_standNow 0 = .ok (.bipush 8, 2) := by decide +kernel
theorem dX3_standNow_2 : decode cX3_standNow 2 = .ok (.aload_n 0, 1) := by decide +kernel
theorem dX3_standNow_3 : decode cX3_standNow 3 = .ok (.getfield 19, 3) := by decide +kernel
theorem dX3_standNow_6 : decode cX3_standNow 6 = .ok (.getfield 33, 3) := by decide +kernel
theorem dX3_standNow_9 : decode cX3_standNow 9 = .ok (.aload_n 0, 1) := by decide +kernel
theorem dX3_standNow_10 : decode cX3_standNow 10 = .ok (.getfield 15, 3) := by decide +kernel
theorem dX3_standNow_13 : decode cX3_standNow 13 = .ok (.iaload, 1) := by decide +kernel
theorem dX3_standNow_14 : decode cX3_standNow 14 = .ok (.imul, 1) := by decide +kernel
theorem dX3_standNow_15 : decode cX3_standNow 15 = .ok (.aload_n 0, 1) := by decide +kernel
theorem dX3_standNow_16 : decode cX3_standNow 16 = .ok (.getfield 19, 3) := by decide +kernel
theorem dX3_standNow_19 : decode cX3_standNow 19 = .ok (.getfield 38, 3) := by decide +kernel
theorem dX3_standNow_22 : decode cX3_standNow 22 = .ok (.aload_n 0, 1) := by decide +kernel
theorem dX3_standNow_23 : decode cX3_standNow 23 = .ok (.getfield 15, 3) := by decide +kernel
theorem dX3_standNow_26 : decode cX3_standNow 26 = .ok (.iaload, 1) := by decide +kernel
theorem dX3_standNow_27 : decode cX3_standNow 27 = .ok (.iadd, 1) := by decide +kernel
theorem dX3_standNow_28 : decode cX3_standNow 28 = .ok (.ireturn, 1) := by decide +kernel
theorem dX3_lawBehind_0 : decode cX3_lawBehind 0 = .ok (.bipush 8, 2) := by decide +kernel
theorem dX3_lawBehind_2 : decode cX3_lawBehind 2 = .ok (.iload_n 1, 1) := by decide +kernel
theorem dX3_lawBehind_3 : decode cX3_lawBehind 3 = .ok (.imul, 1) := by decide +kernel
theorem dX3_lawBehind_4 : decode cX3_lawBehind 4 = .ok (.iload_n 2, 1) := by decide +kernel
theorem dX3_lawBehind_5 : decode cX3_lawBehind 5 = .ok (.iadd, 1) := by decide +kernel
theorem dX3_lawBehind_6 : decode cX3_lawBehind 6 = .ok (.istore_n 3, 1) := by decide +kernel
theorem dX3_lawBehind_7 : decode cX3_lawBehind 7 = .ok (.iload_n 3, 1) := by decide +kernel
theorem dX3_lawBehind_8 : decode cX3_lawBehind 8 = .ok (.ifCond .lt 12, 3) := by decide +kernel
theorem dX3_lawBehind_11 : decode cX3_lawBehind 11 = .ok (.iload_n 3, 1) := by decide +kernel
theorem dX3_lawBehind_12 : decode cX3_lawBehind 12 = .ok (.aload_n 0, 1) := by decide +kernel
theorem dX3_lawBehind_13 : decode cX3_lawBehind 13 = .ok (.getfield 9, 3) := by decide +kernel
theorem dX3_lawBehind_16 : decode cX3_lawBehind 16 = .ok (.arraylength, 1) := by decide +kernel
theorem dX3_lawBehind_17 : decode cX3_lawBehind 17 = .ok (.if_icmp .lt 5, 3) := by decide +kernel
theorem dX3_lawBehind_20 : decode cX3_lawBehind 20 = .ok (.iconst 0, 1) := by decide +kernel
theorem dX3_lawBehind_21 : decode cX3_lawBehind 21 = .ok (.ireturn, 1) := by decide +kernel
theorem dX3_lawBehind_22 : decode cX3_lawBehind 22 = .ok (.aload_n 0, 1) := by decide +kernel
theorem dX3_lawBehind_23 : decode cX3_lawBehind 23 = .ok (.getfield 9, 3) := by decide +kernel
theorem dX3_lawBehind_26 : decode cX3_lawBehind 26 = .ok (.iload_n 3, 1) := by decide +kernel
theorem dX3_lawBehind_27 : decode cX3_lawBehind 27 = .ok (.iaload, 1) := by decide +kernel
theorem dX3_lawBehind_28 : decode cX3_lawBehind 28 = .ok (.iconst 2, 1) := by decide +kernel
theorem dX3_lawBehind_29 : decode cX3_lawBehind 29 = .ok (.ishr, 1) := by decide +kernel
theorem dX3_lawBehind_30 : decode cX3_lawBehind 30 = .ok (.aload_n 0, 1) := by decide +kernel
theorem dX3_lawBehind_31 : decode cX3_lawBehind 31 = .ok (.getfield 30, 3) := by decide +kernel
theorem dX3_lawBehind_34 : decode cX3_lawBehind 34 = .ok (.if_icmp .eq 81, 3) := by decide +kernel
theorem dX3_lawBehind_37 : decode cX3_lawBehind 37 = .ok (.iconst 0, 1) := by decide +kernel
theorem dX3_lawBehind_38 : decode cX3_lawBehind 38 = .ok (.aload_n 0, 1) := by decide +kernel
theorem dX3_lawBehind_39 : decode cX3_lawBehind 39 = .ok (.getfield 19, 3) := by decide +kernel
theorem dX3_lawBehind_42 : decode cX3_lawBehind 42 = .ok (.getfield 41, 3) := by decide +kernel
theorem dX3_lawBehind_45 : decode cX3_lawBehind 45 = .ok (.aload_n 0, 1) := by decide +kernel
theorem dX3_lawBehind_46 : decode cX3_lawBehind 46 = .ok (.getfield 15, 3) := by decide +kernel
theorem dX3_lawBehind_49 : decode cX3_lawBehind 49 = .ok (.iaload, 1) := by decide +kernel
theorem dX3_lawBehind_50 : decode cX3_lawBehind 50 = .ok (.iload_n 1, 1) := by decide +kernel
theorem dX3_lawBehind_51 : decode cX3_lawBehind 51 = .ok (.isub, 1) := by decide +kernel
theorem dX3_lawBehind_52 : decode cX3_lawBehind 52 = .ok (.invokestatic 44, 3) := by decide +kernel
theorem dX3_lawBehind_55 : decode cX3_lawBehind 55 = .ok (.istore 4, 2) := by decide +kernel
theorem dX3_lawBehind_57 : decode cX3_lawBehind 57 = .ok (.bipush 99, 2) := by decide +kernel
theorem dX3_lawBehind_59 : decode cX3_lawBehind 59 = .ok (.aload_n 0, 1) := by decide +kernel
theorem dX3_lawBehind_60 : decode cX3_lawBehind 60 = .ok (.getfield 19, 3) := by decide +kernel
theorem dX3_lawBehind_63 : decode cX3_lawBehind 63 = .ok (.getfield 50, 3) := by decide +kernel
theorem dX3_lawBehind_66 : decode cX3_lawBehind 66 = .ok (.iload_n 1, 1) := by decide +kernel
theorem dX3_lawBehind_67 : decode cX3_lawBehind 67 = .ok (.iadd, 1) := by decide +kernel
theorem dX3_lawBehind_68 : decode cX3_lawBehind 68 = .ok (.invokestatic 53, 3) := by decide +kernel
theorem dX3_lawBehind_71 : decode cX3_lawBehind 71 = .ok (.istore 5, 2) := by decide +kernel
theorem dX3_lawBehind_73 : decode cX3_lawBehind 73 = .ok (.aload_n 0, 1) := by decide +kernel
theorem dX3_lawBehind_74 : decode cX3_lawBehind 74 = .ok (.getfield 9, 3) := by decide +kernel
theorem dX3_lawBehind_77 : decode cX3_lawBehind 77 = .ok (.iload_n 3, 1) := by decide +kernel
theorem dX3_lawBehind_78 : decode cX3_lawBehind 78 = .ok (.iconst 4, 1) := by decide +kernel
theorem dX3_lawBehind_79 : decode cX3_lawBehind 79 = .ok (.aload_n 0, 1) := by decide +kernel
theorem dX3_lawBehind_80 : decode cX3_lawBehind 80 = .ok (.getfield 30, 3) := by decide +kernel
theorem dX3_lawBehind_83 : decode cX3_lawBehind 83 = .ok (.imul, 1) := by decide +kernel
theorem dX3_lawBehind_84 : decode cX3_lawBehind 84 = .ok (.iconst 1, 1) := by decide +kernel
theorem dX3_lawBehind_85 : decode cX3_lawBehind 85 = .ok (.iadd, 1) := by decide +kernel
theorem dX3_lawBehind_86 : decode cX3_lawBehind 86 = .ok (.aload_n 0, 1) := by decide +kernel
theorem dX3_lawBehind_87 : decode cX3_lawBehind 87 = .ok (.getfield 23, 3) := by decide +kernel
theorem dX3_lawBehind_90 : decode cX3_lawBehind 90 = .ok (.aload_n 0, 1) := by decide +kernel
theorem dX3_lawBehind_91 : decode cX3_lawBehind 91 = .ok (.getfield 19, 3) := by decide +kernel
theorem dX3_lawBehind_94 : decode cX3_lawBehind 94 = .ok (.getfield 56, 3) := by decide +kernel
theorem dX3_lawBehind_97 : decode cX3_lawBehind 97 = .ok (.iload 4, 2) := by decide +kernel
theorem dX3_lawBehind_99 : decode cX3_lawBehind 99 = .ok (.iload 5, 2) := by decide +kernel
theorem dX3_lawBehind_101 : decode cX3_lawBehind 101 = .ok (.iload_n 2, 1) := by decide +kernel
theorem dX3_lawBehind_102 : decode cX3_lawBehind 102 = .ok (.aload_n 0, 1) := by decide +kernel
theorem dX3_lawBehind_103 : decode cX3_lawBehind 103 = .ok (.getfield 15, 3) := by decide +kernel
theorem dX3_lawBehind_106 : decode cX3_lawBehind 106 = .ok (.aload_n 0, 1) := by decide +kernel
theorem dX3_lawBehind_107 : decode cX3_lawBehind 107 = .ok (.getfield 27, 3) := by decide +kernel
theorem dX3_lawBehind_110 : decode cX3_lawBehind 110 = .ok (.invokevirtual 59, 3) := by decide +kernel
theorem dX3_lawBehind_113 : decode cX3_lawBehind 113 = .ok (.iadd, 1) := by decide +kernel
theorem dX3_lawBehind_114 : decode cX3_lawBehind 114 = .ok (.iastore, 1) := by decide +kernel
theorem dX3_lawBehind_115 : decode cX3_lawBehind 115 = .ok (.aload_n 0, 1) := by decide +kernel
theorem dX3_lawBehind_116 : decode cX3_lawBehind 116 = .ok (.getfield 9, 3) := by decide +kernel
theorem dX3_lawBehind_119 : decode cX3_lawBehind 119 = .ok (.iload_n 3, 1) := by decide +kernel
theorem dX3_lawBehind_120 : decode cX3_lawBehind 120 = .ok (.iaload, 1) := by decide +kernel
theorem dX3_lawBehind_121 : decode cX3_lawBehind 121 = .ok (.iconst 3, 1) := by decide +kernel
theorem dX3_lawBehind_122 : decode cX3_lawBehind 122 = .ok (.iand, 1) := by decide +kernel
theorem dX3_lawBehind_123 : decode cX3_lawBehind 123 = .ok (.iconst 1, 1) := by decide +kernel
theorem dX3_lawBehind_124 : decode cX3_lawBehind 124 = .ok (.isub, 1) := by decide +kernel
theorem dX3_lawBehind_125 : decode cX3_lawBehind 125 = .ok (.ireturn, 1) := by decide +kernel
theorem dX3_next_0 : decode cX3_next 0 = .ok (.iload_n 1, 1) := by decide +kernel
theorem dX3_next_1 : decode cX3_next 1 = .ok (.aload_n 0, 1) := by decide +kernel
theorem dX3_next_2 : decode cX3_next 2 = .ok (.iload_n 2, 1) := by decide +kernel
theorem dX3_next_3 : decode cX3_next 3 = .ok (.iload_n 1, 1) := by decide +kernel
theorem dX3_next_4 : decode cX3_next 4 = .ok (.bipush 7, 2) := by decide +kernel
theorem dX3_next_6 : decode cX3_next 6 = .ok (.iand, 1) := by decide +kernel
theorem dX3_next_7 : decode cX3_next 7 = .ok (.invokevirtual 65, 3) := by decide +kernel
theorem dX3_next_10 : decode cX3_next 10 = .ok (.iadd, 1) := by decide +kernel
theorem dX3_next_11 : decode cX3_next 11 = .ok (.iload_n 3, 1) := by decide +kernel
theorem dX3_next_12 : decode cX3_next 12 = .ok (.iadd, 1) := by decide +kernel
theorem dX3_next_13 : decode cX3_next 13 = .ok (.bipush 7, 2) := by decide +kernel
theorem dX3_next_15 : decode cX3_next 15 = .ok (.iand, 1) := by decide +kernel
theorem dX3_next_16 : decode cX3_next 16 = .ok (.istore 4, 2) := by decide +kernel
theorem dX3_next_18 : decode cX3_next 18 = .ok (.iload_n 1, 1) := by decide +kernel
theorem dX3_next_19 : decode cX3_next 19 = .ok (.iconst 3, 1) := by decide +kernel
theorem dX3_next_20 : decode cX3_next 20 = .ok (.ishr, 1) := by decide +kernel
theorem dX3_next_21 : decode cX3_next 21 = .ok (.bipush 15, 2) := by decide +kernel
theorem dX3_next_23 : decode cX3_next 23 = .ok (.iand, 1) := by decide +kernel
theorem dX3_next_24 : decode cX3_next 24 = .ok (.istore 5, 2) := by decide +kernel
theorem dX3_next_26 : decode cX3_next 26 = .ok (.iload_n 1, 1) := by decide +kernel
theorem dX3_next_27 : decode cX3_next 27 = .ok (.bipush 7, 2) := by decide +kernel
theorem dX3_next_29 : decode cX3_next 29 = .ok (.ishr, 1) := by decide +kernel
theorem dX3_next_30 : decode cX3_next 30 = .ok (.istore 6, 2) := by decide +kernel
theorem dX3_next_32 : decode cX3_next 32 = .ok (.aload_n 0, 1) := by decide +kernel
theorem dX3_next_33 : decode cX3_next 33 = .ok (.iconst 0, 1) := by decide +kernel
theorem dX3_next_34 : decode cX3_next 34 = .ok (.putfield 68, 3) := by decide +kernel
theorem dX3_next_37 : decode cX3_next 37 = .ok (.iconst 0, 1) := by decide +kernel
theorem dX3_next_38 : decode cX3_next 38 = .ok (.istore 7, 2) := by decide +kernel
theorem dX3_next_40 : decode cX3_next 40 = .ok (.iload 7, 2) := by decide +kernel
theorem dX3_next_42 : decode cX3_next 42 = .ok (.aload_n 0, 1) := by decide +kernel
theorem dX3_next_43 : decode cX3_next 43 = .ok (.getfield 27, 3) := by decide +kernel
theorem dX3_next_46 : decode cX3_next 46 = .ok (.if_icmp .ge 101, 3) := by decide +kernel
theorem dX3_next_49 : decode cX3_next 49 = .ok (.iload 5, 2) := by decide +kernel
theorem dX3_next_51 : decode cX3_next 51 = .ok (.getstatic 71, 3) := by decide +kernel
theorem dX3_next_54 : decode cX3_next 54 = .ok (.iload 4, 2) := by decide +kernel
theorem dX3_next_56 : decode cX3_next 56 = .ok (.iaload, 1) := by decide +kernel
theorem dX3_next_57 : decode cX3_next 57 = .ok (.iadd, 1) := by decide +kernel
theorem dX3_next_58 : decode cX3_next 58 = .ok (.iload 6, 2) := by decide +kernel
theorem dX3_next_60 : decode cX3_next 60 = .ok (.getstatic 74, 3) := by decide +kernel
theorem dX3_next_63 : decode cX3_next 63 = .ok (.iload 4, 2) := by decide +kernel
theorem dX3_next_65 : decode cX3_next 65 = .ok (.iaload, 1) := by decide +kernel
theorem dX3_next_66 : decode cX3_next 66 = .ok (.iadd, 1) := by decide +kernel
theorem dX3_next_67 : decode cX3_next 67 = .ok (.invokestatic 77, 3) := by decide +kernel
theorem dX3_next_70 : decode cX3_next 70 = .ok (.ifCond .ne 39, 3) := by decide +kernel
theorem dX3_next_73 : decode cX3_next 73 = .ok (.iload 4, 2) := by decide +kernel
theorem dX3_next_75 : decode cX3_next 75 = .ok (.iconst 4, 1) := by decide +kernel
theorem dX3_next_76 : decode cX3_next 76 = .ok (.iadd, 1) := by decide +kernel
theorem dX3_next_77 : decode cX3_next 77 = .ok (.bipush 7, 2) := by decide +kernel
theorem dX3_next_79 : decode cX3_next 79 = .ok (.iand, 1) := by decide +kernel
theorem dX3_next_80 : decode cX3_next 80 = .ok (.istore 4, 2) := by decide +kernel
theorem dX3_next_82 : decode cX3_next 82 = .ok (.iload 5, 2) := by decide +kernel
theorem dX3_next_84 : decode cX3_next 84 = .ok (.getstatic 71, 3) := by decide +kernel
theorem dX3_next_87 : decode cX3_next 87 = .ok (.iload 4, 2) := by decide +kernel
theorem dX3_next_89 : decode cX3_next 89 = .ok (.iaload, 1) := by decide +kernel
theorem dX3_next_90 : decode cX3_next 90 = .ok (.iadd, 1) := by decide +kernel
theorem dX3_next_91 : decode cX3_next 91 = .ok (.iload 6, 2) := by decide +kernel
theorem dX3_next_93 : decode cX3_next 93 = .ok (.getstatic 74, 3) := by decide +kernel
theorem dX3_next_96 : decode cX3_next 96 = .ok (.iload 4, 2) := by decide +kernel
theorem dX3_next_98 : decode cX3_next 98 = .ok (.iaload, 1) := by decide +kernel
theorem dX3_next_99 : decode cX3_next 99 = .ok (.iadd, 1) := by decide +kernel
theorem dX3_next_100 : decode cX3_next 100 = .ok (.invokestatic 77, 3) := by decide +kernel
theorem dX3_next_103 : decode cX3_next 103 = .ok (.ifCond .ne 6, 3) := by decide +kernel
theorem dX3_next_106 : decode cX3_next 106 = .ok (.goto 35, 3) := by decide +kernel
theorem dX3_next_109 : decode cX3_next 109 = .ok (.iload 5, 2) := by decide +kernel
theorem dX3_next_111 : decode cX3_next 111 = .ok (.getstatic 71, 3) := by decide +kernel
theorem dX3_next_114 : decode cX3_next 114 = .ok (.iload 4, 2) := by decide +kernel
theorem dX3_next_116 : decode cX3_next 116 = .ok (.iaload, 1) := by decide +kernel
theorem dX3_next_117 : decode cX3_next 117 = .ok (.iadd, 1) := by decide +kernel
theorem dX3_next_118 : decode cX3_next 118 = .ok (.istore 5, 2) := by decide +kernel
theorem dX3_next_120 : decode cX3_next 120 = .ok (.iload 6, 2) := by decide +kernel
theorem dX3_next_122 : decode cX3_next 122 = .ok (.getstatic 74, 3) := by decide +kernel
theorem dX3_next_125 : decode cX3_next 125 = .ok (.iload 4, 2) := by decide +kernel
theorem dX3_next_127 : decode cX3_next 127 = .ok (.iaload, 1) := by decide +kernel
theorem dX3_next_128 : decode cX3_next 128 = .ok (.iadd, 1) := by decide +kernel
theorem dX3_next_129 : decode cX3_next 129 = .ok (.istore 6, 2) := by decide +kernel
theorem dX3_next_131 : decode cX3_next 131 = .ok (.aload_n 0, 1) := by decide +kernel
theorem dX3_next_132 : decode cX3_next 132 = .ok (.dup, 1) := by decide +kernel
theorem dX3_next_133 : decode cX3_next 133 = .ok (.getfield 68, 3) := by decide +kernel
theorem dX3_next_136 : decode cX3_next 136 = .ok (.iconst 1, 1) := by decide +kernel
theorem dX3_next_137 : decode cX3_next 137 = .ok (.iadd, 1) := by decide +kernel
theorem dX3_next_138 : decode cX3_next 138 = .ok (.putfield 68, 3) := by decide +kernel
theorem dX3_next_141 : decode cX3_next 141 = .ok (.iinc 7 1, 3) := by decide +kernel
theorem dX3_next_144 : decode cX3_next 144 = .ok (.goto (-104), 3) := by decide +kernel
theorem dX3_next_147 : decode cX3_next 147 = .ok (.sipush 128, 3) := by decide +kernel
theorem dX3_next_150 : decode cX3_next 150 = .ok (.iload 6, 2) := by decide +kernel
theorem dX3_next_152 : decode cX3_next 152 = .ok (.imul, 1) := by decide +kernel
theorem dX3_next_153 : decode cX3_next 153 = .ok (.bipush 8, 2) := by decide +kernel
theorem dX3_next_155 : decode cX3_next 155 = .ok (.iload 5, 2) := by decide +kernel
theorem dX3_next_157 : decode cX3_next 157 = .ok (.imul, 1) := by decide +kernel
theorem dX3_next_158 : decode cX3_next 158 = .ok (.iadd, 1) := by decide +kernel
theorem dX3_next_159 : decode cX3_next 159 = .ok (.iload 4, 2) := by decide +kernel
theorem dX3_next_161 : decode cX3_next 161 = .ok (.iadd, 1) := by decide +kernel
theorem dX3_next_162 : decode cX3_next 162 = .ok (.ireturn, 1) := by decide +kernel
theorem dX3_onLand_0 : decode cX3_onLand 0 = .ok (.iload_n 0, 1) := by decide +kernel
theorem dX3_onLand_1 : decode cX3_onLand 1 = .ok (.iload_n 1, 1) := by decide +kernel
theorem dX3_onLand_2 : decode cX3_onLand 2 = .ok (.ior, 1) := by decide +kernel
theorem dX3_onLand_3 : decode cX3_onLand 3 = .ok (.bipush (-16), 2) := by decide +kernel
theorem dX3_onLand_5 : decode cX3_onLand 5 = .ok (.iand, 1) := by decide +kernel
theorem dX3_onLand_6 : decode cX3_onLand 6 = .ok (.ifCond .ne 7, 3) := by decide +kernel
theorem dX3_onLand_9 : decode cX3_onLand 9 = .ok (.iconst 1, 1) := by decide +kernel
theorem dX3_onLand_10 : decode cX3_onLand 10 = .ok (.goto 4, 3) := by decide +kernel
theorem dX3_onLand_13 : decode cX3_onLand 13 = .ok (.iconst 0, 1) := by decide +kernel
theorem dX3_onLand_14 : decode cX3_onLand 14 = .ok (.ireturn, 1) := by decide +kernel
theorem dX4_init_0 : decode cX4_init 0 = .ok (.aload_n 0, 1) := by decide +kernel
theorem dX4_init_1 : decode cX4_init 1 = .ok (.invokespecial 3, 3) := by decide +kernel
theorem dX4_init_4 : decode cX4_init 4 = .ok (.aload_n 0, 1) := by decide +kernel
theorem dX4_init_5 : decode cX4_init 5 = .ok (.iconst 5, 1) := by decide +kernel
theorem dX4_init_6 : decode cX4_init 6 = .ok (.newarray .int, 2) := by decide +kernel
theorem dX4_init_8 : decode cX4_init 8 = .ok (.putfield 11, 3) := by decide +kernel
theorem dX4_init_11 : decode cX4_init 11 = .ok (.aload_n 0, 1) := by decide +kernel
theorem dX4_init_12 : decode cX4_init 12 = .ok (.bipush (-2), 2) := by decide +kernel
theorem dX4_init_14 : decode cX4_init 14 = .ok (.putfield 15, 3) := by decide +kernel
theorem dX4_init_17 : decode cX4_init 17 = .ok (.aload_n 0, 1) := by decide +kernel
theorem dX4_init_18 : decode cX4_init 18 = .ok (.bipush 6, 2) := by decide +kernel
theorem dX4_init_20 : decode cX4_init 20 = .ok (.newarray .int, 2) := by decide +kernel
theorem dX4_init_22 : decode cX4_init 22 = .ok (.putfield 19, 3) := by decide +kernel
theorem dX4_init_25 : decode cX4_init 25 = .ok (.aload_n 0, 1) := by decide +kernel
theorem dX4_init_26 : decode cX4_init 26 = .ok (.bipush 6, 2) := by decide +kernel
theorem dX4_init_28 : decode cX4_init 28 = .ok (.newarray .int, 2) := by decide +kernel
theorem dX4_init_30 : decode cX4_init 30 = .ok (.putfield 22, 3) := by decide +kernel
theorem dX4_init_33 : decode cX4_init 33 = .ok (.aload_n 0, 1) := by decide +kernel
theorem dX4_init_34 : decode cX4_init 34 = .ok (.bipush 6, 2) := by decide +kernel
theorem dX4_init_36 : decode cX4_init 36 = .ok (.newarray .int, 2) := by decide +kernel
theorem dX4_init_38 : decode cX4_init 38 = .ok (.putfield 25, 3) := by decide +kernel
theorem dX4_init_41 : decode cX4_init 41 = .ok (.aload_n 0, 1) := by decide +kernel
theorem dX4_init_42 : decode cX4_init 42 = .ok (.iconst 5, 1) := by decide +kernel
theorem dX4_init_43 : decode cX4_init 43 = .ok (.newarray .int, 2) := by decide +kernel
theorem dX4_init_45 : decode cX4_init 45 = .ok (.putfield 28, 3) := by decide +kernel
theorem dX4_init_48 : decode cX4_init 48 = .ok (.aload_n 0, 1) := by decide +kernel
theorem dX4_init_49 : decode cX4_init 49 = .ok (.aload_n 1, 1) := by decide +kernel
theorem dX4_init_50 : decode cX4_init 50 = .ok (.putfield 31, 3) := by decide +kernel
theorem dX4_init_53 : decode cX4_init 53 = .ok (.aload_n 0, 1) := by decide +kernel
theorem dX4_init_54 : decode cX4_init 54 = .ok (.aload_n 2, 1) := by decide +kernel
theorem dX4_init_55 : decode cX4_init 55 = .ok (.putfield 35, 3) := by decide +kernel
theorem dX4_init_58 : decode cX4_init 58 = .ok (.return_, 1) := by decide +kernel
theorem dX4_passHour_0 : decode cX4_passHour 0 = .ok (.iconst 0, 1) := by decide +kernel
theorem dX4_passHour_1 : decode cX4_passHour 1 = .ok (.istore_n 1, 1) := by decide +kernel
theorem dX4_passHour_2 : decode cX4_passHour 2 = .ok (.iload_n 1, 1) := by decide +kernel
theorem dX4_passHour_3 : decode cX4_passHour 3 = .ok (.aload_n 0, 1) := by decide +kernel
theorem dX4_passHour_4 : decode cX4_passHour 4 = .ok (.getfield 31, 3) := by decide +kernel
theorem dX4_passHour_7 : decode cX4_passHour 7 = .ok (.getfield 39, 3) := by decide +kernel
theorem dX4_passHour_10 : decode cX4_passHour 10 = .ok (.if_icmp .ge 124, 3) := by decide +kernel
theorem dX4_passHour_13 : decode cX4_passHour 13 = .ok (.aload_n 0, 1) := by decide +kernel
theorem dX4_passHour_14 : decode cX4_passHour 14 = .ok (.getfield 35, 3) := by decide +kernel
theorem dX4_passHour_17 : decode cX4_passHour 17 = .ok (.iload_n 1, 1) := by decide +kernel
theorem dX4_passHour_18 : decode cX4_passHour 18 = .ok (.aaload, 1) := by decide +kernel
theorem dX4_passHour_19 : decode cX4_passHour 19 = .ok (.astore_n 2, 1) := by decide +kernel
theorem dX4_passHour_20 : decode cX4_passHour 20 = .ok (.aload_n 2, 1) := by decide +kernel
theorem dX4_passHour_21 : decode cX4_passHour 21 = .ok (.aload_n 0, 1) := by decide +kernel
theorem dX4_passHour_22 : decode cX4_passHour 22 = .ok (.getfield 31, 3) := by decide +kernel
theorem dX4_passHour_25 : decode cX4_passHour 25 = .ok (.getfield 44, 3) := by decide +kernel
theorem dX4_passHour_28 : decode cX4_passHour 28 = .ok (.iload_n 1, 1) := by decide +kernel
theorem dX4_passHour_29 : decode cX4_passHour 29 = .ok (.iaload, 1) := by decide +kernel
theorem dX4_passHour_30 : decode cX4_passHour 30 = .ok (.invokevirtual 47, 3) := by decide +kernel
theorem dX4_passHour_33 : decode cX4_passHour 33 = .ok (.aload_n 2, 1) := by decide +kernel
theorem dX4_passHour_34 : decode cX4_passHour 34 = .ok (.aload_n 2, 1) := by decide +kernel
theorem dX4_passHour_35 : decode cX4_passHour 35 = .ok (.invokevirtual 53, 3) := by decide +kernel
theorem dX4_passHour_38 : decode cX4_passHour 38 = .ok (.iconst 0, 1) := by decide +kernel
theorem dX4_passHour_39 : decode cX4_passHour 39 = .ok (.iconst 0, 1) := by decide +kernel
theorem dX4_passHour_40 : decode cX4_passHour 40 = .ok (.invokevirtual 57, 3) := by decide +kernel
theorem dX4_passHour_43 : decode cX4_passHour 43 = .ok (.istore_n 3, 1) := by decide +kernel
theorem dX4_passHour_44 : decode cX4_passHour 44 = .ok (.aload_n 0, 1) := by decide +kernel
theorem dX4_passHour_45 : decode cX4_passHour 45 = .ok (.getfield 31, 3) := by decide +kernel
theorem dX4_passHour_48 : decode cX4_passHour 48 = .ok (.getfield 61, 3) := by decide +kernel
theorem dX4_passHour_51 : decode cX4_passHour 51 = .ok (.iload_n 1, 1) := by decide +kernel
theorem dX4_passHour_52 : decode cX4_passHour 52 = .ok (.iload_n 3, 1) := by decide +kernel
theorem dX4_passHour_53 : decode cX4_passHour 53 = .ok (.iconst 3, 1) := by decide +kernel
theorem dX4_passHour_54 : decode cX4_passHour 54 = .ok (.ishr, 1) := by decide +kernel
theorem dX4_passHour_55 : decode cX4_passHour 55 = .ok (.iastore, 1) := by decide +kernel
theorem dX4_passHour_56 : decode cX4_passHour 56 = .ok (.aload_n 0, 1) := by decide +kernel
theorem dX4_passHour_57 : decode cX4_passHour 57 = .ok (.getfield 31, 3) := by decide +kernel
theorem dX4_passHour_60 : decode cX4_passHour 60 = .ok (.getfield 64, 3) := by decide +kernel
theorem dX4_passHour_63 : decode cX4_passHour 63 = .ok (.iload_n 1, 1) := by decide +kernel
theorem dX4_passHour_64 : decode cX4_passHour 64 = .ok (.iload_n 3, 1) := by decide +kernel
theorem dX4_passHour_65 : decode cX4_passHour 65 = .ok (.bipush 7, 2) := by decide +kernel
theorem dX4_passHour_67 : decode cX4_passHour 67 = .ok (.iand, 1) := by decide +kernel
theorem dX4_passHour_68 : decode cX4_passHour 68 = .ok (.iastore, 1) := by decide +kernel
theorem dX4_passHour_69 : decode cX4_passHour 69 = .ok (.aload_n 0, 1) := by decide +kernel
theorem dX4_passHour_70 : decode cX4_passHour 70 = .ok (.getfield 31, 3) := by decide +kernel
