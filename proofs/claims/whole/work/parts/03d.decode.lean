theorem dX11_judge_15 : decode cX11_judge 15 = .ok (.ifCond .ne 5, 3) := by decide +kernel
theorem dX11_judge_18 : decode cX11_judge 18 = .ok (.iconst (-1), 1) := by decide +kernel
theorem dX11_judge_19 : decode cX11_judge 19 = .ok (.ireturn, 1) := by decide +kernel
theorem dX11_judge_20 : decode cX11_judge 20 = .ok (.aload_n 0, 1) := by decide +kernel
theorem dX11_judge_21 : decode cX11_judge 21 = .ok (.getfield 86, 3) := by decide +kernel
theorem dX11_judge_24 : decode cX11_judge 24 = .ok (.iload_n 1, 1) := by decide +kernel
theorem dX11_judge_25 : decode cX11_judge 25 = .ok (.aaload, 1) := by decide +kernel
theorem dX11_judge_26 : decode cX11_judge 26 = .ok (.invokevirtual 241, 3) := by decide +kernel
theorem dX11_judge_29 : decode cX11_judge 29 = .ok (.istore_n 3, 1) := by decide +kernel
theorem dX11_judge_30 : decode cX11_judge 30 = .ok (.iload_n 3, 1) := by decide +kernel
theorem dX11_judge_31 : decode cX11_judge 31 = .ok (.ifCond .eq 7, 3) := by decide +kernel
theorem dX11_judge_34 : decode cX11_judge 34 = .ok (.iload_n 3, 1) := by decide +kernel
theorem dX11_judge_35 : decode cX11_judge 35 = .ok (.goto 17, 3) := by decide +kernel
theorem dX11_judge_38 : decode cX11_judge 38 = .ok (.aload_n 0, 1) := by decide +kernel
theorem dX11_judge_39 : decode cX11_judge 39 = .ok (.getfield 57, 3) := by decide +kernel
theorem dX11_judge_42 : decode cX11_judge 42 = .ok (.aload_n 0, 1) := by decide +kernel
theorem dX11_judge_43 : decode cX11_judge 43 = .ok (.getfield 86, 3) := by decide +kernel
theorem dX11_judge_46 : decode cX11_judge 46 = .ok (.iload_n 1, 1) := by decide +kernel
theorem dX11_judge_47 : decode cX11_judge 47 = .ok (.aaload, 1) := by decide +kernel
theorem dX11_judge_48 : decode cX11_judge 48 = .ok (.iload_n 2, 1) := by decide +kernel
theorem dX11_judge_49 : decode cX11_judge 49 = .ok (.invokevirtual 245, 3) := by decide +kernel
theorem dX11_judge_52 : decode cX11_judge 52 = .ok (.ireturn, 1) := by decide +kernel
theorem dX11_dined_0 : decode cX11_dined 0 = .ok (.iload_n 1, 1) := by decide +kernel
theorem dX11_dined_1 : decode cX11_dined 1 = .ok (.invokestatic 106, 3) := by decide +kernel
theorem dX11_dined_4 : decode cX11_dined 4 = .ok (.ifCond .eq 23, 3) := by decide +kernel
theorem dX11_dined_7 : decode cX11_dined 7 = .ok (.aload_n 0, 1) := by decide +kernel
theorem dX11_dined_8 : decode cX11_dined 8 = .ok (.getfield 10, 3) := by decide +kernel
theorem dX11_dined_11 : decode cX11_dined 11 = .ok (.iload_n 2, 1) := by decide +kernel
theorem dX11_dined_12 : decode cX11_dined 12 = .ok (.invokevirtual 156, 3) := by decide +kernel
theorem dX11_dined_15 : decode cX11_dined 15 = .ok (.ifCond .eq 12, 3) := by decide +kernel
theorem dX11_dined_18 : decode cX11_dined 18 = .ok (.iload_n 3, 1) := by decide +kernel
theorem dX11_dined_19 : decode cX11_dined 19 = .ok (.iconst 0, 1) := by decide +kernel
theorem dX11_dined_20 : decode cX11_dined 20 = .ok (.iconst 3, 1) := by decide +kernel
theorem dX11_dined_21 : decode cX11_dined 21 = .ok (.invokestatic 110, 3) := by decide +kernel
theorem dX11_dined_24 : decode cX11_dined 24 = .ok (.ifCond .ne 5, 3) := by decide +kernel
theorem dX11_dined_27 : decode cX11_dined 27 = .ok (.iconst (-1), 1) := by decide +kernel
theorem dX11_dined_28 : decode cX11_dined 28 = .ok (.ireturn, 1) := by decide +kernel
theorem dX11_dined_29 : decode cX11_dined 29 = .ok (.aload_n 0, 1) := by decide +kernel
theorem dX11_dined_30 : decode cX11_dined 30 = .ok (.getfield 86, 3) := by decide +kernel
theorem dX11_dined_33 : decode cX11_dined 33 = .ok (.iload_n 1, 1) := by decide +kernel
theorem dX11_dined_34 : decode cX11_dined 34 = .ok (.aaload, 1) := by decide +kernel
theorem dX11_dined_35 : decode cX11_dined 35 = .ok (.astore 4, 2) := by decide +kernel
theorem dX11_dined_37 : decode cX11_dined 37 = .ok (.aload 4, 2) := by decide +kernel
theorem dX11_dined_39 : decode cX11_dined 39 = .ok (.invokevirtual 241, 3) := by decide +kernel
theorem dX11_dined_42 : decode cX11_dined 42 = .ok (.istore 5, 2) := by decide +kernel
theorem dX11_dined_44 : decode cX11_dined 44 = .ok (.iload 5, 2) := by decide +kernel
theorem dX11_dined_46 : decode cX11_dined 46 = .ok (.ifCond .eq 6, 3) := by decide +kernel
theorem dX11_dined_49 : decode cX11_dined 49 = .ok (.iload 5, 2) := by decide +kernel
theorem dX11_dined_51 : decode cX11_dined 51 = .ok (.ireturn, 1) := by decide +kernel
theorem dX11_dined_52 : decode cX11_dined 52 = .ok (.iload_n 3, 1) := by decide +kernel
theorem dX11_dined_53 : decode cX11_dined 53 = .ok (.ifCond .ne 14, 3) := by decide +kernel
theorem dX11_dined_56 : decode cX11_dined 56 = .ok (.aload_n 0, 1) := by decide +kernel
theorem dX11_dined_57 : decode cX11_dined 57 = .ok (.getfield 57, 3) := by decide +kernel
theorem dX11_dined_60 : decode cX11_dined 60 = .ok (.aload 4, 2) := by decide +kernel
theorem dX11_dined_62 : decode cX11_dined 62 = .ok (.iload_n 2, 1) := by decide +kernel
theorem dX11_dined_63 : decode cX11_dined 63 = .ok (.invokevirtual 249, 3) := by decide +kernel
theorem dX11_dined_66 : decode cX11_dined 66 = .ok (.ireturn, 1) := by decide +kernel
theorem dX11_dined_67 : decode cX11_dined 67 = .ok (.iload_n 3, 1) := by decide +kernel
theorem dX11_dined_68 : decode cX11_dined 68 = .ok (.iconst 3, 1) := by decide +kernel
theorem dX11_dined_69 : decode cX11_dined 69 = .ok (.if_icmp .ne 14, 3) := by decide +kernel
theorem dX11_dined_72 : decode cX11_dined 72 = .ok (.aload_n 0, 1) := by decide +kernel
theorem dX11_dined_73 : decode cX11_dined 73 = .ok (.getfield 57, 3) := by decide +kernel
theorem dX11_dined_76 : decode cX11_dined 76 = .ok (.aload 4, 2) := by decide +kernel
theorem dX11_dined_78 : decode cX11_dined 78 = .ok (.iload_n 2, 1) := by decide +kernel
theorem dX11_dined_79 : decode cX11_dined 79 = .ok (.invokevirtual 252, 3) := by decide +kernel
theorem dX11_dined_82 : decode cX11_dined 82 = .ok (.ireturn, 1) := by decide +kernel
theorem dX11_dined_83 : decode cX11_dined 83 = .ok (.aload_n 0, 1) := by decide +kernel
theorem dX11_dined_84 : decode cX11_dined 84 = .ok (.getfield 57, 3) := by decide +kernel
theorem dX11_dined_87 : decode cX11_dined 87 = .ok (.aload 4, 2) := by decide +kernel
theorem dX11_dined_89 : decode cX11_dined 89 = .ok (.iload_n 2, 1) := by decide +kernel
theorem dX11_dined_90 : decode cX11_dined 90 = .ok (.iload_n 3, 1) := by decide +kernel
theorem dX11_dined_91 : decode cX11_dined 91 = .ok (.iconst 2, 1) := by decide +kernel
theorem dX11_dined_92 : decode cX11_dined 92 = .ok (.if_icmp .ne 7, 3) := by decide +kernel
theorem dX11_dined_95 : decode cX11_dined 95 = .ok (.iconst 1, 1) := by decide +kernel
theorem dX11_dined_96 : decode cX11_dined 96 = .ok (.goto 4, 3) := by decide +kernel
theorem dX11_dined_99 : decode cX11_dined 99 = .ok (.iconst 0, 1) := by decide +kernel
theorem dX11_dined_100 : decode cX11_dined 100 = .ok (.invokevirtual 255, 3) := by decide +kernel
theorem dX11_dined_103 : decode cX11_dined 103 = .ok (.ireturn, 1) := by decide +kernel
theorem dX11_reins_0 : decode cX11_reins 0 = .ok (.aload_n 0, 1) := by decide +kernel
theorem dX11_reins_1 : decode cX11_reins 1 = .ok (.iload_n 1, 1) := by decide +kernel
theorem dX11_reins_2 : decode cX11_reins 2 = .ok (.invokevirtual 190, 3) := by decide +kernel
theorem dX11_reins_5 : decode cX11_reins 5 = .ok (.ifCond .eq 18, 3) := by decide +kernel
theorem dX11_reins_8 : decode cX11_reins 8 = .ok (.iload_n 2, 1) := by decide +kernel
theorem dX11_reins_9 : decode cX11_reins 9 = .ok (.iconst 0, 1) := by decide +kernel
theorem dX11_reins_10 : decode cX11_reins 10 = .ok (.bipush 12, 2) := by decide +kernel
theorem dX11_reins_12 : decode cX11_reins 12 = .ok (.invokestatic 110, 3) := by decide +kernel
theorem dX11_reins_15 : decode cX11_reins 15 = .ok (.ifCond .eq 8, 3) := by decide +kernel
theorem dX11_reins_18 : decode cX11_reins 18 = .ok (.iload_n 3, 1) := by decide +kernel
theorem dX11_reins_19 : decode cX11_reins 19 = .ok (.iconst (-1), 1) := by decide +kernel
theorem dX11_reins_20 : decode cX11_reins 20 = .ok (.if_icmp .ge 5, 3) := by decide +kernel
theorem dX11_reins_23 : decode cX11_reins 23 = .ok (.iconst (-1), 1) := by decide +kernel
theorem dX11_reins_24 : decode cX11_reins 24 = .ok (.ireturn, 1) := by decide +kernel
theorem dX11_reins_25 : decode cX11_reins 25 = .ok (.iload_n 3, 1) := by decide +kernel
theorem dX11_reins_26 : decode cX11_reins 26 = .ok (.iload_n 2, 1) := by decide +kernel
theorem dX11_reins_27 : decode cX11_reins 27 = .ok (.if_icmp .lt 6, 3) := by decide +kernel
theorem dX11_reins_30 : decode cX11_reins 30 = .ok (.bipush (-2), 2) := by decide +kernel
theorem dX11_reins_32 : decode cX11_reins 32 = .ok (.ireturn, 1) := by decide +kernel
theorem dX11_reins_33 : decode cX11_reins 33 = .ok (.aload_n 0, 1) := by decide +kernel
theorem dX11_reins_34 : decode cX11_reins 34 = .ok (.getfield 64, 3) := by decide +kernel
theorem dX11_reins_37 : decode cX11_reins 37 = .ok (.iload_n 1, 1) := by decide +kernel
theorem dX11_reins_38 : decode cX11_reins 38 = .ok (.bipush 10, 2) := by decide +kernel
theorem dX11_reins_40 : decode cX11_reins 40 = .ok (.idiv, 1) := by decide +kernel
theorem dX11_reins_41 : decode cX11_reins 41 = .ok (.aload_n 0, 1) := by decide +kernel
theorem dX11_reins_42 : decode cX11_reins 42 = .ok (.getfield 10, 3) := by decide +kernel
theorem dX11_reins_45 : decode cX11_reins 45 = .ok (.getfield 193, 3) := by decide +kernel
theorem dX11_reins_48 : decode cX11_reins 48 = .ok (.iload_n 1, 1) := by decide +kernel
theorem dX11_reins_49 : decode cX11_reins 49 = .ok (.bipush 10, 2) := by decide +kernel
theorem dX11_reins_51 : decode cX11_reins 51 = .ok (.irem, 1) := by decide +kernel
theorem dX11_reins_52 : decode cX11_reins 52 = .ok (.iaload, 1) := by decide +kernel
theorem dX11_reins_53 : decode cX11_reins 53 = .ok (.iload_n 2, 1) := by decide +kernel
theorem dX11_reins_54 : decode cX11_reins 54 = .ok (.invokevirtual 259, 3) := by decide +kernel
theorem dX11_reins_57 : decode cX11_reins 57 = .ok (.istore 4, 2) := by decide +kernel
theorem dX11_reins_59 : decode cX11_reins 59 = .ok (.iload 4, 2) := by decide +kernel
theorem dX11_reins_61 : decode cX11_reins 61 = .ok (.ldc_w 262, 3) := by decide +kernel
theorem dX11_reins_64 : decode cX11_reins 64 = .ok (.if_icmp .ne 6, 3) := by decide +kernel
theorem dX11_reins_67 : decode cX11_reins 67 = .ok (.bipush (-2), 2) := by decide +kernel
theorem dX11_reins_69 : decode cX11_reins 69 = .ok (.ireturn, 1) := by decide +kernel
theorem dX11_reins_70 : decode cX11_reins 70 = .ok (.iload_n 3, 1) := by decide +kernel
theorem dX11_reins_71 : decode cX11_reins 71 = .ok (.iconst (-1), 1) := by decide +kernel
theorem dX11_reins_72 : decode cX11_reins 72 = .ok (.if_icmp .ne 11, 3) := by decide +kernel
theorem dX11_reins_75 : decode cX11_reins 75 = .ok (.iload 4, 2) := by decide +kernel
theorem dX11_reins_77 : decode cX11_reins 77 = .ok (.invokestatic 263, 3) := by decide +kernel
theorem dX11_reins_80 : decode cX11_reins 80 = .ok (.goto 9, 3) := by decide +kernel
theorem dX11_reins_83 : decode cX11_reins 83 = .ok (.iload 4, 2) := by decide +kernel
theorem dX11_reins_85 : decode cX11_reins 85 = .ok (.iload_n 3, 1) := by decide +kernel
theorem dX11_reins_86 : decode cX11_reins 86 = .ok (.invokestatic 266, 3) := by decide +kernel
theorem dX11_reins_89 : decode cX11_reins 89 = .ok (.ireturn, 1) := by decide +kernel
theorem dX11_chance_0 : decode cX11_chance 0 = .ok (.aload_n 0, 1) := by decide +kernel
theorem dX11_chance_1 : decode cX11_chance 1 = .ok (.iload_n 1, 1) := by decide +kernel
theorem dX11_chance_2 : decode cX11_chance 2 = .ok (.invokevirtual 190, 3) := by decide +kernel
theorem dX11_chance_5 : decode cX11_chance 5 = .ok (.ifCond .eq 33, 3) := by decide +kernel
theorem dX11_chance_8 : decode cX11_chance 8 = .ok (.iload_n 2, 1) := by decide +kernel
theorem dX11_chance_9 : decode cX11_chance 9 = .ok (.iconst 0, 1) := by decide +kernel
theorem dX11_chance_10 : decode cX11_chance 10 = .ok (.bipush 8, 2) := by decide +kernel
theorem dX11_chance_12 : decode cX11_chance 12 = .ok (.invokestatic 110, 3) := by decide +kernel
theorem dX11_chance_15 : decode cX11_chance 15 = .ok (.ifCond .eq 23, 3) := by decide +kernel
theorem dX11_chance_18 : decode cX11_chance 18 = .ok (.iload_n 3, 1) := by decide +kernel
theorem dX11_chance_19 : decode cX11_chance 19 = .ok (.iconst 0, 1) := by decide +kernel
theorem dX11_chance_20 : decode cX11_chance 20 = .ok (.bipush 12, 2) := by decide +kernel
theorem dX11_chance_22 : decode cX11_chance 22 = .ok (.invokestatic 110, 3) := by decide +kernel
theorem dX11_chance_25 : decode cX11_chance 25 = .ok (.ifCond .eq 13, 3) := by decide +kernel
theorem dX11_chance_28 : decode cX11_chance 28 = .ok (.iload 4, 2) := by decide +kernel
theorem dX11_chance_30 : decode cX11_chance 30 = .ok (.iconst 0, 1) := by decide +kernel
theorem dX11_chance_31 : decode cX11_chance 31 = .ok (.iconst 1, 1) := by decide +kernel
theorem dX11_chance_32 : decode cX11_chance 32 = .ok (.invokestatic 110, 3) := by decide +kernel
theorem dX11_chance_35 : decode cX11_chance 35 = .ok (.ifCond .ne 7, 3) := by decide +kernel
theorem dX11_chance_38 : decode cX11_chance 38 = .ok (.ldc2_w 271, 3) := by decide +kernel
theorem dX11_chance_41 : decode cX11_chance 41 = .ok (.lreturn, 1) := by decide +kernel
theorem dX11_chance_42 : decode cX11_chance 42 = .ok (.aload_n 0, 1) := by decide +kernel
theorem dX11_chance_43 : decode cX11_chance 43 = .ok (.getfield 64, 3) := by decide +kernel
theorem dX11_chance_46 : decode cX11_chance 46 = .ok (.aload_n 0, 1) := by decide +kernel
theorem dX11_chance_47 : decode cX11_chance 47 = .ok (.getfield 64, 3) := by decide +kernel
theorem dX11_chance_50 : decode cX11_chance 50 = .ok (.iload_n 1, 1) := by decide +kernel
theorem dX11_chance_51 : decode cX11_chance 51 = .ok (.iload_n 2, 1) := by decide +kernel
theorem dX11_chance_52 : decode cX11_chance 52 = .ok (.iload_n 3, 1) := by decide +kernel
theorem dX11_chance_53 : decode cX11_chance 53 = .ok (.iconst 0, 1) := by decide +kernel
theorem dX11_chance_54 : decode cX11_chance 54 = .ok (.invokevirtual 273, 3) := by decide +kernel
theorem dX11_chance_57 : decode cX11_chance 57 = .ok (.iload_n 2, 1) := by decide +kernel
theorem dX11_chance_58 : decode cX11_chance 58 = .ok (.iload 4, 2) := by decide +kernel
theorem dX11_chance_60 : decode cX11_chance 60 = .ok (.invokevirtual 277, 3) := by decide +kernel
theorem dX11_chance_63 : decode cX11_chance 63 = .ok (.lreturn, 1) := by decide +kernel
theorem dX11_mean_0 : decode cX11_mean 0 = .ok (.aload_n 0, 1) := by decide +kernel
theorem dX11_mean_1 : decode cX11_mean 1 = .ok (.iload_n 1, 1) := by decide +kernel
theorem dX11_mean_2 : decode cX11_mean 2 = .ok (.invokevirtual 190, 3) := by decide +kernel
theorem dX11_mean_5 : decode cX11_mean 5 = .ok (.ifCond .eq 33, 3) := by decide +kernel
theorem dX11_mean_8 : decode cX11_mean 8 = .ok (.iload_n 2, 1) := by decide +kernel
theorem dX11_mean_9 : decode cX11_mean 9 = .ok (.iconst 0, 1) := by decide +kernel
theorem dX11_mean_10 : decode cX11_mean 10 = .ok (.bipush 8, 2) := by decide +kernel
theorem dX11_mean_12 : decode cX11_mean 12 = .ok (.invokestatic 110, 3) := by decide +kernel
theorem dX11_mean_15 : decode cX11_mean 15 = .ok (.ifCond .eq 23, 3) := by decide +kernel
theorem dX11_mean_18 : decode cX11_mean 18 = .ok (.iload_n 3, 1) := by decide +kernel
theorem dX11_mean_19 : decode cX11_mean 19 = .ok (.iconst 0, 1) := by decide +kernel
theorem dX11_mean_20 : decode cX11_mean 20 = .ok (.bipush 12, 2) := by decide +kernel
theorem dX11_mean_22 : decode cX11_mean 22 = .ok (.invokestatic 110, 3) := by decide +kernel
theorem dX11_mean_25 : decode cX11_mean 25 = .ok (.ifCond .eq 13, 3) := by decide +kernel
theorem dX11_mean_28 : decode cX11_mean 28 = .ok (.iload 4, 2) := by decide +kernel
theorem dX11_mean_30 : decode cX11_mean 30 = .ok (.iconst 0, 1) := by decide +kernel
theorem dX11_mean_31 : decode cX11_mean 31 = .ok (.iconst 1, 1) := by decide +kernel
theorem dX11_mean_32 : decode cX11_mean 32 = .ok (.invokestatic 110, 3) := by decide +kernel
theorem dX11_mean_35 : decode cX11_mean 35 = .ok (.ifCond .ne 7, 3) := by decide +kernel
theorem dX11_mean_38 : decode cX11_mean 38 = .ok (.ldc2_w 271, 3) := by decide +kernel
theorem dX11_mean_41 : decode cX11_mean 41 = .ok (.lreturn, 1) := by decide +kernel
theorem dX11_mean_42 : decode cX11_mean 42 = .ok (.aload_n 0, 1) := by decide +kernel
theorem dX11_mean_43 : decode cX11_mean 43 = .ok (.getfield 64, 3) := by decide +kernel
theorem dX11_mean_46 : decode cX11_mean 46 = .ok (.aload_n 0, 1) := by decide +kernel
theorem dX11_mean_47 : decode cX11_mean 47 = .ok (.getfield 64, 3) := by decide +kernel
theorem dX11_mean_50 : decode cX11_mean 50 = .ok (.iload_n 1, 1) := by decide +kernel
theorem dX11_mean_51 : decode cX11_mean 51 = .ok (.iload_n 2, 1) := by decide +kernel
theorem dX11_mean_52 : decode cX11_mean 52 = .ok (.iload_n 3, 1) := by decide +kernel
theorem dX11_mean_53 : decode cX11_mean 53 = .ok (.iconst 1, 1) := by decide +kernel
theorem dX11_mean_54 : decode cX11_mean 54 = .ok (.invokevirtual 273, 3) := by decide +kernel
theorem dX11_mean_57 : decode cX11_mean 57 = .ok (.iload_n 2, 1) := by decide +kernel
theorem dX11_mean_58 : decode cX11_mean 58 = .ok (.iload 4, 2) := by decide +kernel
theorem dX11_mean_60 : decode cX11_mean 60 = .ok (.invokevirtual 277, 3) := by decide +kernel
theorem dX11_mean_63 : decode cX11_mean 63 = .ok (.lreturn, 1) := by decide +kernel
theorem dX11_byTurns_0 : decode cX11_byTurns 0 = .ok (.aload_n 0, 1) := by decide +kernel
theorem dX11_byTurns_1 : decode cX11_byTurns 1 = .ok (.iload_n 1, 1) := by decide +kernel
theorem dX11_byTurns_2 : decode cX11_byTurns 2 = .ok (.invokevirtual 190, 3) := by decide +kernel
theorem dX11_byTurns_5 : decode cX11_byTurns 5 = .ok (.ifCond .eq 22, 3) := by decide +kernel
theorem dX11_byTurns_8 : decode cX11_byTurns 8 = .ok (.iload_n 2, 1) := by decide +kernel
theorem dX11_byTurns_9 : decode cX11_byTurns 9 = .ok (.iconst 1, 1) := by decide +kernel
theorem dX11_byTurns_10 : decode cX11_byTurns 10 = .ok (.bipush 6, 2) := by decide +kernel
theorem dX11_byTurns_12 : decode cX11_byTurns 12 = .ok (.invokestatic 110, 3) := by decide +kernel
theorem dX11_byTurns_15 : decode cX11_byTurns 15 = .ok (.ifCond .eq 12, 3) := by decide +kernel
theorem dX11_byTurns_18 : decode cX11_byTurns 18 = .ok (.iload_n 3, 1) := by decide +kernel
theorem dX11_byTurns_19 : decode cX11_byTurns 19 = .ok (.iconst 0, 1) := by decide +kernel
theorem dX11_byTurns_20 : decode cX11_byTurns 20 = .ok (.iconst 1, 1) := by decide +kernel
theorem dX11_byTurns_21 : decode cX11_byTurns 21 = .ok (.invokestatic 110, 3) := by decide +kernel
theorem dX11_byTurns_24 : decode cX11_byTurns 24 = .ok (.ifCond .ne 5, 3) := by decide +kernel
theorem dX11_byTurns_27 : decode cX11_byTurns 27 = .ok (.iconst (-1), 1) := by decide +kernel
theorem dX11_byTurns_28 : decode cX11_byTurns 28 = .ok (.ireturn, 1) := by decide +kernel
theorem dX11_byTurns_29 : decode cX11_byTurns 29 = .ok (.aload_n 0, 1) := by decide +kernel
theorem dX11_byTurns_30 : decode cX11_byTurns 30 = .ok (.getfield 64, 3) := by decide +kernel
theorem dX11_byTurns_33 : decode cX11_byTurns 33 = .ok (.iload_n 1, 1) := by decide +kernel
theorem dX11_byTurns_34 : decode cX11_byTurns 34 = .ok (.bipush 10, 2) := by decide +kernel
theorem dX11_byTurns_36 : decode cX11_byTurns 36 = .ok (.idiv, 1) := by decide +kernel
theorem dX11_byTurns_37 : decode cX11_byTurns 37 = .ok (.aload_n 0, 1) := by decide +kernel
theorem dX11_byTurns_38 : decode cX11_byTurns 38 = .ok (.getfield 10, 3) := by decide +kernel
theorem dX11_byTurns_41 : decode cX11_byTurns 41 = .ok (.getfield 193, 3) := by decide +kernel
theorem dX11_byTurns_44 : decode cX11_byTurns 44 = .ok (.iload_n 1, 1) := by decide +kernel
theorem dX11_byTurns_45 : decode cX11_byTurns 45 = .ok (.bipush 10, 2) := by decide +kernel
theorem dX11_byTurns_47 : decode cX11_byTurns 47 = .ok (.irem, 1) := by decide +kernel
theorem dX11_byTurns_48 : decode cX11_byTurns 48 = .ok (.iaload, 1) := by decide +kernel
theorem dX11_byTurns_49 : decode cX11_byTurns 49 = .ok (.iload_n 2, 1) := by decide +kernel
theorem dX11_byTurns_50 : decode cX11_byTurns 50 = .ok (.iload_n 3, 1) := by decide +kernel
theorem dX11_byTurns_51 : decode cX11_byTurns 51 = .ok (.iconst 1, 1) := by decide +kernel
theorem dX11_byTurns_52 : decode cX11_byTurns 52 = .ok (.if_icmp .ne 7, 3) := by decide +kernel
theorem dX11_byTurns_55 : decode cX11_byTurns 55 = .ok (.iconst 1, 1) := by decide +kernel
theorem dX11_byTurns_56 : decode cX11_byTurns 56 = .ok (.goto 4, 3) := by decide +kernel
theorem dX11_byTurns_59 : decode cX11_byTurns 59 = .ok (.iconst 0, 1) := by decide +kernel
theorem dX11_byTurns_60 : decode cX11_byTurns 60 = .ok (.invokevirtual 281, 3) := by decide +kernel
theorem dX11_byTurns_63 : decode cX11_byTurns 63 = .ok (.ireturn, 1) := by decide +kernel
theorem dX11_drawn_0 : decode cX11_drawn 0 = .ok (.iload_n 2, 1) := by decide +kernel
theorem dX11_drawn_1 : decode cX11_drawn 1 = .ok (.ifCond .lt 29, 3) := by decide +kernel
theorem dX11_drawn_4 : decode cX11_drawn 4 = .ok (.iload_n 2, 1) := by decide +kernel
theorem dX11_drawn_5 : decode cX11_drawn 5 = .ok (.bipush 100, 2) := by decide +kernel
theorem dX11_drawn_7 : decode cX11_drawn 7 = .ok (.idiv, 1) := by decide +kernel
theorem dX11_drawn_8 : decode cX11_drawn 8 = .ok (.iconst 1, 1) := by decide +kernel
theorem dX11_drawn_9 : decode cX11_drawn 9 = .ok (.bipush 30, 2) := by decide +kernel
theorem dX11_drawn_11 : decode cX11_drawn 11 = .ok (.invokestatic 110, 3) := by decide +kernel
theorem dX11_drawn_14 : decode cX11_drawn 14 = .ok (.ifCond .eq 16, 3) := by decide +kernel
theorem dX11_drawn_17 : decode cX11_drawn 17 = .ok (.iload_n 2, 1) := by decide +kernel
theorem dX11_drawn_18 : decode cX11_drawn 18 = .ok (.bipush 100, 2) := by decide +kernel
theorem dX11_drawn_20 : decode cX11_drawn 20 = .ok (.irem, 1) := by decide +kernel
theorem dX11_drawn_21 : decode cX11_drawn 21 = .ok (.iconst 1, 1) := by decide +kernel
theorem dX11_drawn_22 : decode cX11_drawn 22 = .ok (.bipush 40, 2) := by decide +kernel
theorem dX11_drawn_24 : decode cX11_drawn 24 = .ok (.invokestatic 110, 3) := by decide +kernel
theorem dX11_drawn_27 : decode cX11_drawn 27 = .ok (.ifCond .ne 5, 3) := by decide +kernel
theorem dX11_drawn_30 : decode cX11_drawn 30 = .ok (.iconst (-1), 1) := by decide +kernel
theorem dX11_drawn_31 : decode cX11_drawn 31 = .ok (.ireturn, 1) := by decide +kernel
theorem dX11_drawn_32 : decode cX11_drawn 32 = .ok (.iload_n 3, 1) := by decide +kernel
theorem dX11_drawn_33 : decode cX11_drawn 33 = .ok (.iconst (-1), 1) := by decide +kernel
theorem dX11_drawn_34 : decode cX11_drawn 34 = .ok (.if_icmp .eq 16, 3) := by decide +kernel
theorem dX11_drawn_37 : decode cX11_drawn 37 = .ok (.aload_n 0, 1) := by decide +kernel
theorem dX11_drawn_38 : decode cX11_drawn 38 = .ok (.getfield 10, 3) := by decide +kernel
theorem dX11_drawn_41 : decode cX11_drawn 41 = .ok (.iload_n 3, 1) := by decide +kernel
theorem dX11_drawn_42 : decode cX11_drawn 42 = .ok (.invokevirtual 285, 3) := by decide +kernel
theorem dX11_drawn_45 : decode cX11_drawn 45 = .ok (.ifCond .ne 5, 3) := by decide +kernel
theorem dX11_drawn_48 : decode cX11_drawn 48 = .ok (.iconst (-1), 1) := by decide +kernel
theorem dX11_drawn_49 : decode cX11_drawn 49 = .ok (.ireturn, 1) := by decide +kernel
theorem dX11_drawn_50 : decode cX11_drawn 50 = .ok (.aload_n 0, 1) := by decide +kernel
theorem dX11_drawn_51 : decode cX11_drawn 51 = .ok (.getfield 64, 3) := by decide +kernel
theorem dX11_drawn_54 : decode cX11_drawn 54 = .ok (.iload_n 1, 1) := by decide +kernel
theorem dX11_drawn_55 : decode cX11_drawn 55 = .ok (.iload_n 2, 1) := by decide +kernel
theorem dX11_drawn_56 : decode cX11_drawn 56 = .ok (.bipush 100, 2) := by decide +kernel
theorem dX11_drawn_58 : decode cX11_drawn 58 = .ok (.idiv, 1) := by decide +kernel
theorem dX11_drawn_59 : decode cX11_drawn 59 = .ok (.iload_n 2, 1) := by decide +kernel
theorem dX11_drawn_60 : decode cX11_drawn 60 = .ok (.bipush 100, 2) := by decide +kernel
theorem dX11_drawn_62 : decode cX11_drawn 62 = .ok (.irem, 1) := by decide +kernel
theorem dX11_drawn_63 : decode cX11_drawn 63 = .ok (.iload_n 3, 1) := by decide +kernel
theorem dX11_drawn_64 : decode cX11_drawn 64 = .ok (.invokevirtual 288, 3) := by decide +kernel
theorem dX11_drawn_67 : decode cX11_drawn 67 = .ok (.ireturn, 1) := by decide +kernel
theorem dX11_hour_0 : decode cX11_hour 0 = .ok (.aload_n 0, 1) := by decide +kernel
theorem dX11_hour_1 : decode cX11_hour 1 = .ok (.getfield 80, 3) := by decide +kernel
theorem dX11_hour_4 : decode cX11_hour 4 = .ok (.invokevirtual 292, 3) := by decide +kernel
theorem dX11_hour_7 : decode cX11_hour 7 = .ok (.aload_n 0, 1) := by decide +kernel
theorem dX11_hour_8 : decode cX11_hour 8 = .ok (.getfield 10, 3) := by decide +kernel
theorem dX11_hour_11 : decode cX11_hour 11 = .ok (.getfield 295, 3) := by decide +kernel
theorem dX11_hour_14 : decode cX11_hour 14 = .ok (.ireturn, 1) := by decide +kernel
theorem dX11_rein_0 : decode cX11_rein 0 = .ok (.aload_n 0, 1) := by decide +kernel
theorem dX11_rein_1 : decode cX11_rein 1 = .ok (.getfield 10, 3) := by decide +kernel
theorem dX11_rein_4 : decode cX11_rein 4 = .ok (.iload_n 1, 1) := by decide +kernel
theorem dX11_rein_5 : decode cX11_rein 5 = .ok (.invokevirtual 156, 3) := by decide +kernel
theorem dX11_rein_8 : decode cX11_rein 8 = .ok (.ifCond .eq 12, 3) := by decide +kernel
theorem dX11_rein_11 : decode cX11_rein 11 = .ok (.iload_n 2, 1) := by decide +kernel
theorem dX11_rein_12 : decode cX11_rein 12 = .ok (.iconst 0, 1) := by decide +kernel
theorem dX11_rein_13 : decode cX11_rein 13 = .ok (.iconst 1, 1) := by decide +kernel
theorem dX11_rein_14 : decode cX11_rein 14 = .ok (.invokestatic 110, 3) := by decide +kernel
theorem dX11_rein_17 : decode cX11_rein 17 = .ok (.ifCond .ne 5, 3) := by decide +kernel
theorem dX11_rein_20 : decode cX11_rein 20 = .ok (.iconst (-1), 1) := by decide +kernel
theorem dX11_rein_21 : decode cX11_rein 21 = .ok (.ireturn, 1) := by decide +kernel
theorem dX11_rein_22 : decode cX11_rein 22 = .ok (.aload_n 0, 1) := by decide +kernel
theorem dX11_rein_23 : decode cX11_rein 23 = .ok (.getfield 80, 3) := by decide +kernel
theorem dX11_rein_26 : decode cX11_rein 26 = .ok (.iload_n 1, 1) := by decide +kernel
theorem dX11_rein_27 : decode cX11_rein 27 = .ok (.iload_n 2, 1) := by decide +kernel
theorem dX11_rein_28 : decode cX11_rein 28 = .ok (.ifCond .ne 7, 3) := by decide +kernel
theorem dX11_rein_31 : decode cX11_rein 31 = .ok (.iconst (-1), 1) := by decide +kernel
theorem dX11_rein_32 : decode cX11_rein 32 = .ok (.goto 4, 3) := by decide +kernel
theorem dX11_rein_35 : decode cX11_rein 35 = .ok (.iconst 1, 1) := by decide +kernel
theorem dX11_rein_36 : decode cX11_rein 36 = .ok (.invokevirtual 298, 3) := by decide +kernel
theorem dX11_rein_39 : decode cX11_rein 39 = .ok (.ireturn, 1) := by decide +kernel
theorem dX11_shoe_0 : decode cX11_shoe 0 = .ok (.aload_n 0, 1) := by decide +kernel
theorem dX11_shoe_1 : decode cX11_shoe 1 = .ok (.getfield 10, 3) := by decide +kernel
theorem dX11_shoe_4 : decode cX11_shoe 4 = .ok (.iload_n 1, 1) := by decide +kernel
theorem dX11_shoe_5 : decode cX11_shoe 5 = .ok (.invokevirtual 156, 3) := by decide +kernel
theorem dX11_shoe_8 : decode cX11_shoe 8 = .ok (.ifCond .eq 14, 3) := by decide +kernel
theorem dX11_shoe_11 : decode cX11_shoe 11 = .ok (.aload_n 0, 1) := by decide +kernel
theorem dX11_shoe_12 : decode cX11_shoe 12 = .ok (.getfield 80, 3) := by decide +kernel
theorem dX11_shoe_15 : decode cX11_shoe 15 = .ok (.iload_n 1, 1) := by decide +kernel
theorem dX11_shoe_16 : decode cX11_shoe 16 = .ok (.invokevirtual 301, 3) := by decide +kernel
theorem dX11_shoe_19 : decode cX11_shoe 19 = .ok (.goto 4, 3) := by decide +kernel
theorem dX11_shoe_22 : decode cX11_shoe 22 = .ok (.iconst (-1), 1) := by decide +kernel
theorem dX11_shoe_23 : decode cX11_shoe 23 = .ok (.ireturn, 1) := by decide +kernel
theorem dX11_buys_0 : decode cX11_buys 0 = .ok (.aload_n 0, 1) := by decide +kernel
theorem dX11_buys_1 : decode cX11_buys 1 = .ok (.getfield 10, 3) := by decide +kernel
theorem dX11_buys_4 : decode cX11_buys 4 = .ok (.iload_n 1, 1) := by decide +kernel
theorem dX11_buys_5 : decode cX11_buys 5 = .ok (.invokevirtual 285, 3) := by decide +kernel
theorem dX11_buys_8 : decode cX11_buys 8 = .ok (.ifCond .ne 5, 3) := by decide +kernel
theorem dX11_buys_11 : decode cX11_buys 11 = .ok (.iconst (-1), 1) := by decide +kernel
theorem dX11_buys_12 : decode cX11_buys 12 = .ok (.ireturn, 1) := by decide +kernel
theorem dX11_buys_13 : decode cX11_buys 13 = .ok (.aload_n 0, 1) := by decide +kernel
theorem dX11_buys_14 : decode cX11_buys 14 = .ok (.getfield 10, 3) := by decide +kernel
theorem dX11_buys_17 : decode cX11_buys 17 = .ok (.getfield 304, 3) := by decide +kernel
theorem dX11_buys_20 : decode cX11_buys 20 = .ok (.iload_n 1, 1) := by decide +kernel
theorem dX11_buys_21 : decode cX11_buys 21 = .ok (.iaload, 1) := by decide +kernel
theorem dX11_buys_22 : decode cX11_buys 22 = .ok (.istore_n 2, 1) := by decide +kernel
theorem dX11_buys_23 : decode cX11_buys 23 = .ok (.aload_n 0, 1) := by decide +kernel
theorem dX11_buys_24 : decode cX11_buys 24 = .ok (.getfield 10, 3) := by decide +kernel
theorem dX11_buys_27 : decode cX11_buys 27 = .ok (.getfield 304, 3) := by decide +kernel
theorem dX11_buys_30 : decode cX11_buys 30 = .ok (.iload_n 1, 1) := by decide +kernel
theorem dX11_buys_31 : decode cX11_buys 31 = .ok (.bipush 9, 2) := by decide +kernel
theorem dX11_buys_33 : decode cX11_buys 33 = .ok (.iastore, 1) := by decide +kernel
theorem dX11_buys_34 : decode cX11_buys 34 = .ok (.iload_n 2, 1) := by decide +kernel
theorem dX11_buys_35 : decode cX11_buys 35 = .ok (.ireturn, 1) := by decide +kernel
theorem dX11_led_0 : decode cX11_led 0 = .ok (.iload_n 1, 1) := by decide +kernel
theorem dX11_led_1 : decode cX11_led 1 = .ok (.iconst 0, 1) := by decide +kernel
theorem dX11_led_2 : decode cX11_led 2 = .ok (.iconst 4, 1) := by decide +kernel
theorem dX11_led_3 : decode cX11_led 3 = .ok (.invokestatic 110, 3) := by decide +kernel
theorem dX11_led_6 : decode cX11_led 6 = .ok (.ifCond .eq 15, 3) := by decide +kernel
theorem dX11_led_9 : decode cX11_led 9 = .ok (.aload_n 0, 1) := by decide +kernel
theorem dX11_led_10 : decode cX11_led 10 = .ok (.getfield 80, 3) := by decide +kernel
theorem dX11_led_13 : decode cX11_led 13 = .ok (.getfield 307, 3) := by decide +kernel
theorem dX11_led_16 : decode cX11_led 16 = .ok (.iload_n 1, 1) := by decide +kernel
theorem dX11_led_17 : decode cX11_led 17 = .ok (.iaload, 1) := by decide +kernel
theorem dX11_led_18 : decode cX11_led 18 = .ok (.goto 4, 3) := by decide +kernel
theorem dX11_led_21 : decode cX11_led 21 = .ok (.iconst (-1), 1) := by decide +kernel
theorem dX11_led_22 : decode cX11_led 22 = .ok (.ireturn, 1) := by decide +kernel
theorem dX11_image_0 : decode cX11_image 0 = .ok (.aload_n 0, 1) := by decide +kernel
theorem dX11_image_1 : decode cX11_image 1 = .ok (.getfield 80, 3) := by decide +kernel
theorem dX11_image_4 : decode cX11_image 4 = .ok (.invokevirtual 310, 3) := by decide +kernel
theorem dX11_image_7 : decode cX11_image 7 = .ok (.ireturn, 1) := by decide +kernel
theorem dX11_back_0 : decode cX11_back 0 = .ok (.aload_n 0, 1) := by decide +kernel
theorem dX11_back_1 : decode cX11_back 1 = .ok (.getfield 80, 3) := by decide +kernel
theorem dX11_back_4 : decode cX11_back 4 = .ok (.invokevirtual 313, 3) := by decide +kernel
theorem dX11_back_7 : decode cX11_back 7 = .ok (.ireturn, 1) := by decide +kernel
theorem dX11_undo_0 : decode cX11_undo 0 = .ok (.aload_n 0, 1) := by decide +kernel
theorem dX11_undo_1 : decode cX11_undo 1 = .ok (.getfield 73, 3) := by decide +kernel
theorem dX11_undo_4 : decode cX11_undo 4 = .ok (.invokevirtual 316, 3) := by decide +kernel
theorem dX11_undo_7 : decode cX11_undo 7 = .ok (.ireturn, 1) := by decide +kernel
theorem dX11_redo_0 : decode cX11_redo 0 = .ok (.aload_n 0, 1) := by decide +kernel
theorem dX11_redo_1 : decode cX11_redo 1 = .ok (.getfield 73, 3) := by decide +kernel
theorem dX11_redo_4 : decode cX11_redo 4 = .ok (.invokevirtual 319, 3) := by decide +kernel
theorem dX11_redo_7 : decode cX11_redo 7 = .ok (.ireturn, 1) := by decide +kernel
theorem dX11_body_0 : decode cX11_body 0 = .ok (.iload_n 1, 1) := by decide +kernel
theorem dX11_body_1 : decode cX11_body 1 = .ok (.iconst 0, 1) := by decide +kernel
theorem dX11_body_2 : decode cX11_body 2 = .ok (.bipush 7, 2) := by decide +kernel
theorem dX11_body_4 : decode cX11_body 4 = .ok (.invokestatic 110, 3) := by decide +kernel
theorem dX11_body_7 : decode cX11_body 7 = .ok (.ifCond .eq 14, 3) := by decide +kernel
theorem dX11_body_10 : decode cX11_body 10 = .ok (.aload_n 0, 1) := by decide +kernel
theorem dX11_body_11 : decode cX11_body 11 = .ok (.getfield 94, 3) := by decide +kernel
theorem dX11_body_14 : decode cX11_body 14 = .ok (.iload_n 1, 1) := by decide +kernel
theorem dX11_body_15 : decode cX11_body 15 = .ok (.invokevirtual 322, 3) := by decide +kernel
theorem dX11_body_18 : decode cX11_body 18 = .ok (.goto 4, 3) := by decide +kernel
theorem dX11_body_21 : decode cX11_body 21 = .ok (.iconst (-1), 1) := by decide +kernel
theorem dX11_body_22 : decode cX11_body 22 = .ok (.ireturn, 1) := by decide +kernel
theorem dX11_act_0 : decode cX11_act 0 = .ok (.aload_n 0, 1) := by decide +kernel
theorem dX11_act_1 : decode cX11_act 1 = .ok (.getfield 94, 3) := by decide +kernel
theorem dX11_act_4 : decode cX11_act 4 = .ok (.invokevirtual 325, 3) := by decide +kernel
theorem dX11_act_7 : decode cX11_act 7 = .ok (.aload_n 0, 1) := by decide +kernel
theorem dX11_act_8 : decode cX11_act 8 = .ok (.getfield 94, 3) := by decide +kernel
theorem dX11_act_11 : decode cX11_act 11 = .ok (.iload_n 1, 1) := by decide +kernel
theorem dX11_act_12 : decode cX11_act 12 = .ok (.invokevirtual 328, 3) := by decide +kernel
theorem dX11_act_15 : decode cX11_act 15 = .ok (.ifCond .eq 12, 3) := by decide +kernel
theorem dX11_act_18 : decode cX11_act 18 = .ok (.iload_n 2, 1) := by decide +kernel
theorem dX11_act_19 : decode cX11_act 19 = .ok (.iconst 0, 1) := by decide +kernel
theorem dX11_act_20 : decode cX11_act 20 = .ok (.iconst 3, 1) := by decide +kernel
theorem dX11_act_21 : decode cX11_act 21 = .ok (.invokestatic 110, 3) := by decide +kernel
theorem dX11_act_24 : decode cX11_act 24 = .ok (.ifCond .ne 5, 3) := by decide +kernel
theorem dX11_act_27 : decode cX11_act 27 = .ok (.iconst 0, 1) := by decide +kernel
theorem dX11_act_28 : decode cX11_act 28 = .ok (.ireturn, 1) := by decide +kernel
theorem dX11_act_29 : decode cX11_act 29 = .ok (.aload_n 0, 1) := by decide +kernel
theorem dX11_act_30 : decode cX11_act 30 = .ok (.getfield 94, 3) := by decide +kernel
theorem dX11_act_33 : decode cX11_act 33 = .ok (.iload_n 1, 1) := by decide +kernel
theorem dX11_act_34 : decode cX11_act 34 = .ok (.iload_n 2, 1) := by decide +kernel
theorem dX11_act_35 : decode cX11_act 35 = .ok (.iload_n 3, 1) := by decide +kernel
theorem dX11_act_36 : decode cX11_act 36 = .ok (.invokevirtual 330, 3) := by decide +kernel
theorem dX11_act_39 : decode cX11_act 39 = .ok (.ireturn, 1) := by decide +kernel
theorem dX11_trace_0 : decode cX11_trace 0 = .ok (.aload_n 0, 1) := by decide +kernel
theorem dX11_trace_1 : decode cX11_trace 1 = .ok (.getfield 94, 3) := by decide +kernel
theorem dX11_trace_4 : decode cX11_trace 4 = .ok (.iload_n 1, 1) := by decide +kernel
theorem dX11_trace_5 : decode cX11_trace 5 = .ok (.invokevirtual 332, 3) := by decide +kernel
theorem dX11_trace_8 : decode cX11_trace 8 = .ok (.ireturn, 1) := by decide +kernel
theorem dX11_keep_0 : decode cX11_keep 0 = .ok (.iload_n 1, 1) := by decide +kernel
theorem dX11_keep_1 : decode cX11_keep 1 = .ok (.invokestatic 106, 3) := by decide +kernel
theorem dX11_keep_4 : decode cX11_keep 4 = .ok (.ifCond .eq 19, 3) := by decide +kernel
theorem dX11_keep_7 : decode cX11_keep 7 = .ok (.iload_n 2, 1) := by decide +kernel
theorem dX11_keep_8 : decode cX11_keep 8 = .ok (.iconst (-1), 1) := by decide +kernel
theorem dX11_keep_9 : decode cX11_keep 9 = .ok (.if_icmp .eq 16, 3) := by decide +kernel
theorem dX11_keep_12 : decode cX11_keep 12 = .ok (.aload_n 0, 1) := by decide +kernel
theorem dX11_keep_13 : decode cX11_keep 13 = .ok (.getfield 94, 3) := by decide +kernel
theorem dX11_keep_16 : decode cX11_keep 16 = .ok (.iload_n 2, 1) := by decide +kernel
theorem dX11_keep_17 : decode cX11_keep 17 = .ok (.invokevirtual 328, 3) := by decide +kernel
theorem dX11_keep_20 : decode cX11_keep 20 = .ok (.ifCond .ne 5, 3) := by decide +kernel
theorem dX11_keep_23 : decode cX11_keep 23 = .ok (.iconst (-1), 1) := by decide +kernel
theorem dX11_keep_24 : decode cX11_keep 24 = .ok (.ireturn, 1) := by decide +kernel
theorem dX11_keep_25 : decode cX11_keep 25 = .ok (.iload_n 2, 1) := by decide +kernel
theorem dX11_keep_26 : decode cX11_keep 26 = .ok (.iconst (-1), 1) := by decide +kernel
theorem dX11_keep_27 : decode cX11_keep 27 = .ok (.if_icmp .ne 15, 3) := by decide +kernel
theorem dX11_keep_30 : decode cX11_keep 30 = .ok (.aload_n 0, 1) := by decide +kernel
theorem dX11_keep_31 : decode cX11_keep 31 = .ok (.getfield 86, 3) := by decide +kernel
theorem dX11_keep_34 : decode cX11_keep 34 = .ok (.iload_n 1, 1) := by decide +kernel
theorem dX11_keep_35 : decode cX11_keep 35 = .ok (.aaload, 1) := by decide +kernel
theorem dX11_keep_36 : decode cX11_keep 36 = .ok (.invokevirtual 335, 3) := by decide +kernel
theorem dX11_keep_39 : decode cX11_keep 39 = .ok (.goto 13, 3) := by decide +kernel
theorem dX11_keep_42 : decode cX11_keep 42 = .ok (.aload_n 0, 1) := by decide +kernel
theorem dX11_keep_43 : decode cX11_keep 43 = .ok (.getfield 86, 3) := by decide +kernel
theorem dX11_keep_46 : decode cX11_keep 46 = .ok (.iload_n 1, 1) := by decide +kernel
theorem dX11_keep_47 : decode cX11_keep 47 = .ok (.aaload, 1) := by decide +kernel
theorem dX11_keep_48 : decode cX11_keep 48 = .ok (.iload_n 2, 1) := by decide +kernel
theorem dX11_keep_49 : decode cX11_keep 49 = .ok (.invokevirtual 338, 3) := by decide +kernel
theorem dX11_keep_52 : decode cX11_keep 52 = .ok (.iconst 1, 1) := by decide +kernel
theorem dX11_keep_53 : decode cX11_keep 53 = .ok (.ireturn, 1) := by decide +kernel
theorem dX11_row_0 : decode cX11_row 0 = .ok (.iload_n 1, 1) := by decide +kernel
theorem dX11_row_1 : decode cX11_row 1 = .ok (.invokestatic 106, 3) := by decide +kernel
theorem dX11_row_4 : decode cX11_row 4 = .ok (.ifCond .eq 18, 3) := by decide +kernel
theorem dX11_row_7 : decode cX11_row 7 = .ok (.iload_n 2, 1) := by decide +kernel
theorem dX11_row_8 : decode cX11_row 8 = .ok (.iconst 0, 1) := by decide +kernel
theorem dX11_row_9 : decode cX11_row 9 = .ok (.iconst 4, 1) := by decide +kernel
theorem dX11_row_10 : decode cX11_row 10 = .ok (.invokestatic 110, 3) := by decide +kernel
theorem dX11_row_13 : decode cX11_row 13 = .ok (.ifCond .eq 9, 3) := by decide +kernel
theorem dX11_row_16 : decode cX11_row 16 = .ok (.iload_n 3, 1) := by decide +kernel
theorem dX11_row_17 : decode cX11_row 17 = .ok (.bipush 60, 2) := by decide +kernel
theorem dX11_row_19 : decode cX11_row 19 = .ok (.if_icmp .le 5, 3) := by decide +kernel
theorem dX11_row_22 : decode cX11_row 22 = .ok (.iconst (-1), 1) := by decide +kernel
theorem dX11_row_23 : decode cX11_row 23 = .ok (.ireturn, 1) := by decide +kernel
theorem dX11_row_24 : decode cX11_row 24 = .ok (.iload_n 3, 1) := by decide +kernel
theorem dX11_row_25 : decode cX11_row 25 = .ok (.ifCond .ge 6, 3) := by decide +kernel
theorem dX11_row_28 : decode cX11_row 28 = .ok (.bipush (-14), 2) := by decide +kernel
theorem dX11_row_30 : decode cX11_row 30 = .ok (.ireturn, 1) := by decide +kernel
theorem dX11_row_31 : decode cX11_row 31 = .ok (.aload_n 0, 1) := by decide +kernel
theorem dX11_row_32 : decode cX11_row 32 = .ok (.getfield 86, 3) := by decide +kernel
theorem dX11_row_35 : decode cX11_row 35 = .ok (.iload_n 1, 1) := by decide +kernel
theorem dX11_row_36 : decode cX11_row 36 = .ok (.aaload, 1) := by decide +kernel
theorem dX11_row_37 : decode cX11_row 37 = .ok (.iload_n 2, 1) := by decide +kernel
theorem dX11_row_38 : decode cX11_row 38 = .ok (.iload_n 3, 1) := by decide +kernel
theorem dX11_row_39 : decode cX11_row 39 = .ok (.invokevirtual 341, 3) := by decide +kernel
theorem dX11_row_42 : decode cX11_row 42 = .ok (.iconst 1, 1) := by decide +kernel
theorem dX11_row_43 : decode cX11_row 43 = .ok (.ireturn, 1) := by decide +kernel
theorem dX11_put_0 : decode cX11_put 0 = .ok (.aload_n 0, 1) := by decide +kernel
theorem dX11_put_1 : decode cX11_put 1 = .ok (.iload_n 1, 1) := by decide +kernel
theorem dX11_put_2 : decode cX11_put 2 = .ok (.iload_n 2, 1) := by decide +kernel
theorem dX11_put_3 : decode cX11_put 3 = .ok (.invokevirtual 344, 3) := by decide +kernel
theorem dX11_put_6 : decode cX11_put 6 = .ok (.istore 5, 2) := by decide +kernel
theorem dX11_put_8 : decode cX11_put 8 = .ok (.iload 5, 2) := by decide +kernel
theorem dX11_put_10 : decode cX11_put 10 = .ok (.ifCond .eq 6, 3) := by decide +kernel
theorem dX11_put_13 : decode cX11_put 13 = .ok (.iload 5, 2) := by decide +kernel
theorem dX11_put_15 : decode cX11_put 15 = .ok (.ireturn, 1) := by decide +kernel
theorem dX11_put_16 : decode cX11_put 16 = .ok (.aload_n 0, 1) := by decide +kernel
theorem dX11_put_17 : decode cX11_put 17 = .ok (.getfield 86, 3) := by decide +kernel
theorem dX11_put_20 : decode cX11_put 20 = .ok (.iload_n 1, 1) := by decide +kernel
theorem dX11_put_21 : decode cX11_put 21 = .ok (.aaload, 1) := by decide +kernel
theorem dX11_put_22 : decode cX11_put 22 = .ok (.iload_n 2, 1) := by decide +kernel
theorem dX11_put_23 : decode cX11_put 23 = .ok (.lload_n 3, 1) := by decide +kernel
theorem dX11_put_24 : decode cX11_put 24 = .ok (.invokevirtual 347, 3) := by decide +kernel
theorem dX11_put_27 : decode cX11_put 27 = .ok (.iconst 1, 1) := by decide +kernel
theorem dX11_put_28 : decode cX11_put 28 = .ok (.ireturn, 1) := by decide +kernel
theorem dX11_element_0 : decode cX11_element 0 = .ok (.aload_n 0, 1) := by decide +kernel
theorem dX11_element_1 : decode cX11_element 1 = .ok (.iload_n 1, 1) := by decide +kernel
theorem dX11_element_2 : decode cX11_element 2 = .ok (.iload_n 2, 1) := by decide +kernel
theorem dX11_element_3 : decode cX11_element 3 = .ok (.invokevirtual 344, 3) := by decide +kernel
theorem dX11_element_6 : decode cX11_element 6 = .ok (.ifCond .eq 9, 3) := by decide +kernel
theorem dX11_element_9 : decode cX11_element 9 = .ok (.ldc2_w 271, 3) := by decide +kernel
theorem dX11_element_12 : decode cX11_element 12 = .ok (.goto 14, 3) := by decide +kernel
theorem dX11_element_15 : decode cX11_element 15 = .ok (.aload_n 0, 1) := by decide +kernel
theorem dX11_element_16 : decode cX11_element 16 = .ok (.getfield 86, 3) := by decide +kernel
theorem dX11_element_19 : decode cX11_element 19 = .ok (.iload_n 1, 1) := by decide +kernel
theorem dX11_element_20 : decode cX11_element 20 = .ok (.aaload, 1) := by decide +kernel
theorem dX11_element_21 : decode cX11_element 21 = .ok (.getfield 351, 3) := by decide +kernel
theorem dX11_element_24 : decode cX11_element 24 = .ok (.iload_n 2, 1) := by decide +kernel
theorem dX11_element_25 : decode cX11_element 25 = .ok (.laload, 1) := by decide +kernel
theorem dX11_element_26 : decode cX11_element 26 = .ok (.lreturn, 1) := by decide +kernel
theorem dX11_shift_0 : decode cX11_shift 0 = .ok (.iload_n 1, 1) := by decide +kernel
theorem dX11_shift_1 : decode cX11_shift 1 = .ok (.invokestatic 106, 3) := by decide +kernel
theorem dX11_shift_4 : decode cX11_shift 4 = .ok (.ifCond .eq 10, 3) := by decide +kernel
theorem dX11_shift_7 : decode cX11_shift 7 = .ok (.iload_n 3, 1) := by decide +kernel
theorem dX11_shift_8 : decode cX11_shift 8 = .ok (.invokestatic 106, 3) := by decide +kernel
theorem dX11_shift_11 : decode cX11_shift 11 = .ok (.ifCond .ne 5, 3) := by decide +kernel
theorem dX11_shift_14 : decode cX11_shift 14 = .ok (.iconst (-1), 1) := by decide +kernel
theorem dX11_shift_15 : decode cX11_shift 15 = .ok (.ireturn, 1) := by decide +kernel
theorem dX11_shift_16 : decode cX11_shift 16 = .ok (.aload_n 0, 1) := by decide +kernel
theorem dX11_shift_17 : decode cX11_shift 17 = .ok (.getfield 86, 3) := by decide +kernel
theorem dX11_shift_20 : decode cX11_shift 20 = .ok (.iload_n 1, 1) := by decide +kernel
theorem dX11_shift_21 : decode cX11_shift 21 = .ok (.aaload, 1) := by decide +kernel
theorem dX11_shift_22 : decode cX11_shift 22 = .ok (.astore 6, 2) := by decide +kernel
theorem dX11_shift_24 : decode cX11_shift 24 = .ok (.aload_n 0, 1) := by decide +kernel
theorem dX11_shift_25 : decode cX11_shift 25 = .ok (.getfield 86, 3) := by decide +kernel
theorem dX11_shift_28 : decode cX11_shift 28 = .ok (.iload_n 3, 1) := by decide +kernel
theorem dX11_shift_29 : decode cX11_shift 29 = .ok (.aaload, 1) := by decide +kernel
theorem dX11_shift_30 : decode cX11_shift 30 = .ok (.astore 7, 2) := by decide +kernel
theorem dX11_shift_32 : decode cX11_shift 32 = .ok (.aload 6, 2) := by decide +kernel
theorem dX11_shift_34 : decode cX11_shift 34 = .ok (.getfield 114, 3) := by decide +kernel
theorem dX11_shift_37 : decode cX11_shift 37 = .ok (.bipush (-2), 2) := by decide +kernel
theorem dX11_shift_39 : decode cX11_shift 39 = .ok (.if_icmp .eq 13, 3) := by decide +kernel
theorem dX11_shift_42 : decode cX11_shift 42 = .ok (.aload 7, 2) := by decide +kernel
theorem dX11_shift_44 : decode cX11_shift 44 = .ok (.getfield 114, 3) := by decide +kernel
theorem dX11_shift_47 : decode cX11_shift 47 = .ok (.bipush (-2), 2) := by decide +kernel
theorem dX11_shift_49 : decode cX11_shift 49 = .ok (.if_icmp .ne 6, 3) := by decide +kernel
theorem dX11_shift_52 : decode cX11_shift 52 = .ok (.bipush (-11), 2) := by decide +kernel
theorem dX11_shift_54 : decode cX11_shift 54 = .ok (.ireturn, 1) := by decide +kernel
theorem dX11_shift_55 : decode cX11_shift 55 = .ok (.aload 6, 2) := by decide +kernel
theorem dX11_shift_57 : decode cX11_shift 57 = .ok (.getfield 114, 3) := by decide +kernel
theorem dX11_shift_60 : decode cX11_shift 60 = .ok (.iconst (-1), 1) := by decide +kernel
theorem dX11_shift_61 : decode cX11_shift 61 = .ok (.if_icmp .eq 16, 3) := by decide +kernel
theorem dX11_shift_64 : decode cX11_shift 64 = .ok (.aload 6, 2) := by decide +kernel
theorem dX11_shift_66 : decode cX11_shift 66 = .ok (.getfield 114, 3) := by decide +kernel
theorem dX11_shift_69 : decode cX11_shift 69 = .ok (.aload 7, 2) := by decide +kernel
theorem dX11_shift_71 : decode cX11_shift 71 = .ok (.getfield 114, 3) := by decide +kernel
theorem dX11_shift_74 : decode cX11_shift 74 = .ok (.if_icmp .eq 6, 3) := by decide +kernel
theorem dX11_shift_77 : decode cX11_shift 77 = .ok (.bipush (-12), 2) := by decide +kernel
theorem dX11_shift_79 : decode cX11_shift 79 = .ok (.ireturn, 1) := by decide +kernel
theorem dX11_shift_80 : decode cX11_shift 80 = .ok (.aload 6, 2) := by decide +kernel
theorem dX11_shift_82 : decode cX11_shift 82 = .ok (.iload_n 2, 1) := by decide +kernel
theorem dX11_shift_83 : decode cX11_shift 83 = .ok (.iload 5, 2) := by decide +kernel
theorem dX11_shift_85 : decode cX11_shift 85 = .ok (.invokevirtual 355, 3) := by decide +kernel
theorem dX11_shift_88 : decode cX11_shift 88 = .ok (.ifCond .eq 15, 3) := by decide +kernel
theorem dX11_shift_91 : decode cX11_shift 91 = .ok (.aload 7, 2) := by decide +kernel
theorem dX11_shift_93 : decode cX11_shift 93 = .ok (.iload 4, 2) := by decide +kernel
theorem dX11_shift_95 : decode cX11_shift 95 = .ok (.iload 5, 2) := by decide +kernel
theorem dX11_shift_97 : decode cX11_shift 97 = .ok (.invokevirtual 355, 3) := by decide +kernel
theorem dX11_shift_100 : decode cX11_shift 100 = .ok (.ifCond .ne 6, 3) := by decide +kernel
theorem dX11_shift_103 : decode cX11_shift 103 = .ok (.bipush (-13), 2) := by decide +kernel
theorem dX11_shift_105 : decode cX11_shift 105 = .ok (.ireturn, 1) := by decide +kernel
theorem dX11_shift_106 : decode cX11_shift 106 = .ok (.aload 6, 2) := by decide +kernel
theorem dX11_shift_108 : decode cX11_shift 108 = .ok (.getfield 351, 3) := by decide +kernel
theorem dX11_shift_111 : decode cX11_shift 111 = .ok (.iload_n 2, 1) := by decide +kernel
theorem dX11_shift_112 : decode cX11_shift 112 = .ok (.aload 7, 2) := by decide +kernel
theorem dX11_shift_114 : decode cX11_shift 114 = .ok (.getfield 351, 3) := by decide +kernel
theorem dX11_shift_117 : decode cX11_shift 117 = .ok (.iload 4, 2) := by decide +kernel
theorem dX11_shift_119 : decode cX11_shift 119 = .ok (.iload 5, 2) := by decide +kernel
theorem dX11_shift_121 : decode cX11_shift 121 = .ok (.invokestatic 358, 3) := by decide +kernel
theorem dX11_shift_124 : decode cX11_shift 124 = .ok (.iload 5, 2) := by decide +kernel
theorem dX11_shift_126 : decode cX11_shift 126 = .ok (.ireturn, 1) := by decide +kernel
theorem dX11_taken_0 : decode cX11_taken 0 = .ok (.iload_n 1, 1) := by decide +kernel
theorem dX11_taken_1 : decode cX11_taken 1 = .ok (.invokestatic 106, 3) := by decide +kernel
theorem dX11_taken_4 : decode cX11_taken 4 = .ok (.ifCond .eq 13, 3) := by decide +kernel
theorem dX11_taken_7 : decode cX11_taken 7 = .ok (.iload_n 2, 1) := by decide +kernel
theorem dX11_taken_8 : decode cX11_taken 8 = .ok (.iconst 0, 1) := by decide +kernel
theorem dX11_taken_9 : decode cX11_taken 9 = .ok (.bipush 7, 2) := by decide +kernel
theorem dX11_taken_11 : decode cX11_taken 11 = .ok (.invokestatic 110, 3) := by decide +kernel
theorem dX11_taken_14 : decode cX11_taken 14 = .ok (.ifCond .ne 5, 3) := by decide +kernel
theorem dX11_taken_17 : decode cX11_taken 17 = .ok (.iconst (-1), 1) := by decide +kernel
theorem dX11_taken_18 : decode cX11_taken 18 = .ok (.ireturn, 1) := by decide +kernel
theorem dX11_taken_19 : decode cX11_taken 19 = .ok (.aload_n 0, 1) := by decide +kernel
theorem dX11_taken_20 : decode cX11_taken 20 = .ok (.getfield 86, 3) := by decide +kernel
theorem dX11_taken_23 : decode cX11_taken 23 = .ok (.iload_n 1, 1) := by decide +kernel
theorem dX11_taken_24 : decode cX11_taken 24 = .ok (.aaload, 1) := by decide +kernel
theorem dX11_taken_25 : decode cX11_taken 25 = .ok (.astore_n 3, 1) := by decide +kernel
theorem dX11_taken_26 : decode cX11_taken 26 = .ok (.aload_n 3, 1) := by decide +kernel
theorem dX11_taken_27 : decode cX11_taken 27 = .ok (.getfield 114, 3) := by decide +kernel
theorem dX11_taken_30 : decode cX11_taken 30 = .ok (.bipush (-2), 2) := by decide +kernel
theorem dX11_taken_32 : decode cX11_taken 32 = .ok (.if_icmp .ne 6, 3) := by decide +kernel
theorem dX11_taken_35 : decode cX11_taken 35 = .ok (.bipush (-11), 2) := by decide +kernel
theorem dX11_taken_37 : decode cX11_taken 37 = .ok (.ireturn, 1) := by decide +kernel
theorem dX11_taken_38 : decode cX11_taken 38 = .ok (.aload_n 3, 1) := by decide +kernel
theorem dX11_taken_39 : decode cX11_taken 39 = .ok (.getfield 114, 3) := by decide +kernel
theorem dX11_taken_42 : decode cX11_taken 42 = .ok (.iconst (-1), 1) := by decide +kernel
theorem dX11_taken_43 : decode cX11_taken 43 = .ok (.if_icmp .eq 6, 3) := by decide +kernel
theorem dX11_taken_46 : decode cX11_taken 46 = .ok (.bipush (-12), 2) := by decide +kernel
theorem dX11_taken_48 : decode cX11_taken 48 = .ok (.ireturn, 1) := by decide +kernel
theorem dX11_taken_49 : decode cX11_taken 49 = .ok (.aload_n 0, 1) := by decide +kernel
theorem dX11_taken_50 : decode cX11_taken 50 = .ok (.getfield 94, 3) := by decide +kernel
theorem dX11_taken_53 : decode cX11_taken 53 = .ok (.aload_n 3, 1) := by decide +kernel
theorem dX11_taken_54 : decode cX11_taken 54 = .ok (.getfield 364, 3) := by decide +kernel
theorem dX11_taken_57 : decode cX11_taken 57 = .ok (.invokevirtual 367, 3) := by decide +kernel
theorem dX11_taken_60 : decode cX11_taken 60 = .ok (.istore 4, 2) := by decide +kernel
theorem dX11_taken_62 : decode cX11_taken 62 = .ok (.iload 4, 2) := by decide +kernel
theorem dX11_taken_64 : decode cX11_taken 64 = .ok (.iload_n 2, 1) := by decide +kernel
theorem dX11_taken_65 : decode cX11_taken 65 = .ok (.invokestatic 370, 3) := by decide +kernel
theorem dX11_taken_68 : decode cX11_taken 68 = .ok (.ifCond .eq 8, 3) := by decide +kernel
theorem dX11_taken_71 : decode cX11_taken 71 = .ok (.iload 4, 2) := by decide +kernel
theorem dX11_taken_73 : decode cX11_taken 73 = .ok (.goto 5, 3) := by decide +kernel
theorem dX11_taken_76 : decode cX11_taken 76 = .ok (.bipush (-12), 2) := by decide +kernel
theorem dX11_taken_78 : decode cX11_taken 78 = .ok (.ireturn, 1) := by decide +kernel
theorem dX11_count_0 : decode cX11_count 0 = .ok (.iload_n 1, 1) := by decide +kernel
theorem dX11_count_1 : decode cX11_count 1 = .ok (.tableswitch 84 0 5 #[39, 47, 55, 60, 68, 76], 39) := by decide +kernel
theorem dX11_count_40 : decode cX11_count 40 = .ok (.aload_n 0, 1) := by decide +kernel
theorem dX11_count_41 : decode cX11_count 41 = .ok (.getfield 10, 3) := by decide +kernel
theorem dX11_count_44 : decode cX11_count 44 = .ok (.getfield 373, 3) := by decide +kernel
theorem dX11_count_47 : decode cX11_count 47 = .ok (.ireturn, 1) := by decide +kernel
theorem dX11_count_48 : decode cX11_count 48 = .ok (.aload_n 0, 1) := by decide +kernel
theorem dX11_count_49 : decode cX11_count 49 = .ok (.getfield 10, 3) := by decide +kernel
theorem dX11_count_52 : decode cX11_count 52 = .ok (.getfield 376, 3) := by decide +kernel
theorem dX11_count_55 : decode cX11_count 55 = .ok (.ireturn, 1) := by decide +kernel
theorem dX11_count_56 : decode cX11_count 56 = .ok (.aload_n 0, 1) := by decide +kernel
theorem dX11_count_57 : decode cX11_count 57 = .ok (.getfield 145, 3) := by decide +kernel
theorem dX11_count_60 : decode cX11_count 60 = .ok (.ireturn, 1) := by decide +kernel
theorem dX11_count_61 : decode cX11_count 61 = .ok (.aload_n 0, 1) := by decide +kernel
theorem dX11_count_62 : decode cX11_count 62 = .ok (.getfield 73, 3) := by decide +kernel
theorem dX11_count_65 : decode cX11_count 65 = .ok (.getfield 379, 3) := by decide +kernel
theorem dX11_count_68 : decode cX11_count 68 = .ok (.ireturn, 1) := by decide +kernel
theorem dX11_count_69 : decode cX11_count 69 = .ok (.aload_n 0, 1) := by decide +kernel
theorem dX11_count_70 : decode cX11_count 70 = .ok (.getfield 94, 3) := by decide +kernel
theorem dX11_count_73 : decode cX11_count 73 = .ok (.getfield 382, 3) := by decide +kernel
theorem dX11_count_76 : decode cX11_count 76 = .ok (.ireturn, 1) := by decide +kernel
theorem dX11_count_77 : decode cX11_count 77 = .ok (.aload_n 0, 1) := by decide +kernel
theorem dX11_count_78 : decode cX11_count 78 = .ok (.getfield 94, 3) := by decide +kernel
theorem dX11_count_81 : decode cX11_count 81 = .ok (.getfield 385, 3) := by decide +kernel
theorem dX11_count_84 : decode cX11_count 84 = .ok (.ireturn, 1) := by decide +kernel
theorem dX11_count_85 : decode cX11_count 85 = .ok (.iconst (-1), 1) := by decide +kernel
theorem dX11_count_86 : decode cX11_count 86 = .ok (.ireturn, 1) := by decide +kernel
theorem dX11_within_0 : decode cX11_within 0 = .ok (.iload_n 0, 1) := by decide +kernel
theorem dX11_within_1 : decode cX11_within 1 = .ok (.iload_n 1, 1) := by decide +kernel
theorem dX11_within_2 : decode cX11_within 2 = .ok (.if_icmp .lt 12, 3) := by decide +kernel
theorem dX11_within_5 : decode cX11_within 5 = .ok (.iload_n 0, 1) := by decide +kernel
theorem dX11_within_6 : decode cX11_within 6 = .ok (.iload_n 2, 1) := by decide +kernel
theorem dX11_within_7 : decode cX11_within 7 = .ok (.if_icmp .gt 7, 3) := by decide +kernel
theorem dX11_within_10 : decode cX11_within 10 = .ok (.iconst 1, 1) := by decide +kernel
theorem dX11_within_11 : decode cX11_within 11 = .ok (.goto 4, 3) := by decide +kernel
theorem dX11_within_14 : decode cX11_within 14 = .ok (.iconst 0, 1) := by decide +kernel
theorem dX11_within_15 : decode cX11_within 15 = .ok (.ireturn, 1) := by decide +kernel
theorem dX11_isShelf_0 : decode cX11_isShelf 0 = .ok (.iload_n 0, 1) := by decide +kernel
theorem dX11_isShelf_1 : decode cX11_isShelf 1 = .ok (.iconst 0, 1) := by decide +kernel
theorem dX11_isShelf_2 : decode cX11_isShelf 2 = .ok (.iconst 5, 1) := by decide +kernel
theorem dX11_isShelf_3 : decode cX11_isShelf 3 = .ok (.invokestatic 110, 3) := by decide +kernel
theorem dX11_isShelf_6 : decode cX11_isShelf 6 = .ok (.ireturn, 1) := by decide +kernel
theorem dX11_isPair_0 : decode cX11_isPair 0 = .ok (.iload_n 1, 1) := by decide +kernel
theorem dX11_isPair_1 : decode cX11_isPair 1 = .ok (.ifCond .lt 35, 3) := by decide +kernel
theorem dX11_isPair_4 : decode cX11_isPair 4 = .ok (.aload_n 0, 1) := by decide +kernel
theorem dX11_isPair_5 : decode cX11_isPair 5 = .ok (.getfield 10, 3) := by decide +kernel
theorem dX11_isPair_8 : decode cX11_isPair 8 = .ok (.iload_n 1, 1) := by decide +kernel
theorem dX11_isPair_9 : decode cX11_isPair 9 = .ok (.bipush 10, 2) := by decide +kernel
theorem dX11_isPair_11 : decode cX11_isPair 11 = .ok (.idiv, 1) := by decide +kernel
theorem dX11_isPair_12 : decode cX11_isPair 12 = .ok (.invokevirtual 156, 3) := by decide +kernel
theorem dX11_isPair_15 : decode cX11_isPair 15 = .ok (.ifCond .eq 21, 3) := by decide +kernel
theorem dX11_isPair_18 : decode cX11_isPair 18 = .ok (.aload_n 0, 1) := by decide +kernel
theorem dX11_isPair_19 : decode cX11_isPair 19 = .ok (.getfield 10, 3) := by decide +kernel
theorem dX11_isPair_22 : decode cX11_isPair 22 = .ok (.iload_n 1, 1) := by decide +kernel
theorem dX11_isPair_23 : decode cX11_isPair 23 = .ok (.bipush 10, 2) := by decide +kernel
theorem dX11_isPair_25 : decode cX11_isPair 25 = .ok (.irem, 1) := by decide +kernel
theorem dX11_isPair_26 : decode cX11_isPair 26 = .ok (.invokevirtual 285, 3) := by decide +kernel
theorem dX11_isPair_29 : decode cX11_isPair 29 = .ok (.ifCond .eq 7, 3) := by decide +kernel
theorem dX11_isPair_32 : decode cX11_isPair 32 = .ok (.iconst 1, 1) := by decide +kernel
theorem dX11_isPair_33 : decode cX11_isPair 33 = .ok (.goto 4, 3) := by decide +kernel
theorem dX11_isPair_36 : decode cX11_isPair 36 = .ok (.iconst 0, 1) := by decide +kernel
theorem dX11_isPair_37 : decode cX11_isPair 37 = .ok (.ireturn, 1) := by decide +kernel
theorem dX11_areTwoCarriages_0 : decode cX11_areTwoCarriages 0 = .ok (.iload_n 1, 1) := by decide +kernel
theorem dX11_areTwoCarriages_1 : decode cX11_areTwoCarriages 1 = .ok (.ifCond .lt 46, 3) := by decide +kernel
theorem dX11_areTwoCarriages_4 : decode cX11_areTwoCarriages 4 = .ok (.aload_n 0, 1) := by decide +kernel
theorem dX11_areTwoCarriages_5 : decode cX11_areTwoCarriages 5 = .ok (.getfield 10, 3) := by decide +kernel
theorem dX11_areTwoCarriages_8 : decode cX11_areTwoCarriages 8 = .ok (.iload_n 1, 1) := by decide +kernel
theorem dX11_areTwoCarriages_9 : decode cX11_areTwoCarriages 9 = .ok (.bipush 10, 2) := by decide +kernel
theorem dX11_areTwoCarriages_11 : decode cX11_areTwoCarriages 11 = .ok (.idiv, 1) := by decide +kernel
theorem dX11_areTwoCarriages_12 : decode cX11_areTwoCarriages 12 = .ok (.invokevirtual 156, 3) := by decide +kernel
theorem dX11_areTwoCarriages_15 : decode cX11_areTwoCarriages 15 = .ok (.ifCond .eq 32, 3) := by decide +kernel
theorem dX11_areTwoCarriages_18 : decode cX11_areTwoCarriages 18 = .ok (.aload_n 0, 1) := by decide +kernel
theorem dX11_areTwoCarriages_19 : decode cX11_areTwoCarriages 19 = .ok (.getfield 10, 3) := by decide +kernel
theorem dX11_areTwoCarriages_22 : decode cX11_areTwoCarriages 22 = .ok (.iload_n 1, 1) := by decide +kernel
theorem dX11_areTwoCarriages_23 : decode cX11_areTwoCarriages 23 = .ok (.bipush 10, 2) := by decide +kernel
theorem dX11_areTwoCarriages_25 : decode cX11_areTwoCarriages 25 = .ok (.irem, 1) := by decide +kernel
theorem dX11_areTwoCarriages_26 : decode cX11_areTwoCarriages 26 = .ok (.invokevirtual 156, 3) := by decide +kernel
theorem dX11_areTwoCarriages_29 : decode cX11_areTwoCarriages 29 = .ok (.ifCond .eq 18, 3) := by decide +kernel
theorem dX11_areTwoCarriages_32 : decode cX11_areTwoCarriages 32 = .ok (.iload_n 1, 1) := by decide +kernel
theorem dX11_areTwoCarriages_33 : decode cX11_areTwoCarriages 33 = .ok (.bipush 10, 2) := by decide +kernel
theorem dX11_areTwoCarriages_35 : decode cX11_areTwoCarriages 35 = .ok (.idiv, 1) := by decide +kernel
theorem dX11_areTwoCarriages_36 : decode cX11_areTwoCarriages 36 = .ok (.iload_n 1, 1) := by decide +kernel
theorem dX11_areTwoCarriages_37 : decode cX11_areTwoCarriages 37 = .ok (.bipush 10, 2) := by decide +kernel
theorem dX11_areTwoCarriages_39 : decode cX11_areTwoCarriages 39 = .ok (.irem, 1) := by decide +kernel
theorem dX11_areTwoCarriages_40 : decode cX11_areTwoCarriages 40 = .ok (.if_icmp .eq 7, 3) := by decide +kernel
theorem dX11_areTwoCarriages_43 : decode cX11_areTwoCarriages 43 = .ok (.iconst 1, 1) := by decide +kernel
theorem dX11_areTwoCarriages_44 : decode cX11_areTwoCarriages 44 = .ok (.goto 4, 3) := by decide +kernel
theorem dX11_areTwoCarriages_47 : decode cX11_areTwoCarriages 47 = .ok (.iconst 0, 1) := by decide +kernel
theorem dX11_areTwoCarriages_48 : decode cX11_areTwoCarriages 48 = .ok (.ireturn, 1) := by decide +kernel
theorem dX11_areTwoPlaces_0 : decode cX11_areTwoPlaces 0 = .ok (.iload_n 1, 1) := by decide +kernel
theorem dX11_areTwoPlaces_1 : decode cX11_areTwoPlaces 1 = .ok (.ifCond .lt 46, 3) := by decide +kernel
theorem dX11_areTwoPlaces_4 : decode cX11_areTwoPlaces 4 = .ok (.aload_n 0, 1) := by decide +kernel
theorem dX11_areTwoPlaces_5 : decode cX11_areTwoPlaces 5 = .ok (.getfield 10, 3) := by decide +kernel
theorem dX11_areTwoPlaces_8 : decode cX11_areTwoPlaces 8 = .ok (.iload_n 1, 1) := by decide +kernel
theorem dX11_areTwoPlaces_9 : decode cX11_areTwoPlaces 9 = .ok (.bipush 10, 2) := by decide +kernel
theorem dX11_areTwoPlaces_11 : decode cX11_areTwoPlaces 11 = .ok (.idiv, 1) := by decide +kernel
theorem dX11_areTwoPlaces_12 : decode cX11_areTwoPlaces 12 = .ok (.invokevirtual 285, 3) := by decide +kernel
theorem dX11_areTwoPlaces_15 : decode cX11_areTwoPlaces 15 = .ok (.ifCond .eq 32, 3) := by decide +kernel
theorem dX11_areTwoPlaces_18 : decode cX11_areTwoPlaces 18 = .ok (.aload_n 0, 1) := by decide +kernel
theorem dX11_areTwoPlaces_19 : decode cX11_areTwoPlaces 19 = .ok (.getfield 10, 3) := by decide +kernel
theorem dX11_areTwoPlaces_22 : decode cX11_areTwoPlaces 22 = .ok (.iload_n 1, 1) := by decide +kernel
theorem dX11_areTwoPlaces_23 : decode cX11_areTwoPlaces 23 = .ok (.bipush 10, 2) := by decide +kernel
theorem dX11_areTwoPlaces_25 : decode cX11_areTwoPlaces 25 = .ok (.irem, 1) := by decide +kernel
theorem dX11_areTwoPlaces_26 : decode cX11_areTwoPlaces 26 = .ok (.invokevirtual 285, 3) := by decide +kernel
theorem dX11_areTwoPlaces_29 : decode cX11_areTwoPlaces 29 = .ok (.ifCond .eq 18, 3) := by decide +kernel
theorem dX11_areTwoPlaces_32 : decode cX11_areTwoPlaces 32 = .ok (.iload_n 1, 1) := by decide +kernel
theorem dX11_areTwoPlaces_33 : decode cX11_areTwoPlaces 33 = .ok (.bipush 10, 2) := by decide +kernel
theorem dX11_areTwoPlaces_35 : decode cX11_areTwoPlaces 35 = .ok (.idiv, 1) := by decide +kernel
theorem dX11_areTwoPlaces_36 : decode cX11_areTwoPlaces 36 = .ok (.iload_n 1, 1) := by decide +kernel
theorem dX11_areTwoPlaces_37 : decode cX11_areTwoPlaces 37 = .ok (.bipush 10, 2) := by decide +kernel
theorem dX11_areTwoPlaces_39 : decode cX11_areTwoPlaces 39 = .ok (.irem, 1) := by decide +kernel
theorem dX11_areTwoPlaces_40 : decode cX11_areTwoPlaces 40 = .ok (.if_icmp .eq 7, 3) := by decide +kernel
theorem dX11_areTwoPlaces_43 : decode cX11_areTwoPlaces 43 = .ok (.iconst 1, 1) := by decide +kernel
theorem dX11_areTwoPlaces_44 : decode cX11_areTwoPlaces 44 = .ok (.goto 4, 3) := by decide +kernel
theorem dX11_areTwoPlaces_47 : decode cX11_areTwoPlaces 47 = .ok (.iconst 0, 1) := by decide +kernel
theorem dX11_areTwoPlaces_48 : decode cX11_areTwoPlaces 48 = .ok (.ireturn, 1) := by decide +kernel
theorem dX11_comesFrom_0 : decode cX11_comesFrom 0 = .ok (.aload_n 1, 1) := by decide +kernel
theorem dX11_comesFrom_1 : decode cX11_comesFrom 1 = .ok (.getfield 351, 3) := by decide +kernel
theorem dX11_comesFrom_4 : decode cX11_comesFrom 4 = .ok (.iload_n 2, 1) := by decide +kernel
theorem dX11_comesFrom_5 : decode cX11_comesFrom 5 = .ok (.laload, 1) := by decide +kernel
theorem dX11_comesFrom_6 : decode cX11_comesFrom 6 = .ok (.l2i, 1) := by decide +kernel
theorem dX11_comesFrom_7 : decode cX11_comesFrom 7 = .ok (.istore_n 3, 1) := by decide +kernel
theorem dX11_comesFrom_8 : decode cX11_comesFrom 8 = .ok (.aload_n 1, 1) := by decide +kernel
theorem dX11_comesFrom_9 : decode cX11_comesFrom 9 = .ok (.getfield 351, 3) := by decide +kernel
theorem dX11_comesFrom_12 : decode cX11_comesFrom 12 = .ok (.iload_n 2, 1) := by decide +kernel
theorem dX11_comesFrom_13 : decode cX11_comesFrom 13 = .ok (.iconst 1, 1) := by decide +kernel
theorem dX11_comesFrom_14 : decode cX11_comesFrom 14 = .ok (.iadd, 1) := by decide +kernel
theorem dX11_comesFrom_15 : decode cX11_comesFrom 15 = .ok (.laload, 1) := by decide +kernel
theorem dX11_comesFrom_16 : decode cX11_comesFrom 16 = .ok (.l2i, 1) := by decide +kernel
theorem dX11_comesFrom_17 : decode cX11_comesFrom 17 = .ok (.istore 4, 2) := by decide +kernel
theorem dX11_comesFrom_19 : decode cX11_comesFrom 19 = .ok (.aload_n 1, 1) := by decide +kernel
theorem dX11_comesFrom_20 : decode cX11_comesFrom 20 = .ok (.getfield 351, 3) := by decide +kernel
theorem dX11_comesFrom_23 : decode cX11_comesFrom 23 = .ok (.iload_n 2, 1) := by decide +kernel
theorem dX11_comesFrom_24 : decode cX11_comesFrom 24 = .ok (.iconst 2, 1) := by decide +kernel
theorem dX11_comesFrom_25 : decode cX11_comesFrom 25 = .ok (.iadd, 1) := by decide +kernel
theorem dX11_comesFrom_26 : decode cX11_comesFrom 26 = .ok (.laload, 1) := by decide +kernel
theorem dX11_comesFrom_27 : decode cX11_comesFrom 27 = .ok (.l2i, 1) := by decide +kernel
theorem dX11_comesFrom_28 : decode cX11_comesFrom 28 = .ok (.istore 5, 2) := by decide +kernel
theorem dX11_comesFrom_30 : decode cX11_comesFrom 30 = .ok (.iconst 0, 1) := by decide +kernel
theorem dX11_comesFrom_31 : decode cX11_comesFrom 31 = .ok (.iload_n 3, 1) := by decide +kernel
theorem dX11_comesFrom_32 : decode cX11_comesFrom 32 = .ok (.invokestatic 98, 3) := by decide +kernel
theorem dX11_comesFrom_35 : decode cX11_comesFrom 35 = .ok (.ifCond .eq 42, 3) := by decide +kernel
theorem dX11_comesFrom_38 : decode cX11_comesFrom 38 = .ok (.iconst 1, 1) := by decide +kernel
theorem dX11_comesFrom_39 : decode cX11_comesFrom 39 = .ok (.iload 4, 2) := by decide +kernel
theorem dX11_comesFrom_41 : decode cX11_comesFrom 41 = .ok (.invokestatic 98, 3) := by decide +kernel
theorem dX11_comesFrom_44 : decode cX11_comesFrom 44 = .ok (.ifCond .eq 33, 3) := by decide +kernel
theorem dX11_comesFrom_47 : decode cX11_comesFrom 47 = .ok (.iconst 2, 1) := by decide +kernel
theorem dX11_comesFrom_48 : decode cX11_comesFrom 48 = .ok (.iload 5, 2) := by decide +kernel
theorem dX11_comesFrom_50 : decode cX11_comesFrom 50 = .ok (.invokestatic 98, 3) := by decide +kernel
theorem dX11_comesFrom_53 : decode cX11_comesFrom 53 = .ok (.ifCond .eq 24, 3) := by decide +kernel
theorem dX11_comesFrom_56 : decode cX11_comesFrom 56 = .ok (.aload_n 0, 1) := by decide +kernel
theorem dX11_comesFrom_57 : decode cX11_comesFrom 57 = .ok (.getfield 10, 3) := by decide +kernel
theorem dX11_comesFrom_60 : decode cX11_comesFrom 60 = .ok (.iload_n 3, 1) := by decide +kernel
theorem dX11_comesFrom_61 : decode cX11_comesFrom 61 = .ok (.iload 4, 2) := by decide +kernel
theorem dX11_comesFrom_63 : decode cX11_comesFrom 63 = .ok (.iload 5, 2) := by decide +kernel
theorem dX11_comesFrom_65 : decode cX11_comesFrom 65 = .ok (.invokevirtual 102, 3) := by decide +kernel
theorem dX11_comesFrom_68 : decode cX11_comesFrom 68 = .ok (.bipush (-3), 2) := by decide +kernel
theorem dX11_comesFrom_70 : decode cX11_comesFrom 70 = .ok (.if_icmp .eq 7, 3) := by decide +kernel
theorem dX11_comesFrom_73 : decode cX11_comesFrom 73 = .ok (.iconst 1, 1) := by decide +kernel
theorem dX11_comesFrom_74 : decode cX11_comesFrom 74 = .ok (.goto 4, 3) := by decide +kernel
theorem dX11_comesFrom_77 : decode cX11_comesFrom 77 = .ok (.iconst 0, 1) := by decide +kernel
theorem dX11_comesFrom_78 : decode cX11_comesFrom 78 = .ok (.ireturn, 1) := by decide +kernel
theorem dX11_refusalOfElement_0 : decode cX11_refusalOfElement 0 = .ok (.iload_n 1, 1) := by decide +kernel
theorem dX11_refusalOfElement_1 : decode cX11_refusalOfElement 1 = .ok (.invokestatic 106, 3) := by decide +kernel
theorem dX11_refusalOfElement_4 : decode cX11_refusalOfElement 4 = .ok (.ifCond .ne 5, 3) := by decide +kernel
theorem dX11_refusalOfElement_7 : decode cX11_refusalOfElement 7 = .ok (.iconst (-1), 1) := by decide +kernel
theorem dX11_refusalOfElement_8 : decode cX11_refusalOfElement 8 = .ok (.ireturn, 1) := by decide +kernel
theorem dX11_refusalOfElement_9 : decode cX11_refusalOfElement 9 = .ok (.aload_n 0, 1) := by decide +kernel
theorem dX11_refusalOfElement_10 : decode cX11_refusalOfElement 10 = .ok (.getfield 86, 3) := by decide +kernel
theorem dX11_refusalOfElement_13 : decode cX11_refusalOfElement 13 = .ok (.iload_n 1, 1) := by decide +kernel
theorem dX11_refusalOfElement_14 : decode cX11_refusalOfElement 14 = .ok (.aaload, 1) := by decide +kernel
theorem dX11_refusalOfElement_15 : decode cX11_refusalOfElement 15 = .ok (.astore_n 3, 1) := by decide +kernel
theorem dX11_refusalOfElement_16 : decode cX11_refusalOfElement 16 = .ok (.aload_n 3, 1) := by decide +kernel
theorem dX11_refusalOfElement_17 : decode cX11_refusalOfElement 17 = .ok (.getfield 114, 3) := by decide +kernel
theorem dX11_refusalOfElement_20 : decode cX11_refusalOfElement 20 = .ok (.bipush (-2), 2) := by decide +kernel
theorem dX11_refusalOfElement_22 : decode cX11_refusalOfElement 22 = .ok (.if_icmp .ne 6, 3) := by decide +kernel
theorem dX11_refusalOfElement_25 : decode cX11_refusalOfElement 25 = .ok (.bipush (-11), 2) := by decide +kernel
theorem dX11_refusalOfElement_27 : decode cX11_refusalOfElement 27 = .ok (.ireturn, 1) := by decide +kernel
theorem dX11_refusalOfElement_28 : decode cX11_refusalOfElement 28 = .ok (.aload_n 3, 1) := by decide +kernel
theorem dX11_refusalOfElement_29 : decode cX11_refusalOfElement 29 = .ok (.getfield 114, 3) := by decide +kernel
theorem dX11_refusalOfElement_32 : decode cX11_refusalOfElement 32 = .ok (.iconst (-1), 1) := by decide +kernel
theorem dX11_refusalOfElement_33 : decode cX11_refusalOfElement 33 = .ok (.if_icmp .ne 6, 3) := by decide +kernel
theorem dX11_refusalOfElement_36 : decode cX11_refusalOfElement 36 = .ok (.bipush (-12), 2) := by decide +kernel
theorem dX11_refusalOfElement_38 : decode cX11_refusalOfElement 38 = .ok (.ireturn, 1) := by decide +kernel
theorem dX11_refusalOfElement_39 : decode cX11_refusalOfElement 39 = .ok (.iload_n 2, 1) := by decide +kernel
theorem dX11_refusalOfElement_40 : decode cX11_refusalOfElement 40 = .ok (.iconst 0, 1) := by decide +kernel
theorem dX11_refusalOfElement_41 : decode cX11_refusalOfElement 41 = .ok (.aload_n 3, 1) := by decide +kernel
theorem dX11_refusalOfElement_42 : decode cX11_refusalOfElement 42 = .ok (.getfield 118, 3) := by decide +kernel
theorem dX11_refusalOfElement_45 : decode cX11_refusalOfElement 45 = .ok (.iconst 1, 1) := by decide +kernel
theorem dX11_refusalOfElement_46 : decode cX11_refusalOfElement 46 = .ok (.isub, 1) := by decide +kernel
theorem dX11_refusalOfElement_47 : decode cX11_refusalOfElement 47 = .ok (.invokestatic 110, 3) := by decide +kernel
theorem dX11_refusalOfElement_50 : decode cX11_refusalOfElement 50 = .ok (.ifCond .eq 7, 3) := by decide +kernel
theorem dX11_refusalOfElement_53 : decode cX11_refusalOfElement 53 = .ok (.iconst 0, 1) := by decide +kernel
theorem dX11_refusalOfElement_54 : decode cX11_refusalOfElement 54 = .ok (.goto 5, 3) := by decide +kernel
theorem dX11_refusalOfElement_57 : decode cX11_refusalOfElement 57 = .ok (.bipush (-13), 2) := by decide +kernel
theorem dX11_refusalOfElement_59 : decode cX11_refusalOfElement 59 = .ok (.ireturn, 1) := by decide +kernel
theorem dX12_init_0 : decode cX12_init 0 = .ok (.aload_n 0, 1) := by decide +kernel
theorem dX12_init_1 : decode cX12_init 1 = .ok (.invokespecial 3, 3) := by decide +kernel
theorem dX12_init_4 : decode cX12_init 4 = .ok (.aload_n 0, 1) := by decide +kernel
theorem dX12_init_5 : decode cX12_init 5 = .ok (.bipush 6, 2) := by decide +kernel
theorem dX12_init_7 : decode cX12_init 7 = .ok (.newarray .int, 2) := by decide +kernel
theorem dX12_init_9 : decode cX12_init 9 = .ok (.putfield 9, 3) := by decide +kernel
theorem dX12_init_12 : decode cX12_init 12 = .ok (.aload_n 0, 1) := by decide +kernel
theorem dX12_init_13 : decode cX12_init 13 = .ok (.bipush 6, 2) := by decide +kernel
theorem dX12_init_15 : decode cX12_init 15 = .ok (.newarray .int, 2) := by decide +kernel
theorem dX12_init_17 : decode cX12_init 17 = .ok (.putfield 15, 3) := by decide +kernel
theorem dX12_init_20 : decode cX12_init 20 = .ok (.aload_n 0, 1) := by decide +kernel
theorem dX12_init_21 : decode cX12_init 21 = .ok (.bipush 6, 2) := by decide +kernel
theorem dX12_init_23 : decode cX12_init 23 = .ok (.newarray .int, 2) := by decide +kernel
theorem dX12_init_25 : decode cX12_init 25 = .ok (.putfield 18, 3) := by decide +kernel
theorem dX12_init_28 : decode cX12_init 28 = .ok (.aload_n 0, 1) := by decide +kernel
theorem dX12_init_29 : decode cX12_init 29 = .ok (.bipush 6, 2) := by decide +kernel
theorem dX12_init_31 : decode cX12_init 31 = .ok (.newarray .int, 2) := by decide +kernel
theorem dX12_init_33 : decode cX12_init 33 = .ok (.putfield 21, 3) := by decide +kernel
theorem dX12_init_36 : decode cX12_init 36 = .ok (.aload_n 0, 1) := by decide +kernel
theorem dX12_init_37 : decode cX12_init 37 = .ok (.bipush 8, 2) := by decide +kernel
theorem dX12_init_39 : decode cX12_init 39 = .ok (.newarray .int, 2) := by decide +kernel
theorem dX12_init_41 : decode cX12_init 41 = .ok (.putfield 24, 3) := by decide +kernel
theorem dX12_init_44 : decode cX12_init 44 = .ok (.aload_n 0, 1) := by decide +kernel
theorem dX12_init_45 : decode cX12_init 45 = .ok (.bipush 8, 2) := by decide +kernel
theorem dX12_init_47 : decode cX12_init 47 = .ok (.newarray .int, 2) := by decide +kernel
theorem dX12_init_49 : decode cX12_init 49 = .ok (.putfield 27, 3) := by decide +kernel
theorem dX12_init_52 : decode cX12_init 52 = .ok (.aload_n 0, 1) := by decide +kernel
theorem dX12_init_53 : decode cX12_init 53 = .ok (.iconst 3, 1) := by decide +kernel
theorem dX12_init_54 : decode cX12_init 54 = .ok (.newarray .int, 2) := by decide +kernel
theorem dX12_init_56 : decode cX12_init 56 = .ok (.dup, 1) := by decide +kernel
theorem dX12_init_57 : decode cX12_init 57 = .ok (.iconst 0, 1) := by decide +kernel
theorem dX12_init_58 : decode cX12_init 58 = .ok (.iconst 1, 1) := by decide +kernel
theorem dX12_init_59 : decode cX12_init 59 = .ok (.iastore, 1) := by decide +kernel
theorem dX12_init_60 : decode cX12_init 60 = .ok (.dup, 1) := by decide +kernel
theorem dX12_init_61 : decode cX12_init 61 = .ok (.iconst 1, 1) := by decide +kernel
theorem dX12_init_62 : decode cX12_init 62 = .ok (.iconst 0, 1) := by decide +kernel
theorem dX12_init_63 : decode cX12_init 63 = .ok (.iastore, 1) := by decide +kernel
theorem dX12_init_64 : decode cX12_init 64 = .ok (.dup, 1) := by decide +kernel
theorem dX12_init_65 : decode cX12_init 65 = .ok (.iconst 2, 1) := by decide +kernel
theorem dX12_init_66 : decode cX12_init 66 = .ok (.iconst 0, 1) := by decide +kernel
theorem dX12_init_67 : decode cX12_init 67 = .ok (.iastore, 1) := by decide +kernel
theorem dX12_init_68 : decode cX12_init 68 = .ok (.putfield 30, 3) := by decide +kernel
theorem dX12_init_71 : decode cX12_init 71 = .ok (.aload_n 0, 1) := by decide +kernel
theorem dX12_init_72 : decode cX12_init 72 = .ok (.bipush 40, 2) := by decide +kernel
theorem dX12_init_74 : decode cX12_init 74 = .ok (.newarray .int, 2) := by decide +kernel
theorem dX12_init_76 : decode cX12_init 76 = .ok (.putfield 33, 3) := by decide +kernel
theorem dX12_init_79 : decode cX12_init 79 = .ok (.aload_n 0, 1) := by decide +kernel
theorem dX12_init_80 : decode cX12_init 80 = .ok (.bipush 40, 2) := by decide +kernel
theorem dX12_init_82 : decode cX12_init 82 = .ok (.newarray .int, 2) := by decide +kernel
theorem dX12_init_84 : decode cX12_init 84 = .ok (.putfield 36, 3) := by decide +kernel
theorem dX12_init_87 : decode cX12_init 87 = .ok (.aload_n 0, 1) := by decide +kernel
theorem dX12_init_88 : decode cX12_init 88 = .ok (.bipush 40, 2) := by decide +kernel
theorem dX12_init_90 : decode cX12_init 90 = .ok (.newarray .int, 2) := by decide +kernel
theorem dX12_init_92 : decode cX12_init 92 = .ok (.putfield 39, 3) := by decide +kernel
theorem dX12_init_95 : decode cX12_init 95 = .ok (.aload_n 0, 1) := by decide +kernel
theorem dX12_init_96 : decode cX12_init 96 = .ok (.bipush 40, 2) := by decide +kernel
theorem dX12_init_98 : decode cX12_init 98 = .ok (.newarray .int, 2) := by decide +kernel
theorem dX12_init_100 : decode cX12_init 100 = .ok (.putfield 42, 3) := by decide +kernel
theorem dX12_init_103 : decode cX12_init 103 = .ok (.aload_n 0, 1) := by decide +kernel
theorem dX12_init_104 : decode cX12_init 104 = .ok (.bipush 120, 2) := by decide +kernel
theorem dX12_init_106 : decode cX12_init 106 = .ok (.newarray .byte, 2) := by decide +kernel
theorem dX12_init_108 : decode cX12_init 108 = .ok (.putfield 45, 3) := by decide +kernel
theorem dX12_init_111 : decode cX12_init 111 = .ok (.aload_n 0, 1) := by decide +kernel
theorem dX12_init_112 : decode cX12_init 112 = .ok (.sipush 260, 3) := by decide +kernel
theorem dX12_init_115 : decode cX12_init 115 = .ok (.newarray .byte, 2) := by decide +kernel
theorem dX12_init_117 : decode cX12_init 117 = .ok (.putfield 49, 3) := by decide +kernel
theorem dX12_init_120 : decode cX12_init 120 = .ok (.aload_n 0, 1) := by decide +kernel
theorem dX12_init_121 : decode cX12_init 121 = .ok (.sipush 260, 3) := by decide +kernel
theorem dX12_init_124 : decode cX12_init 124 = .ok (.newarray .int, 2) := by decide +kernel
theorem dX12_init_126 : decode cX12_init 126 = .ok (.putfield 52, 3) := by decide +kernel
theorem dX12_init_129 : decode cX12_init 129 = .ok (.aload_n 0, 1) := by decide +kernel
theorem dX12_init_130 : decode cX12_init 130 = .ok (.iconst 2, 1) := by decide +kernel
theorem dX12_init_131 : decode cX12_init 131 = .ok (.newarray .int, 2) := by decide +kernel
theorem dX12_init_133 : decode cX12_init 133 = .ok (.putfield 55, 3) := by decide +kernel
theorem dX12_init_136 : decode cX12_init 136 = .ok (.aload_n 0, 1) := by decide +kernel
theorem dX12_init_137 : decode cX12_init 137 = .ok (.bipush 122, 2) := by decide +kernel
theorem dX12_init_139 : decode cX12_init 139 = .ok (.newarray .short, 2) := by decide +kernel
theorem dX12_init_141 : decode cX12_init 141 = .ok (.putfield 58, 3) := by decide +kernel
theorem dX12_init_144 : decode cX12_init 144 = .ok (.aload_n 0, 1) := by decide +kernel
theorem dX12_init_145 : decode cX12_init 145 = .ok (.bipush 122, 2) := by decide +kernel
theorem dX12_init_147 : decode cX12_init 147 = .ok (.newarray .short, 2) := by decide +kernel
theorem dX12_init_149 : decode cX12_init 149 = .ok (.putfield 62, 3) := by decide +kernel
theorem dX12_init_152 : decode cX12_init 152 = .ok (.aload_n 0, 1) := by decide +kernel
theorem dX12_init_153 : decode cX12_init 153 = .ok (.bipush 6, 2) := by decide +kernel
theorem dX12_init_155 : decode cX12_init 155 = .ok (.newarray .int, 2) := by decide +kernel
theorem dX12_init_157 : decode cX12_init 157 = .ok (.putfield 65, 3) := by decide +kernel
theorem dX12_init_160 : decode cX12_init 160 = .ok (.aload_n 0, 1) := by decide +kernel
theorem dX12_init_161 : decode cX12_init 161 = .ok (.sipush 130, 3) := by decide +kernel
theorem dX12_init_164 : decode cX12_init 164 = .ok (.newarray .int, 2) := by decide +kernel
theorem dX12_init_166 : decode cX12_init 166 = .ok (.putfield 68, 3) := by decide +kernel
theorem dX12_init_169 : decode cX12_init 169 = .ok (.aload_n 0, 1) := by decide +kernel
theorem dX12_init_170 : decode cX12_init 170 = .ok (.sipush 366, 3) := by decide +kernel
theorem dX12_init_173 : decode cX12_init 173 = .ok (.newarray .int, 2) := by decide +kernel
theorem dX12_init_175 : decode cX12_init 175 = .ok (.putfield 71, 3) := by decide +kernel
theorem dX12_init_178 : decode cX12_init 178 = .ok (.aload_n 0, 1) := by decide +kernel
theorem dX12_init_179 : decode cX12_init 179 = .ok (.sipush 3328, 3) := by decide +kernel
theorem dX12_init_182 : decode cX12_init 182 = .ok (.newarray .int, 2) := by decide +kernel
theorem dX12_init_184 : decode cX12_init 184 = .ok (.putfield 74, 3) := by decide +kernel
theorem dX12_init_187 : decode cX12_init 187 = .ok (.aload_n 0, 1) := by decide +kernel
theorem dX12_init_188 : decode cX12_init 188 = .ok (.bipush 6, 2) := by decide +kernel
theorem dX12_init_190 : decode cX12_init 190 = .ok (.newarray .int, 2) := by decide +kernel
theorem dX12_init_192 : decode cX12_init 192 = .ok (.putfield 77, 3) := by decide +kernel
theorem dX12_init_195 : decode cX12_init 195 = .ok (.aload_n 0, 1) := by decide +kernel
theorem dX12_init_196 : decode cX12_init 196 = .ok (.bipush 6, 2) := by decide +kernel
theorem dX12_init_198 : decode cX12_init 198 = .ok (.newarray .int, 2) := by decide +kernel
theorem dX12_init_200 : decode cX12_init 200 = .ok (.putfield 80, 3) := by decide +kernel
theorem dX12_init_203 : decode cX12_init 203 = .ok (.aload_n 0, 1) := by decide +kernel
theorem dX12_init_204 : decode cX12_init 204 = .ok (.iconst 5, 1) := by decide +kernel
theorem dX12_init_205 : decode cX12_init 205 = .ok (.newarray .int, 2) := by decide +kernel
theorem dX12_init_207 : decode cX12_init 207 = .ok (.putfield 83, 3) := by decide +kernel
theorem dX12_init_210 : decode cX12_init 210 = .ok (.aload_n 0, 1) := by decide +kernel
theorem dX12_init_211 : decode cX12_init 211 = .ok (.bipush 6, 2) := by decide +kernel
theorem dX12_init_213 : decode cX12_init 213 = .ok (.newarray .int, 2) := by decide +kernel
theorem dX12_init_215 : decode cX12_init 215 = .ok (.putfield 86, 3) := by decide +kernel
theorem dX12_init_218 : decode cX12_init 218 = .ok (.aload_n 0, 1) := by decide +kernel
theorem dX12_init_219 : decode cX12_init 219 = .ok (.bipush 6, 2) := by decide +kernel
theorem dX12_init_221 : decode cX12_init 221 = .ok (.newarray .int, 2) := by decide +kernel
theorem dX12_init_223 : decode cX12_init 223 = .ok (.putfield 89, 3) := by decide +kernel
theorem dX12_init_226 : decode cX12_init 226 = .ok (.aload_n 0, 1) := by decide +kernel
theorem dX12_init_227 : decode cX12_init 227 = .ok (.bipush 6, 2) := by decide +kernel
theorem dX12_init_229 : decode cX12_init 229 = .ok (.newarray .int, 2) := by decide +kernel
theorem dX12_init_231 : decode cX12_init 231 = .ok (.putfield 92, 3) := by decide +kernel
theorem dX12_init_234 : decode cX12_init 234 = .ok (.aload_n 0, 1) := by decide +kernel
theorem dX12_init_235 : decode cX12_init 235 = .ok (.iconst 5, 1) := by decide +kernel
theorem dX12_init_236 : decode cX12_init 236 = .ok (.newarray .int, 2) := by decide +kernel
theorem dX12_init_238 : decode cX12_init 238 = .ok (.putfield 95, 3) := by decide +kernel
theorem dX12_init_241 : decode cX12_init 241 = .ok (.aload_n 0, 1) := by decide +kernel
theorem dX12_init_242 : decode cX12_init 242 = .ok (.bipush 50, 2) := by decide +kernel
theorem dX12_init_244 : decode cX12_init 244 = .ok (.newarray .int, 2) := by decide +kernel
theorem dX12_init_246 : decode cX12_init 246 = .ok (.putfield 98, 3) := by decide +kernel
theorem dX12_init_249 : decode cX12_init 249 = .ok (.aload_n 0, 1) := by decide +kernel
theorem dX12_init_250 : decode cX12_init 250 = .ok (.bipush 24, 2) := by decide +kernel
theorem dX12_init_252 : decode cX12_init 252 = .ok (.newarray .int, 2) := by decide +kernel
theorem dX12_init_254 : decode cX12_init 254 = .ok (.putfield 101, 3) := by decide +kernel
theorem dX12_init_257 : decode cX12_init 257 = .ok (.aload_n 0, 1) := by decide +kernel
theorem dX12_init_258 : decode cX12_init 258 = .ok (.bipush 6, 2) := by decide +kernel
theorem dX12_init_260 : decode cX12_init 260 = .ok (.newarray .int, 2) := by decide +kernel
theorem dX12_init_262 : decode cX12_init 262 = .ok (.dup, 1) := by decide +kernel
theorem dX12_init_263 : decode cX12_init 263 = .ok (.iconst 0, 1) := by decide +kernel
theorem dX12_init_264 : decode cX12_init 264 = .ok (.iconst (-1), 1) := by decide +kernel
theorem dX12_init_265 : decode cX12_init 265 = .ok (.iastore, 1) := by decide +kernel
theorem dX12_init_266 : decode cX12_init 266 = .ok (.dup, 1) := by decide +kernel
theorem dX12_init_267 : decode cX12_init 267 = .ok (.iconst 1, 1) := by decide +kernel
theorem dX12_init_268 : decode cX12_init 268 = .ok (.iconst (-1), 1) := by decide +kernel
theorem dX12_init_269 : decode cX12_init 269 = .ok (.iastore, 1) := by decide +kernel
theorem dX12_init_270 : decode cX12_init 270 = .ok (.dup, 1) := by decide +kernel
theorem dX12_init_271 : decode cX12_init 271 = .ok (.iconst 2, 1) := by decide +kernel
theorem dX12_init_272 : decode cX12_init 272 = .ok (.iconst (-1), 1) := by decide +kernel
theorem dX12_init_273 : decode cX12_init 273 = .ok (.iastore, 1) := by decide +kernel
theorem dX12_init_274 : decode cX12_init 274 = .ok (.dup, 1) := by decide +kernel
theorem dX12_init_275 : decode cX12_init 275 = .ok (.iconst 3, 1) := by decide +kernel
theorem dX12_init_276 : decode cX12_init 276 = .ok (.iconst (-1), 1) := by decide +kernel
theorem dX12_init_277 : decode cX12_init 277 = .ok (.iastore, 1) := by decide +kernel
theorem dX12_init_278 : decode cX12_init 278 = .ok (.dup, 1) := by decide +kernel
theorem dX12_init_279 : decode cX12_init 279 = .ok (.iconst 4, 1) := by decide +kernel
theorem dX12_init_280 : decode cX12_init 280 = .ok (.iconst (-1), 1) := by decide +kernel
theorem dX12_init_281 : decode cX12_init 281 = .ok (.iastore, 1) := by decide +kernel
theorem dX12_init_282 : decode cX12_init 282 = .ok (.dup, 1) := by decide +kernel
theorem dX12_init_283 : decode cX12_init 283 = .ok (.iconst 5, 1) := by decide +kernel
theorem dX12_init_284 : decode cX12_init 284 = .ok (.iconst (-1), 1) := by decide +kernel
theorem dX12_init_285 : decode cX12_init 285 = .ok (.iastore, 1) := by decide +kernel
theorem dX12_init_286 : decode cX12_init 286 = .ok (.putfield 104, 3) := by decide +kernel
theorem dX12_init_289 : decode cX12_init 289 = .ok (.aload_n 0, 1) := by decide +kernel
theorem dX12_init_290 : decode cX12_init 290 = .ok (.bipush 6, 2) := by decide +kernel
theorem dX12_init_292 : decode cX12_init 292 = .ok (.newarray .int, 2) := by decide +kernel
theorem dX12_init_294 : decode cX12_init 294 = .ok (.putfield 107, 3) := by decide +kernel
theorem dX12_init_297 : decode cX12_init 297 = .ok (.aload_n 0, 1) := by decide +kernel
theorem dX12_init_298 : decode cX12_init 298 = .ok (.sipush 360, 3) := by decide +kernel
theorem dX12_init_301 : decode cX12_init 301 = .ok (.newarray .long, 2) := by decide +kernel
theorem dX12_init_303 : decode cX12_init 303 = .ok (.putfield 110, 3) := by decide +kernel
theorem dX12_init_306 : decode cX12_init 306 = .ok (.aload_n 0, 1) := by decide +kernel
theorem dX12_init_307 : decode cX12_init 307 = .ok (.bipush 60, 2) := by decide +kernel
theorem dX12_init_309 : decode cX12_init 309 = .ok (.newarray .long, 2) := by decide +kernel
theorem dX12_init_311 : decode cX12_init 311 = .ok (.putfield 114, 3) := by decide +kernel
theorem dX12_init_314 : decode cX12_init 314 = .ok (.return_, 1) := by decide +kernel
theorem dX12_in_0 : decode cX12_in 0 = .ok (.iload_n 0, 1) := by decide +kernel
theorem dX12_in_1 : decode cX12_in 1 = .ok (.iload_n 1, 1) := by decide +kernel
theorem dX12_in_2 : decode cX12_in 2 = .ok (.if_icmp .lt 12, 3) := by decide +kernel
theorem dX12_in_5 : decode cX12_in 5 = .ok (.iload_n 0, 1) := by decide +kernel
theorem dX12_in_6 : decode cX12_in 6 = .ok (.iload_n 2, 1) := by decide +kernel
theorem dX12_in_7 : decode cX12_in 7 = .ok (.if_icmp .gt 7, 3) := by decide +kernel
theorem dX12_in_10 : decode cX12_in 10 = .ok (.iconst 1, 1) := by decide +kernel
theorem dX12_in_11 : decode cX12_in 11 = .ok (.goto 4, 3) := by decide +kernel
theorem dX12_in_14 : decode cX12_in 14 = .ok (.iconst 0, 1) := by decide +kernel
theorem dX12_in_15 : decode cX12_in 15 = .ok (.ireturn, 1) := by decide +kernel
theorem dX12_has_0 : decode cX12_has 0 = .ok (.iload_n 0, 1) := by decide +kernel
theorem dX12_has_1 : decode cX12_has 1 = .ok (.iload_n 1, 1) := by decide +kernel
theorem dX12_has_2 : decode cX12_has 2 = .ok (.ishr, 1) := by decide +kernel
theorem dX12_has_3 : decode cX12_has 3 = .ok (.iconst 1, 1) := by decide +kernel
theorem dX12_has_4 : decode cX12_has 4 = .ok (.iand, 1) := by decide +kernel
theorem dX12_has_5 : decode cX12_has 5 = .ok (.iconst 1, 1) := by decide +kernel
theorem dX12_has_6 : decode cX12_has 6 = .ok (.if_icmp .ne 7, 3) := by decide +kernel
theorem dX12_has_9 : decode cX12_has 9 = .ok (.iconst 1, 1) := by decide +kernel
theorem dX12_has_10 : decode cX12_has 10 = .ok (.goto 4, 3) := by decide +kernel
theorem dX12_has_13 : decode cX12_has 13 = .ok (.iconst 0, 1) := by decide +kernel
theorem dX12_has_14 : decode cX12_has 14 = .ok (.ireturn, 1) := by decide +kernel
theorem dX12_bitsOf_0 : decode cX12_bitsOf 0 = .ok (.iconst 0, 1) := by decide +kernel
theorem dX12_bitsOf_1 : decode cX12_bitsOf 1 = .ok (.istore_n 1, 1) := by decide +kernel
theorem dX12_bitsOf_2 : decode cX12_bitsOf 2 = .ok (.iload_n 0, 1) := by decide +kernel
theorem dX12_bitsOf_3 : decode cX12_bitsOf 3 = .ok (.istore_n 2, 1) := by decide +kernel
theorem dX12_bitsOf_4 : decode cX12_bitsOf 4 = .ok (.iload_n 2, 1) := by decide +kernel
theorem dX12_bitsOf_5 : decode cX12_bitsOf 5 = .ok (.ifCond .eq 15, 3) := by decide +kernel
theorem dX12_bitsOf_8 : decode cX12_bitsOf 8 = .ok (.iinc 1 1, 3) := by decide +kernel
theorem dX12_bitsOf_11 : decode cX12_bitsOf 11 = .ok (.iload_n 2, 1) := by decide +kernel
theorem dX12_bitsOf_12 : decode cX12_bitsOf 12 = .ok (.iload_n 2, 1) := by decide +kernel
theorem dX12_bitsOf_13 : decode cX12_bitsOf 13 = .ok (.iconst 1, 1) := by decide +kernel
theorem dX12_bitsOf_14 : decode cX12_bitsOf 14 = .ok (.isub, 1) := by decide +kernel
theorem dX12_bitsOf_15 : decode cX12_bitsOf 15 = .ok (.iand, 1) := by decide +kernel
theorem dX12_bitsOf_16 : decode cX12_bitsOf 16 = .ok (.istore_n 2, 1) := by decide +kernel
theorem dX12_bitsOf_17 : decode cX12_bitsOf 17 = .ok (.goto (-13), 3) := by decide +kernel
theorem dX12_bitsOf_20 : decode cX12_bitsOf 20 = .ok (.iload_n 1, 1) := by decide +kernel
theorem dX12_bitsOf_21 : decode cX12_bitsOf 21 = .ok (.ireturn, 1) := by decide +kernel
theorem dX12_gap_0 : decode cX12_gap 0 = .ok (.iload_n 0, 1) := by decide +kernel
theorem dX12_gap_1 : decode cX12_gap 1 = .ok (.iload_n 1, 1) := by decide +kernel
theorem dX12_gap_2 : decode cX12_gap 2 = .ok (.if_icmp .ge 9, 3) := by decide +kernel
theorem dX12_gap_5 : decode cX12_gap 5 = .ok (.iload_n 1, 1) := by decide +kernel
theorem dX12_gap_6 : decode cX12_gap 6 = .ok (.iload_n 0, 1) := by decide +kernel
theorem dX12_gap_7 : decode cX12_gap 7 = .ok (.isub, 1) := by decide +kernel
theorem dX12_gap_8 : decode cX12_gap 8 = .ok (.goto 6, 3) := by decide +kernel
theorem dX12_gap_11 : decode cX12_gap 11 = .ok (.iload_n 0, 1) := by decide +kernel
theorem dX12_gap_12 : decode cX12_gap 12 = .ok (.iload_n 1, 1) := by decide +kernel
theorem dX12_gap_13 : decode cX12_gap 13 = .ok (.isub, 1) := by decide +kernel
theorem dX12_gap_14 : decode cX12_gap 14 = .ok (.ireturn, 1) := by decide +kernel
theorem dX12_apart_0 : decode cX12_apart 0 = .ok (.iload_n 0, 1) := by decide +kernel
theorem dX12_apart_1 : decode cX12_apart 1 = .ok (.bipush 16, 2) := by decide +kernel
theorem dX12_apart_3 : decode cX12_apart 3 = .ok (.irem, 1) := by decide +kernel
theorem dX12_apart_4 : decode cX12_apart 4 = .ok (.iload_n 1, 1) := by decide +kernel
theorem dX12_apart_5 : decode cX12_apart 5 = .ok (.bipush 16, 2) := by decide +kernel
theorem dX12_apart_7 : decode cX12_apart 7 = .ok (.irem, 1) := by decide +kernel
theorem dX12_apart_8 : decode cX12_apart 8 = .ok (.invokestatic 121, 3) := by decide +kernel
theorem dX12_apart_11 : decode cX12_apart 11 = .ok (.istore_n 2, 1) := by decide +kernel
theorem dX12_apart_12 : decode cX12_apart 12 = .ok (.iload_n 0, 1) := by decide +kernel
theorem dX12_apart_13 : decode cX12_apart 13 = .ok (.bipush 16, 2) := by decide +kernel
theorem dX12_apart_15 : decode cX12_apart 15 = .ok (.idiv, 1) := by decide +kernel
theorem dX12_apart_16 : decode cX12_apart 16 = .ok (.iload_n 1, 1) := by decide +kernel
theorem dX12_apart_17 : decode cX12_apart 17 = .ok (.bipush 16, 2) := by decide +kernel
theorem dX12_apart_19 : decode cX12_apart 19 = .ok (.idiv, 1) := by decide +kernel
theorem dX12_apart_20 : decode cX12_apart 20 = .ok (.invokestatic 121, 3) := by decide +kernel
theorem dX12_apart_23 : decode cX12_apart 23 = .ok (.istore_n 3, 1) := by decide +kernel
theorem dX12_apart_24 : decode cX12_apart 24 = .ok (.iload_n 2, 1) := by decide +kernel
theorem dX12_apart_25 : decode cX12_apart 25 = .ok (.iload_n 3, 1) := by decide +kernel
theorem dX12_apart_26 : decode cX12_apart 26 = .ok (.if_icmp .le 7, 3) := by decide +kernel
theorem dX12_apart_29 : decode cX12_apart 29 = .ok (.iload_n 2, 1) := by decide +kernel
theorem dX12_apart_30 : decode cX12_apart 30 = .ok (.goto 4, 3) := by decide +kernel
theorem dX12_apart_33 : decode cX12_apart 33 = .ok (.iload_n 3, 1) := by decide +kernel
theorem dX12_apart_34 : decode cX12_apart 34 = .ok (.ireturn, 1) := by decide +kernel
theorem dX12_isCarriage_0 : decode cX12_isCarriage 0 = .ok (.iload_n 1, 1) := by decide +kernel
theorem dX12_isCarriage_1 : decode cX12_isCarriage 1 = .ok (.iconst 0, 1) := by decide +kernel
theorem dX12_isCarriage_2 : decode cX12_isCarriage 2 = .ok (.aload_n 0, 1) := by decide +kernel
theorem dX12_isCarriage_3 : decode cX12_isCarriage 3 = .ok (.getfield 125, 3) := by decide +kernel
theorem dX12_isCarriage_6 : decode cX12_isCarriage 6 = .ok (.iconst 1, 1) := by decide +kernel
theorem dX12_isCarriage_7 : decode cX12_isCarriage 7 = .ok (.isub, 1) := by decide +kernel
theorem dX12_isCarriage_8 : decode cX12_isCarriage 8 = .ok (.invokestatic 128, 3) := by decide +kernel
theorem dX12_isCarriage_11 : decode cX12_isCarriage 11 = .ok (.ireturn, 1) := by decide +kernel
theorem dX12_isPlace_0 : decode cX12_isPlace 0 = .ok (.iload_n 1, 1) := by decide +kernel
theorem dX12_isPlace_1 : decode cX12_isPlace 1 = .ok (.iconst 0, 1) := by decide +kernel
theorem dX12_isPlace_2 : decode cX12_isPlace 2 = .ok (.aload_n 0, 1) := by decide +kernel
theorem dX12_isPlace_3 : decode cX12_isPlace 3 = .ok (.getfield 132, 3) := by decide +kernel
theorem dX12_isPlace_6 : decode cX12_isPlace 6 = .ok (.iconst 1, 1) := by decide +kernel
theorem dX12_isPlace_7 : decode cX12_isPlace 7 = .ok (.isub, 1) := by decide +kernel
theorem dX12_isPlace_8 : decode cX12_isPlace 8 = .ok (.invokestatic 128, 3) := by decide +kernel
theorem dX12_isPlace_11 : decode cX12_isPlace 11 = .ok (.ireturn, 1) := by decide +kernel
theorem dX12_isCell_0 : decode cX12_isCell 0 = .ok (.iload_n 0, 1) := by decide +kernel
theorem dX12_isCell_1 : decode cX12_isCell 1 = .ok (.iconst 0, 1) := by decide +kernel
theorem dX12_isCell_2 : decode cX12_isCell 2 = .ok (.sipush 255, 3) := by decide +kernel
theorem dX12_isCell_5 : decode cX12_isCell 5 = .ok (.invokestatic 128, 3) := by decide +kernel
theorem dX12_isCell_8 : decode cX12_isCell 8 = .ok (.ireturn, 1) := by decide +kernel
theorem dX12_areNear_0 : decode cX12_areNear 0 = .ok (.iload_n 1, 1) := by decide +kernel
theorem dX12_areNear_1 : decode cX12_areNear 1 = .ok (.ifCond .lt 29, 3) := by decide +kernel
theorem dX12_areNear_4 : decode cX12_areNear 4 = .ok (.aload_n 0, 1) := by decide +kernel
theorem dX12_areNear_5 : decode cX12_areNear 5 = .ok (.iload_n 1, 1) := by decide +kernel
theorem dX12_areNear_6 : decode cX12_areNear 6 = .ok (.bipush 10, 2) := by decide +kernel
theorem dX12_areNear_8 : decode cX12_areNear 8 = .ok (.idiv, 1) := by decide +kernel
theorem dX12_areNear_9 : decode cX12_areNear 9 = .ok (.invokevirtual 135, 3) := by decide +kernel
theorem dX12_areNear_12 : decode cX12_areNear 12 = .ok (.ifCond .eq 18, 3) := by decide +kernel
theorem dX12_areNear_15 : decode cX12_areNear 15 = .ok (.aload_n 0, 1) := by decide +kernel
theorem dX12_areNear_16 : decode cX12_areNear 16 = .ok (.iload_n 1, 1) := by decide +kernel
theorem dX12_areNear_17 : decode cX12_areNear 17 = .ok (.bipush 10, 2) := by decide +kernel
theorem dX12_areNear_19 : decode cX12_areNear 19 = .ok (.irem, 1) := by decide +kernel
theorem dX12_areNear_20 : decode cX12_areNear 20 = .ok (.invokevirtual 139, 3) := by decide +kernel
theorem dX12_areNear_23 : decode cX12_areNear 23 = .ok (.ifCond .eq 7, 3) := by decide +kernel
theorem dX12_areNear_26 : decode cX12_areNear 26 = .ok (.iconst 1, 1) := by decide +kernel
theorem dX12_areNear_27 : decode cX12_areNear 27 = .ok (.goto 4, 3) := by decide +kernel
theorem dX12_areNear_30 : decode cX12_areNear 30 = .ok (.iconst 0, 1) := by decide +kernel
theorem dX12_areNear_31 : decode cX12_areNear 31 = .ok (.ireturn, 1) := by decide +kernel
theorem dX12_areTwo_0 : decode cX12_areTwo 0 = .ok (.iload_n 1, 1) := by decide +kernel
theorem dX12_areTwo_1 : decode cX12_areTwo 1 = .ok (.ifCond .lt 40, 3) := by decide +kernel
theorem dX12_areTwo_4 : decode cX12_areTwo 4 = .ok (.aload_n 0, 1) := by decide +kernel
theorem dX12_areTwo_5 : decode cX12_areTwo 5 = .ok (.iload_n 1, 1) := by decide +kernel
theorem dX12_areTwo_6 : decode cX12_areTwo 6 = .ok (.bipush 10, 2) := by decide +kernel
theorem dX12_areTwo_8 : decode cX12_areTwo 8 = .ok (.idiv, 1) := by decide +kernel
theorem dX12_areTwo_9 : decode cX12_areTwo 9 = .ok (.invokevirtual 135, 3) := by decide +kernel
theorem dX12_areTwo_12 : decode cX12_areTwo 12 = .ok (.ifCond .eq 29, 3) := by decide +kernel
theorem dX12_areTwo_15 : decode cX12_areTwo 15 = .ok (.aload_n 0, 1) := by decide +kernel
theorem dX12_areTwo_16 : decode cX12_areTwo 16 = .ok (.iload_n 1, 1) := by decide +kernel
theorem dX12_areTwo_17 : decode cX12_areTwo 17 = .ok (.bipush 10, 2) := by decide +kernel
theorem dX12_areTwo_19 : decode cX12_areTwo 19 = .ok (.irem, 1) := by decide +kernel
theorem dX12_areTwo_20 : decode cX12_areTwo 20 = .ok (.invokevirtual 135, 3) := by decide +kernel
theorem dX12_areTwo_23 : decode cX12_areTwo 23 = .ok (.ifCond .eq 18, 3) := by decide +kernel
theorem dX12_areTwo_26 : decode cX12_areTwo 26 = .ok (.iload_n 1, 1) := by decide +kernel
theorem dX12_areTwo_27 : decode cX12_areTwo 27 = .ok (.bipush 10, 2) := by decide +kernel
theorem dX12_areTwo_29 : decode cX12_areTwo 29 = .ok (.idiv, 1) := by decide +kernel
theorem dX12_areTwo_30 : decode cX12_areTwo 30 = .ok (.iload_n 1, 1) := by decide +kernel
theorem dX12_areTwo_31 : decode cX12_areTwo 31 = .ok (.bipush 10, 2) := by decide +kernel
theorem dX12_areTwo_33 : decode cX12_areTwo 33 = .ok (.irem, 1) := by decide +kernel
theorem dX12_areTwo_34 : decode cX12_areTwo 34 = .ok (.if_icmp .eq 7, 3) := by decide +kernel
theorem dX12_areTwo_37 : decode cX12_areTwo 37 = .ok (.iconst 1, 1) := by decide +kernel
theorem dX12_areTwo_38 : decode cX12_areTwo 38 = .ok (.goto 4, 3) := by decide +kernel
theorem dX12_areTwo_41 : decode cX12_areTwo 41 = .ok (.iconst 0, 1) := by decide +kernel
theorem dX12_areTwo_42 : decode cX12_areTwo 42 = .ok (.ireturn, 1) := by decide +kernel
theorem dX12_addCarriage_0 : decode cX12_addCarriage 0 = .ok (.aload_n 0, 1) := by decide +kernel
theorem dX12_addCarriage_1 : decode cX12_addCarriage 1 = .ok (.getfield 9, 3) := by decide +kernel
theorem dX12_addCarriage_4 : decode cX12_addCarriage 4 = .ok (.aload_n 0, 1) := by decide +kernel
theorem dX12_addCarriage_5 : decode cX12_addCarriage 5 = .ok (.getfield 125, 3) := by decide +kernel
theorem dX12_addCarriage_8 : decode cX12_addCarriage 8 = .ok (.iload_n 1, 1) := by decide +kernel
theorem dX12_addCarriage_9 : decode cX12_addCarriage 9 = .ok (.iastore, 1) := by decide +kernel
theorem dX12_addCarriage_10 : decode cX12_addCarriage 10 = .ok (.aload_n 0, 1) := by decide +kernel
theorem dX12_addCarriage_11 : decode cX12_addCarriage 11 = .ok (.getfield 15, 3) := by decide +kernel
theorem dX12_addCarriage_14 : decode cX12_addCarriage 14 = .ok (.aload_n 0, 1) := by decide +kernel
theorem dX12_addCarriage_15 : decode cX12_addCarriage 15 = .ok (.getfield 125, 3) := by decide +kernel
theorem dX12_addCarriage_18 : decode cX12_addCarriage 18 = .ok (.iload_n 2, 1) := by decide +kernel
theorem dX12_addCarriage_19 : decode cX12_addCarriage 19 = .ok (.iastore, 1) := by decide +kernel
theorem dX12_addCarriage_20 : decode cX12_addCarriage 20 = .ok (.aload_n 0, 1) := by decide +kernel
theorem dX12_addCarriage_21 : decode cX12_addCarriage 21 = .ok (.getfield 18, 3) := by decide +kernel
theorem dX12_addCarriage_24 : decode cX12_addCarriage 24 = .ok (.aload_n 0, 1) := by decide +kernel
theorem dX12_addCarriage_25 : decode cX12_addCarriage 25 = .ok (.getfield 125, 3) := by decide +kernel
theorem dX12_addCarriage_28 : decode cX12_addCarriage 28 = .ok (.iload_n 3, 1) := by decide +kernel
theorem dX12_addCarriage_29 : decode cX12_addCarriage 29 = .ok (.iastore, 1) := by decide +kernel
theorem dX12_addCarriage_30 : decode cX12_addCarriage 30 = .ok (.aload_n 0, 1) := by decide +kernel
theorem dX12_addCarriage_31 : decode cX12_addCarriage 31 = .ok (.getfield 21, 3) := by decide +kernel
theorem dX12_addCarriage_34 : decode cX12_addCarriage 34 = .ok (.aload_n 0, 1) := by decide +kernel
theorem dX12_addCarriage_35 : decode cX12_addCarriage 35 = .ok (.getfield 125, 3) := by decide +kernel
theorem dX12_addCarriage_38 : decode cX12_addCarriage 38 = .ok (.bipush 9, 2) := by decide +kernel
theorem dX12_addCarriage_40 : decode cX12_addCarriage 40 = .ok (.iastore, 1) := by decide +kernel
theorem dX12_addCarriage_41 : decode cX12_addCarriage 41 = .ok (.aload_n 0, 1) := by decide +kernel
theorem dX12_addCarriage_42 : decode cX12_addCarriage 42 = .ok (.dup, 1) := by decide +kernel
theorem dX12_addCarriage_43 : decode cX12_addCarriage 43 = .ok (.getfield 125, 3) := by decide +kernel
theorem dX12_addCarriage_46 : decode cX12_addCarriage 46 = .ok (.iconst 1, 1) := by decide +kernel
theorem dX12_addCarriage_47 : decode cX12_addCarriage 47 = .ok (.iadd, 1) := by decide +kernel
theorem dX12_addCarriage_48 : decode cX12_addCarriage 48 = .ok (.putfield 125, 3) := by decide +kernel
theorem dX12_addCarriage_51 : decode cX12_addCarriage 51 = .ok (.aload_n 0, 1) := by decide +kernel
theorem dX12_addCarriage_52 : decode cX12_addCarriage 52 = .ok (.getfield 125, 3) := by decide +kernel
theorem dX12_addCarriage_55 : decode cX12_addCarriage 55 = .ok (.iconst 1, 1) := by decide +kernel
theorem dX12_addCarriage_56 : decode cX12_addCarriage 56 = .ok (.isub, 1) := by decide +kernel
theorem dX12_addCarriage_57 : decode cX12_addCarriage 57 = .ok (.ireturn, 1) := by decide +kernel
theorem dX12_carriage_0 : decode cX12_carriage 0 = .ok (.iload_n 1, 1) := by decide +kernel
theorem dX12_carriage_1 : decode cX12_carriage 1 = .ok (.invokestatic 142, 3) := by decide +kernel
theorem dX12_carriage_4 : decode cX12_carriage 4 = .ok (.ifCond .eq 13, 3) := by decide +kernel
theorem dX12_carriage_7 : decode cX12_carriage 7 = .ok (.iload_n 2, 1) := by decide +kernel
theorem dX12_carriage_8 : decode cX12_carriage 8 = .ok (.iconst 0, 1) := by decide +kernel
theorem dX12_carriage_9 : decode cX12_carriage 9 = .ok (.bipush 7, 2) := by decide +kernel
theorem dX12_carriage_11 : decode cX12_carriage 11 = .ok (.invokestatic 128, 3) := by decide +kernel
theorem dX12_carriage_14 : decode cX12_carriage 14 = .ok (.ifCond .ne 5, 3) := by decide +kernel
theorem dX12_carriage_17 : decode cX12_carriage 17 = .ok (.iconst (-1), 1) := by decide +kernel
theorem dX12_carriage_18 : decode cX12_carriage 18 = .ok (.ireturn, 1) := by decide +kernel
theorem dX12_carriage_19 : decode cX12_carriage 19 = .ok (.aload_n 0, 1) := by decide +kernel
theorem dX12_carriage_20 : decode cX12_carriage 20 = .ok (.getfield 125, 3) := by decide +kernel
theorem dX12_carriage_23 : decode cX12_carriage 23 = .ok (.bipush 6, 2) := by decide +kernel
theorem dX12_carriage_25 : decode cX12_carriage 25 = .ok (.if_icmp .ne 8, 3) := by decide +kernel
theorem dX12_carriage_28 : decode cX12_carriage 28 = .ok (.bipush (-3), 2) := by decide +kernel
theorem dX12_carriage_30 : decode cX12_carriage 30 = .ok (.goto 10, 3) := by decide +kernel
theorem dX12_carriage_33 : decode cX12_carriage 33 = .ok (.aload_n 0, 1) := by decide +kernel
theorem dX12_carriage_34 : decode cX12_carriage 34 = .ok (.iload_n 1, 1) := by decide +kernel
theorem dX12_carriage_35 : decode cX12_carriage 35 = .ok (.iload_n 2, 1) := by decide +kernel
theorem dX12_carriage_36 : decode cX12_carriage 36 = .ok (.iconst 1, 1) := by decide +kernel
theorem dX12_carriage_37 : decode cX12_carriage 37 = .ok (.invokevirtual 145, 3) := by decide +kernel
theorem dX12_carriage_40 : decode cX12_carriage 40 = .ok (.ireturn, 1) := by decide +kernel
theorem dX12_carriages_0 : decode cX12_carriages 0 = .ok (.iload_n 1, 1) := by decide +kernel
theorem dX12_carriages_1 : decode cX12_carriages 1 = .ok (.invokestatic 149, 3) := by decide +kernel
theorem dX12_carriages_4 : decode cX12_carriages 4 = .ok (.ifCond .eq 13, 3) := by decide +kernel
theorem dX12_carriages_7 : decode cX12_carriages 7 = .ok (.iload_n 3, 1) := by decide +kernel
theorem dX12_carriages_8 : decode cX12_carriages 8 = .ok (.iconst 1, 1) := by decide +kernel
theorem dX12_carriages_9 : decode cX12_carriages 9 = .ok (.bipush 6, 2) := by decide +kernel
theorem dX12_carriages_11 : decode cX12_carriages 11 = .ok (.invokestatic 128, 3) := by decide +kernel
theorem dX12_carriages_14 : decode cX12_carriages 14 = .ok (.ifCond .ne 5, 3) := by decide +kernel
theorem dX12_carriages_17 : decode cX12_carriages 17 = .ok (.iconst (-1), 1) := by decide +kernel
theorem dX12_carriages_18 : decode cX12_carriages 18 = .ok (.ireturn, 1) := by decide +kernel
theorem dX12_carriages_19 : decode cX12_carriages 19 = .ok (.aload_n 0, 1) := by decide +kernel
theorem dX12_carriages_20 : decode cX12_carriages 20 = .ok (.getfield 104, 3) := by decide +kernel
theorem dX12_carriages_23 : decode cX12_carriages 23 = .ok (.iload_n 1, 1) := by decide +kernel
theorem dX12_carriages_24 : decode cX12_carriages 24 = .ok (.iaload, 1) := by decide +kernel
theorem dX12_carriages_25 : decode cX12_carriages 25 = .ok (.iconst (-1), 1) := by decide +kernel
theorem dX12_carriages_26 : decode cX12_carriages 26 = .ok (.if_icmp .eq 17, 3) := by decide +kernel
theorem dX12_carriages_29 : decode cX12_carriages 29 = .ok (.aload_n 0, 1) := by decide +kernel
theorem dX12_carriages_30 : decode cX12_carriages 30 = .ok (.getfield 104, 3) := by decide +kernel
theorem dX12_carriages_33 : decode cX12_carriages 33 = .ok (.iload_n 1, 1) := by decide +kernel
theorem dX12_carriages_34 : decode cX12_carriages 34 = .ok (.iaload, 1) := by decide +kernel
theorem dX12_carriages_35 : decode cX12_carriages 35 = .ok (.bipush (-3), 2) := by decide +kernel
theorem dX12_carriages_37 : decode cX12_carriages 37 = .ok (.if_icmp .eq 6, 3) := by decide +kernel
theorem dX12_carriages_40 : decode cX12_carriages 40 = .ok (.bipush (-12), 2) := by decide +kernel
theorem dX12_carriages_42 : decode cX12_carriages 42 = .ok (.ireturn, 1) := by decide +kernel
theorem dX12_carriages_43 : decode cX12_carriages 43 = .ok (.aload_n 0, 1) := by decide +kernel
theorem dX12_carriages_44 : decode cX12_carriages 44 = .ok (.getfield 104, 3) := by decide +kernel
theorem dX12_carriages_47 : decode cX12_carriages 47 = .ok (.iload_n 1, 1) := by decide +kernel
theorem dX12_carriages_48 : decode cX12_carriages 48 = .ok (.iaload, 1) := by decide +kernel
theorem dX12_carriages_49 : decode cX12_carriages 49 = .ok (.iconst (-1), 1) := by decide +kernel
theorem dX12_carriages_50 : decode cX12_carriages 50 = .ok (.if_icmp .ne 5, 3) := by decide +kernel
theorem dX12_carriages_53 : decode cX12_carriages 53 = .ok (.iconst 0, 1) := by decide +kernel
theorem dX12_carriages_54 : decode cX12_carriages 54 = .ok (.ireturn, 1) := by decide +kernel
theorem dX12_carriages_55 : decode cX12_carriages 55 = .ok (.iconst 0, 1) := by decide +kernel
theorem dX12_carriages_56 : decode cX12_carriages 56 = .ok (.istore 4, 2) := by decide +kernel
theorem dX12_carriages_58 : decode cX12_carriages 58 = .ok (.iload 4, 2) := by decide +kernel
theorem dX12_carriages_60 : decode cX12_carriages 60 = .ok (.iload_n 3, 1) := by decide +kernel
theorem dX12_carriages_61 : decode cX12_carriages 61 = .ok (.if_icmp .ge 152, 3) := by decide +kernel
theorem dX12_carriages_64 : decode cX12_carriages 64 = .ok (.iload_n 2, 1) := by decide +kernel
theorem dX12_carriages_65 : decode cX12_carriages 65 = .ok (.i2l, 1) := by decide +kernel
theorem dX12_carriages_66 : decode cX12_carriages 66 = .ok (.iconst 3, 1) := by decide +kernel
theorem dX12_carriages_67 : decode cX12_carriages 67 = .ok (.iload 4, 2) := by decide +kernel
theorem dX12_carriages_69 : decode cX12_carriages 69 = .ok (.imul, 1) := by decide +kernel
theorem dX12_carriages_70 : decode cX12_carriages 70 = .ok (.i2l, 1) := by decide +kernel
theorem dX12_carriages_71 : decode cX12_carriages 71 = .ok (.ladd, 1) := by decide +kernel
theorem dX12_carriages_72 : decode cX12_carriages 72 = .ok (.lstore 5, 2) := by decide +kernel
theorem dX12_carriages_74 : decode cX12_carriages 74 = .ok (.lload 5, 2) := by decide +kernel
theorem dX12_carriages_76 : decode cX12_carriages 76 = .ok (.lconst 0, 1) := by decide +kernel
theorem dX12_carriages_77 : decode cX12_carriages 77 = .ok (.lcmp, 1) := by decide +kernel
theorem dX12_carriages_78 : decode cX12_carriages 78 = .ok (.ifCond .lt 29, 3) := by decide +kernel
theorem dX12_carriages_81 : decode cX12_carriages 81 = .ok (.lload 5, 2) := by decide +kernel
theorem dX12_carriages_83 : decode cX12_carriages 83 = .ok (.ldc2_w 152, 3) := by decide +kernel
theorem dX12_carriages_86 : decode cX12_carriages 86 = .ok (.ladd, 1) := by decide +kernel
theorem dX12_carriages_87 : decode cX12_carriages 87 = .ok (.aload_n 0, 1) := by decide +kernel
theorem dX12_carriages_88 : decode cX12_carriages 88 = .ok (.getfield 107, 3) := by decide +kernel
theorem dX12_carriages_91 : decode cX12_carriages 91 = .ok (.iload_n 1, 1) := by decide +kernel
theorem dX12_carriages_92 : decode cX12_carriages 92 = .ok (.iaload, 1) := by decide +kernel
theorem dX12_carriages_93 : decode cX12_carriages 93 = .ok (.i2l, 1) := by decide +kernel
theorem dX12_carriages_94 : decode cX12_carriages 94 = .ok (.lcmp, 1) := by decide +kernel
theorem dX12_carriages_95 : decode cX12_carriages 95 = .ok (.ifCond .ge 12, 3) := by decide +kernel
theorem dX12_carriages_98 : decode cX12_carriages 98 = .ok (.aload_n 0, 1) := by decide +kernel
theorem dX12_carriages_99 : decode cX12_carriages 99 = .ok (.getfield 125, 3) := by decide +kernel
theorem dX12_carriages_102 : decode cX12_carriages 102 = .ok (.bipush 6, 2) := by decide +kernel
theorem dX12_carriages_104 : decode cX12_carriages 104 = .ok (.if_icmp .ne 6, 3) := by decide +kernel
theorem dX12_carriages_107 : decode cX12_carriages 107 = .ok (.iload 4, 2) := by decide +kernel
theorem dX12_carriages_109 : decode cX12_carriages 109 = .ok (.ireturn, 1) := by decide +kernel
theorem dX12_carriages_110 : decode cX12_carriages 110 = .ok (.bipush 60, 2) := by decide +kernel
theorem dX12_carriages_112 : decode cX12_carriages 112 = .ok (.iload_n 1, 1) := by decide +kernel
theorem dX12_carriages_113 : decode cX12_carriages 113 = .ok (.imul, 1) := by decide +kernel
theorem dX12_carriages_114 : decode cX12_carriages 114 = .ok (.lload 5, 2) := by decide +kernel
theorem dX12_carriages_116 : decode cX12_carriages 116 = .ok (.l2i, 1) := by decide +kernel
theorem dX12_carriages_117 : decode cX12_carriages 117 = .ok (.iadd, 1) := by decide +kernel
theorem dX12_carriages_118 : decode cX12_carriages 118 = .ok (.istore 7, 2) := by decide +kernel
theorem dX12_carriages_120 : decode cX12_carriages 120 = .ok (.aload_n 0, 1) := by decide +kernel
theorem dX12_carriages_121 : decode cX12_carriages 121 = .ok (.getfield 110, 3) := by decide +kernel
theorem dX12_carriages_124 : decode cX12_carriages 124 = .ok (.iload 7, 2) := by decide +kernel
theorem dX12_carriages_126 : decode cX12_carriages 126 = .ok (.laload, 1) := by decide +kernel
theorem dX12_carriages_127 : decode cX12_carriages 127 = .ok (.l2i, 1) := by decide +kernel
theorem dX12_carriages_128 : decode cX12_carriages 128 = .ok (.invokestatic 142, 3) := by decide +kernel
theorem dX12_carriages_131 : decode cX12_carriages 131 = .ok (.ifCond .eq 40, 3) := by decide +kernel
theorem dX12_carriages_134 : decode cX12_carriages 134 = .ok (.aload_n 0, 1) := by decide +kernel
theorem dX12_carriages_135 : decode cX12_carriages 135 = .ok (.getfield 110, 3) := by decide +kernel
theorem dX12_carriages_138 : decode cX12_carriages 138 = .ok (.iload 7, 2) := by decide +kernel
theorem dX12_carriages_140 : decode cX12_carriages 140 = .ok (.iconst 1, 1) := by decide +kernel
theorem dX12_carriages_141 : decode cX12_carriages 141 = .ok (.iadd, 1) := by decide +kernel
theorem dX12_carriages_142 : decode cX12_carriages 142 = .ok (.laload, 1) := by decide +kernel
theorem dX12_carriages_143 : decode cX12_carriages 143 = .ok (.l2i, 1) := by decide +kernel
theorem dX12_carriages_144 : decode cX12_carriages 144 = .ok (.iconst 0, 1) := by decide +kernel
theorem dX12_carriages_145 : decode cX12_carriages 145 = .ok (.bipush 7, 2) := by decide +kernel
theorem dX12_carriages_147 : decode cX12_carriages 147 = .ok (.invokestatic 128, 3) := by decide +kernel
theorem dX12_carriages_150 : decode cX12_carriages 150 = .ok (.ifCond .eq 21, 3) := by decide +kernel
theorem dX12_carriages_153 : decode cX12_carriages 153 = .ok (.aload_n 0, 1) := by decide +kernel
theorem dX12_carriages_154 : decode cX12_carriages 154 = .ok (.getfield 110, 3) := by decide +kernel
theorem dX12_carriages_157 : decode cX12_carriages 157 = .ok (.iload 7, 2) := by decide +kernel
theorem dX12_carriages_159 : decode cX12_carriages 159 = .ok (.iconst 2, 1) := by decide +kernel
theorem dX12_carriages_160 : decode cX12_carriages 160 = .ok (.iadd, 1) := by decide +kernel
theorem dX12_carriages_161 : decode cX12_carriages 161 = .ok (.laload, 1) := by decide +kernel
theorem dX12_carriages_162 : decode cX12_carriages 162 = .ok (.l2i, 1) := by decide +kernel
theorem dX12_carriages_163 : decode cX12_carriages 163 = .ok (.iconst 1, 1) := by decide +kernel
theorem dX12_carriages_164 : decode cX12_carriages 164 = .ok (.iconst 4, 1) := by decide +kernel
theorem dX12_carriages_165 : decode cX12_carriages 165 = .ok (.invokestatic 128, 3) := by decide +kernel
theorem dX12_carriages_168 : decode cX12_carriages 168 = .ok (.ifCond .ne 6, 3) := by decide +kernel
theorem dX12_carriages_171 : decode cX12_carriages 171 = .ok (.iload 4, 2) := by decide +kernel
theorem dX12_carriages_173 : decode cX12_carriages 173 = .ok (.ireturn, 1) := by decide +kernel
theorem dX12_carriages_174 : decode cX12_carriages 174 = .ok (.aload_n 0, 1) := by decide +kernel
theorem dX12_carriages_175 : decode cX12_carriages 175 = .ok (.aload_n 0, 1) := by decide +kernel
theorem dX12_carriages_176 : decode cX12_carriages 176 = .ok (.getfield 110, 3) := by decide +kernel
theorem dX12_carriages_179 : decode cX12_carriages 179 = .ok (.iload 7, 2) := by decide +kernel
theorem dX12_carriages_181 : decode cX12_carriages 181 = .ok (.laload, 1) := by decide +kernel
theorem dX12_carriages_182 : decode cX12_carriages 182 = .ok (.l2i, 1) := by decide +kernel
theorem dX12_carriages_183 : decode cX12_carriages 183 = .ok (.aload_n 0, 1) := by decide +kernel
theorem dX12_carriages_184 : decode cX12_carriages 184 = .ok (.getfield 110, 3) := by decide +kernel
theorem dX12_carriages_187 : decode cX12_carriages 187 = .ok (.iload 7, 2) := by decide +kernel
theorem dX12_carriages_189 : decode cX12_carriages 189 = .ok (.iconst 1, 1) := by decide +kernel
theorem dX12_carriages_190 : decode cX12_carriages 190 = .ok (.iadd, 1) := by decide +kernel
theorem dX12_carriages_191 : decode cX12_carriages 191 = .ok (.laload, 1) := by decide +kernel
theorem dX12_carriages_192 : decode cX12_carriages 192 = .ok (.l2i, 1) := by decide +kernel
theorem dX12_carriages_193 : decode cX12_carriages 193 = .ok (.aload_n 0, 1) := by decide +kernel
theorem dX12_carriages_194 : decode cX12_carriages 194 = .ok (.getfield 110, 3) := by decide +kernel
theorem dX12_carriages_197 : decode cX12_carriages 197 = .ok (.iload 7, 2) := by decide +kernel
theorem dX12_carriages_199 : decode cX12_carriages 199 = .ok (.iconst 2, 1) := by decide +kernel
theorem dX12_carriages_200 : decode cX12_carriages 200 = .ok (.iadd, 1) := by decide +kernel
theorem dX12_carriages_201 : decode cX12_carriages 201 = .ok (.laload, 1) := by decide +kernel
theorem dX12_carriages_202 : decode cX12_carriages 202 = .ok (.l2i, 1) := by decide +kernel
theorem dX12_carriages_203 : decode cX12_carriages 203 = .ok (.invokevirtual 145, 3) := by decide +kernel
theorem dX12_carriages_206 : decode cX12_carriages 206 = .ok (.pop, 1) := by decide +kernel
theorem dX12_carriages_207 : decode cX12_carriages 207 = .ok (.iinc 4 1, 3) := by decide +kernel
theorem dX12_carriages_210 : decode cX12_carriages 210 = .ok (.goto (-152), 3) := by decide +kernel
theorem dX12_carriages_213 : decode cX12_carriages 213 = .ok (.iload_n 3, 1) := by decide +kernel
theorem dX12_carriages_214 : decode cX12_carriages 214 = .ok (.ireturn, 1) := by decide +kernel
theorem dX12_place_0 : decode cX12_place 0 = .ok (.iload_n 1, 1) := by decide +kernel
theorem dX12_place_1 : decode cX12_place 1 = .ok (.invokestatic 142, 3) := by decide +kernel
theorem dX12_place_4 : decode cX12_place 4 = .ok (.ifCond .ne 5, 3) := by decide +kernel
theorem dX12_place_7 : decode cX12_place 7 = .ok (.iconst (-1), 1) := by decide +kernel
theorem dX12_place_8 : decode cX12_place 8 = .ok (.ireturn, 1) := by decide +kernel
theorem dX12_place_9 : decode cX12_place 9 = .ok (.aload_n 0, 1) := by decide +kernel
theorem dX12_place_10 : decode cX12_place 10 = .ok (.getfield 132, 3) := by decide +kernel
theorem dX12_place_13 : decode cX12_place 13 = .ok (.bipush 8, 2) := by decide +kernel
theorem dX12_place_15 : decode cX12_place 15 = .ok (.if_icmp .ne 6, 3) := by decide +kernel
theorem dX12_place_18 : decode cX12_place 18 = .ok (.bipush (-3), 2) := by decide +kernel
theorem dX12_place_20 : decode cX12_place 20 = .ok (.ireturn, 1) := by decide +kernel
theorem dX12_place_21 : decode cX12_place 21 = .ok (.aload_n 0, 1) := by decide +kernel
theorem dX12_place_22 : decode cX12_place 22 = .ok (.getfield 24, 3) := by decide +kernel
theorem dX12_place_25 : decode cX12_place 25 = .ok (.aload_n 0, 1) := by decide +kernel
theorem dX12_place_26 : decode cX12_place 26 = .ok (.getfield 132, 3) := by decide +kernel
theorem dX12_place_29 : decode cX12_place 29 = .ok (.iload_n 1, 1) := by decide +kernel
theorem dX12_place_30 : decode cX12_place 30 = .ok (.iastore, 1) := by decide +kernel
theorem dX12_place_31 : decode cX12_place 31 = .ok (.aload_n 0, 1) := by decide +kernel
theorem dX12_place_32 : decode cX12_place 32 = .ok (.getfield 27, 3) := by decide +kernel
theorem dX12_place_35 : decode cX12_place 35 = .ok (.aload_n 0, 1) := by decide +kernel
theorem dX12_place_36 : decode cX12_place 36 = .ok (.getfield 132, 3) := by decide +kernel
theorem dX12_place_39 : decode cX12_place 39 = .ok (.iconst 1, 1) := by decide +kernel
theorem dX12_place_40 : decode cX12_place 40 = .ok (.iastore, 1) := by decide +kernel
theorem dX12_place_41 : decode cX12_place 41 = .ok (.aload_n 0, 1) := by decide +kernel
theorem dX12_place_42 : decode cX12_place 42 = .ok (.dup, 1) := by decide +kernel
theorem dX12_place_43 : decode cX12_place 43 = .ok (.getfield 132, 3) := by decide +kernel
theorem dX12_place_46 : decode cX12_place 46 = .ok (.iconst 1, 1) := by decide +kernel
theorem dX12_place_47 : decode cX12_place 47 = .ok (.iadd, 1) := by decide +kernel
theorem dX12_place_48 : decode cX12_place 48 = .ok (.putfield 132, 3) := by decide +kernel
theorem dX12_place_51 : decode cX12_place 51 = .ok (.aload_n 0, 1) := by decide +kernel
theorem dX12_place_52 : decode cX12_place 52 = .ok (.getfield 132, 3) := by decide +kernel
theorem dX12_place_55 : decode cX12_place 55 = .ok (.iconst 1, 1) := by decide +kernel
theorem dX12_place_56 : decode cX12_place 56 = .ok (.isub, 1) := by decide +kernel
theorem dX12_place_57 : decode cX12_place 57 = .ok (.ireturn, 1) := by decide +kernel
theorem dX12_valueAt_0 : decode cX12_valueAt 0 = .ok (.iload_n 1, 1) := by decide +kernel
theorem dX12_valueAt_1 : decode cX12_valueAt 1 = .ok (.tableswitch 81 0 5 #[39, 46, 53, 60, 67, 74], 39) := by decide +kernel
theorem dX12_valueAt_40 : decode cX12_valueAt 40 = .ok (.aload_n 0, 1) := by decide +kernel
theorem dX12_valueAt_41 : decode cX12_valueAt 41 = .ok (.getfield 9, 3) := by decide +kernel
theorem dX12_valueAt_44 : decode cX12_valueAt 44 = .ok (.iload_n 2, 1) := by decide +kernel
theorem dX12_valueAt_45 : decode cX12_valueAt 45 = .ok (.iaload, 1) := by decide +kernel
theorem dX12_valueAt_46 : decode cX12_valueAt 46 = .ok (.ireturn, 1) := by decide +kernel
theorem dX12_valueAt_47 : decode cX12_valueAt 47 = .ok (.aload_n 0, 1) := by decide +kernel
theorem dX12_valueAt_48 : decode cX12_valueAt 48 = .ok (.getfield 15, 3) := by decide +kernel
theorem dX12_valueAt_51 : decode cX12_valueAt 51 = .ok (.iload_n 2, 1) := by decide +kernel
theorem dX12_valueAt_52 : decode cX12_valueAt 52 = .ok (.iaload, 1) := by decide +kernel
theorem dX12_valueAt_53 : decode cX12_valueAt 53 = .ok (.ireturn, 1) := by decide +kernel
theorem dX12_valueAt_54 : decode cX12_valueAt 54 = .ok (.aload_n 0, 1) := by decide +kernel
theorem dX12_valueAt_55 : decode cX12_valueAt 55 = .ok (.getfield 18, 3) := by decide +kernel
theorem dX12_valueAt_58 : decode cX12_valueAt 58 = .ok (.iload_n 2, 1) := by decide +kernel
theorem dX12_valueAt_59 : decode cX12_valueAt 59 = .ok (.iaload, 1) := by decide +kernel
theorem dX12_valueAt_60 : decode cX12_valueAt 60 = .ok (.ireturn, 1) := by decide +kernel
theorem dX12_valueAt_61 : decode cX12_valueAt 61 = .ok (.aload_n 0, 1) := by decide +kernel
theorem dX12_valueAt_62 : decode cX12_valueAt 62 = .ok (.getfield 21, 3) := by decide +kernel
theorem dX12_valueAt_65 : decode cX12_valueAt 65 = .ok (.iload_n 2, 1) := by decide +kernel
theorem dX12_valueAt_66 : decode cX12_valueAt 66 = .ok (.iaload, 1) := by decide +kernel
theorem dX12_valueAt_67 : decode cX12_valueAt 67 = .ok (.ireturn, 1) := by decide +kernel
theorem dX12_valueAt_68 : decode cX12_valueAt 68 = .ok (.aload_n 0, 1) := by decide +kernel
theorem dX12_valueAt_69 : decode cX12_valueAt 69 = .ok (.getfield 24, 3) := by decide +kernel
theorem dX12_valueAt_72 : decode cX12_valueAt 72 = .ok (.iload_n 2, 1) := by decide +kernel
theorem dX12_valueAt_73 : decode cX12_valueAt 73 = .ok (.iaload, 1) := by decide +kernel
theorem dX12_valueAt_74 : decode cX12_valueAt 74 = .ok (.ireturn, 1) := by decide +kernel
theorem dX12_valueAt_75 : decode cX12_valueAt 75 = .ok (.aload_n 0, 1) := by decide +kernel
theorem dX12_valueAt_76 : decode cX12_valueAt 76 = .ok (.getfield 27, 3) := by decide +kernel
theorem dX12_valueAt_79 : decode cX12_valueAt 79 = .ok (.iload_n 2, 1) := by decide +kernel
theorem dX12_valueAt_80 : decode cX12_valueAt 80 = .ok (.iaload, 1) := by decide +kernel
theorem dX12_valueAt_81 : decode cX12_valueAt 81 = .ok (.ireturn, 1) := by decide +kernel
theorem dX12_valueAt_82 : decode cX12_valueAt 82 = .ok (.aload_n 0, 1) := by decide +kernel
theorem dX12_valueAt_83 : decode cX12_valueAt 83 = .ok (.getfield 30, 3) := by decide +kernel
theorem dX12_valueAt_86 : decode cX12_valueAt 86 = .ok (.iload_n 1, 1) := by decide +kernel
theorem dX12_valueAt_87 : decode cX12_valueAt 87 = .ok (.bipush 6, 2) := by decide +kernel
theorem dX12_valueAt_89 : decode cX12_valueAt 89 = .ok (.isub, 1) := by decide +kernel
theorem dX12_valueAt_90 : decode cX12_valueAt 90 = .ok (.iaload, 1) := by decide +kernel
theorem dX12_valueAt_91 : decode cX12_valueAt 91 = .ok (.ireturn, 1) := by decide +kernel
theorem dX12_lays_0 : decode cX12_lays 0 = .ok (.iload_n 1, 1) := by decide +kernel
theorem dX12_lays_1 : decode cX12_lays 1 = .ok (.tableswitch 99 0 5 #[39, 49, 59, 69, 79, 89], 39) := by decide +kernel
theorem dX12_lays_40 : decode cX12_lays 40 = .ok (.aload_n 0, 1) := by decide +kernel
theorem dX12_lays_41 : decode cX12_lays 41 = .ok (.getfield 9, 3) := by decide +kernel
theorem dX12_lays_44 : decode cX12_lays 44 = .ok (.iload_n 2, 1) := by decide +kernel
theorem dX12_lays_45 : decode cX12_lays 45 = .ok (.iload_n 3, 1) := by decide +kernel
theorem dX12_lays_46 : decode cX12_lays 46 = .ok (.iastore, 1) := by decide +kernel
theorem dX12_lays_47 : decode cX12_lays 47 = .ok (.goto 63, 3) := by decide +kernel
theorem dX12_lays_50 : decode cX12_lays 50 = .ok (.aload_n 0, 1) := by decide +kernel
theorem dX12_lays_51 : decode cX12_lays 51 = .ok (.getfield 15, 3) := by decide +kernel
theorem dX12_lays_54 : decode cX12_lays 54 = .ok (.iload_n 2, 1) := by decide +kernel
theorem dX12_lays_55 : decode cX12_lays 55 = .ok (.iload_n 3, 1) := by decide +kernel
theorem dX12_lays_56 : decode cX12_lays 56 = .ok (.iastore, 1) := by decide +kernel
theorem dX12_lays_57 : decode cX12_lays 57 = .ok (.goto 53, 3) := by decide +kernel
theorem dX12_lays_60 : decode cX12_lays 60 = .ok (.aload_n 0, 1) := by decide +kernel
theorem dX12_lays_61 : decode cX12_lays 61 = .ok (.getfield 18, 3) := by decide +kernel
theorem dX12_lays_64 : decode cX12_lays 64 = .ok (.iload_n 2, 1) := by decide +kernel
theorem dX12_lays_65 : decode cX12_lays 65 = .ok (.iload_n 3, 1) := by decide +kernel
theorem dX12_lays_66 : decode cX12_lays 66 = .ok (.iastore, 1) := by decide +kernel
theorem dX12_lays_67 : decode cX12_lays 67 = .ok (.goto 43, 3) := by decide +kernel
theorem dX12_lays_70 : decode cX12_lays 70 = .ok (.aload_n 0, 1) := by decide +kernel
theorem dX12_lays_71 : decode cX12_lays 71 = .ok (.getfield 21, 3) := by decide +kernel
theorem dX12_lays_74 : decode cX12_lays 74 = .ok (.iload_n 2, 1) := by decide +kernel
theorem dX12_lays_75 : decode cX12_lays 75 = .ok (.iload_n 3, 1) := by decide +kernel
theorem dX12_lays_76 : decode cX12_lays 76 = .ok (.iastore, 1) := by decide +kernel
theorem dX12_lays_77 : decode cX12_lays 77 = .ok (.goto 33, 3) := by decide +kernel
theorem dX12_lays_80 : decode cX12_lays 80 = .ok (.aload_n 0, 1) := by decide +kernel
theorem dX12_lays_81 : decode cX12_lays 81 = .ok (.getfield 24, 3) := by decide +kernel
theorem dX12_lays_84 : decode cX12_lays 84 = .ok (.iload_n 2, 1) := by decide +kernel
theorem dX12_lays_85 : decode cX12_lays 85 = .ok (.iload_n 3, 1) := by decide +kernel
theorem dX12_lays_86 : decode cX12_lays 86 = .ok (.iastore, 1) := by decide +kernel
theorem dX12_lays_87 : decode cX12_lays 87 = .ok (.goto 23, 3) := by decide +kernel
theorem dX12_lays_90 : decode cX12_lays 90 = .ok (.aload_n 0, 1) := by decide +kernel
theorem dX12_lays_91 : decode cX12_lays 91 = .ok (.getfield 27, 3) := by decide +kernel
theorem dX12_lays_94 : decode cX12_lays 94 = .ok (.iload_n 2, 1) := by decide +kernel
theorem dX12_lays_95 : decode cX12_lays 95 = .ok (.iload_n 3, 1) := by decide +kernel
theorem dX12_lays_96 : decode cX12_lays 96 = .ok (.iastore, 1) := by decide +kernel
theorem dX12_lays_97 : decode cX12_lays 97 = .ok (.goto 13, 3) := by decide +kernel
theorem dX12_lays_100 : decode cX12_lays 100 = .ok (.aload_n 0, 1) := by decide +kernel
theorem dX12_lays_101 : decode cX12_lays 101 = .ok (.getfield 30, 3) := by decide +kernel
theorem dX12_lays_104 : decode cX12_lays 104 = .ok (.iload_n 1, 1) := by decide +kernel
theorem dX12_lays_105 : decode cX12_lays 105 = .ok (.bipush 6, 2) := by decide +kernel
