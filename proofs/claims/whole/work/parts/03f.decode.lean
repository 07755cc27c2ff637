theorem dX12_later_25 : decode cX12_later 25 = .ok (.ireturn, 1) := by decide +kernel
theorem dX12_later_26 : decode cX12_later 26 = .ok (.aload_n 0, 1) := by decide +kernel
theorem dX12_later_27 : decode cX12_later 27 = .ok (.iload_n 1, 1) := by decide +kernel
theorem dX12_later_28 : decode cX12_later 28 = .ok (.iload_n 2, 1) := by decide +kernel
theorem dX12_later_29 : decode cX12_later 29 = .ok (.invokevirtual 293, 3) := by decide +kernel
theorem dX12_later_32 : decode cX12_later 32 = .ok (.iload_n 3, 1) := by decide +kernel
theorem dX12_later_33 : decode cX12_later 33 = .ok (.ifCond .ne 10, 3) := by decide +kernel
theorem dX12_later_36 : decode cX12_later 36 = .ok (.aload_n 0, 1) := by decide +kernel
theorem dX12_later_37 : decode cX12_later 37 = .ok (.getfield 262, 3) := by decide +kernel
theorem dX12_later_40 : decode cX12_later 40 = .ok (.goto 25, 3) := by decide +kernel
theorem dX12_later_43 : decode cX12_later 43 = .ok (.iload_n 3, 1) := by decide +kernel
theorem dX12_later_44 : decode cX12_later 44 = .ok (.iconst 1, 1) := by decide +kernel
theorem dX12_later_45 : decode cX12_later 45 = .ok (.if_icmp .ne 10, 3) := by decide +kernel
theorem dX12_later_48 : decode cX12_later 48 = .ok (.aload_n 0, 1) := by decide +kernel
theorem dX12_later_49 : decode cX12_later 49 = .ok (.getfield 265, 3) := by decide +kernel
theorem dX12_later_52 : decode cX12_later 52 = .ok (.goto 13, 3) := by decide +kernel
theorem dX12_later_55 : decode cX12_later 55 = .ok (.aload_n 0, 1) := by decide +kernel
theorem dX12_later_56 : decode cX12_later 56 = .ok (.getfield 21, 3) := by decide +kernel
theorem dX12_later_59 : decode cX12_later 59 = .ok (.iload_n 1, 1) := by decide +kernel
theorem dX12_later_60 : decode cX12_later 60 = .ok (.iaload, 1) := by decide +kernel
theorem dX12_later_61 : decode cX12_later 61 = .ok (.iload_n 2, 1) := by decide +kernel
theorem dX12_later_62 : decode cX12_later 62 = .ok (.invokestatic 274, 3) := by decide +kernel
theorem dX12_later_65 : decode cX12_later 65 = .ok (.ireturn, 1) := by decide +kernel
theorem dX12_layAll_0 : decode cX12_layAll 0 = .ok (.iconst 0, 1) := by decide +kernel
theorem dX12_layAll_1 : decode cX12_layAll 1 = .ok (.istore_n 1, 1) := by decide +kernel
theorem dX12_layAll_2 : decode cX12_layAll 2 = .ok (.iload_n 1, 1) := by decide +kernel
theorem dX12_layAll_3 : decode cX12_layAll 3 = .ok (.aload_n 0, 1) := by decide +kernel
theorem dX12_layAll_4 : decode cX12_layAll 4 = .ok (.getfield 125, 3) := by decide +kernel
theorem dX12_layAll_7 : decode cX12_layAll 7 = .ok (.if_icmp .ge 50, 3) := by decide +kernel
theorem dX12_layAll_10 : decode cX12_layAll 10 = .ok (.aload_n 0, 1) := by decide +kernel
theorem dX12_layAll_11 : decode cX12_layAll 11 = .ok (.iload_n 1, 1) := by decide +kernel
theorem dX12_layAll_12 : decode cX12_layAll 12 = .ok (.invokevirtual 283, 3) := by decide +kernel
theorem dX12_layAll_15 : decode cX12_layAll 15 = .ok (.iconst 0, 1) := by decide +kernel
theorem dX12_layAll_16 : decode cX12_layAll 16 = .ok (.istore_n 2, 1) := by decide +kernel
theorem dX12_layAll_17 : decode cX12_layAll 17 = .ok (.iload_n 2, 1) := by decide +kernel
theorem dX12_layAll_18 : decode cX12_layAll 18 = .ok (.bipush 60, 2) := by decide +kernel
theorem dX12_layAll_20 : decode cX12_layAll 20 = .ok (.if_icmp .gt 31, 3) := by decide +kernel
theorem dX12_layAll_23 : decode cX12_layAll 23 = .ok (.aload_n 0, 1) := by decide +kernel
theorem dX12_layAll_24 : decode cX12_layAll 24 = .ok (.getfield 71, 3) := by decide +kernel
theorem dX12_layAll_27 : decode cX12_layAll 27 = .ok (.bipush 61, 2) := by decide +kernel
theorem dX12_layAll_29 : decode cX12_layAll 29 = .ok (.iload_n 1, 1) := by decide +kernel
theorem dX12_layAll_30 : decode cX12_layAll 30 = .ok (.imul, 1) := by decide +kernel
theorem dX12_layAll_31 : decode cX12_layAll 31 = .ok (.iload_n 2, 1) := by decide +kernel
theorem dX12_layAll_32 : decode cX12_layAll 32 = .ok (.iadd, 1) := by decide +kernel
theorem dX12_layAll_33 : decode cX12_layAll 33 = .ok (.aload_n 0, 1) := by decide +kernel
theorem dX12_layAll_34 : decode cX12_layAll 34 = .ok (.getfield 262, 3) := by decide +kernel
theorem dX12_layAll_37 : decode cX12_layAll 37 = .ok (.iastore, 1) := by decide +kernel
theorem dX12_layAll_38 : decode cX12_layAll 38 = .ok (.aload_n 0, 1) := by decide +kernel
theorem dX12_layAll_39 : decode cX12_layAll 39 = .ok (.iload_n 1, 1) := by decide +kernel
theorem dX12_layAll_40 : decode cX12_layAll 40 = .ok (.iload_n 2, 1) := by decide +kernel
theorem dX12_layAll_41 : decode cX12_layAll 41 = .ok (.iconst 0, 1) := by decide +kernel
theorem dX12_layAll_42 : decode cX12_layAll 42 = .ok (.invokevirtual 287, 3) := by decide +kernel
theorem dX12_layAll_45 : decode cX12_layAll 45 = .ok (.iinc 2 1, 3) := by decide +kernel
theorem dX12_layAll_48 : decode cX12_layAll 48 = .ok (.goto (-31), 3) := by decide +kernel
theorem dX12_layAll_51 : decode cX12_layAll 51 = .ok (.iinc 1 1, 3) := by decide +kernel
theorem dX12_layAll_54 : decode cX12_layAll 54 = .ok (.goto (-52), 3) := by decide +kernel
theorem dX12_layAll_57 : decode cX12_layAll 57 = .ok (.return_, 1) := by decide +kernel
theorem dX12_nearTo_0 : decode cX12_nearTo 0 = .ok (.iload_n 1, 1) := by decide +kernel
theorem dX12_nearTo_1 : decode cX12_nearTo 1 = .ok (.iload_n 2, 1) := by decide +kernel
theorem dX12_nearTo_2 : decode cX12_nearTo 2 = .ok (.invokestatic 296, 3) := by decide +kernel
theorem dX12_nearTo_5 : decode cX12_nearTo 5 = .ok (.aload_n 0, 1) := by decide +kernel
theorem dX12_nearTo_6 : decode cX12_nearTo 6 = .ok (.getfield 30, 3) := by decide +kernel
theorem dX12_nearTo_9 : decode cX12_nearTo 9 = .ok (.iconst 0, 1) := by decide +kernel
theorem dX12_nearTo_10 : decode cX12_nearTo 10 = .ok (.iaload, 1) := by decide +kernel
theorem dX12_nearTo_11 : decode cX12_nearTo 11 = .ok (.if_icmp .gt 7, 3) := by decide +kernel
theorem dX12_nearTo_14 : decode cX12_nearTo 14 = .ok (.iconst 1, 1) := by decide +kernel
theorem dX12_nearTo_15 : decode cX12_nearTo 15 = .ok (.goto 4, 3) := by decide +kernel
theorem dX12_nearTo_18 : decode cX12_nearTo 18 = .ok (.iconst 0, 1) := by decide +kernel
theorem dX12_nearTo_19 : decode cX12_nearTo 19 = .ok (.ireturn, 1) := by decide +kernel
theorem dX12_nears_0 : decode cX12_nears 0 = .ok (.aload_n 0, 1) := by decide +kernel
theorem dX12_nears_1 : decode cX12_nears 1 = .ok (.iload_n 1, 1) := by decide +kernel
theorem dX12_nears_2 : decode cX12_nears 2 = .ok (.invokevirtual 299, 3) := by decide +kernel
theorem dX12_nears_5 : decode cX12_nears 5 = .ok (.ifCond .eq 19, 3) := by decide +kernel
theorem dX12_nears_8 : decode cX12_nears 8 = .ok (.iload_n 2, 1) := by decide +kernel
theorem dX12_nears_9 : decode cX12_nears 9 = .ok (.invokestatic 290, 3) := by decide +kernel
theorem dX12_nears_12 : decode cX12_nears 12 = .ok (.ifCond .eq 12, 3) := by decide +kernel
theorem dX12_nears_15 : decode cX12_nears 15 = .ok (.iload_n 3, 1) := by decide +kernel
theorem dX12_nears_16 : decode cX12_nears 16 = .ok (.iconst 0, 1) := by decide +kernel
theorem dX12_nears_17 : decode cX12_nears 17 = .ok (.iconst 1, 1) := by decide +kernel
theorem dX12_nears_18 : decode cX12_nears 18 = .ok (.invokestatic 128, 3) := by decide +kernel
theorem dX12_nears_21 : decode cX12_nears 21 = .ok (.ifCond .ne 5, 3) := by decide +kernel
theorem dX12_nears_24 : decode cX12_nears 24 = .ok (.iconst (-1), 1) := by decide +kernel
theorem dX12_nears_25 : decode cX12_nears 25 = .ok (.ireturn, 1) := by decide +kernel
theorem dX12_nears_26 : decode cX12_nears 26 = .ok (.aload_n 0, 1) := by decide +kernel
theorem dX12_nears_27 : decode cX12_nears 27 = .ok (.invokevirtual 302, 3) := by decide +kernel
theorem dX12_nears_30 : decode cX12_nears 30 = .ok (.iconst 0, 1) := by decide +kernel
theorem dX12_nears_31 : decode cX12_nears 31 = .ok (.istore 4, 2) := by decide +kernel
theorem dX12_nears_33 : decode cX12_nears 33 = .ok (.aload_n 0, 1) := by decide +kernel
theorem dX12_nears_34 : decode cX12_nears 34 = .ok (.getfield 24, 3) := by decide +kernel
theorem dX12_nears_37 : decode cX12_nears 37 = .ok (.iload_n 1, 1) := by decide +kernel
theorem dX12_nears_38 : decode cX12_nears 38 = .ok (.bipush 10, 2) := by decide +kernel
theorem dX12_nears_40 : decode cX12_nears 40 = .ok (.irem, 1) := by decide +kernel
theorem dX12_nears_41 : decode cX12_nears 41 = .ok (.iaload, 1) := by decide +kernel
theorem dX12_nears_42 : decode cX12_nears 42 = .ok (.istore 5, 2) := by decide +kernel
theorem dX12_nears_44 : decode cX12_nears 44 = .ok (.iconst 1, 1) := by decide +kernel
theorem dX12_nears_45 : decode cX12_nears 45 = .ok (.istore 6, 2) := by decide +kernel
theorem dX12_nears_47 : decode cX12_nears 47 = .ok (.iload 6, 2) := by decide +kernel
theorem dX12_nears_49 : decode cX12_nears 49 = .ok (.iload_n 2, 1) := by decide +kernel
theorem dX12_nears_50 : decode cX12_nears 50 = .ok (.if_icmp .gt 56, 3) := by decide +kernel
theorem dX12_nears_53 : decode cX12_nears 53 = .ok (.aload_n 0, 1) := by decide +kernel
theorem dX12_nears_54 : decode cX12_nears 54 = .ok (.getfield 71, 3) := by decide +kernel
theorem dX12_nears_57 : decode cX12_nears 57 = .ok (.bipush 61, 2) := by decide +kernel
theorem dX12_nears_59 : decode cX12_nears 59 = .ok (.iload_n 1, 1) := by decide +kernel
theorem dX12_nears_60 : decode cX12_nears 60 = .ok (.bipush 10, 2) := by decide +kernel
theorem dX12_nears_62 : decode cX12_nears 62 = .ok (.idiv, 1) := by decide +kernel
theorem dX12_nears_63 : decode cX12_nears 63 = .ok (.imul, 1) := by decide +kernel
theorem dX12_nears_64 : decode cX12_nears 64 = .ok (.iload 6, 2) := by decide +kernel
theorem dX12_nears_66 : decode cX12_nears 66 = .ok (.iadd, 1) := by decide +kernel
theorem dX12_nears_67 : decode cX12_nears 67 = .ok (.iaload, 1) := by decide +kernel
theorem dX12_nears_68 : decode cX12_nears 68 = .ok (.iload 5, 2) := by decide +kernel
theorem dX12_nears_70 : decode cX12_nears 70 = .ok (.invokestatic 296, 3) := by decide +kernel
theorem dX12_nears_73 : decode cX12_nears 73 = .ok (.aload_n 0, 1) := by decide +kernel
theorem dX12_nears_74 : decode cX12_nears 74 = .ok (.getfield 71, 3) := by decide +kernel
theorem dX12_nears_77 : decode cX12_nears 77 = .ok (.bipush 61, 2) := by decide +kernel
theorem dX12_nears_79 : decode cX12_nears 79 = .ok (.iload_n 1, 1) := by decide +kernel
theorem dX12_nears_80 : decode cX12_nears 80 = .ok (.bipush 10, 2) := by decide +kernel
theorem dX12_nears_82 : decode cX12_nears 82 = .ok (.idiv, 1) := by decide +kernel
theorem dX12_nears_83 : decode cX12_nears 83 = .ok (.imul, 1) := by decide +kernel
theorem dX12_nears_84 : decode cX12_nears 84 = .ok (.iload 4, 2) := by decide +kernel
theorem dX12_nears_86 : decode cX12_nears 86 = .ok (.iadd, 1) := by decide +kernel
theorem dX12_nears_87 : decode cX12_nears 87 = .ok (.iaload, 1) := by decide +kernel
theorem dX12_nears_88 : decode cX12_nears 88 = .ok (.iload 5, 2) := by decide +kernel
theorem dX12_nears_90 : decode cX12_nears 90 = .ok (.invokestatic 296, 3) := by decide +kernel
theorem dX12_nears_93 : decode cX12_nears 93 = .ok (.if_icmp .ge 7, 3) := by decide +kernel
theorem dX12_nears_96 : decode cX12_nears 96 = .ok (.iload 6, 2) := by decide +kernel
theorem dX12_nears_98 : decode cX12_nears 98 = .ok (.istore 4, 2) := by decide +kernel
theorem dX12_nears_100 : decode cX12_nears 100 = .ok (.iinc 6 1, 3) := by decide +kernel
theorem dX12_nears_103 : decode cX12_nears 103 = .ok (.goto (-56), 3) := by decide +kernel
theorem dX12_nears_106 : decode cX12_nears 106 = .ok (.iload_n 3, 1) := by decide +kernel
theorem dX12_nears_107 : decode cX12_nears 107 = .ok (.ifCond .ne 26, 3) := by decide +kernel
theorem dX12_nears_110 : decode cX12_nears 110 = .ok (.aload_n 0, 1) := by decide +kernel
theorem dX12_nears_111 : decode cX12_nears 111 = .ok (.getfield 71, 3) := by decide +kernel
theorem dX12_nears_114 : decode cX12_nears 114 = .ok (.bipush 61, 2) := by decide +kernel
theorem dX12_nears_116 : decode cX12_nears 116 = .ok (.iload_n 1, 1) := by decide +kernel
theorem dX12_nears_117 : decode cX12_nears 117 = .ok (.bipush 10, 2) := by decide +kernel
theorem dX12_nears_119 : decode cX12_nears 119 = .ok (.idiv, 1) := by decide +kernel
theorem dX12_nears_120 : decode cX12_nears 120 = .ok (.imul, 1) := by decide +kernel
theorem dX12_nears_121 : decode cX12_nears 121 = .ok (.iload 4, 2) := by decide +kernel
theorem dX12_nears_123 : decode cX12_nears 123 = .ok (.iadd, 1) := by decide +kernel
theorem dX12_nears_124 : decode cX12_nears 124 = .ok (.iaload, 1) := by decide +kernel
theorem dX12_nears_125 : decode cX12_nears 125 = .ok (.iload 5, 2) := by decide +kernel
theorem dX12_nears_127 : decode cX12_nears 127 = .ok (.invokestatic 296, 3) := by decide +kernel
theorem dX12_nears_130 : decode cX12_nears 130 = .ok (.goto 5, 3) := by decide +kernel
theorem dX12_nears_133 : decode cX12_nears 133 = .ok (.iload 4, 2) := by decide +kernel
theorem dX12_nears_135 : decode cX12_nears 135 = .ok (.ireturn, 1) := by decide +kernel
theorem dX12_passedBy_0 : decode cX12_passedBy 0 = .ok (.iconst 0, 1) := by decide +kernel
theorem dX12_passedBy_1 : decode cX12_passedBy 1 = .ok (.istore_n 3, 1) := by decide +kernel
theorem dX12_passedBy_2 : decode cX12_passedBy 2 = .ok (.iconst 0, 1) := by decide +kernel
theorem dX12_passedBy_3 : decode cX12_passedBy 3 = .ok (.istore 4, 2) := by decide +kernel
theorem dX12_passedBy_5 : decode cX12_passedBy 5 = .ok (.iload 4, 2) := by decide +kernel
theorem dX12_passedBy_7 : decode cX12_passedBy 7 = .ok (.aload_n 0, 1) := by decide +kernel
theorem dX12_passedBy_8 : decode cX12_passedBy 8 = .ok (.getfield 132, 3) := by decide +kernel
theorem dX12_passedBy_11 : decode cX12_passedBy 11 = .ok (.if_icmp .ge 57, 3) := by decide +kernel
theorem dX12_passedBy_14 : decode cX12_passedBy 14 = .ok (.iconst 0, 1) := by decide +kernel
theorem dX12_passedBy_15 : decode cX12_passedBy 15 = .ok (.istore 5, 2) := by decide +kernel
theorem dX12_passedBy_17 : decode cX12_passedBy 17 = .ok (.iload 5, 2) := by decide +kernel
theorem dX12_passedBy_19 : decode cX12_passedBy 19 = .ok (.iload_n 2, 1) := by decide +kernel
theorem dX12_passedBy_20 : decode cX12_passedBy 20 = .ok (.if_icmp .gt 42, 3) := by decide +kernel
theorem dX12_passedBy_23 : decode cX12_passedBy 23 = .ok (.aload_n 0, 1) := by decide +kernel
theorem dX12_passedBy_24 : decode cX12_passedBy 24 = .ok (.aload_n 0, 1) := by decide +kernel
theorem dX12_passedBy_25 : decode cX12_passedBy 25 = .ok (.getfield 71, 3) := by decide +kernel
theorem dX12_passedBy_28 : decode cX12_passedBy 28 = .ok (.bipush 61, 2) := by decide +kernel
theorem dX12_passedBy_30 : decode cX12_passedBy 30 = .ok (.iload_n 1, 1) := by decide +kernel
theorem dX12_passedBy_31 : decode cX12_passedBy 31 = .ok (.imul, 1) := by decide +kernel
theorem dX12_passedBy_32 : decode cX12_passedBy 32 = .ok (.iload 5, 2) := by decide +kernel
theorem dX12_passedBy_34 : decode cX12_passedBy 34 = .ok (.iadd, 1) := by decide +kernel
theorem dX12_passedBy_35 : decode cX12_passedBy 35 = .ok (.iaload, 1) := by decide +kernel
theorem dX12_passedBy_36 : decode cX12_passedBy 36 = .ok (.aload_n 0, 1) := by decide +kernel
theorem dX12_passedBy_37 : decode cX12_passedBy 37 = .ok (.getfield 24, 3) := by decide +kernel
theorem dX12_passedBy_40 : decode cX12_passedBy 40 = .ok (.iload 4, 2) := by decide +kernel
theorem dX12_passedBy_42 : decode cX12_passedBy 42 = .ok (.iaload, 1) := by decide +kernel
theorem dX12_passedBy_43 : decode cX12_passedBy 43 = .ok (.invokevirtual 305, 3) := by decide +kernel
theorem dX12_passedBy_46 : decode cX12_passedBy 46 = .ok (.ifCond .eq 10, 3) := by decide +kernel
theorem dX12_passedBy_49 : decode cX12_passedBy 49 = .ok (.iload_n 3, 1) := by decide +kernel
theorem dX12_passedBy_50 : decode cX12_passedBy 50 = .ok (.iconst 1, 1) := by decide +kernel
theorem dX12_passedBy_51 : decode cX12_passedBy 51 = .ok (.iload 4, 2) := by decide +kernel
theorem dX12_passedBy_53 : decode cX12_passedBy 53 = .ok (.ishl, 1) := by decide +kernel
theorem dX12_passedBy_54 : decode cX12_passedBy 54 = .ok (.ior, 1) := by decide +kernel
theorem dX12_passedBy_55 : decode cX12_passedBy 55 = .ok (.istore_n 3, 1) := by decide +kernel
theorem dX12_passedBy_56 : decode cX12_passedBy 56 = .ok (.iinc 5 1, 3) := by decide +kernel
theorem dX12_passedBy_59 : decode cX12_passedBy 59 = .ok (.goto (-42), 3) := by decide +kernel
theorem dX12_passedBy_62 : decode cX12_passedBy 62 = .ok (.iinc 4 1, 3) := by decide +kernel
theorem dX12_passedBy_65 : decode cX12_passedBy 65 = .ok (.goto (-60), 3) := by decide +kernel
theorem dX12_passedBy_68 : decode cX12_passedBy 68 = .ok (.iload_n 3, 1) := by decide +kernel
theorem dX12_passedBy_69 : decode cX12_passedBy 69 = .ok (.ireturn, 1) := by decide +kernel
theorem dX12_passes_0 : decode cX12_passes 0 = .ok (.aload_n 0, 1) := by decide +kernel
theorem dX12_passes_1 : decode cX12_passes 1 = .ok (.iload_n 1, 1) := by decide +kernel
theorem dX12_passes_2 : decode cX12_passes 2 = .ok (.invokevirtual 135, 3) := by decide +kernel
theorem dX12_passes_5 : decode cX12_passes 5 = .ok (.ifCond .eq 19, 3) := by decide +kernel
theorem dX12_passes_8 : decode cX12_passes 8 = .ok (.iload_n 2, 1) := by decide +kernel
theorem dX12_passes_9 : decode cX12_passes 9 = .ok (.invokestatic 290, 3) := by decide +kernel
theorem dX12_passes_12 : decode cX12_passes 12 = .ok (.ifCond .eq 12, 3) := by decide +kernel
theorem dX12_passes_15 : decode cX12_passes 15 = .ok (.iload_n 3, 1) := by decide +kernel
theorem dX12_passes_16 : decode cX12_passes 16 = .ok (.iconst 0, 1) := by decide +kernel
theorem dX12_passes_17 : decode cX12_passes 17 = .ok (.iconst 1, 1) := by decide +kernel
theorem dX12_passes_18 : decode cX12_passes 18 = .ok (.invokestatic 128, 3) := by decide +kernel
theorem dX12_passes_21 : decode cX12_passes 21 = .ok (.ifCond .ne 5, 3) := by decide +kernel
theorem dX12_passes_24 : decode cX12_passes 24 = .ok (.iconst (-1), 1) := by decide +kernel
theorem dX12_passes_25 : decode cX12_passes 25 = .ok (.ireturn, 1) := by decide +kernel
theorem dX12_passes_26 : decode cX12_passes 26 = .ok (.aload_n 0, 1) := by decide +kernel
theorem dX12_passes_27 : decode cX12_passes 27 = .ok (.invokevirtual 302, 3) := by decide +kernel
theorem dX12_passes_30 : decode cX12_passes 30 = .ok (.aload_n 0, 1) := by decide +kernel
theorem dX12_passes_31 : decode cX12_passes 31 = .ok (.iload_n 1, 1) := by decide +kernel
theorem dX12_passes_32 : decode cX12_passes 32 = .ok (.iload_n 2, 1) := by decide +kernel
theorem dX12_passes_33 : decode cX12_passes 33 = .ok (.invokevirtual 308, 3) := by decide +kernel
theorem dX12_passes_36 : decode cX12_passes 36 = .ok (.istore 4, 2) := by decide +kernel
theorem dX12_passes_38 : decode cX12_passes 38 = .ok (.iload_n 3, 1) := by decide +kernel
theorem dX12_passes_39 : decode cX12_passes 39 = .ok (.ifCond .ne 6, 3) := by decide +kernel
theorem dX12_passes_42 : decode cX12_passes 42 = .ok (.iload 4, 2) := by decide +kernel
theorem dX12_passes_44 : decode cX12_passes 44 = .ok (.ireturn, 1) := by decide +kernel
theorem dX12_passes_45 : decode cX12_passes 45 = .ok (.iconst 0, 1) := by decide +kernel
theorem dX12_passes_46 : decode cX12_passes 46 = .ok (.istore 5, 2) := by decide +kernel
theorem dX12_passes_48 : decode cX12_passes 48 = .ok (.iconst 0, 1) := by decide +kernel
theorem dX12_passes_49 : decode cX12_passes 49 = .ok (.istore 6, 2) := by decide +kernel
theorem dX12_passes_51 : decode cX12_passes 51 = .ok (.iload 6, 2) := by decide +kernel
theorem dX12_passes_53 : decode cX12_passes 53 = .ok (.aload_n 0, 1) := by decide +kernel
theorem dX12_passes_54 : decode cX12_passes 54 = .ok (.getfield 132, 3) := by decide +kernel
theorem dX12_passes_57 : decode cX12_passes 57 = .ok (.if_icmp .ge 31, 3) := by decide +kernel
theorem dX12_passes_60 : decode cX12_passes 60 = .ok (.iload 4, 2) := by decide +kernel
theorem dX12_passes_62 : decode cX12_passes 62 = .ok (.iload 6, 2) := by decide +kernel
theorem dX12_passes_64 : decode cX12_passes 64 = .ok (.invokestatic 311, 3) := by decide +kernel
theorem dX12_passes_67 : decode cX12_passes 67 = .ok (.ifCond .eq 15, 3) := by decide +kernel
theorem dX12_passes_70 : decode cX12_passes 70 = .ok (.iload 5, 2) := by decide +kernel
theorem dX12_passes_72 : decode cX12_passes 72 = .ok (.aload_n 0, 1) := by decide +kernel
theorem dX12_passes_73 : decode cX12_passes 73 = .ok (.getfield 27, 3) := by decide +kernel
theorem dX12_passes_76 : decode cX12_passes 76 = .ok (.iload 6, 2) := by decide +kernel
theorem dX12_passes_78 : decode cX12_passes 78 = .ok (.iaload, 1) := by decide +kernel
theorem dX12_passes_79 : decode cX12_passes 79 = .ok (.iadd, 1) := by decide +kernel
theorem dX12_passes_80 : decode cX12_passes 80 = .ok (.istore 5, 2) := by decide +kernel
theorem dX12_passes_82 : decode cX12_passes 82 = .ok (.iinc 6 1, 3) := by decide +kernel
theorem dX12_passes_85 : decode cX12_passes 85 = .ok (.goto (-34), 3) := by decide +kernel
theorem dX12_passes_88 : decode cX12_passes 88 = .ok (.iload 5, 2) := by decide +kernel
theorem dX12_passes_90 : decode cX12_passes 90 = .ok (.ireturn, 1) := by decide +kernel
theorem dX12_meetAt_0 : decode cX12_meetAt 0 = .ok (.aload_n 0, 1) := by decide +kernel
theorem dX12_meetAt_1 : decode cX12_meetAt 1 = .ok (.aload_n 0, 1) := by decide +kernel
theorem dX12_meetAt_2 : decode cX12_meetAt 2 = .ok (.getfield 71, 3) := by decide +kernel
theorem dX12_meetAt_5 : decode cX12_meetAt 5 = .ok (.bipush 61, 2) := by decide +kernel
theorem dX12_meetAt_7 : decode cX12_meetAt 7 = .ok (.iload_n 1, 1) := by decide +kernel
theorem dX12_meetAt_8 : decode cX12_meetAt 8 = .ok (.imul, 1) := by decide +kernel
theorem dX12_meetAt_9 : decode cX12_meetAt 9 = .ok (.iload_n 3, 1) := by decide +kernel
theorem dX12_meetAt_10 : decode cX12_meetAt 10 = .ok (.iadd, 1) := by decide +kernel
theorem dX12_meetAt_11 : decode cX12_meetAt 11 = .ok (.iaload, 1) := by decide +kernel
theorem dX12_meetAt_12 : decode cX12_meetAt 12 = .ok (.aload_n 0, 1) := by decide +kernel
theorem dX12_meetAt_13 : decode cX12_meetAt 13 = .ok (.getfield 71, 3) := by decide +kernel
theorem dX12_meetAt_16 : decode cX12_meetAt 16 = .ok (.bipush 61, 2) := by decide +kernel
theorem dX12_meetAt_18 : decode cX12_meetAt 18 = .ok (.iload_n 2, 1) := by decide +kernel
theorem dX12_meetAt_19 : decode cX12_meetAt 19 = .ok (.imul, 1) := by decide +kernel
theorem dX12_meetAt_20 : decode cX12_meetAt 20 = .ok (.iload_n 3, 1) := by decide +kernel
theorem dX12_meetAt_21 : decode cX12_meetAt 21 = .ok (.iadd, 1) := by decide +kernel
theorem dX12_meetAt_22 : decode cX12_meetAt 22 = .ok (.iaload, 1) := by decide +kernel
theorem dX12_meetAt_23 : decode cX12_meetAt 23 = .ok (.invokevirtual 305, 3) := by decide +kernel
theorem dX12_meetAt_26 : decode cX12_meetAt 26 = .ok (.ireturn, 1) := by decide +kernel
theorem dX12_meet_0 : decode cX12_meet 0 = .ok (.aload_n 0, 1) := by decide +kernel
theorem dX12_meet_1 : decode cX12_meet 1 = .ok (.iload_n 1, 1) := by decide +kernel
theorem dX12_meet_2 : decode cX12_meet 2 = .ok (.invokevirtual 314, 3) := by decide +kernel
theorem dX12_meet_5 : decode cX12_meet 5 = .ok (.ifCond .ne 5, 3) := by decide +kernel
theorem dX12_meet_8 : decode cX12_meet 8 = .ok (.iconst (-1), 1) := by decide +kernel
theorem dX12_meet_9 : decode cX12_meet 9 = .ok (.ireturn, 1) := by decide +kernel
theorem dX12_meet_10 : decode cX12_meet 10 = .ok (.aload_n 0, 1) := by decide +kernel
theorem dX12_meet_11 : decode cX12_meet 11 = .ok (.invokevirtual 302, 3) := by decide +kernel
theorem dX12_meet_14 : decode cX12_meet 14 = .ok (.iconst 0, 1) := by decide +kernel
theorem dX12_meet_15 : decode cX12_meet 15 = .ok (.istore_n 2, 1) := by decide +kernel
theorem dX12_meet_16 : decode cX12_meet 16 = .ok (.iload_n 2, 1) := by decide +kernel
theorem dX12_meet_17 : decode cX12_meet 17 = .ok (.bipush 60, 2) := by decide +kernel
theorem dX12_meet_19 : decode cX12_meet 19 = .ok (.if_icmp .gt 27, 3) := by decide +kernel
theorem dX12_meet_22 : decode cX12_meet 22 = .ok (.aload_n 0, 1) := by decide +kernel
theorem dX12_meet_23 : decode cX12_meet 23 = .ok (.iload_n 1, 1) := by decide +kernel
theorem dX12_meet_24 : decode cX12_meet 24 = .ok (.bipush 10, 2) := by decide +kernel
theorem dX12_meet_26 : decode cX12_meet 26 = .ok (.idiv, 1) := by decide +kernel
theorem dX12_meet_27 : decode cX12_meet 27 = .ok (.iload_n 1, 1) := by decide +kernel
theorem dX12_meet_28 : decode cX12_meet 28 = .ok (.bipush 10, 2) := by decide +kernel
theorem dX12_meet_30 : decode cX12_meet 30 = .ok (.irem, 1) := by decide +kernel
theorem dX12_meet_31 : decode cX12_meet 31 = .ok (.iload_n 2, 1) := by decide +kernel
theorem dX12_meet_32 : decode cX12_meet 32 = .ok (.invokevirtual 317, 3) := by decide +kernel
theorem dX12_meet_35 : decode cX12_meet 35 = .ok (.ifCond .eq 5, 3) := by decide +kernel
theorem dX12_meet_38 : decode cX12_meet 38 = .ok (.iload_n 2, 1) := by decide +kernel
theorem dX12_meet_39 : decode cX12_meet 39 = .ok (.ireturn, 1) := by decide +kernel
theorem dX12_meet_40 : decode cX12_meet 40 = .ok (.iinc 2 1, 3) := by decide +kernel
theorem dX12_meet_43 : decode cX12_meet 43 = .ok (.goto (-27), 3) := by decide +kernel
theorem dX12_meet_46 : decode cX12_meet 46 = .ok (.bipush (-2), 2) := by decide +kernel
theorem dX12_meet_48 : decode cX12_meet 48 = .ok (.ireturn, 1) := by decide +kernel
theorem dX12_often_0 : decode cX12_often 0 = .ok (.aload_n 0, 1) := by decide +kernel
theorem dX12_often_1 : decode cX12_often 1 = .ok (.iload_n 1, 1) := by decide +kernel
theorem dX12_often_2 : decode cX12_often 2 = .ok (.invokevirtual 314, 3) := by decide +kernel
theorem dX12_often_5 : decode cX12_often 5 = .ok (.ifCond .eq 10, 3) := by decide +kernel
theorem dX12_often_8 : decode cX12_often 8 = .ok (.iload_n 2, 1) := by decide +kernel
theorem dX12_often_9 : decode cX12_often 9 = .ok (.invokestatic 290, 3) := by decide +kernel
theorem dX12_often_12 : decode cX12_often 12 = .ok (.ifCond .ne 5, 3) := by decide +kernel
theorem dX12_often_15 : decode cX12_often 15 = .ok (.iconst (-1), 1) := by decide +kernel
theorem dX12_often_16 : decode cX12_often 16 = .ok (.ireturn, 1) := by decide +kernel
theorem dX12_often_17 : decode cX12_often 17 = .ok (.aload_n 0, 1) := by decide +kernel
theorem dX12_often_18 : decode cX12_often 18 = .ok (.invokevirtual 302, 3) := by decide +kernel
theorem dX12_often_21 : decode cX12_often 21 = .ok (.iconst 0, 1) := by decide +kernel
theorem dX12_often_22 : decode cX12_often 22 = .ok (.istore_n 3, 1) := by decide +kernel
theorem dX12_often_23 : decode cX12_often 23 = .ok (.iconst 0, 1) := by decide +kernel
theorem dX12_often_24 : decode cX12_often 24 = .ok (.istore 4, 2) := by decide +kernel
theorem dX12_often_26 : decode cX12_often 26 = .ok (.iload 4, 2) := by decide +kernel
theorem dX12_often_28 : decode cX12_often 28 = .ok (.iload_n 2, 1) := by decide +kernel
theorem dX12_often_29 : decode cX12_often 29 = .ok (.if_icmp .gt 29, 3) := by decide +kernel
theorem dX12_often_32 : decode cX12_often 32 = .ok (.aload_n 0, 1) := by decide +kernel
theorem dX12_often_33 : decode cX12_often 33 = .ok (.iload_n 1, 1) := by decide +kernel
theorem dX12_often_34 : decode cX12_often 34 = .ok (.bipush 10, 2) := by decide +kernel
theorem dX12_often_36 : decode cX12_often 36 = .ok (.idiv, 1) := by decide +kernel
theorem dX12_often_37 : decode cX12_often 37 = .ok (.iload_n 1, 1) := by decide +kernel
theorem dX12_often_38 : decode cX12_often 38 = .ok (.bipush 10, 2) := by decide +kernel
theorem dX12_often_40 : decode cX12_often 40 = .ok (.irem, 1) := by decide +kernel
theorem dX12_often_41 : decode cX12_often 41 = .ok (.iload 4, 2) := by decide +kernel
theorem dX12_often_43 : decode cX12_often 43 = .ok (.invokevirtual 317, 3) := by decide +kernel
theorem dX12_often_46 : decode cX12_often 46 = .ok (.ifCond .eq 6, 3) := by decide +kernel
theorem dX12_often_49 : decode cX12_often 49 = .ok (.iinc 3 1, 3) := by decide +kernel
theorem dX12_often_52 : decode cX12_often 52 = .ok (.iinc 4 1, 3) := by decide +kernel
theorem dX12_often_55 : decode cX12_often 55 = .ok (.goto (-29), 3) := by decide +kernel
theorem dX12_often_58 : decode cX12_often 58 = .ok (.iload_n 3, 1) := by decide +kernel
theorem dX12_often_59 : decode cX12_often 59 = .ok (.ireturn, 1) := by decide +kernel
theorem dX12_whoNear_0 : decode cX12_whoNear 0 = .ok (.iconst 0, 1) := by decide +kernel
theorem dX12_whoNear_1 : decode cX12_whoNear 1 = .ok (.istore_n 3, 1) := by decide +kernel
theorem dX12_whoNear_2 : decode cX12_whoNear 2 = .ok (.iconst 0, 1) := by decide +kernel
theorem dX12_whoNear_3 : decode cX12_whoNear 3 = .ok (.istore 4, 2) := by decide +kernel
theorem dX12_whoNear_5 : decode cX12_whoNear 5 = .ok (.iload 4, 2) := by decide +kernel
theorem dX12_whoNear_7 : decode cX12_whoNear 7 = .ok (.aload_n 0, 1) := by decide +kernel
theorem dX12_whoNear_8 : decode cX12_whoNear 8 = .ok (.getfield 125, 3) := by decide +kernel
theorem dX12_whoNear_11 : decode cX12_whoNear 11 = .ok (.if_icmp .ge 36, 3) := by decide +kernel
theorem dX12_whoNear_14 : decode cX12_whoNear 14 = .ok (.aload_n 0, 1) := by decide +kernel
theorem dX12_whoNear_15 : decode cX12_whoNear 15 = .ok (.aload_n 0, 1) := by decide +kernel
theorem dX12_whoNear_16 : decode cX12_whoNear 16 = .ok (.getfield 71, 3) := by decide +kernel
theorem dX12_whoNear_19 : decode cX12_whoNear 19 = .ok (.bipush 61, 2) := by decide +kernel
theorem dX12_whoNear_21 : decode cX12_whoNear 21 = .ok (.iload 4, 2) := by decide +kernel
theorem dX12_whoNear_23 : decode cX12_whoNear 23 = .ok (.imul, 1) := by decide +kernel
theorem dX12_whoNear_24 : decode cX12_whoNear 24 = .ok (.iload_n 2, 1) := by decide +kernel
theorem dX12_whoNear_25 : decode cX12_whoNear 25 = .ok (.iadd, 1) := by decide +kernel
theorem dX12_whoNear_26 : decode cX12_whoNear 26 = .ok (.iaload, 1) := by decide +kernel
theorem dX12_whoNear_27 : decode cX12_whoNear 27 = .ok (.iload_n 1, 1) := by decide +kernel
theorem dX12_whoNear_28 : decode cX12_whoNear 28 = .ok (.invokevirtual 305, 3) := by decide +kernel
theorem dX12_whoNear_31 : decode cX12_whoNear 31 = .ok (.ifCond .eq 10, 3) := by decide +kernel
theorem dX12_whoNear_34 : decode cX12_whoNear 34 = .ok (.iload_n 3, 1) := by decide +kernel
theorem dX12_whoNear_35 : decode cX12_whoNear 35 = .ok (.iconst 1, 1) := by decide +kernel
theorem dX12_whoNear_36 : decode cX12_whoNear 36 = .ok (.iload 4, 2) := by decide +kernel
theorem dX12_whoNear_38 : decode cX12_whoNear 38 = .ok (.ishl, 1) := by decide +kernel
theorem dX12_whoNear_39 : decode cX12_whoNear 39 = .ok (.ior, 1) := by decide +kernel
theorem dX12_whoNear_40 : decode cX12_whoNear 40 = .ok (.istore_n 3, 1) := by decide +kernel
theorem dX12_whoNear_41 : decode cX12_whoNear 41 = .ok (.iinc 4 1, 3) := by decide +kernel
theorem dX12_whoNear_44 : decode cX12_whoNear 44 = .ok (.goto (-39), 3) := by decide +kernel
theorem dX12_whoNear_47 : decode cX12_whoNear 47 = .ok (.iload_n 3, 1) := by decide +kernel
theorem dX12_whoNear_48 : decode cX12_whoNear 48 = .ok (.ireturn, 1) := by decide +kernel
theorem dX12_who_0 : decode cX12_who 0 = .ok (.iload_n 1, 1) := by decide +kernel
theorem dX12_who_1 : decode cX12_who 1 = .ok (.invokestatic 142, 3) := by decide +kernel
theorem dX12_who_4 : decode cX12_who 4 = .ok (.ifCond .eq 10, 3) := by decide +kernel
theorem dX12_who_7 : decode cX12_who 7 = .ok (.iload_n 2, 1) := by decide +kernel
theorem dX12_who_8 : decode cX12_who 8 = .ok (.invokestatic 290, 3) := by decide +kernel
theorem dX12_who_11 : decode cX12_who 11 = .ok (.ifCond .ne 5, 3) := by decide +kernel
theorem dX12_who_14 : decode cX12_who 14 = .ok (.iconst (-1), 1) := by decide +kernel
theorem dX12_who_15 : decode cX12_who 15 = .ok (.ireturn, 1) := by decide +kernel
theorem dX12_who_16 : decode cX12_who 16 = .ok (.aload_n 0, 1) := by decide +kernel
theorem dX12_who_17 : decode cX12_who 17 = .ok (.invokevirtual 302, 3) := by decide +kernel
theorem dX12_who_20 : decode cX12_who 20 = .ok (.aload_n 0, 1) := by decide +kernel
theorem dX12_who_21 : decode cX12_who 21 = .ok (.iload_n 1, 1) := by decide +kernel
theorem dX12_who_22 : decode cX12_who 22 = .ok (.iload_n 2, 1) := by decide +kernel
theorem dX12_who_23 : decode cX12_who 23 = .ok (.invokevirtual 320, 3) := by decide +kernel
theorem dX12_who_26 : decode cX12_who 26 = .ok (.ireturn, 1) := by decide +kernel
theorem dX12_changed_0 : decode cX12_changed 0 = .ok (.iload_n 1, 1) := by decide +kernel
theorem dX12_changed_1 : decode cX12_changed 1 = .ok (.istore_n 3, 1) := by decide +kernel
theorem dX12_changed_2 : decode cX12_changed 2 = .ok (.iconst 0, 1) := by decide +kernel
theorem dX12_changed_3 : decode cX12_changed 3 = .ok (.istore 4, 2) := by decide +kernel
theorem dX12_changed_5 : decode cX12_changed 5 = .ok (.iload_n 3, 1) := by decide +kernel
theorem dX12_changed_6 : decode cX12_changed 6 = .ok (.iload 4, 2) := by decide +kernel
theorem dX12_changed_8 : decode cX12_changed 8 = .ok (.if_icmp .eq 77, 3) := by decide +kernel
theorem dX12_changed_11 : decode cX12_changed 11 = .ok (.iload_n 3, 1) := by decide +kernel
theorem dX12_changed_12 : decode cX12_changed 12 = .ok (.istore 4, 2) := by decide +kernel
theorem dX12_changed_14 : decode cX12_changed 14 = .ok (.iconst 0, 1) := by decide +kernel
theorem dX12_changed_15 : decode cX12_changed 15 = .ok (.istore 5, 2) := by decide +kernel
theorem dX12_changed_17 : decode cX12_changed 17 = .ok (.iload 5, 2) := by decide +kernel
theorem dX12_changed_19 : decode cX12_changed 19 = .ok (.aload_n 0, 1) := by decide +kernel
theorem dX12_changed_20 : decode cX12_changed 20 = .ok (.getfield 125, 3) := by decide +kernel
theorem dX12_changed_23 : decode cX12_changed 23 = .ok (.if_icmp .ge 59, 3) := by decide +kernel
theorem dX12_changed_26 : decode cX12_changed 26 = .ok (.iload 4, 2) := by decide +kernel
theorem dX12_changed_28 : decode cX12_changed 28 = .ok (.iload 5, 2) := by decide +kernel
theorem dX12_changed_30 : decode cX12_changed 30 = .ok (.invokestatic 311, 3) := by decide +kernel
theorem dX12_changed_33 : decode cX12_changed 33 = .ok (.ifCond .ne 6, 3) := by decide +kernel
theorem dX12_changed_36 : decode cX12_changed 36 = .ok (.goto 40, 3) := by decide +kernel
theorem dX12_changed_39 : decode cX12_changed 39 = .ok (.iconst 0, 1) := by decide +kernel
theorem dX12_changed_40 : decode cX12_changed 40 = .ok (.istore 6, 2) := by decide +kernel
theorem dX12_changed_42 : decode cX12_changed 42 = .ok (.iload 6, 2) := by decide +kernel
theorem dX12_changed_44 : decode cX12_changed 44 = .ok (.aload_n 0, 1) := by decide +kernel
theorem dX12_changed_45 : decode cX12_changed 45 = .ok (.getfield 125, 3) := by decide +kernel
theorem dX12_changed_48 : decode cX12_changed 48 = .ok (.if_icmp .ge 28, 3) := by decide +kernel
theorem dX12_changed_51 : decode cX12_changed 51 = .ok (.aload_n 0, 1) := by decide +kernel
theorem dX12_changed_52 : decode cX12_changed 52 = .ok (.iload 5, 2) := by decide +kernel
theorem dX12_changed_54 : decode cX12_changed 54 = .ok (.iload 6, 2) := by decide +kernel
theorem dX12_changed_56 : decode cX12_changed 56 = .ok (.iload_n 2, 1) := by decide +kernel
theorem dX12_changed_57 : decode cX12_changed 57 = .ok (.invokevirtual 317, 3) := by decide +kernel
theorem dX12_changed_60 : decode cX12_changed 60 = .ok (.ifCond .eq 10, 3) := by decide +kernel
theorem dX12_changed_63 : decode cX12_changed 63 = .ok (.iload_n 3, 1) := by decide +kernel
theorem dX12_changed_64 : decode cX12_changed 64 = .ok (.iconst 1, 1) := by decide +kernel
theorem dX12_changed_65 : decode cX12_changed 65 = .ok (.iload 6, 2) := by decide +kernel
theorem dX12_changed_67 : decode cX12_changed 67 = .ok (.ishl, 1) := by decide +kernel
theorem dX12_changed_68 : decode cX12_changed 68 = .ok (.ior, 1) := by decide +kernel
theorem dX12_changed_69 : decode cX12_changed 69 = .ok (.istore_n 3, 1) := by decide +kernel
theorem dX12_changed_70 : decode cX12_changed 70 = .ok (.iinc 6 1, 3) := by decide +kernel
theorem dX12_changed_73 : decode cX12_changed 73 = .ok (.goto (-31), 3) := by decide +kernel
theorem dX12_changed_76 : decode cX12_changed 76 = .ok (.iinc 5 1, 3) := by decide +kernel
theorem dX12_changed_79 : decode cX12_changed 79 = .ok (.goto (-62), 3) := by decide +kernel
theorem dX12_changed_82 : decode cX12_changed 82 = .ok (.goto (-77), 3) := by decide +kernel
theorem dX12_changed_85 : decode cX12_changed 85 = .ok (.iload_n 3, 1) := by decide +kernel
theorem dX12_changed_86 : decode cX12_changed 86 = .ok (.ireturn, 1) := by decide +kernel
theorem dX12_soonest_0 : decode cX12_soonest 0 = .ok (.iload_n 1, 1) := by decide +kernel
theorem dX12_soonest_1 : decode cX12_soonest 1 = .ok (.ifCond .lt 45, 3) := by decide +kernel
theorem dX12_soonest_4 : decode cX12_soonest 4 = .ok (.aload_n 0, 1) := by decide +kernel
theorem dX12_soonest_5 : decode cX12_soonest 5 = .ok (.iload_n 1, 1) := by decide +kernel
theorem dX12_soonest_6 : decode cX12_soonest 6 = .ok (.bipush 10, 2) := by decide +kernel
theorem dX12_soonest_8 : decode cX12_soonest 8 = .ok (.idiv, 1) := by decide +kernel
theorem dX12_soonest_9 : decode cX12_soonest 9 = .ok (.invokevirtual 139, 3) := by decide +kernel
theorem dX12_soonest_12 : decode cX12_soonest 12 = .ok (.ifCond .eq 34, 3) := by decide +kernel
theorem dX12_soonest_15 : decode cX12_soonest 15 = .ok (.aload_n 0, 1) := by decide +kernel
theorem dX12_soonest_16 : decode cX12_soonest 16 = .ok (.iload_n 1, 1) := by decide +kernel
theorem dX12_soonest_17 : decode cX12_soonest 17 = .ok (.bipush 10, 2) := by decide +kernel
theorem dX12_soonest_19 : decode cX12_soonest 19 = .ok (.irem, 1) := by decide +kernel
theorem dX12_soonest_20 : decode cX12_soonest 20 = .ok (.invokevirtual 139, 3) := by decide +kernel
theorem dX12_soonest_23 : decode cX12_soonest 23 = .ok (.ifCond .eq 23, 3) := by decide +kernel
theorem dX12_soonest_26 : decode cX12_soonest 26 = .ok (.iload_n 1, 1) := by decide +kernel
theorem dX12_soonest_27 : decode cX12_soonest 27 = .ok (.bipush 10, 2) := by decide +kernel
theorem dX12_soonest_29 : decode cX12_soonest 29 = .ok (.idiv, 1) := by decide +kernel
theorem dX12_soonest_30 : decode cX12_soonest 30 = .ok (.iload_n 1, 1) := by decide +kernel
theorem dX12_soonest_31 : decode cX12_soonest 31 = .ok (.bipush 10, 2) := by decide +kernel
theorem dX12_soonest_33 : decode cX12_soonest 33 = .ok (.irem, 1) := by decide +kernel
theorem dX12_soonest_34 : decode cX12_soonest 34 = .ok (.if_icmp .eq 12, 3) := by decide +kernel
theorem dX12_soonest_37 : decode cX12_soonest 37 = .ok (.iload_n 2, 1) := by decide +kernel
theorem dX12_soonest_38 : decode cX12_soonest 38 = .ok (.iconst 0, 1) := by decide +kernel
theorem dX12_soonest_39 : decode cX12_soonest 39 = .ok (.iconst 1, 1) := by decide +kernel
theorem dX12_soonest_40 : decode cX12_soonest 40 = .ok (.invokestatic 128, 3) := by decide +kernel
theorem dX12_soonest_43 : decode cX12_soonest 43 = .ok (.ifCond .ne 5, 3) := by decide +kernel
theorem dX12_soonest_46 : decode cX12_soonest 46 = .ok (.iconst (-1), 1) := by decide +kernel
theorem dX12_soonest_47 : decode cX12_soonest 47 = .ok (.ireturn, 1) := by decide +kernel
theorem dX12_soonest_48 : decode cX12_soonest 48 = .ok (.aload_n 0, 1) := by decide +kernel
theorem dX12_soonest_49 : decode cX12_soonest 49 = .ok (.invokevirtual 302, 3) := by decide +kernel
theorem dX12_soonest_52 : decode cX12_soonest 52 = .ok (.iconst 0, 1) := by decide +kernel
theorem dX12_soonest_53 : decode cX12_soonest 53 = .ok (.istore_n 3, 1) := by decide +kernel
theorem dX12_soonest_54 : decode cX12_soonest 54 = .ok (.iconst 0, 1) := by decide +kernel
theorem dX12_soonest_55 : decode cX12_soonest 55 = .ok (.istore 4, 2) := by decide +kernel
theorem dX12_soonest_57 : decode cX12_soonest 57 = .ok (.iload 4, 2) := by decide +kernel
theorem dX12_soonest_59 : decode cX12_soonest 59 = .ok (.bipush 60, 2) := by decide +kernel
theorem dX12_soonest_61 : decode cX12_soonest 61 = .ok (.if_icmp .gt 64, 3) := by decide +kernel
theorem dX12_soonest_64 : decode cX12_soonest 64 = .ok (.aload_n 0, 1) := by decide +kernel
theorem dX12_soonest_65 : decode cX12_soonest 65 = .ok (.iload_n 3, 1) := by decide +kernel
theorem dX12_soonest_66 : decode cX12_soonest 66 = .ok (.aload_n 0, 1) := by decide +kernel
theorem dX12_soonest_67 : decode cX12_soonest 67 = .ok (.aload_n 0, 1) := by decide +kernel
theorem dX12_soonest_68 : decode cX12_soonest 68 = .ok (.getfield 24, 3) := by decide +kernel
theorem dX12_soonest_71 : decode cX12_soonest 71 = .ok (.iload_n 1, 1) := by decide +kernel
theorem dX12_soonest_72 : decode cX12_soonest 72 = .ok (.bipush 10, 2) := by decide +kernel
theorem dX12_soonest_74 : decode cX12_soonest 74 = .ok (.idiv, 1) := by decide +kernel
theorem dX12_soonest_75 : decode cX12_soonest 75 = .ok (.iaload, 1) := by decide +kernel
theorem dX12_soonest_76 : decode cX12_soonest 76 = .ok (.iload 4, 2) := by decide +kernel
theorem dX12_soonest_78 : decode cX12_soonest 78 = .ok (.invokevirtual 320, 3) := by decide +kernel
theorem dX12_soonest_81 : decode cX12_soonest 81 = .ok (.ior, 1) := by decide +kernel
theorem dX12_soonest_82 : decode cX12_soonest 82 = .ok (.iload 4, 2) := by decide +kernel
theorem dX12_soonest_84 : decode cX12_soonest 84 = .ok (.invokevirtual 323, 3) := by decide +kernel
theorem dX12_soonest_87 : decode cX12_soonest 87 = .ok (.istore_n 3, 1) := by decide +kernel
theorem dX12_soonest_88 : decode cX12_soonest 88 = .ok (.iload_n 3, 1) := by decide +kernel
theorem dX12_soonest_89 : decode cX12_soonest 89 = .ok (.aload_n 0, 1) := by decide +kernel
theorem dX12_soonest_90 : decode cX12_soonest 90 = .ok (.aload_n 0, 1) := by decide +kernel
theorem dX12_soonest_91 : decode cX12_soonest 91 = .ok (.getfield 24, 3) := by decide +kernel
theorem dX12_soonest_94 : decode cX12_soonest 94 = .ok (.iload_n 1, 1) := by decide +kernel
theorem dX12_soonest_95 : decode cX12_soonest 95 = .ok (.bipush 10, 2) := by decide +kernel
theorem dX12_soonest_97 : decode cX12_soonest 97 = .ok (.irem, 1) := by decide +kernel
theorem dX12_soonest_98 : decode cX12_soonest 98 = .ok (.iaload, 1) := by decide +kernel
theorem dX12_soonest_99 : decode cX12_soonest 99 = .ok (.iload 4, 2) := by decide +kernel
theorem dX12_soonest_101 : decode cX12_soonest 101 = .ok (.invokevirtual 320, 3) := by decide +kernel
theorem dX12_soonest_104 : decode cX12_soonest 104 = .ok (.iand, 1) := by decide +kernel
theorem dX12_soonest_105 : decode cX12_soonest 105 = .ok (.ifCond .eq 14, 3) := by decide +kernel
theorem dX12_soonest_108 : decode cX12_soonest 108 = .ok (.iload_n 2, 1) := by decide +kernel
theorem dX12_soonest_109 : decode cX12_soonest 109 = .ok (.ifCond .ne 8, 3) := by decide +kernel
theorem dX12_soonest_112 : decode cX12_soonest 112 = .ok (.iload 4, 2) := by decide +kernel
theorem dX12_soonest_114 : decode cX12_soonest 114 = .ok (.goto 4, 3) := by decide +kernel
theorem dX12_soonest_117 : decode cX12_soonest 117 = .ok (.iload_n 3, 1) := by decide +kernel
theorem dX12_soonest_118 : decode cX12_soonest 118 = .ok (.ireturn, 1) := by decide +kernel
theorem dX12_soonest_119 : decode cX12_soonest 119 = .ok (.iinc 4 1, 3) := by decide +kernel
theorem dX12_soonest_122 : decode cX12_soonest 122 = .ok (.goto (-65), 3) := by decide +kernel
theorem dX12_soonest_125 : decode cX12_soonest 125 = .ok (.bipush (-2), 2) := by decide +kernel
theorem dX12_soonest_127 : decode cX12_soonest 127 = .ok (.ireturn, 1) := by decide +kernel
theorem dX12_buy_0 : decode cX12_buy 0 = .ok (.iload_n 1, 1) := by decide +kernel
theorem dX12_buy_1 : decode cX12_buy 1 = .ok (.iconst 1, 1) := by decide +kernel
theorem dX12_buy_2 : decode cX12_buy 2 = .ok (.iconst 3, 1) := by decide +kernel
theorem dX12_buy_3 : decode cX12_buy 3 = .ok (.invokestatic 128, 3) := by decide +kernel
theorem dX12_buy_6 : decode cX12_buy 6 = .ok (.ifCond .eq 22, 3) := by decide +kernel
theorem dX12_buy_9 : decode cX12_buy 9 = .ok (.iload_n 2, 1) := by decide +kernel
theorem dX12_buy_10 : decode cX12_buy 10 = .ok (.iconst 0, 1) := by decide +kernel
theorem dX12_buy_11 : decode cX12_buy 11 = .ok (.bipush 30, 2) := by decide +kernel
theorem dX12_buy_13 : decode cX12_buy 13 = .ok (.invokestatic 128, 3) := by decide +kernel
theorem dX12_buy_16 : decode cX12_buy 16 = .ok (.ifCond .eq 12, 3) := by decide +kernel
theorem dX12_buy_19 : decode cX12_buy 19 = .ok (.iload_n 3, 1) := by decide +kernel
theorem dX12_buy_20 : decode cX12_buy 20 = .ok (.iconst 0, 1) := by decide +kernel
theorem dX12_buy_21 : decode cX12_buy 21 = .ok (.iconst 1, 1) := by decide +kernel
theorem dX12_buy_22 : decode cX12_buy 22 = .ok (.invokestatic 128, 3) := by decide +kernel
theorem dX12_buy_25 : decode cX12_buy 25 = .ok (.ifCond .ne 5, 3) := by decide +kernel
theorem dX12_buy_28 : decode cX12_buy 28 = .ok (.iconst (-1), 1) := by decide +kernel
theorem dX12_buy_29 : decode cX12_buy 29 = .ok (.ireturn, 1) := by decide +kernel
theorem dX12_buy_30 : decode cX12_buy 30 = .ok (.aload_n 0, 1) := by decide +kernel
theorem dX12_buy_31 : decode cX12_buy 31 = .ok (.invokevirtual 302, 3) := by decide +kernel
theorem dX12_buy_34 : decode cX12_buy 34 = .ok (.iconst 0, 1) := by decide +kernel
theorem dX12_buy_35 : decode cX12_buy 35 = .ok (.istore 4, 2) := by decide +kernel
theorem dX12_buy_37 : decode cX12_buy 37 = .ok (.iconst 0, 1) := by decide +kernel
theorem dX12_buy_38 : decode cX12_buy 38 = .ok (.istore 5, 2) := by decide +kernel
theorem dX12_buy_40 : decode cX12_buy 40 = .ok (.iconst 1, 1) := by decide +kernel
theorem dX12_buy_41 : decode cX12_buy 41 = .ok (.istore 6, 2) := by decide +kernel
theorem dX12_buy_43 : decode cX12_buy 43 = .ok (.iload 6, 2) := by decide +kernel
theorem dX12_buy_45 : decode cX12_buy 45 = .ok (.iconst 1, 1) := by decide +kernel
theorem dX12_buy_46 : decode cX12_buy 46 = .ok (.aload_n 0, 1) := by decide +kernel
theorem dX12_buy_47 : decode cX12_buy 47 = .ok (.getfield 132, 3) := by decide +kernel
theorem dX12_buy_50 : decode cX12_buy 50 = .ok (.ishl, 1) := by decide +kernel
theorem dX12_buy_51 : decode cX12_buy 51 = .ok (.if_icmp .ge 96, 3) := by decide +kernel
theorem dX12_buy_54 : decode cX12_buy 54 = .ok (.iload 6, 2) := by decide +kernel
theorem dX12_buy_56 : decode cX12_buy 56 = .ok (.invokestatic 326, 3) := by decide +kernel
theorem dX12_buy_59 : decode cX12_buy 59 = .ok (.iload_n 1, 1) := by decide +kernel
theorem dX12_buy_60 : decode cX12_buy 60 = .ok (.if_icmp .le 6, 3) := by decide +kernel
theorem dX12_buy_63 : decode cX12_buy 63 = .ok (.goto 78, 3) := by decide +kernel
theorem dX12_buy_66 : decode cX12_buy 66 = .ok (.iconst 0, 1) := by decide +kernel
theorem dX12_buy_67 : decode cX12_buy 67 = .ok (.istore 7, 2) := by decide +kernel
theorem dX12_buy_69 : decode cX12_buy 69 = .ok (.iconst 0, 1) := by decide +kernel
theorem dX12_buy_70 : decode cX12_buy 70 = .ok (.istore 8, 2) := by decide +kernel
theorem dX12_buy_72 : decode cX12_buy 72 = .ok (.iload 8, 2) := by decide +kernel
theorem dX12_buy_74 : decode cX12_buy 74 = .ok (.aload_n 0, 1) := by decide +kernel
theorem dX12_buy_75 : decode cX12_buy 75 = .ok (.getfield 125, 3) := by decide +kernel
theorem dX12_buy_78 : decode cX12_buy 78 = .ok (.if_icmp .ge 25, 3) := by decide +kernel
theorem dX12_buy_81 : decode cX12_buy 81 = .ok (.aload_n 0, 1) := by decide +kernel
theorem dX12_buy_82 : decode cX12_buy 82 = .ok (.iload 8, 2) := by decide +kernel
theorem dX12_buy_84 : decode cX12_buy 84 = .ok (.iload_n 2, 1) := by decide +kernel
theorem dX12_buy_85 : decode cX12_buy 85 = .ok (.invokevirtual 308, 3) := by decide +kernel
theorem dX12_buy_88 : decode cX12_buy 88 = .ok (.iload 6, 2) := by decide +kernel
theorem dX12_buy_90 : decode cX12_buy 90 = .ok (.iand, 1) := by decide +kernel
theorem dX12_buy_91 : decode cX12_buy 91 = .ok (.ifCond .eq 6, 3) := by decide +kernel
theorem dX12_buy_94 : decode cX12_buy 94 = .ok (.iinc 7 1, 3) := by decide +kernel
theorem dX12_buy_97 : decode cX12_buy 97 = .ok (.iinc 8 1, 3) := by decide +kernel
theorem dX12_buy_100 : decode cX12_buy 100 = .ok (.goto (-28), 3) := by decide +kernel
theorem dX12_buy_103 : decode cX12_buy 103 = .ok (.iload 7, 2) := by decide +kernel
theorem dX12_buy_105 : decode cX12_buy 105 = .ok (.iload 5, 2) := by decide +kernel
theorem dX12_buy_107 : decode cX12_buy 107 = .ok (.if_icmp .lt 34, 3) := by decide +kernel
theorem dX12_buy_110 : decode cX12_buy 110 = .ok (.iload 7, 2) := by decide +kernel
theorem dX12_buy_112 : decode cX12_buy 112 = .ok (.iload 5, 2) := by decide +kernel
theorem dX12_buy_114 : decode cX12_buy 114 = .ok (.if_icmp .ne 19, 3) := by decide +kernel
theorem dX12_buy_117 : decode cX12_buy 117 = .ok (.iload 6, 2) := by decide +kernel
theorem dX12_buy_119 : decode cX12_buy 119 = .ok (.invokestatic 326, 3) := by decide +kernel
theorem dX12_buy_122 : decode cX12_buy 122 = .ok (.iload 4, 2) := by decide +kernel
theorem dX12_buy_124 : decode cX12_buy 124 = .ok (.invokestatic 326, 3) := by decide +kernel
theorem dX12_buy_127 : decode cX12_buy 127 = .ok (.if_icmp .lt 6, 3) := by decide +kernel
theorem dX12_buy_130 : decode cX12_buy 130 = .ok (.goto 11, 3) := by decide +kernel
theorem dX12_buy_133 : decode cX12_buy 133 = .ok (.iload 6, 2) := by decide +kernel
theorem dX12_buy_135 : decode cX12_buy 135 = .ok (.istore 4, 2) := by decide +kernel
theorem dX12_buy_137 : decode cX12_buy 137 = .ok (.iload 7, 2) := by decide +kernel
theorem dX12_buy_139 : decode cX12_buy 139 = .ok (.istore 5, 2) := by decide +kernel
theorem dX12_buy_141 : decode cX12_buy 141 = .ok (.iinc 6 1, 3) := by decide +kernel
theorem dX12_buy_144 : decode cX12_buy 144 = .ok (.goto (-101), 3) := by decide +kernel
theorem dX12_buy_147 : decode cX12_buy 147 = .ok (.iload_n 3, 1) := by decide +kernel
theorem dX12_buy_148 : decode cX12_buy 148 = .ok (.ifCond .ne 8, 3) := by decide +kernel
theorem dX12_buy_151 : decode cX12_buy 151 = .ok (.iload 5, 2) := by decide +kernel
theorem dX12_buy_153 : decode cX12_buy 153 = .ok (.goto 5, 3) := by decide +kernel
theorem dX12_buy_156 : decode cX12_buy 156 = .ok (.iload 4, 2) := by decide +kernel
theorem dX12_buy_158 : decode cX12_buy 158 = .ok (.ireturn, 1) := by decide +kernel
theorem dX12_rowFault_0 : decode cX12_rowFault 0 = .ok (.aload_n 0, 1) := by decide +kernel
theorem dX12_rowFault_1 : decode cX12_rowFault 1 = .ok (.getfield 104, 3) := by decide +kernel
theorem dX12_rowFault_4 : decode cX12_rowFault 4 = .ok (.iload_n 1, 1) := by decide +kernel
theorem dX12_rowFault_5 : decode cX12_rowFault 5 = .ok (.iaload, 1) := by decide +kernel
theorem dX12_rowFault_6 : decode cX12_rowFault 6 = .ok (.iconst (-1), 1) := by decide +kernel
theorem dX12_rowFault_7 : decode cX12_rowFault 7 = .ok (.if_icmp .ne 8, 3) := by decide +kernel
theorem dX12_rowFault_10 : decode cX12_rowFault 10 = .ok (.bipush (-11), 2) := by decide +kernel
theorem dX12_rowFault_12 : decode cX12_rowFault 12 = .ok (.goto 20, 3) := by decide +kernel
theorem dX12_rowFault_15 : decode cX12_rowFault 15 = .ok (.aload_n 0, 1) := by decide +kernel
theorem dX12_rowFault_16 : decode cX12_rowFault 16 = .ok (.getfield 104, 3) := by decide +kernel
theorem dX12_rowFault_19 : decode cX12_rowFault 19 = .ok (.iload_n 1, 1) := by decide +kernel
theorem dX12_rowFault_20 : decode cX12_rowFault 20 = .ok (.iaload, 1) := by decide +kernel
theorem dX12_rowFault_21 : decode cX12_rowFault 21 = .ok (.bipush (-2), 2) := by decide +kernel
theorem dX12_rowFault_23 : decode cX12_rowFault 23 = .ok (.if_icmp .ne 7, 3) := by decide +kernel
theorem dX12_rowFault_26 : decode cX12_rowFault 26 = .ok (.iconst 0, 1) := by decide +kernel
theorem dX12_rowFault_27 : decode cX12_rowFault 27 = .ok (.goto 5, 3) := by decide +kernel
theorem dX12_rowFault_30 : decode cX12_rowFault 30 = .ok (.bipush (-12), 2) := by decide +kernel
theorem dX12_rowFault_32 : decode cX12_rowFault 32 = .ok (.ireturn, 1) := by decide +kernel
theorem dX12_at_0 : decode cX12_at 0 = .ok (.aload_n 0, 1) := by decide +kernel
theorem dX12_at_1 : decode cX12_at 1 = .ok (.getfield 110, 3) := by decide +kernel
theorem dX12_at_4 : decode cX12_at 4 = .ok (.bipush 60, 2) := by decide +kernel
theorem dX12_at_6 : decode cX12_at 6 = .ok (.iload_n 1, 1) := by decide +kernel
theorem dX12_at_7 : decode cX12_at 7 = .ok (.imul, 1) := by decide +kernel
theorem dX12_at_8 : decode cX12_at 8 = .ok (.iload_n 2, 1) := by decide +kernel
theorem dX12_at_9 : decode cX12_at 9 = .ok (.iadd, 1) := by decide +kernel
theorem dX12_at_10 : decode cX12_at 10 = .ok (.laload, 1) := by decide +kernel
theorem dX12_at_11 : decode cX12_at 11 = .ok (.l2i, 1) := by decide +kernel
theorem dX12_at_12 : decode cX12_at 12 = .ok (.ireturn, 1) := by decide +kernel
theorem dX12_wrongTwo_0 : decode cX12_wrongTwo 0 = .ok (.aload_n 0, 1) := by decide +kernel
theorem dX12_wrongTwo_1 : decode cX12_wrongTwo 1 = .ok (.iload_n 2, 1) := by decide +kernel
theorem dX12_wrongTwo_2 : decode cX12_wrongTwo 2 = .ok (.invokevirtual 283, 3) := by decide +kernel
theorem dX12_wrongTwo_5 : decode cX12_wrongTwo 5 = .ok (.iconst 0, 1) := by decide +kernel
theorem dX12_wrongTwo_6 : decode cX12_wrongTwo 6 = .ok (.istore_n 3, 1) := by decide +kernel
theorem dX12_wrongTwo_7 : decode cX12_wrongTwo 7 = .ok (.iload_n 3, 1) := by decide +kernel
theorem dX12_wrongTwo_8 : decode cX12_wrongTwo 8 = .ok (.bipush 60, 2) := by decide +kernel
theorem dX12_wrongTwo_10 : decode cX12_wrongTwo 10 = .ok (.if_icmp .gt 26, 3) := by decide +kernel
theorem dX12_wrongTwo_13 : decode cX12_wrongTwo 13 = .ok (.aload_n 0, 1) := by decide +kernel
theorem dX12_wrongTwo_14 : decode cX12_wrongTwo 14 = .ok (.getfield 71, 3) := by decide +kernel
theorem dX12_wrongTwo_17 : decode cX12_wrongTwo 17 = .ok (.iload_n 3, 1) := by decide +kernel
theorem dX12_wrongTwo_18 : decode cX12_wrongTwo 18 = .ok (.aload_n 0, 1) := by decide +kernel
theorem dX12_wrongTwo_19 : decode cX12_wrongTwo 19 = .ok (.getfield 262, 3) := by decide +kernel
theorem dX12_wrongTwo_22 : decode cX12_wrongTwo 22 = .ok (.iastore, 1) := by decide +kernel
theorem dX12_wrongTwo_23 : decode cX12_wrongTwo 23 = .ok (.aload_n 0, 1) := by decide +kernel
theorem dX12_wrongTwo_24 : decode cX12_wrongTwo 24 = .ok (.iload_n 2, 1) := by decide +kernel
theorem dX12_wrongTwo_25 : decode cX12_wrongTwo 25 = .ok (.iload_n 3, 1) := by decide +kernel
theorem dX12_wrongTwo_26 : decode cX12_wrongTwo 26 = .ok (.iconst 0, 1) := by decide +kernel
theorem dX12_wrongTwo_27 : decode cX12_wrongTwo 27 = .ok (.invokevirtual 287, 3) := by decide +kernel
theorem dX12_wrongTwo_30 : decode cX12_wrongTwo 30 = .ok (.iinc 3 1, 3) := by decide +kernel
theorem dX12_wrongTwo_33 : decode cX12_wrongTwo 33 = .ok (.goto (-26), 3) := by decide +kernel
theorem dX12_wrongTwo_36 : decode cX12_wrongTwo 36 = .ok (.iconst 0, 1) := by decide +kernel
theorem dX12_wrongTwo_37 : decode cX12_wrongTwo 37 = .ok (.istore_n 3, 1) := by decide +kernel
theorem dX12_wrongTwo_38 : decode cX12_wrongTwo 38 = .ok (.iload_n 3, 1) := by decide +kernel
theorem dX12_wrongTwo_39 : decode cX12_wrongTwo 39 = .ok (.bipush 20, 2) := by decide +kernel
theorem dX12_wrongTwo_41 : decode cX12_wrongTwo 41 = .ok (.if_icmp .ge 105, 3) := by decide +kernel
theorem dX12_wrongTwo_44 : decode cX12_wrongTwo 44 = .ok (.iconst 2, 1) := by decide +kernel
theorem dX12_wrongTwo_45 : decode cX12_wrongTwo 45 = .ok (.iload_n 3, 1) := by decide +kernel
theorem dX12_wrongTwo_46 : decode cX12_wrongTwo 46 = .ok (.imul, 1) := by decide +kernel
theorem dX12_wrongTwo_47 : decode cX12_wrongTwo 47 = .ok (.aload_n 0, 1) := by decide +kernel
theorem dX12_wrongTwo_48 : decode cX12_wrongTwo 48 = .ok (.getfield 107, 3) := by decide +kernel
theorem dX12_wrongTwo_51 : decode cX12_wrongTwo 51 = .ok (.iload_n 1, 1) := by decide +kernel
theorem dX12_wrongTwo_52 : decode cX12_wrongTwo 52 = .ok (.iaload, 1) := by decide +kernel
theorem dX12_wrongTwo_53 : decode cX12_wrongTwo 53 = .ok (.if_icmp .ge 93, 3) := by decide +kernel
theorem dX12_wrongTwo_56 : decode cX12_wrongTwo 56 = .ok (.iconst 2, 1) := by decide +kernel
theorem dX12_wrongTwo_57 : decode cX12_wrongTwo 57 = .ok (.iload_n 3, 1) := by decide +kernel
theorem dX12_wrongTwo_58 : decode cX12_wrongTwo 58 = .ok (.imul, 1) := by decide +kernel
theorem dX12_wrongTwo_59 : decode cX12_wrongTwo 59 = .ok (.iconst 1, 1) := by decide +kernel
theorem dX12_wrongTwo_60 : decode cX12_wrongTwo 60 = .ok (.iadd, 1) := by decide +kernel
theorem dX12_wrongTwo_61 : decode cX12_wrongTwo 61 = .ok (.aload_n 0, 1) := by decide +kernel
theorem dX12_wrongTwo_62 : decode cX12_wrongTwo 62 = .ok (.getfield 107, 3) := by decide +kernel
theorem dX12_wrongTwo_65 : decode cX12_wrongTwo 65 = .ok (.iload_n 1, 1) := by decide +kernel
theorem dX12_wrongTwo_66 : decode cX12_wrongTwo 66 = .ok (.iaload, 1) := by decide +kernel
theorem dX12_wrongTwo_67 : decode cX12_wrongTwo 67 = .ok (.if_icmp .ge 34, 3) := by decide +kernel
theorem dX12_wrongTwo_70 : decode cX12_wrongTwo 70 = .ok (.aload_n 0, 1) := by decide +kernel
theorem dX12_wrongTwo_71 : decode cX12_wrongTwo 71 = .ok (.iload_n 1, 1) := by decide +kernel
theorem dX12_wrongTwo_72 : decode cX12_wrongTwo 72 = .ok (.iconst 2, 1) := by decide +kernel
theorem dX12_wrongTwo_73 : decode cX12_wrongTwo 73 = .ok (.iload_n 3, 1) := by decide +kernel
theorem dX12_wrongTwo_74 : decode cX12_wrongTwo 74 = .ok (.imul, 1) := by decide +kernel
theorem dX12_wrongTwo_75 : decode cX12_wrongTwo 75 = .ok (.invokevirtual 329, 3) := by decide +kernel
theorem dX12_wrongTwo_78 : decode cX12_wrongTwo 78 = .ok (.invokestatic 290, 3) := by decide +kernel
theorem dX12_wrongTwo_81 : decode cX12_wrongTwo 81 = .ok (.ifCond .eq 20, 3) := by decide +kernel
theorem dX12_wrongTwo_84 : decode cX12_wrongTwo 84 = .ok (.aload_n 0, 1) := by decide +kernel
theorem dX12_wrongTwo_85 : decode cX12_wrongTwo 85 = .ok (.aload_n 0, 1) := by decide +kernel
theorem dX12_wrongTwo_86 : decode cX12_wrongTwo 86 = .ok (.iload_n 1, 1) := by decide +kernel
theorem dX12_wrongTwo_87 : decode cX12_wrongTwo 87 = .ok (.iconst 2, 1) := by decide +kernel
theorem dX12_wrongTwo_88 : decode cX12_wrongTwo 88 = .ok (.iload_n 3, 1) := by decide +kernel
theorem dX12_wrongTwo_89 : decode cX12_wrongTwo 89 = .ok (.imul, 1) := by decide +kernel
theorem dX12_wrongTwo_90 : decode cX12_wrongTwo 90 = .ok (.iconst 1, 1) := by decide +kernel
theorem dX12_wrongTwo_91 : decode cX12_wrongTwo 91 = .ok (.iadd, 1) := by decide +kernel
theorem dX12_wrongTwo_92 : decode cX12_wrongTwo 92 = .ok (.invokevirtual 329, 3) := by decide +kernel
theorem dX12_wrongTwo_95 : decode cX12_wrongTwo 95 = .ok (.invokevirtual 139, 3) := by decide +kernel
theorem dX12_wrongTwo_98 : decode cX12_wrongTwo 98 = .ok (.ifCond .ne 5, 3) := by decide +kernel
theorem dX12_wrongTwo_101 : decode cX12_wrongTwo 101 = .ok (.iload_n 3, 1) := by decide +kernel
theorem dX12_wrongTwo_102 : decode cX12_wrongTwo 102 = .ok (.ireturn, 1) := by decide +kernel
theorem dX12_wrongTwo_103 : decode cX12_wrongTwo 103 = .ok (.aload_n 0, 1) := by decide +kernel
theorem dX12_wrongTwo_104 : decode cX12_wrongTwo 104 = .ok (.aload_n 0, 1) := by decide +kernel
theorem dX12_wrongTwo_105 : decode cX12_wrongTwo 105 = .ok (.getfield 71, 3) := by decide +kernel
theorem dX12_wrongTwo_108 : decode cX12_wrongTwo 108 = .ok (.aload_n 0, 1) := by decide +kernel
theorem dX12_wrongTwo_109 : decode cX12_wrongTwo 109 = .ok (.iload_n 1, 1) := by decide +kernel
theorem dX12_wrongTwo_110 : decode cX12_wrongTwo 110 = .ok (.iconst 2, 1) := by decide +kernel
theorem dX12_wrongTwo_111 : decode cX12_wrongTwo 111 = .ok (.iload_n 3, 1) := by decide +kernel
theorem dX12_wrongTwo_112 : decode cX12_wrongTwo 112 = .ok (.imul, 1) := by decide +kernel
theorem dX12_wrongTwo_113 : decode cX12_wrongTwo 113 = .ok (.invokevirtual 329, 3) := by decide +kernel
theorem dX12_wrongTwo_116 : decode cX12_wrongTwo 116 = .ok (.iaload, 1) := by decide +kernel
theorem dX12_wrongTwo_117 : decode cX12_wrongTwo 117 = .ok (.aload_n 0, 1) := by decide +kernel
theorem dX12_wrongTwo_118 : decode cX12_wrongTwo 118 = .ok (.getfield 24, 3) := by decide +kernel
theorem dX12_wrongTwo_121 : decode cX12_wrongTwo 121 = .ok (.aload_n 0, 1) := by decide +kernel
theorem dX12_wrongTwo_122 : decode cX12_wrongTwo 122 = .ok (.iload_n 1, 1) := by decide +kernel
theorem dX12_wrongTwo_123 : decode cX12_wrongTwo 123 = .ok (.iconst 2, 1) := by decide +kernel
theorem dX12_wrongTwo_124 : decode cX12_wrongTwo 124 = .ok (.iload_n 3, 1) := by decide +kernel
theorem dX12_wrongTwo_125 : decode cX12_wrongTwo 125 = .ok (.imul, 1) := by decide +kernel
theorem dX12_wrongTwo_126 : decode cX12_wrongTwo 126 = .ok (.iconst 1, 1) := by decide +kernel
theorem dX12_wrongTwo_127 : decode cX12_wrongTwo 127 = .ok (.iadd, 1) := by decide +kernel
theorem dX12_wrongTwo_128 : decode cX12_wrongTwo 128 = .ok (.invokevirtual 329, 3) := by decide +kernel
theorem dX12_wrongTwo_131 : decode cX12_wrongTwo 131 = .ok (.iaload, 1) := by decide +kernel
theorem dX12_wrongTwo_132 : decode cX12_wrongTwo 132 = .ok (.invokevirtual 305, 3) := by decide +kernel
theorem dX12_wrongTwo_135 : decode cX12_wrongTwo 135 = .ok (.ifCond .ne 5, 3) := by decide +kernel
theorem dX12_wrongTwo_138 : decode cX12_wrongTwo 138 = .ok (.iload_n 3, 1) := by decide +kernel
theorem dX12_wrongTwo_139 : decode cX12_wrongTwo 139 = .ok (.ireturn, 1) := by decide +kernel
theorem dX12_wrongTwo_140 : decode cX12_wrongTwo 140 = .ok (.iinc 3 1, 3) := by decide +kernel
theorem dX12_wrongTwo_143 : decode cX12_wrongTwo 143 = .ok (.goto (-105), 3) := by decide +kernel
theorem dX12_wrongTwo_146 : decode cX12_wrongTwo 146 = .ok (.bipush (-2), 2) := by decide +kernel
theorem dX12_wrongTwo_148 : decode cX12_wrongTwo 148 = .ok (.ireturn, 1) := by decide +kernel
theorem dX12_judge_0 : decode cX12_judge 0 = .ok (.iload_n 1, 1) := by decide +kernel
theorem dX12_judge_1 : decode cX12_judge 1 = .ok (.invokestatic 149, 3) := by decide +kernel
theorem dX12_judge_4 : decode cX12_judge 4 = .ok (.ifCond .eq 11, 3) := by decide +kernel
theorem dX12_judge_7 : decode cX12_judge 7 = .ok (.aload_n 0, 1) := by decide +kernel
theorem dX12_judge_8 : decode cX12_judge 8 = .ok (.iload_n 2, 1) := by decide +kernel
theorem dX12_judge_9 : decode cX12_judge 9 = .ok (.invokevirtual 135, 3) := by decide +kernel
theorem dX12_judge_12 : decode cX12_judge 12 = .ok (.ifCond .ne 5, 3) := by decide +kernel
theorem dX12_judge_15 : decode cX12_judge 15 = .ok (.iconst (-1), 1) := by decide +kernel
theorem dX12_judge_16 : decode cX12_judge 16 = .ok (.ireturn, 1) := by decide +kernel
theorem dX12_judge_17 : decode cX12_judge 17 = .ok (.aload_n 0, 1) := by decide +kernel
theorem dX12_judge_18 : decode cX12_judge 18 = .ok (.iload_n 1, 1) := by decide +kernel
theorem dX12_judge_19 : decode cX12_judge 19 = .ok (.invokevirtual 332, 3) := by decide +kernel
theorem dX12_judge_22 : decode cX12_judge 22 = .ok (.ifCond .ge 11, 3) := by decide +kernel
theorem dX12_judge_25 : decode cX12_judge 25 = .ok (.aload_n 0, 1) := by decide +kernel
theorem dX12_judge_26 : decode cX12_judge 26 = .ok (.iload_n 1, 1) := by decide +kernel
theorem dX12_judge_27 : decode cX12_judge 27 = .ok (.invokevirtual 332, 3) := by decide +kernel
theorem dX12_judge_30 : decode cX12_judge 30 = .ok (.goto 9, 3) := by decide +kernel
theorem dX12_judge_33 : decode cX12_judge 33 = .ok (.aload_n 0, 1) := by decide +kernel
theorem dX12_judge_34 : decode cX12_judge 34 = .ok (.iload_n 1, 1) := by decide +kernel
theorem dX12_judge_35 : decode cX12_judge 35 = .ok (.iload_n 2, 1) := by decide +kernel
theorem dX12_judge_36 : decode cX12_judge 36 = .ok (.invokevirtual 335, 3) := by decide +kernel
theorem dX12_judge_39 : decode cX12_judge 39 = .ok (.ireturn, 1) := by decide +kernel
theorem dX12_dinedWays_0 : decode cX12_dinedWays 0 = .ok (.aload_n 0, 1) := by decide +kernel
theorem dX12_dinedWays_1 : decode cX12_dinedWays 1 = .ok (.getfield 15, 3) := by decide +kernel
theorem dX12_dinedWays_4 : decode cX12_dinedWays 4 = .ok (.iload_n 2, 1) := by decide +kernel
theorem dX12_dinedWays_5 : decode cX12_dinedWays 5 = .ok (.iaload, 1) := by decide +kernel
theorem dX12_dinedWays_6 : decode cX12_dinedWays 6 = .ok (.istore_n 3, 1) := by decide +kernel
theorem dX12_dinedWays_7 : decode cX12_dinedWays 7 = .ok (.iconst 0, 1) := by decide +kernel
theorem dX12_dinedWays_8 : decode cX12_dinedWays 8 = .ok (.istore 4, 2) := by decide +kernel
theorem dX12_dinedWays_10 : decode cX12_dinedWays 10 = .ok (.iconst 0, 1) := by decide +kernel
theorem dX12_dinedWays_11 : decode cX12_dinedWays 11 = .ok (.istore 5, 2) := by decide +kernel
theorem dX12_dinedWays_13 : decode cX12_dinedWays 13 = .ok (.iload 5, 2) := by decide +kernel
theorem dX12_dinedWays_15 : decode cX12_dinedWays 15 = .ok (.bipush 8, 2) := by decide +kernel
theorem dX12_dinedWays_17 : decode cX12_dinedWays 17 = .ok (.if_icmp .ge 35, 3) := by decide +kernel
theorem dX12_dinedWays_20 : decode cX12_dinedWays 20 = .ok (.aload_n 0, 1) := by decide +kernel
theorem dX12_dinedWays_21 : decode cX12_dinedWays 21 = .ok (.getfield 15, 3) := by decide +kernel
theorem dX12_dinedWays_24 : decode cX12_dinedWays 24 = .ok (.iload_n 2, 1) := by decide +kernel
theorem dX12_dinedWays_25 : decode cX12_dinedWays 25 = .ok (.iload 5, 2) := by decide +kernel
theorem dX12_dinedWays_27 : decode cX12_dinedWays 27 = .ok (.iastore, 1) := by decide +kernel
theorem dX12_dinedWays_28 : decode cX12_dinedWays 28 = .ok (.aload_n 0, 1) := by decide +kernel
theorem dX12_dinedWays_29 : decode cX12_dinedWays 29 = .ok (.iload_n 1, 1) := by decide +kernel
theorem dX12_dinedWays_30 : decode cX12_dinedWays 30 = .ok (.iload_n 2, 1) := by decide +kernel
theorem dX12_dinedWays_31 : decode cX12_dinedWays 31 = .ok (.invokevirtual 335, 3) := by decide +kernel
theorem dX12_dinedWays_34 : decode cX12_dinedWays 34 = .ok (.ifCond .ge 12, 3) := by decide +kernel
theorem dX12_dinedWays_37 : decode cX12_dinedWays 37 = .ok (.iload 4, 2) := by decide +kernel
theorem dX12_dinedWays_39 : decode cX12_dinedWays 39 = .ok (.iconst 1, 1) := by decide +kernel
theorem dX12_dinedWays_40 : decode cX12_dinedWays 40 = .ok (.iload 5, 2) := by decide +kernel
theorem dX12_dinedWays_42 : decode cX12_dinedWays 42 = .ok (.ishl, 1) := by decide +kernel
theorem dX12_dinedWays_43 : decode cX12_dinedWays 43 = .ok (.ior, 1) := by decide +kernel
theorem dX12_dinedWays_44 : decode cX12_dinedWays 44 = .ok (.istore 4, 2) := by decide +kernel
theorem dX12_dinedWays_46 : decode cX12_dinedWays 46 = .ok (.iinc 5 1, 3) := by decide +kernel
theorem dX12_dinedWays_49 : decode cX12_dinedWays 49 = .ok (.goto (-36), 3) := by decide +kernel
theorem dX12_dinedWays_52 : decode cX12_dinedWays 52 = .ok (.aload_n 0, 1) := by decide +kernel
theorem dX12_dinedWays_53 : decode cX12_dinedWays 53 = .ok (.getfield 15, 3) := by decide +kernel
theorem dX12_dinedWays_56 : decode cX12_dinedWays 56 = .ok (.iload_n 2, 1) := by decide +kernel
theorem dX12_dinedWays_57 : decode cX12_dinedWays 57 = .ok (.iload_n 3, 1) := by decide +kernel
theorem dX12_dinedWays_58 : decode cX12_dinedWays 58 = .ok (.iastore, 1) := by decide +kernel
theorem dX12_dinedWays_59 : decode cX12_dinedWays 59 = .ok (.iload 4, 2) := by decide +kernel
theorem dX12_dinedWays_61 : decode cX12_dinedWays 61 = .ok (.ireturn, 1) := by decide +kernel
theorem dX12_dinedFrom_0 : decode cX12_dinedFrom 0 = .ok (.aload_n 0, 1) := by decide +kernel
theorem dX12_dinedFrom_1 : decode cX12_dinedFrom 1 = .ok (.getfield 9, 3) := by decide +kernel
theorem dX12_dinedFrom_4 : decode cX12_dinedFrom 4 = .ok (.iload_n 2, 1) := by decide +kernel
theorem dX12_dinedFrom_5 : decode cX12_dinedFrom 5 = .ok (.iaload, 1) := by decide +kernel
theorem dX12_dinedFrom_6 : decode cX12_dinedFrom 6 = .ok (.istore 4, 2) := by decide +kernel
theorem dX12_dinedFrom_8 : decode cX12_dinedFrom 8 = .ok (.iconst 0, 1) := by decide +kernel
theorem dX12_dinedFrom_9 : decode cX12_dinedFrom 9 = .ok (.istore 5, 2) := by decide +kernel
theorem dX12_dinedFrom_11 : decode cX12_dinedFrom 11 = .ok (.bipush (-2), 2) := by decide +kernel
theorem dX12_dinedFrom_13 : decode cX12_dinedFrom 13 = .ok (.istore 6, 2) := by decide +kernel
theorem dX12_dinedFrom_15 : decode cX12_dinedFrom 15 = .ok (.iconst 0, 1) := by decide +kernel
theorem dX12_dinedFrom_16 : decode cX12_dinedFrom 16 = .ok (.istore 7, 2) := by decide +kernel
theorem dX12_dinedFrom_18 : decode cX12_dinedFrom 18 = .ok (.iload 7, 2) := by decide +kernel
theorem dX12_dinedFrom_20 : decode cX12_dinedFrom 20 = .ok (.sipush 256, 3) := by decide +kernel
theorem dX12_dinedFrom_23 : decode cX12_dinedFrom 23 = .ok (.if_icmp .ge 41, 3) := by decide +kernel
theorem dX12_dinedFrom_26 : decode cX12_dinedFrom 26 = .ok (.aload_n 0, 1) := by decide +kernel
theorem dX12_dinedFrom_27 : decode cX12_dinedFrom 27 = .ok (.getfield 9, 3) := by decide +kernel
theorem dX12_dinedFrom_30 : decode cX12_dinedFrom 30 = .ok (.iload_n 2, 1) := by decide +kernel
theorem dX12_dinedFrom_31 : decode cX12_dinedFrom 31 = .ok (.iload 7, 2) := by decide +kernel
theorem dX12_dinedFrom_33 : decode cX12_dinedFrom 33 = .ok (.iastore, 1) := by decide +kernel
theorem dX12_dinedFrom_34 : decode cX12_dinedFrom 34 = .ok (.aload_n 0, 1) := by decide +kernel
theorem dX12_dinedFrom_35 : decode cX12_dinedFrom 35 = .ok (.iload_n 1, 1) := by decide +kernel
theorem dX12_dinedFrom_36 : decode cX12_dinedFrom 36 = .ok (.iload_n 2, 1) := by decide +kernel
theorem dX12_dinedFrom_37 : decode cX12_dinedFrom 37 = .ok (.invokevirtual 335, 3) := by decide +kernel
theorem dX12_dinedFrom_40 : decode cX12_dinedFrom 40 = .ok (.ifCond .lt 6, 3) := by decide +kernel
theorem dX12_dinedFrom_43 : decode cX12_dinedFrom 43 = .ok (.goto 15, 3) := by decide +kernel
theorem dX12_dinedFrom_46 : decode cX12_dinedFrom 46 = .ok (.iload 5, 2) := by decide +kernel
theorem dX12_dinedFrom_48 : decode cX12_dinedFrom 48 = .ok (.ifCond .ne 7, 3) := by decide +kernel
theorem dX12_dinedFrom_51 : decode cX12_dinedFrom 51 = .ok (.iload 7, 2) := by decide +kernel
theorem dX12_dinedFrom_53 : decode cX12_dinedFrom 53 = .ok (.istore 6, 2) := by decide +kernel
theorem dX12_dinedFrom_55 : decode cX12_dinedFrom 55 = .ok (.iinc 5 1, 3) := by decide +kernel
theorem dX12_dinedFrom_58 : decode cX12_dinedFrom 58 = .ok (.iinc 7 1, 3) := by decide +kernel
theorem dX12_dinedFrom_61 : decode cX12_dinedFrom 61 = .ok (.goto (-43), 3) := by decide +kernel
theorem dX12_dinedFrom_64 : decode cX12_dinedFrom 64 = .ok (.aload_n 0, 1) := by decide +kernel
theorem dX12_dinedFrom_65 : decode cX12_dinedFrom 65 = .ok (.getfield 9, 3) := by decide +kernel
theorem dX12_dinedFrom_68 : decode cX12_dinedFrom 68 = .ok (.iload_n 2, 1) := by decide +kernel
theorem dX12_dinedFrom_69 : decode cX12_dinedFrom 69 = .ok (.iload 4, 2) := by decide +kernel
theorem dX12_dinedFrom_71 : decode cX12_dinedFrom 71 = .ok (.iastore, 1) := by decide +kernel
theorem dX12_dinedFrom_72 : decode cX12_dinedFrom 72 = .ok (.iload_n 3, 1) := by decide +kernel
theorem dX12_dinedFrom_73 : decode cX12_dinedFrom 73 = .ok (.ifCond .eq 8, 3) := by decide +kernel
theorem dX12_dinedFrom_76 : decode cX12_dinedFrom 76 = .ok (.iload 6, 2) := by decide +kernel
theorem dX12_dinedFrom_78 : decode cX12_dinedFrom 78 = .ok (.goto 5, 3) := by decide +kernel
theorem dX12_dinedFrom_81 : decode cX12_dinedFrom 81 = .ok (.iload 5, 2) := by decide +kernel
theorem dX12_dinedFrom_83 : decode cX12_dinedFrom 83 = .ok (.ireturn, 1) := by decide +kernel
theorem dX12_dinedPaces_0 : decode cX12_dinedPaces 0 = .ok (.aload_n 0, 1) := by decide +kernel
theorem dX12_dinedPaces_1 : decode cX12_dinedPaces 1 = .ok (.getfield 18, 3) := by decide +kernel
theorem dX12_dinedPaces_4 : decode cX12_dinedPaces 4 = .ok (.iload_n 2, 1) := by decide +kernel
theorem dX12_dinedPaces_5 : decode cX12_dinedPaces 5 = .ok (.iaload, 1) := by decide +kernel
theorem dX12_dinedPaces_6 : decode cX12_dinedPaces 6 = .ok (.istore_n 3, 1) := by decide +kernel
theorem dX12_dinedPaces_7 : decode cX12_dinedPaces 7 = .ok (.iconst 0, 1) := by decide +kernel
theorem dX12_dinedPaces_8 : decode cX12_dinedPaces 8 = .ok (.istore 4, 2) := by decide +kernel
theorem dX12_dinedPaces_10 : decode cX12_dinedPaces 10 = .ok (.iconst 1, 1) := by decide +kernel
theorem dX12_dinedPaces_11 : decode cX12_dinedPaces 11 = .ok (.istore 5, 2) := by decide +kernel
theorem dX12_dinedPaces_13 : decode cX12_dinedPaces 13 = .ok (.iload 5, 2) := by decide +kernel
theorem dX12_dinedPaces_15 : decode cX12_dinedPaces 15 = .ok (.iconst 5, 1) := by decide +kernel
theorem dX12_dinedPaces_16 : decode cX12_dinedPaces 16 = .ok (.if_icmp .ge 35, 3) := by decide +kernel
theorem dX12_dinedPaces_19 : decode cX12_dinedPaces 19 = .ok (.aload_n 0, 1) := by decide +kernel
theorem dX12_dinedPaces_20 : decode cX12_dinedPaces 20 = .ok (.getfield 18, 3) := by decide +kernel
theorem dX12_dinedPaces_23 : decode cX12_dinedPaces 23 = .ok (.iload_n 2, 1) := by decide +kernel
theorem dX12_dinedPaces_24 : decode cX12_dinedPaces 24 = .ok (.iload 5, 2) := by decide +kernel
theorem dX12_dinedPaces_26 : decode cX12_dinedPaces 26 = .ok (.iastore, 1) := by decide +kernel
theorem dX12_dinedPaces_27 : decode cX12_dinedPaces 27 = .ok (.aload_n 0, 1) := by decide +kernel
theorem dX12_dinedPaces_28 : decode cX12_dinedPaces 28 = .ok (.iload_n 1, 1) := by decide +kernel
theorem dX12_dinedPaces_29 : decode cX12_dinedPaces 29 = .ok (.iload_n 2, 1) := by decide +kernel
theorem dX12_dinedPaces_30 : decode cX12_dinedPaces 30 = .ok (.invokevirtual 335, 3) := by decide +kernel
theorem dX12_dinedPaces_33 : decode cX12_dinedPaces 33 = .ok (.ifCond .ge 12, 3) := by decide +kernel
theorem dX12_dinedPaces_36 : decode cX12_dinedPaces 36 = .ok (.iload 4, 2) := by decide +kernel
theorem dX12_dinedPaces_38 : decode cX12_dinedPaces 38 = .ok (.iconst 1, 1) := by decide +kernel
theorem dX12_dinedPaces_39 : decode cX12_dinedPaces 39 = .ok (.iload 5, 2) := by decide +kernel
theorem dX12_dinedPaces_41 : decode cX12_dinedPaces 41 = .ok (.ishl, 1) := by decide +kernel
theorem dX12_dinedPaces_42 : decode cX12_dinedPaces 42 = .ok (.ior, 1) := by decide +kernel
theorem dX12_dinedPaces_43 : decode cX12_dinedPaces 43 = .ok (.istore 4, 2) := by decide +kernel
theorem dX12_dinedPaces_45 : decode cX12_dinedPaces 45 = .ok (.iinc 5 1, 3) := by decide +kernel
theorem dX12_dinedPaces_48 : decode cX12_dinedPaces 48 = .ok (.goto (-35), 3) := by decide +kernel
theorem dX12_dinedPaces_51 : decode cX12_dinedPaces 51 = .ok (.aload_n 0, 1) := by decide +kernel
theorem dX12_dinedPaces_52 : decode cX12_dinedPaces 52 = .ok (.getfield 18, 3) := by decide +kernel
theorem dX12_dinedPaces_55 : decode cX12_dinedPaces 55 = .ok (.iload_n 2, 1) := by decide +kernel
theorem dX12_dinedPaces_56 : decode cX12_dinedPaces 56 = .ok (.iload_n 3, 1) := by decide +kernel
theorem dX12_dinedPaces_57 : decode cX12_dinedPaces 57 = .ok (.iastore, 1) := by decide +kernel
theorem dX12_dinedPaces_58 : decode cX12_dinedPaces 58 = .ok (.iload 4, 2) := by decide +kernel
theorem dX12_dinedPaces_60 : decode cX12_dinedPaces 60 = .ok (.ireturn, 1) := by decide +kernel
theorem dX12_dined_0 : decode cX12_dined 0 = .ok (.iload_n 1, 1) := by decide +kernel
theorem dX12_dined_1 : decode cX12_dined 1 = .ok (.invokestatic 149, 3) := by decide +kernel
theorem dX12_dined_4 : decode cX12_dined 4 = .ok (.ifCond .eq 20, 3) := by decide +kernel
theorem dX12_dined_7 : decode cX12_dined 7 = .ok (.aload_n 0, 1) := by decide +kernel
theorem dX12_dined_8 : decode cX12_dined 8 = .ok (.iload_n 2, 1) := by decide +kernel
theorem dX12_dined_9 : decode cX12_dined 9 = .ok (.invokevirtual 135, 3) := by decide +kernel
theorem dX12_dined_12 : decode cX12_dined 12 = .ok (.ifCond .eq 12, 3) := by decide +kernel
theorem dX12_dined_15 : decode cX12_dined 15 = .ok (.iload_n 3, 1) := by decide +kernel
theorem dX12_dined_16 : decode cX12_dined 16 = .ok (.iconst 0, 1) := by decide +kernel
theorem dX12_dined_17 : decode cX12_dined 17 = .ok (.iconst 3, 1) := by decide +kernel
theorem dX12_dined_18 : decode cX12_dined 18 = .ok (.invokestatic 128, 3) := by decide +kernel
theorem dX12_dined_21 : decode cX12_dined 21 = .ok (.ifCond .ne 5, 3) := by decide +kernel
theorem dX12_dined_24 : decode cX12_dined 24 = .ok (.iconst (-1), 1) := by decide +kernel
theorem dX12_dined_25 : decode cX12_dined 25 = .ok (.ireturn, 1) := by decide +kernel
theorem dX12_dined_26 : decode cX12_dined 26 = .ok (.aload_n 0, 1) := by decide +kernel
theorem dX12_dined_27 : decode cX12_dined 27 = .ok (.iload_n 1, 1) := by decide +kernel
theorem dX12_dined_28 : decode cX12_dined 28 = .ok (.invokevirtual 332, 3) := by decide +kernel
theorem dX12_dined_31 : decode cX12_dined 31 = .ok (.ifCond .ge 9, 3) := by decide +kernel
theorem dX12_dined_34 : decode cX12_dined 34 = .ok (.aload_n 0, 1) := by decide +kernel
theorem dX12_dined_35 : decode cX12_dined 35 = .ok (.iload_n 1, 1) := by decide +kernel
theorem dX12_dined_36 : decode cX12_dined 36 = .ok (.invokevirtual 332, 3) := by decide +kernel
theorem dX12_dined_39 : decode cX12_dined 39 = .ok (.ireturn, 1) := by decide +kernel
theorem dX12_dined_40 : decode cX12_dined 40 = .ok (.iload_n 3, 1) := by decide +kernel
theorem dX12_dined_41 : decode cX12_dined 41 = .ok (.tableswitch 50 0 2 #[27, 34, 42], 27) := by decide +kernel
theorem dX12_dined_68 : decode cX12_dined 68 = .ok (.aload_n 0, 1) := by decide +kernel
theorem dX12_dined_69 : decode cX12_dined 69 = .ok (.iload_n 1, 1) := by decide +kernel
theorem dX12_dined_70 : decode cX12_dined 70 = .ok (.iload_n 2, 1) := by decide +kernel
theorem dX12_dined_71 : decode cX12_dined 71 = .ok (.invokevirtual 338, 3) := by decide +kernel
theorem dX12_dined_74 : decode cX12_dined 74 = .ok (.ireturn, 1) := by decide +kernel
theorem dX12_dined_75 : decode cX12_dined 75 = .ok (.aload_n 0, 1) := by decide +kernel
theorem dX12_dined_76 : decode cX12_dined 76 = .ok (.iload_n 1, 1) := by decide +kernel
theorem dX12_dined_77 : decode cX12_dined 77 = .ok (.iload_n 2, 1) := by decide +kernel
theorem dX12_dined_78 : decode cX12_dined 78 = .ok (.iconst 0, 1) := by decide +kernel
theorem dX12_dined_79 : decode cX12_dined 79 = .ok (.invokevirtual 341, 3) := by decide +kernel
theorem dX12_dined_82 : decode cX12_dined 82 = .ok (.ireturn, 1) := by decide +kernel
theorem dX12_dined_83 : decode cX12_dined 83 = .ok (.aload_n 0, 1) := by decide +kernel
theorem dX12_dined_84 : decode cX12_dined 84 = .ok (.iload_n 1, 1) := by decide +kernel
theorem dX12_dined_85 : decode cX12_dined 85 = .ok (.iload_n 2, 1) := by decide +kernel
theorem dX12_dined_86 : decode cX12_dined 86 = .ok (.iconst 1, 1) := by decide +kernel
theorem dX12_dined_87 : decode cX12_dined 87 = .ok (.invokevirtual 341, 3) := by decide +kernel
theorem dX12_dined_90 : decode cX12_dined 90 = .ok (.ireturn, 1) := by decide +kernel
theorem dX12_dined_91 : decode cX12_dined 91 = .ok (.aload_n 0, 1) := by decide +kernel
theorem dX12_dined_92 : decode cX12_dined 92 = .ok (.iload_n 1, 1) := by decide +kernel
theorem dX12_dined_93 : decode cX12_dined 93 = .ok (.iload_n 2, 1) := by decide +kernel
theorem dX12_dined_94 : decode cX12_dined 94 = .ok (.invokevirtual 345, 3) := by decide +kernel
theorem dX12_dined_97 : decode cX12_dined 97 = .ok (.ireturn, 1) := by decide +kernel
theorem dX12_stateOf_0 : decode cX12_stateOf 0 = .ok (.bipush 8, 2) := by decide +kernel
theorem dX12_stateOf_2 : decode cX12_stateOf 2 = .ok (.iload_n 0, 1) := by decide +kernel
theorem dX12_stateOf_3 : decode cX12_stateOf 3 = .ok (.imul, 1) := by decide +kernel
theorem dX12_stateOf_4 : decode cX12_stateOf 4 = .ok (.iload_n 1, 1) := by decide +kernel
theorem dX12_stateOf_5 : decode cX12_stateOf 5 = .ok (.iadd, 1) := by decide +kernel
theorem dX12_stateOf_6 : decode cX12_stateOf 6 = .ok (.ireturn, 1) := by decide +kernel
theorem dX12_fewAt_0 : decode cX12_fewAt 0 = .ok (.aload_n 0, 1) := by decide +kernel
theorem dX12_fewAt_1 : decode cX12_fewAt 1 = .ok (.getfield 74, 3) := by decide +kernel
theorem dX12_fewAt_4 : decode cX12_fewAt 4 = .ok (.sipush 2048, 3) := by decide +kernel
theorem dX12_fewAt_7 : decode cX12_fewAt 7 = .ok (.iload_n 1, 1) := by decide +kernel
theorem dX12_fewAt_8 : decode cX12_fewAt 8 = .ok (.imul, 1) := by decide +kernel
theorem dX12_fewAt_9 : decode cX12_fewAt 9 = .ok (.iload_n 2, 1) := by decide +kernel
theorem dX12_fewAt_10 : decode cX12_fewAt 10 = .ok (.iadd, 1) := by decide +kernel
theorem dX12_fewAt_11 : decode cX12_fewAt 11 = .ok (.bipush 8, 2) := by decide +kernel
theorem dX12_fewAt_13 : decode cX12_fewAt 13 = .ok (.idiv, 1) := by decide +kernel
theorem dX12_fewAt_14 : decode cX12_fewAt 14 = .ok (.iaload, 1) := by decide +kernel
theorem dX12_fewAt_15 : decode cX12_fewAt 15 = .ok (.iconst 4, 1) := by decide +kernel
theorem dX12_fewAt_16 : decode cX12_fewAt 16 = .ok (.iload_n 2, 1) := by decide +kernel
theorem dX12_fewAt_17 : decode cX12_fewAt 17 = .ok (.bipush 8, 2) := by decide +kernel
theorem dX12_fewAt_19 : decode cX12_fewAt 19 = .ok (.irem, 1) := by decide +kernel
theorem dX12_fewAt_20 : decode cX12_fewAt 20 = .ok (.imul, 1) := by decide +kernel
theorem dX12_fewAt_21 : decode cX12_fewAt 21 = .ok (.iushr, 1) := by decide +kernel
theorem dX12_fewAt_22 : decode cX12_fewAt 22 = .ok (.bipush 15, 2) := by decide +kernel
theorem dX12_fewAt_24 : decode cX12_fewAt 24 = .ok (.iand, 1) := by decide +kernel
theorem dX12_fewAt_25 : decode cX12_fewAt 25 = .ok (.ireturn, 1) := by decide +kernel
theorem dX12_layFew_0 : decode cX12_layFew 0 = .ok (.sipush 2048, 3) := by decide +kernel
theorem dX12_layFew_3 : decode cX12_layFew 3 = .ok (.iload_n 1, 1) := by decide +kernel
theorem dX12_layFew_4 : decode cX12_layFew 4 = .ok (.imul, 1) := by decide +kernel
theorem dX12_layFew_5 : decode cX12_layFew 5 = .ok (.iload_n 2, 1) := by decide +kernel
theorem dX12_layFew_6 : decode cX12_layFew 6 = .ok (.iadd, 1) := by decide +kernel
theorem dX12_layFew_7 : decode cX12_layFew 7 = .ok (.bipush 8, 2) := by decide +kernel
theorem dX12_layFew_9 : decode cX12_layFew 9 = .ok (.idiv, 1) := by decide +kernel
theorem dX12_layFew_10 : decode cX12_layFew 10 = .ok (.istore 4, 2) := by decide +kernel
theorem dX12_layFew_12 : decode cX12_layFew 12 = .ok (.iconst 4, 1) := by decide +kernel
theorem dX12_layFew_13 : decode cX12_layFew 13 = .ok (.iload_n 2, 1) := by decide +kernel
theorem dX12_layFew_14 : decode cX12_layFew 14 = .ok (.bipush 8, 2) := by decide +kernel
theorem dX12_layFew_16 : decode cX12_layFew 16 = .ok (.irem, 1) := by decide +kernel
theorem dX12_layFew_17 : decode cX12_layFew 17 = .ok (.imul, 1) := by decide +kernel
theorem dX12_layFew_18 : decode cX12_layFew 18 = .ok (.istore 5, 2) := by decide +kernel
theorem dX12_layFew_20 : decode cX12_layFew 20 = .ok (.aload_n 0, 1) := by decide +kernel
theorem dX12_layFew_21 : decode cX12_layFew 21 = .ok (.getfield 74, 3) := by decide +kernel
theorem dX12_layFew_24 : decode cX12_layFew 24 = .ok (.iload 4, 2) := by decide +kernel
theorem dX12_layFew_26 : decode cX12_layFew 26 = .ok (.aload_n 0, 1) := by decide +kernel
theorem dX12_layFew_27 : decode cX12_layFew 27 = .ok (.getfield 74, 3) := by decide +kernel
theorem dX12_layFew_30 : decode cX12_layFew 30 = .ok (.iload 4, 2) := by decide +kernel
theorem dX12_layFew_32 : decode cX12_layFew 32 = .ok (.iaload, 1) := by decide +kernel
theorem dX12_layFew_33 : decode cX12_layFew 33 = .ok (.bipush 15, 2) := by decide +kernel
theorem dX12_layFew_35 : decode cX12_layFew 35 = .ok (.iload 5, 2) := by decide +kernel
theorem dX12_layFew_37 : decode cX12_layFew 37 = .ok (.ishl, 1) := by decide +kernel
theorem dX12_layFew_38 : decode cX12_layFew 38 = .ok (.iconst (-1), 1) := by decide +kernel
theorem dX12_layFew_39 : decode cX12_layFew 39 = .ok (.ixor, 1) := by decide +kernel
theorem dX12_layFew_40 : decode cX12_layFew 40 = .ok (.iand, 1) := by decide +kernel
theorem dX12_layFew_41 : decode cX12_layFew 41 = .ok (.iload_n 3, 1) := by decide +kernel
theorem dX12_layFew_42 : decode cX12_layFew 42 = .ok (.iload 5, 2) := by decide +kernel
theorem dX12_layFew_44 : decode cX12_layFew 44 = .ok (.ishl, 1) := by decide +kernel
theorem dX12_layFew_45 : decode cX12_layFew 45 = .ok (.ior, 1) := by decide +kernel
theorem dX12_layFew_46 : decode cX12_layFew 46 = .ok (.iastore, 1) := by decide +kernel
theorem dX12_layFew_47 : decode cX12_layFew 47 = .ok (.return_, 1) := by decide +kernel
theorem dX12_fewBy_0 : decode cX12_fewBy 0 = .ok (.aload_n 0, 1) := by decide +kernel
theorem dX12_fewBy_1 : decode cX12_fewBy 1 = .ok (.iload 4, 2) := by decide +kernel
theorem dX12_fewBy_3 : decode cX12_fewBy 3 = .ok (.putfield 262, 3) := by decide +kernel
theorem dX12_fewBy_6 : decode cX12_fewBy 6 = .ok (.aload_n 0, 1) := by decide +kernel
theorem dX12_fewBy_7 : decode cX12_fewBy 7 = .ok (.iload 5, 2) := by decide +kernel
theorem dX12_fewBy_9 : decode cX12_fewBy 9 = .ok (.putfield 265, 3) := by decide +kernel
theorem dX12_fewBy_12 : decode cX12_fewBy 12 = .ok (.aload_n 0, 1) := by decide +kernel
theorem dX12_fewBy_13 : decode cX12_fewBy 13 = .ok (.iload_n 1, 1) := by decide +kernel
theorem dX12_fewBy_14 : decode cX12_fewBy 14 = .ok (.iload_n 2, 1) := by decide +kernel
theorem dX12_fewBy_15 : decode cX12_fewBy 15 = .ok (.iload_n 3, 1) := by decide +kernel
theorem dX12_fewBy_16 : decode cX12_fewBy 16 = .ok (.isub, 1) := by decide +kernel
theorem dX12_fewBy_17 : decode cX12_fewBy 17 = .ok (.iload 6, 2) := by decide +kernel
theorem dX12_fewBy_19 : decode cX12_fewBy 19 = .ok (.invokevirtual 287, 3) := by decide +kernel
theorem dX12_fewBy_22 : decode cX12_fewBy 22 = .ok (.aload_n 0, 1) := by decide +kernel
theorem dX12_fewBy_23 : decode cX12_fewBy 23 = .ok (.iload_n 3, 1) := by decide +kernel
theorem dX12_fewBy_24 : decode cX12_fewBy 24 = .ok (.iconst 1, 1) := by decide +kernel
theorem dX12_fewBy_25 : decode cX12_fewBy 25 = .ok (.isub, 1) := by decide +kernel
theorem dX12_fewBy_26 : decode cX12_fewBy 26 = .ok (.aload_n 0, 1) := by decide +kernel
theorem dX12_fewBy_27 : decode cX12_fewBy 27 = .ok (.getfield 262, 3) := by decide +kernel
theorem dX12_fewBy_30 : decode cX12_fewBy 30 = .ok (.aload_n 0, 1) := by decide +kernel
theorem dX12_fewBy_31 : decode cX12_fewBy 31 = .ok (.getfield 265, 3) := by decide +kernel
theorem dX12_fewBy_34 : decode cX12_fewBy 34 = .ok (.invokestatic 348, 3) := by decide +kernel
theorem dX12_fewBy_37 : decode cX12_fewBy 37 = .ok (.invokevirtual 351, 3) := by decide +kernel
theorem dX12_fewBy_40 : decode cX12_fewBy 40 = .ok (.istore 7, 2) := by decide +kernel
theorem dX12_fewBy_42 : decode cX12_fewBy 42 = .ok (.iload 7, 2) := by decide +kernel
theorem dX12_fewBy_44 : decode cX12_fewBy 44 = .ok (.bipush 15, 2) := by decide +kernel
theorem dX12_fewBy_46 : decode cX12_fewBy 46 = .ok (.if_icmp .ne 8, 3) := by decide +kernel
theorem dX12_fewBy_49 : decode cX12_fewBy 49 = .ok (.bipush 15, 2) := by decide +kernel
theorem dX12_fewBy_51 : decode cX12_fewBy 51 = .ok (.goto 17, 3) := by decide +kernel
theorem dX12_fewBy_54 : decode cX12_fewBy 54 = .ok (.iload 6, 2) := by decide +kernel
theorem dX12_fewBy_56 : decode cX12_fewBy 56 = .ok (.ifCond .ne 8, 3) := by decide +kernel
theorem dX12_fewBy_59 : decode cX12_fewBy 59 = .ok (.iload 7, 2) := by decide +kernel
theorem dX12_fewBy_61 : decode cX12_fewBy 61 = .ok (.goto 7, 3) := by decide +kernel
theorem dX12_fewBy_64 : decode cX12_fewBy 64 = .ok (.iload 7, 2) := by decide +kernel
theorem dX12_fewBy_66 : decode cX12_fewBy 66 = .ok (.iconst 1, 1) := by decide +kernel
theorem dX12_fewBy_67 : decode cX12_fewBy 67 = .ok (.iadd, 1) := by decide +kernel
theorem dX12_fewBy_68 : decode cX12_fewBy 68 = .ok (.ireturn, 1) := by decide +kernel
theorem dX12_findFew_0 : decode cX12_findFew 0 = .ok (.iconst 0, 1) := by decide +kernel
theorem dX12_findFew_1 : decode cX12_findFew 1 = .ok (.istore 4, 2) := by decide +kernel
theorem dX12_findFew_3 : decode cX12_findFew 3 = .ok (.iload 4, 2) := by decide +kernel
theorem dX12_findFew_5 : decode cX12_findFew 5 = .ok (.sipush 256, 3) := by decide +kernel
theorem dX12_findFew_8 : decode cX12_findFew 8 = .ok (.if_icmp .ge 53, 3) := by decide +kernel
theorem dX12_findFew_11 : decode cX12_findFew 11 = .ok (.iconst 0, 1) := by decide +kernel
theorem dX12_findFew_12 : decode cX12_findFew 12 = .ok (.istore 5, 2) := by decide +kernel
theorem dX12_findFew_14 : decode cX12_findFew 14 = .ok (.iload 5, 2) := by decide +kernel
theorem dX12_findFew_16 : decode cX12_findFew 16 = .ok (.bipush 8, 2) := by decide +kernel
theorem dX12_findFew_18 : decode cX12_findFew 18 = .ok (.if_icmp .ge 37, 3) := by decide +kernel
theorem dX12_findFew_21 : decode cX12_findFew 21 = .ok (.aload_n 0, 1) := by decide +kernel
theorem dX12_findFew_22 : decode cX12_findFew 22 = .ok (.iconst 0, 1) := by decide +kernel
theorem dX12_findFew_23 : decode cX12_findFew 23 = .ok (.iload 4, 2) := by decide +kernel
theorem dX12_findFew_25 : decode cX12_findFew 25 = .ok (.iload 5, 2) := by decide +kernel
theorem dX12_findFew_27 : decode cX12_findFew 27 = .ok (.invokestatic 348, 3) := by decide +kernel
theorem dX12_findFew_30 : decode cX12_findFew 30 = .ok (.aload_n 0, 1) := by decide +kernel
theorem dX12_findFew_31 : decode cX12_findFew 31 = .ok (.iload 4, 2) := by decide +kernel
theorem dX12_findFew_33 : decode cX12_findFew 33 = .ok (.iload_n 3, 1) := by decide +kernel
theorem dX12_findFew_34 : decode cX12_findFew 34 = .ok (.invokevirtual 305, 3) := by decide +kernel
theorem dX12_findFew_37 : decode cX12_findFew 37 = .ok (.ifCond .eq 7, 3) := by decide +kernel
theorem dX12_findFew_40 : decode cX12_findFew 40 = .ok (.iconst 0, 1) := by decide +kernel
theorem dX12_findFew_41 : decode cX12_findFew 41 = .ok (.goto 5, 3) := by decide +kernel
theorem dX12_findFew_44 : decode cX12_findFew 44 = .ok (.bipush 15, 2) := by decide +kernel
theorem dX12_findFew_46 : decode cX12_findFew 46 = .ok (.invokevirtual 354, 3) := by decide +kernel
theorem dX12_findFew_49 : decode cX12_findFew 49 = .ok (.iinc 5 1, 3) := by decide +kernel
theorem dX12_findFew_52 : decode cX12_findFew 52 = .ok (.goto (-38), 3) := by decide +kernel
theorem dX12_findFew_55 : decode cX12_findFew 55 = .ok (.iinc 4 1, 3) := by decide +kernel
theorem dX12_findFew_58 : decode cX12_findFew 58 = .ok (.goto (-55), 3) := by decide +kernel
theorem dX12_findFew_61 : decode cX12_findFew 61 = .ok (.iconst 1, 1) := by decide +kernel
theorem dX12_findFew_62 : decode cX12_findFew 62 = .ok (.istore 4, 2) := by decide +kernel
theorem dX12_findFew_64 : decode cX12_findFew 64 = .ok (.iload 4, 2) := by decide +kernel
theorem dX12_findFew_66 : decode cX12_findFew 66 = .ok (.iload_n 2, 1) := by decide +kernel
theorem dX12_findFew_67 : decode cX12_findFew 67 = .ok (.if_icmp .gt 107, 3) := by decide +kernel
theorem dX12_findFew_70 : decode cX12_findFew 70 = .ok (.iconst 0, 1) := by decide +kernel
theorem dX12_findFew_71 : decode cX12_findFew 71 = .ok (.istore 5, 2) := by decide +kernel
theorem dX12_findFew_73 : decode cX12_findFew 73 = .ok (.iload 5, 2) := by decide +kernel
theorem dX12_findFew_75 : decode cX12_findFew 75 = .ok (.sipush 256, 3) := by decide +kernel
theorem dX12_findFew_78 : decode cX12_findFew 78 = .ok (.if_icmp .ge 90, 3) := by decide +kernel
theorem dX12_findFew_81 : decode cX12_findFew 81 = .ok (.iconst 0, 1) := by decide +kernel
theorem dX12_findFew_82 : decode cX12_findFew 82 = .ok (.istore 6, 2) := by decide +kernel
theorem dX12_findFew_84 : decode cX12_findFew 84 = .ok (.iload 6, 2) := by decide +kernel
theorem dX12_findFew_86 : decode cX12_findFew 86 = .ok (.bipush 8, 2) := by decide +kernel
theorem dX12_findFew_88 : decode cX12_findFew 88 = .ok (.if_icmp .ge 74, 3) := by decide +kernel
theorem dX12_findFew_91 : decode cX12_findFew 91 = .ok (.bipush 15, 2) := by decide +kernel
theorem dX12_findFew_93 : decode cX12_findFew 93 = .ok (.istore 7, 2) := by decide +kernel
theorem dX12_findFew_95 : decode cX12_findFew 95 = .ok (.iconst 0, 1) := by decide +kernel
theorem dX12_findFew_96 : decode cX12_findFew 96 = .ok (.istore 8, 2) := by decide +kernel
theorem dX12_findFew_98 : decode cX12_findFew 98 = .ok (.iload 8, 2) := by decide +kernel
theorem dX12_findFew_100 : decode cX12_findFew 100 = .ok (.iconst 3, 1) := by decide +kernel
theorem dX12_findFew_101 : decode cX12_findFew 101 = .ok (.if_icmp .ge 40, 3) := by decide +kernel
theorem dX12_findFew_104 : decode cX12_findFew 104 = .ok (.aload_n 0, 1) := by decide +kernel
theorem dX12_findFew_105 : decode cX12_findFew 105 = .ok (.iload_n 1, 1) := by decide +kernel
theorem dX12_findFew_106 : decode cX12_findFew 106 = .ok (.iload_n 2, 1) := by decide +kernel
theorem dX12_findFew_107 : decode cX12_findFew 107 = .ok (.iload 4, 2) := by decide +kernel
theorem dX12_findFew_109 : decode cX12_findFew 109 = .ok (.iload 5, 2) := by decide +kernel
theorem dX12_findFew_111 : decode cX12_findFew 111 = .ok (.iload 6, 2) := by decide +kernel
theorem dX12_findFew_113 : decode cX12_findFew 113 = .ok (.getstatic 357, 3) := by decide +kernel
theorem dX12_findFew_116 : decode cX12_findFew 116 = .ok (.iload 8, 2) := by decide +kernel
theorem dX12_findFew_118 : decode cX12_findFew 118 = .ok (.iaload, 1) := by decide +kernel
theorem dX12_findFew_119 : decode cX12_findFew 119 = .ok (.invokevirtual 360, 3) := by decide +kernel
theorem dX12_findFew_122 : decode cX12_findFew 122 = .ok (.istore 9, 2) := by decide +kernel
theorem dX12_findFew_124 : decode cX12_findFew 124 = .ok (.iload 9, 2) := by decide +kernel
theorem dX12_findFew_126 : decode cX12_findFew 126 = .ok (.iload 7, 2) := by decide +kernel
theorem dX12_findFew_128 : decode cX12_findFew 128 = .ok (.if_icmp .ge 7, 3) := by decide +kernel
theorem dX12_findFew_131 : decode cX12_findFew 131 = .ok (.iload 9, 2) := by decide +kernel
theorem dX12_findFew_133 : decode cX12_findFew 133 = .ok (.istore 7, 2) := by decide +kernel
theorem dX12_findFew_135 : decode cX12_findFew 135 = .ok (.iinc 8 1, 3) := by decide +kernel
theorem dX12_findFew_138 : decode cX12_findFew 138 = .ok (.goto (-40), 3) := by decide +kernel
theorem dX12_findFew_141 : decode cX12_findFew 141 = .ok (.aload_n 0, 1) := by decide +kernel
theorem dX12_findFew_142 : decode cX12_findFew 142 = .ok (.iload 4, 2) := by decide +kernel
theorem dX12_findFew_144 : decode cX12_findFew 144 = .ok (.iload 5, 2) := by decide +kernel
theorem dX12_findFew_146 : decode cX12_findFew 146 = .ok (.iload 6, 2) := by decide +kernel
theorem dX12_findFew_148 : decode cX12_findFew 148 = .ok (.invokestatic 348, 3) := by decide +kernel
theorem dX12_findFew_151 : decode cX12_findFew 151 = .ok (.iload 7, 2) := by decide +kernel
theorem dX12_findFew_153 : decode cX12_findFew 153 = .ok (.invokevirtual 354, 3) := by decide +kernel
theorem dX12_findFew_156 : decode cX12_findFew 156 = .ok (.iinc 6 1, 3) := by decide +kernel
theorem dX12_findFew_159 : decode cX12_findFew 159 = .ok (.goto (-75), 3) := by decide +kernel
theorem dX12_findFew_162 : decode cX12_findFew 162 = .ok (.iinc 5 1, 3) := by decide +kernel
theorem dX12_findFew_165 : decode cX12_findFew 165 = .ok (.goto (-92), 3) := by decide +kernel
theorem dX12_findFew_168 : decode cX12_findFew 168 = .ok (.iinc 4 1, 3) := by decide +kernel
theorem dX12_findFew_171 : decode cX12_findFew 171 = .ok (.goto (-107), 3) := by decide +kernel
theorem dX12_findFew_174 : decode cX12_findFew 174 = .ok (.return_, 1) := by decide +kernel
theorem dX12_reins_0 : decode cX12_reins 0 = .ok (.aload_n 0, 1) := by decide +kernel
theorem dX12_reins_1 : decode cX12_reins 1 = .ok (.iload_n 1, 1) := by decide +kernel
theorem dX12_reins_2 : decode cX12_reins 2 = .ok (.invokevirtual 299, 3) := by decide +kernel
theorem dX12_reins_5 : decode cX12_reins 5 = .ok (.ifCond .eq 18, 3) := by decide +kernel
theorem dX12_reins_8 : decode cX12_reins 8 = .ok (.iload_n 2, 1) := by decide +kernel
theorem dX12_reins_9 : decode cX12_reins 9 = .ok (.iconst 0, 1) := by decide +kernel
theorem dX12_reins_10 : decode cX12_reins 10 = .ok (.bipush 12, 2) := by decide +kernel
theorem dX12_reins_12 : decode cX12_reins 12 = .ok (.invokestatic 128, 3) := by decide +kernel
theorem dX12_reins_15 : decode cX12_reins 15 = .ok (.ifCond .eq 8, 3) := by decide +kernel
theorem dX12_reins_18 : decode cX12_reins 18 = .ok (.iload_n 3, 1) := by decide +kernel
theorem dX12_reins_19 : decode cX12_reins 19 = .ok (.iconst (-1), 1) := by decide +kernel
theorem dX12_reins_20 : decode cX12_reins 20 = .ok (.if_icmp .ge 5, 3) := by decide +kernel
theorem dX12_reins_23 : decode cX12_reins 23 = .ok (.iconst (-1), 1) := by decide +kernel
theorem dX12_reins_24 : decode cX12_reins 24 = .ok (.ireturn, 1) := by decide +kernel
theorem dX12_reins_25 : decode cX12_reins 25 = .ok (.iload_n 1, 1) := by decide +kernel
theorem dX12_reins_26 : decode cX12_reins 26 = .ok (.bipush 10, 2) := by decide +kernel
theorem dX12_reins_28 : decode cX12_reins 28 = .ok (.idiv, 1) := by decide +kernel
theorem dX12_reins_29 : decode cX12_reins 29 = .ok (.istore 4, 2) := by decide +kernel
theorem dX12_reins_31 : decode cX12_reins 31 = .ok (.aload_n 0, 1) := by decide +kernel
theorem dX12_reins_32 : decode cX12_reins 32 = .ok (.iload 4, 2) := by decide +kernel
theorem dX12_reins_34 : decode cX12_reins 34 = .ok (.iload_n 2, 1) := by decide +kernel
theorem dX12_reins_35 : decode cX12_reins 35 = .ok (.aload_n 0, 1) := by decide +kernel
theorem dX12_reins_36 : decode cX12_reins 36 = .ok (.getfield 24, 3) := by decide +kernel
theorem dX12_reins_39 : decode cX12_reins 39 = .ok (.iload_n 1, 1) := by decide +kernel
theorem dX12_reins_40 : decode cX12_reins 40 = .ok (.bipush 10, 2) := by decide +kernel
theorem dX12_reins_42 : decode cX12_reins 42 = .ok (.irem, 1) := by decide +kernel
theorem dX12_reins_43 : decode cX12_reins 43 = .ok (.iaload, 1) := by decide +kernel
theorem dX12_reins_44 : decode cX12_reins 44 = .ok (.invokevirtual 364, 3) := by decide +kernel
theorem dX12_reins_47 : decode cX12_reins 47 = .ok (.aload_n 0, 1) := by decide +kernel
theorem dX12_reins_48 : decode cX12_reins 48 = .ok (.getfield 9, 3) := by decide +kernel
theorem dX12_reins_51 : decode cX12_reins 51 = .ok (.iload 4, 2) := by decide +kernel
theorem dX12_reins_53 : decode cX12_reins 53 = .ok (.iaload, 1) := by decide +kernel
theorem dX12_reins_54 : decode cX12_reins 54 = .ok (.istore 5, 2) := by decide +kernel
theorem dX12_reins_56 : decode cX12_reins 56 = .ok (.aload_n 0, 1) := by decide +kernel
theorem dX12_reins_57 : decode cX12_reins 57 = .ok (.getfield 15, 3) := by decide +kernel
theorem dX12_reins_60 : decode cX12_reins 60 = .ok (.iload 4, 2) := by decide +kernel
theorem dX12_reins_62 : decode cX12_reins 62 = .ok (.iaload, 1) := by decide +kernel
theorem dX12_reins_63 : decode cX12_reins 63 = .ok (.istore 6, 2) := by decide +kernel
theorem dX12_reins_65 : decode cX12_reins 65 = .ok (.aload_n 0, 1) := by decide +kernel
theorem dX12_reins_66 : decode cX12_reins 66 = .ok (.iload_n 2, 1) := by decide +kernel
theorem dX12_reins_67 : decode cX12_reins 67 = .ok (.iload 5, 2) := by decide +kernel
theorem dX12_reins_69 : decode cX12_reins 69 = .ok (.iload 6, 2) := by decide +kernel
theorem dX12_reins_71 : decode cX12_reins 71 = .ok (.invokestatic 348, 3) := by decide +kernel
theorem dX12_reins_74 : decode cX12_reins 74 = .ok (.invokevirtual 351, 3) := by decide +kernel
theorem dX12_reins_77 : decode cX12_reins 77 = .ok (.istore 7, 2) := by decide +kernel
theorem dX12_reins_79 : decode cX12_reins 79 = .ok (.iload 7, 2) := by decide +kernel
theorem dX12_reins_81 : decode cX12_reins 81 = .ok (.bipush 15, 2) := by decide +kernel
theorem dX12_reins_83 : decode cX12_reins 83 = .ok (.if_icmp .eq 8, 3) := by decide +kernel
theorem dX12_reins_86 : decode cX12_reins 86 = .ok (.iload_n 3, 1) := by decide +kernel
theorem dX12_reins_87 : decode cX12_reins 87 = .ok (.iload_n 2, 1) := by decide +kernel
theorem dX12_reins_88 : decode cX12_reins 88 = .ok (.if_icmp .lt 6, 3) := by decide +kernel
theorem dX12_reins_91 : decode cX12_reins 91 = .ok (.bipush (-2), 2) := by decide +kernel
theorem dX12_reins_93 : decode cX12_reins 93 = .ok (.ireturn, 1) := by decide +kernel
theorem dX12_reins_94 : decode cX12_reins 94 = .ok (.iload_n 3, 1) := by decide +kernel
theorem dX12_reins_95 : decode cX12_reins 95 = .ok (.ifCond .ge 6, 3) := by decide +kernel
theorem dX12_reins_98 : decode cX12_reins 98 = .ok (.iload 7, 2) := by decide +kernel
theorem dX12_reins_100 : decode cX12_reins 100 = .ok (.ireturn, 1) := by decide +kernel
theorem dX12_reins_101 : decode cX12_reins 101 = .ok (.iconst 0, 1) := by decide +kernel
theorem dX12_reins_102 : decode cX12_reins 102 = .ok (.istore 8, 2) := by decide +kernel
theorem dX12_reins_104 : decode cX12_reins 104 = .ok (.iload 8, 2) := by decide +kernel
theorem dX12_reins_106 : decode cX12_reins 106 = .ok (.iload_n 3, 1) := by decide +kernel
theorem dX12_reins_107 : decode cX12_reins 107 = .ok (.if_icmp .gt 110, 3) := by decide +kernel
theorem dX12_reins_110 : decode cX12_reins 110 = .ok (.iconst 0, 1) := by decide +kernel
theorem dX12_reins_111 : decode cX12_reins 111 = .ok (.istore 9, 2) := by decide +kernel
theorem dX12_reins_113 : decode cX12_reins 113 = .ok (.aload_n 0, 1) := by decide +kernel
theorem dX12_reins_114 : decode cX12_reins 114 = .ok (.iload 4, 2) := by decide +kernel
theorem dX12_reins_116 : decode cX12_reins 116 = .ok (.iload_n 2, 1) := by decide +kernel
theorem dX12_reins_117 : decode cX12_reins 117 = .ok (.iload_n 2, 1) := by decide +kernel
theorem dX12_reins_118 : decode cX12_reins 118 = .ok (.iload 8, 2) := by decide +kernel
theorem dX12_reins_120 : decode cX12_reins 120 = .ok (.isub, 1) := by decide +kernel
theorem dX12_reins_121 : decode cX12_reins 121 = .ok (.iload 5, 2) := by decide +kernel
theorem dX12_reins_123 : decode cX12_reins 123 = .ok (.iload 6, 2) := by decide +kernel
theorem dX12_reins_125 : decode cX12_reins 125 = .ok (.getstatic 357, 3) := by decide +kernel
theorem dX12_reins_128 : decode cX12_reins 128 = .ok (.iload 9, 2) := by decide +kernel
theorem dX12_reins_130 : decode cX12_reins 130 = .ok (.iaload, 1) := by decide +kernel
theorem dX12_reins_131 : decode cX12_reins 131 = .ok (.invokevirtual 360, 3) := by decide +kernel
theorem dX12_reins_134 : decode cX12_reins 134 = .ok (.aload_n 0, 1) := by decide +kernel
theorem dX12_reins_135 : decode cX12_reins 135 = .ok (.iload_n 2, 1) := by decide +kernel
theorem dX12_reins_136 : decode cX12_reins 136 = .ok (.iload 8, 2) := by decide +kernel
theorem dX12_reins_138 : decode cX12_reins 138 = .ok (.isub, 1) := by decide +kernel
theorem dX12_reins_139 : decode cX12_reins 139 = .ok (.iload 5, 2) := by decide +kernel
theorem dX12_reins_141 : decode cX12_reins 141 = .ok (.iload 6, 2) := by decide +kernel
theorem dX12_reins_143 : decode cX12_reins 143 = .ok (.invokestatic 348, 3) := by decide +kernel
theorem dX12_reins_146 : decode cX12_reins 146 = .ok (.invokevirtual 351, 3) := by decide +kernel
theorem dX12_reins_149 : decode cX12_reins 149 = .ok (.if_icmp .eq 9, 3) := by decide +kernel
theorem dX12_reins_152 : decode cX12_reins 152 = .ok (.iinc 9 1, 3) := by decide +kernel
theorem dX12_reins_155 : decode cX12_reins 155 = .ok (.goto (-42), 3) := by decide +kernel
theorem dX12_reins_158 : decode cX12_reins 158 = .ok (.iload 8, 2) := by decide +kernel
theorem dX12_reins_160 : decode cX12_reins 160 = .ok (.iload_n 3, 1) := by decide +kernel
theorem dX12_reins_161 : decode cX12_reins 161 = .ok (.if_icmp .ne 12, 3) := by decide +kernel
theorem dX12_reins_164 : decode cX12_reins 164 = .ok (.iconst 1, 1) := by decide +kernel
theorem dX12_reins_165 : decode cX12_reins 165 = .ok (.getstatic 357, 3) := by decide +kernel
theorem dX12_reins_168 : decode cX12_reins 168 = .ok (.iload 9, 2) := by decide +kernel
theorem dX12_reins_170 : decode cX12_reins 170 = .ok (.iaload, 1) := by decide +kernel
theorem dX12_reins_171 : decode cX12_reins 171 = .ok (.iadd, 1) := by decide +kernel
theorem dX12_reins_172 : decode cX12_reins 172 = .ok (.ireturn, 1) := by decide +kernel
theorem dX12_reins_173 : decode cX12_reins 173 = .ok (.aload_n 0, 1) := by decide +kernel
theorem dX12_reins_174 : decode cX12_reins 174 = .ok (.iload 5, 2) := by decide +kernel
theorem dX12_reins_176 : decode cX12_reins 176 = .ok (.putfield 262, 3) := by decide +kernel
theorem dX12_reins_179 : decode cX12_reins 179 = .ok (.aload_n 0, 1) := by decide +kernel
theorem dX12_reins_180 : decode cX12_reins 180 = .ok (.iload 6, 2) := by decide +kernel
theorem dX12_reins_182 : decode cX12_reins 182 = .ok (.putfield 265, 3) := by decide +kernel
theorem dX12_reins_185 : decode cX12_reins 185 = .ok (.aload_n 0, 1) := by decide +kernel
theorem dX12_reins_186 : decode cX12_reins 186 = .ok (.iload 4, 2) := by decide +kernel
theorem dX12_reins_188 : decode cX12_reins 188 = .ok (.iload 8, 2) := by decide +kernel
theorem dX12_reins_190 : decode cX12_reins 190 = .ok (.getstatic 357, 3) := by decide +kernel
theorem dX12_reins_193 : decode cX12_reins 193 = .ok (.iload 9, 2) := by decide +kernel
theorem dX12_reins_195 : decode cX12_reins 195 = .ok (.iaload, 1) := by decide +kernel
theorem dX12_reins_196 : decode cX12_reins 196 = .ok (.invokevirtual 287, 3) := by decide +kernel
theorem dX12_reins_199 : decode cX12_reins 199 = .ok (.aload_n 0, 1) := by decide +kernel
theorem dX12_reins_200 : decode cX12_reins 200 = .ok (.getfield 262, 3) := by decide +kernel
theorem dX12_reins_203 : decode cX12_reins 203 = .ok (.istore 5, 2) := by decide +kernel
theorem dX12_reins_205 : decode cX12_reins 205 = .ok (.aload_n 0, 1) := by decide +kernel
theorem dX12_reins_206 : decode cX12_reins 206 = .ok (.getfield 265, 3) := by decide +kernel
theorem dX12_reins_209 : decode cX12_reins 209 = .ok (.istore 6, 2) := by decide +kernel
theorem dX12_reins_211 : decode cX12_reins 211 = .ok (.iinc 8 1, 3) := by decide +kernel
theorem dX12_reins_214 : decode cX12_reins 214 = .ok (.goto (-110), 3) := by decide +kernel
theorem dX12_reins_217 : decode cX12_reins 217 = .ok (.bipush (-2), 2) := by decide +kernel
theorem dX12_reins_219 : decode cX12_reins 219 = .ok (.ireturn, 1) := by decide +kernel
theorem dX12_goChance_0 : decode cX12_goChance 0 = .ok (.lload 7, 2) := by decide +kernel
theorem dX12_goChance_2 : decode cX12_goChance 2 = .ok (.lconst 0, 1) := by decide +kernel
theorem dX12_goChance_3 : decode cX12_goChance 3 = .ok (.lcmp, 1) := by decide +kernel
theorem dX12_goChance_4 : decode cX12_goChance 4 = .ok (.ifCond .ne 4, 3) := by decide +kernel
theorem dX12_goChance_7 : decode cX12_goChance 7 = .ok (.return_, 1) := by decide +kernel
theorem dX12_goChance_8 : decode cX12_goChance 8 = .ok (.iload_n 2, 1) := by decide +kernel
theorem dX12_goChance_9 : decode cX12_goChance 9 = .ok (.iload_n 3, 1) := by decide +kernel
theorem dX12_goChance_10 : decode cX12_goChance 10 = .ok (.if_icmp .ne 46, 3) := by decide +kernel
theorem dX12_goChance_13 : decode cX12_goChance 13 = .ok (.aload_n 0, 1) := by decide +kernel
theorem dX12_goChance_14 : decode cX12_goChance 14 = .ok (.iload 5, 2) := by decide +kernel
theorem dX12_goChance_16 : decode cX12_goChance 16 = .ok (.iload 9, 2) := by decide +kernel
theorem dX12_goChance_18 : decode cX12_goChance 18 = .ok (.invokevirtual 305, 3) := by decide +kernel
theorem dX12_goChance_21 : decode cX12_goChance 21 = .ok (.ifCond .eq 14, 3) := by decide +kernel
theorem dX12_goChance_24 : decode cX12_goChance 24 = .ok (.aload_n 0, 1) := by decide +kernel
theorem dX12_goChance_25 : decode cX12_goChance 25 = .ok (.dup, 1) := by decide +kernel
theorem dX12_goChance_26 : decode cX12_goChance 26 = .ok (.getfield 367, 3) := by decide +kernel
theorem dX12_goChance_29 : decode cX12_goChance 29 = .ok (.lload 7, 2) := by decide +kernel
theorem dX12_goChance_31 : decode cX12_goChance 31 = .ok (.ladd, 1) := by decide +kernel
theorem dX12_goChance_32 : decode cX12_goChance 32 = .ok (.putfield 367, 3) := by decide +kernel
theorem dX12_goChance_35 : decode cX12_goChance 35 = .ok (.aload_n 0, 1) := by decide +kernel
theorem dX12_goChance_36 : decode cX12_goChance 36 = .ok (.dup, 1) := by decide +kernel
theorem dX12_goChance_37 : decode cX12_goChance 37 = .ok (.getfield 371, 3) := by decide +kernel
theorem dX12_goChance_40 : decode cX12_goChance 40 = .ok (.lload 7, 2) := by decide +kernel
theorem dX12_goChance_42 : decode cX12_goChance 42 = .ok (.iload 5, 2) := by decide +kernel
theorem dX12_goChance_44 : decode cX12_goChance 44 = .ok (.iload 9, 2) := by decide +kernel
theorem dX12_goChance_46 : decode cX12_goChance 46 = .ok (.invokestatic 296, 3) := by decide +kernel
theorem dX12_goChance_49 : decode cX12_goChance 49 = .ok (.i2l, 1) := by decide +kernel
theorem dX12_goChance_50 : decode cX12_goChance 50 = .ok (.lmul, 1) := by decide +kernel
theorem dX12_goChance_51 : decode cX12_goChance 51 = .ok (.ladd, 1) := by decide +kernel
theorem dX12_goChance_52 : decode cX12_goChance 52 = .ok (.putfield 371, 3) := by decide +kernel
theorem dX12_goChance_55 : decode cX12_goChance 55 = .ok (.return_, 1) := by decide +kernel
theorem dX12_goChance_56 : decode cX12_goChance 56 = .ok (.iconst 0, 1) := by decide +kernel
theorem dX12_goChance_57 : decode cX12_goChance 57 = .ok (.istore 10, 2) := by decide +kernel
theorem dX12_goChance_59 : decode cX12_goChance 59 = .ok (.iload 10, 2) := by decide +kernel
theorem dX12_goChance_61 : decode cX12_goChance 61 = .ok (.iconst 2, 1) := by decide +kernel
theorem dX12_goChance_62 : decode cX12_goChance 62 = .ok (.if_icmp .ge 70, 3) := by decide +kernel
theorem dX12_goChance_65 : decode cX12_goChance 65 = .ok (.aload_n 0, 1) := by decide +kernel
theorem dX12_goChance_66 : decode cX12_goChance 66 = .ok (.iload 5, 2) := by decide +kernel
theorem dX12_goChance_68 : decode cX12_goChance 68 = .ok (.putfield 262, 3) := by decide +kernel
theorem dX12_goChance_71 : decode cX12_goChance 71 = .ok (.aload_n 0, 1) := by decide +kernel
theorem dX12_goChance_72 : decode cX12_goChance 72 = .ok (.iload 6, 2) := by decide +kernel
theorem dX12_goChance_74 : decode cX12_goChance 74 = .ok (.putfield 265, 3) := by decide +kernel
theorem dX12_goChance_77 : decode cX12_goChance 77 = .ok (.aload_n 0, 1) := by decide +kernel
theorem dX12_goChance_78 : decode cX12_goChance 78 = .ok (.iload_n 1, 1) := by decide +kernel
theorem dX12_goChance_79 : decode cX12_goChance 79 = .ok (.iload_n 2, 1) := by decide +kernel
theorem dX12_goChance_80 : decode cX12_goChance 80 = .ok (.iload 10, 2) := by decide +kernel
theorem dX12_goChance_82 : decode cX12_goChance 82 = .ok (.invokevirtual 287, 3) := by decide +kernel
theorem dX12_goChance_85 : decode cX12_goChance 85 = .ok (.aload_n 0, 1) := by decide +kernel
theorem dX12_goChance_86 : decode cX12_goChance 86 = .ok (.iload_n 1, 1) := by decide +kernel
theorem dX12_goChance_87 : decode cX12_goChance 87 = .ok (.iload_n 2, 1) := by decide +kernel
theorem dX12_goChance_88 : decode cX12_goChance 88 = .ok (.iconst 1, 1) := by decide +kernel
theorem dX12_goChance_89 : decode cX12_goChance 89 = .ok (.iadd, 1) := by decide +kernel
theorem dX12_goChance_90 : decode cX12_goChance 90 = .ok (.iload_n 3, 1) := by decide +kernel
theorem dX12_goChance_91 : decode cX12_goChance 91 = .ok (.iload 4, 2) := by decide +kernel
theorem dX12_goChance_93 : decode cX12_goChance 93 = .ok (.aload_n 0, 1) := by decide +kernel
theorem dX12_goChance_94 : decode cX12_goChance 94 = .ok (.getfield 262, 3) := by decide +kernel
theorem dX12_goChance_97 : decode cX12_goChance 97 = .ok (.aload_n 0, 1) := by decide +kernel
theorem dX12_goChance_98 : decode cX12_goChance 98 = .ok (.getfield 265, 3) := by decide +kernel
theorem dX12_goChance_101 : decode cX12_goChance 101 = .ok (.lload 7, 2) := by decide +kernel
theorem dX12_goChance_103 : decode cX12_goChance 103 = .ok (.iload 10, 2) := by decide +kernel
theorem dX12_goChance_105 : decode cX12_goChance 105 = .ok (.iconst 1, 1) := by decide +kernel
theorem dX12_goChance_106 : decode cX12_goChance 106 = .ok (.if_icmp .ne 8, 3) := by decide +kernel
theorem dX12_goChance_109 : decode cX12_goChance 109 = .ok (.iload 4, 2) := by decide +kernel
theorem dX12_goChance_111 : decode cX12_goChance 111 = .ok (.goto 8, 3) := by decide +kernel
theorem dX12_goChance_114 : decode cX12_goChance 114 = .ok (.bipush 12, 2) := by decide +kernel
theorem dX12_goChance_116 : decode cX12_goChance 116 = .ok (.iload 4, 2) := by decide +kernel
theorem dX12_goChance_118 : decode cX12_goChance 118 = .ok (.isub, 1) := by decide +kernel
theorem dX12_goChance_119 : decode cX12_goChance 119 = .ok (.i2l, 1) := by decide +kernel
theorem dX12_goChance_120 : decode cX12_goChance 120 = .ok (.lmul, 1) := by decide +kernel
theorem dX12_goChance_121 : decode cX12_goChance 121 = .ok (.iload 9, 2) := by decide +kernel
theorem dX12_goChance_123 : decode cX12_goChance 123 = .ok (.invokevirtual 374, 3) := by decide +kernel
theorem dX12_goChance_126 : decode cX12_goChance 126 = .ok (.iinc 10 1, 3) := by decide +kernel
theorem dX12_goChance_129 : decode cX12_goChance 129 = .ok (.goto (-70), 3) := by decide +kernel
theorem dX12_goChance_132 : decode cX12_goChance 132 = .ok (.return_, 1) := by decide +kernel
theorem dX12_lowest_0 : decode cX12_lowest 0 = .ok (.lload_n 0, 1) := by decide +kernel
theorem dX12_lowest_1 : decode cX12_lowest 1 = .ok (.lconst 0, 1) := by decide +kernel
theorem dX12_lowest_2 : decode cX12_lowest 2 = .ok (.lcmp, 1) := by decide +kernel
theorem dX12_lowest_3 : decode cX12_lowest 3 = .ok (.ifCond .ne 7, 3) := by decide +kernel
theorem dX12_lowest_6 : decode cX12_lowest 6 = .ok (.iload 4, 2) := by decide +kernel
theorem dX12_lowest_8 : decode cX12_lowest 8 = .ok (.i2l, 1) := by decide +kernel
theorem dX12_lowest_9 : decode cX12_lowest 9 = .ok (.lreturn, 1) := by decide +kernel
theorem dX12_lowest_10 : decode cX12_lowest 10 = .ok (.lload_n 0, 1) := by decide +kernel
theorem dX12_lowest_11 : decode cX12_lowest 11 = .ok (.lstore 5, 2) := by decide +kernel
theorem dX12_lowest_13 : decode cX12_lowest 13 = .ok (.lload_n 2, 1) := by decide +kernel
theorem dX12_lowest_14 : decode cX12_lowest 14 = .ok (.lstore 7, 2) := by decide +kernel
theorem dX12_lowest_16 : decode cX12_lowest 16 = .ok (.lload 7, 2) := by decide +kernel
theorem dX12_lowest_18 : decode cX12_lowest 18 = .ok (.lconst 0, 1) := by decide +kernel
theorem dX12_lowest_19 : decode cX12_lowest 19 = .ok (.lcmp, 1) := by decide +kernel
theorem dX12_lowest_20 : decode cX12_lowest 20 = .ok (.ifCond .eq 21, 3) := by decide +kernel
theorem dX12_lowest_23 : decode cX12_lowest 23 = .ok (.lload 5, 2) := by decide +kernel
theorem dX12_lowest_25 : decode cX12_lowest 25 = .ok (.lload 7, 2) := by decide +kernel
theorem dX12_lowest_27 : decode cX12_lowest 27 = .ok (.lrem, 1) := by decide +kernel
theorem dX12_lowest_28 : decode cX12_lowest 28 = .ok (.lstore 9, 2) := by decide +kernel
theorem dX12_lowest_30 : decode cX12_lowest 30 = .ok (.lload 7, 2) := by decide +kernel
theorem dX12_lowest_32 : decode cX12_lowest 32 = .ok (.lstore 5, 2) := by decide +kernel
theorem dX12_lowest_34 : decode cX12_lowest 34 = .ok (.lload 9, 2) := by decide +kernel
theorem dX12_lowest_36 : decode cX12_lowest 36 = .ok (.lstore 7, 2) := by decide +kernel
theorem dX12_lowest_38 : decode cX12_lowest 38 = .ok (.goto (-22), 3) := by decide +kernel
theorem dX12_lowest_41 : decode cX12_lowest 41 = .ok (.iload 4, 2) := by decide +kernel
theorem dX12_lowest_43 : decode cX12_lowest 43 = .ok (.ifCond .ne 10, 3) := by decide +kernel
theorem dX12_lowest_46 : decode cX12_lowest 46 = .ok (.lload_n 0, 1) := by decide +kernel
theorem dX12_lowest_47 : decode cX12_lowest 47 = .ok (.lload 5, 2) := by decide +kernel
theorem dX12_lowest_49 : decode cX12_lowest 49 = .ok (.ldiv, 1) := by decide +kernel
theorem dX12_lowest_50 : decode cX12_lowest 50 = .ok (.goto 7, 3) := by decide +kernel
theorem dX12_lowest_53 : decode cX12_lowest 53 = .ok (.lload_n 2, 1) := by decide +kernel
theorem dX12_lowest_54 : decode cX12_lowest 54 = .ok (.lload 5, 2) := by decide +kernel
theorem dX12_lowest_56 : decode cX12_lowest 56 = .ok (.ldiv, 1) := by decide +kernel
theorem dX12_lowest_57 : decode cX12_lowest 57 = .ok (.lreturn, 1) := by decide +kernel
theorem dX12_areChance_0 : decode cX12_areChance 0 = .ok (.aload_n 0, 1) := by decide +kernel
theorem dX12_areChance_1 : decode cX12_areChance 1 = .ok (.iload_n 1, 1) := by decide +kernel
theorem dX12_areChance_2 : decode cX12_areChance 2 = .ok (.invokevirtual 299, 3) := by decide +kernel
theorem dX12_areChance_5 : decode cX12_areChance 5 = .ok (.ifCond .eq 37, 3) := by decide +kernel
theorem dX12_areChance_8 : decode cX12_areChance 8 = .ok (.iload_n 2, 1) := by decide +kernel
theorem dX12_areChance_9 : decode cX12_areChance 9 = .ok (.iconst 0, 1) := by decide +kernel
theorem dX12_areChance_10 : decode cX12_areChance 10 = .ok (.bipush 8, 2) := by decide +kernel
theorem dX12_areChance_12 : decode cX12_areChance 12 = .ok (.invokestatic 128, 3) := by decide +kernel
theorem dX12_areChance_15 : decode cX12_areChance 15 = .ok (.ifCond .eq 27, 3) := by decide +kernel
theorem dX12_areChance_18 : decode cX12_areChance 18 = .ok (.iload_n 3, 1) := by decide +kernel
theorem dX12_areChance_19 : decode cX12_areChance 19 = .ok (.iconst 0, 1) := by decide +kernel
theorem dX12_areChance_20 : decode cX12_areChance 20 = .ok (.bipush 12, 2) := by decide +kernel
theorem dX12_areChance_22 : decode cX12_areChance 22 = .ok (.invokestatic 128, 3) := by decide +kernel
theorem dX12_areChance_25 : decode cX12_areChance 25 = .ok (.ifCond .eq 17, 3) := by decide +kernel
theorem dX12_areChance_28 : decode cX12_areChance 28 = .ok (.iload 4, 2) := by decide +kernel
theorem dX12_areChance_30 : decode cX12_areChance 30 = .ok (.iconst 0, 1) := by decide +kernel
theorem dX12_areChance_31 : decode cX12_areChance 31 = .ok (.iconst 1, 1) := by decide +kernel
theorem dX12_areChance_32 : decode cX12_areChance 32 = .ok (.invokestatic 128, 3) := by decide +kernel
theorem dX12_areChance_35 : decode cX12_areChance 35 = .ok (.ifCond .eq 7, 3) := by decide +kernel
theorem dX12_areChance_38 : decode cX12_areChance 38 = .ok (.iconst 1, 1) := by decide +kernel
theorem dX12_areChance_39 : decode cX12_areChance 39 = .ok (.goto 4, 3) := by decide +kernel
theorem dX12_areChance_42 : decode cX12_areChance 42 = .ok (.iconst 0, 1) := by decide +kernel
theorem dX12_areChance_43 : decode cX12_areChance 43 = .ok (.ireturn, 1) := by decide +kernel
theorem dX12_findChance_0 : decode cX12_findChance 0 = .ok (.aload_n 0, 1) := by decide +kernel
theorem dX12_findChance_1 : decode cX12_findChance 1 = .ok (.lconst 0, 1) := by decide +kernel
theorem dX12_findChance_2 : decode cX12_findChance 2 = .ok (.putfield 367, 3) := by decide +kernel
theorem dX12_findChance_5 : decode cX12_findChance 5 = .ok (.aload_n 0, 1) := by decide +kernel
theorem dX12_findChance_6 : decode cX12_findChance 6 = .ok (.lconst 0, 1) := by decide +kernel
theorem dX12_findChance_7 : decode cX12_findChance 7 = .ok (.putfield 371, 3) := by decide +kernel
theorem dX12_findChance_10 : decode cX12_findChance 10 = .ok (.aload_n 0, 1) := by decide +kernel
theorem dX12_findChance_11 : decode cX12_findChance 11 = .ok (.iload_n 1, 1) := by decide +kernel
theorem dX12_findChance_12 : decode cX12_findChance 12 = .ok (.bipush 10, 2) := by decide +kernel
theorem dX12_findChance_14 : decode cX12_findChance 14 = .ok (.idiv, 1) := by decide +kernel
theorem dX12_findChance_15 : decode cX12_findChance 15 = .ok (.iconst 0, 1) := by decide +kernel
theorem dX12_findChance_16 : decode cX12_findChance 16 = .ok (.iload_n 2, 1) := by decide +kernel
theorem dX12_findChance_17 : decode cX12_findChance 17 = .ok (.iload_n 3, 1) := by decide +kernel
theorem dX12_findChance_18 : decode cX12_findChance 18 = .ok (.aload_n 0, 1) := by decide +kernel
theorem dX12_findChance_19 : decode cX12_findChance 19 = .ok (.getfield 9, 3) := by decide +kernel
theorem dX12_findChance_22 : decode cX12_findChance 22 = .ok (.iload_n 1, 1) := by decide +kernel
theorem dX12_findChance_23 : decode cX12_findChance 23 = .ok (.bipush 10, 2) := by decide +kernel
theorem dX12_findChance_25 : decode cX12_findChance 25 = .ok (.idiv, 1) := by decide +kernel
theorem dX12_findChance_26 : decode cX12_findChance 26 = .ok (.iaload, 1) := by decide +kernel
theorem dX12_findChance_27 : decode cX12_findChance 27 = .ok (.aload_n 0, 1) := by decide +kernel
theorem dX12_findChance_28 : decode cX12_findChance 28 = .ok (.getfield 15, 3) := by decide +kernel
theorem dX12_findChance_31 : decode cX12_findChance 31 = .ok (.iload_n 1, 1) := by decide +kernel
theorem dX12_findChance_32 : decode cX12_findChance 32 = .ok (.bipush 10, 2) := by decide +kernel
theorem dX12_findChance_34 : decode cX12_findChance 34 = .ok (.idiv, 1) := by decide +kernel
theorem dX12_findChance_35 : decode cX12_findChance 35 = .ok (.iaload, 1) := by decide +kernel
theorem dX12_findChance_36 : decode cX12_findChance 36 = .ok (.lconst 1, 1) := by decide +kernel
theorem dX12_findChance_37 : decode cX12_findChance 37 = .ok (.aload_n 0, 1) := by decide +kernel
theorem dX12_findChance_38 : decode cX12_findChance 38 = .ok (.getfield 24, 3) := by decide +kernel
theorem dX12_findChance_41 : decode cX12_findChance 41 = .ok (.iload_n 1, 1) := by decide +kernel
theorem dX12_findChance_42 : decode cX12_findChance 42 = .ok (.bipush 10, 2) := by decide +kernel
theorem dX12_findChance_44 : decode cX12_findChance 44 = .ok (.irem, 1) := by decide +kernel
theorem dX12_findChance_45 : decode cX12_findChance 45 = .ok (.iaload, 1) := by decide +kernel
theorem dX12_findChance_46 : decode cX12_findChance 46 = .ok (.invokevirtual 374, 3) := by decide +kernel
theorem dX12_findChance_49 : decode cX12_findChance 49 = .ok (.lconst 1, 1) := by decide +kernel
theorem dX12_findChance_50 : decode cX12_findChance 50 = .ok (.lstore 4, 2) := by decide +kernel
theorem dX12_findChance_52 : decode cX12_findChance 52 = .ok (.iconst 0, 1) := by decide +kernel
theorem dX12_findChance_53 : decode cX12_findChance 53 = .ok (.istore 6, 2) := by decide +kernel
theorem dX12_findChance_55 : decode cX12_findChance 55 = .ok (.iload 6, 2) := by decide +kernel
theorem dX12_findChance_57 : decode cX12_findChance 57 = .ok (.iload_n 2, 1) := by decide +kernel
theorem dX12_findChance_58 : decode cX12_findChance 58 = .ok (.if_icmp .ge 17, 3) := by decide +kernel
theorem dX12_findChance_61 : decode cX12_findChance 61 = .ok (.lload 4, 2) := by decide +kernel
theorem dX12_findChance_63 : decode cX12_findChance 63 = .ok (.ldc2_w 378, 3) := by decide +kernel
theorem dX12_findChance_66 : decode cX12_findChance 66 = .ok (.lmul, 1) := by decide +kernel
theorem dX12_findChance_67 : decode cX12_findChance 67 = .ok (.lstore 4, 2) := by decide +kernel
theorem dX12_findChance_69 : decode cX12_findChance 69 = .ok (.iinc 6 1, 3) := by decide +kernel
theorem dX12_findChance_72 : decode cX12_findChance 72 = .ok (.goto (-17), 3) := by decide +kernel
theorem dX12_findChance_75 : decode cX12_findChance 75 = .ok (.lload 4, 2) := by decide +kernel
theorem dX12_findChance_77 : decode cX12_findChance 77 = .ok (.lreturn, 1) := by decide +kernel
theorem dX12_chance_0 : decode cX12_chance 0 = .ok (.aload_n 0, 1) := by decide +kernel
theorem dX12_chance_1 : decode cX12_chance 1 = .ok (.iload_n 1, 1) := by decide +kernel
theorem dX12_chance_2 : decode cX12_chance 2 = .ok (.iload_n 2, 1) := by decide +kernel
theorem dX12_chance_3 : decode cX12_chance 3 = .ok (.iload_n 3, 1) := by decide +kernel
theorem dX12_chance_4 : decode cX12_chance 4 = .ok (.iload 4, 2) := by decide +kernel
theorem dX12_chance_6 : decode cX12_chance 6 = .ok (.invokevirtual 380, 3) := by decide +kernel
theorem dX12_chance_9 : decode cX12_chance 9 = .ok (.ifCond .ne 7, 3) := by decide +kernel
theorem dX12_chance_12 : decode cX12_chance 12 = .ok (.ldc2_w 384, 3) := by decide +kernel
theorem dX12_chance_15 : decode cX12_chance 15 = .ok (.lreturn, 1) := by decide +kernel
theorem dX12_chance_16 : decode cX12_chance 16 = .ok (.aload_n 0, 1) := by decide +kernel
theorem dX12_chance_17 : decode cX12_chance 17 = .ok (.iload_n 1, 1) := by decide +kernel
theorem dX12_chance_18 : decode cX12_chance 18 = .ok (.iload_n 2, 1) := by decide +kernel
theorem dX12_chance_19 : decode cX12_chance 19 = .ok (.iload_n 3, 1) := by decide +kernel
theorem dX12_chance_20 : decode cX12_chance 20 = .ok (.invokevirtual 386, 3) := by decide +kernel
theorem dX12_chance_23 : decode cX12_chance 23 = .ok (.lstore 5, 2) := by decide +kernel
theorem dX12_chance_25 : decode cX12_chance 25 = .ok (.aload_n 0, 1) := by decide +kernel
theorem dX12_chance_26 : decode cX12_chance 26 = .ok (.getfield 367, 3) := by decide +kernel
theorem dX12_chance_29 : decode cX12_chance 29 = .ok (.lload 5, 2) := by decide +kernel
theorem dX12_chance_31 : decode cX12_chance 31 = .ok (.iload 4, 2) := by decide +kernel
theorem dX12_chance_33 : decode cX12_chance 33 = .ok (.invokestatic 390, 3) := by decide +kernel
theorem dX12_chance_36 : decode cX12_chance 36 = .ok (.lreturn, 1) := by decide +kernel
theorem dX12_mean_0 : decode cX12_mean 0 = .ok (.aload_n 0, 1) := by decide +kernel
theorem dX12_mean_1 : decode cX12_mean 1 = .ok (.iload_n 1, 1) := by decide +kernel
theorem dX12_mean_2 : decode cX12_mean 2 = .ok (.iload_n 2, 1) := by decide +kernel
theorem dX12_mean_3 : decode cX12_mean 3 = .ok (.iload_n 3, 1) := by decide +kernel
theorem dX12_mean_4 : decode cX12_mean 4 = .ok (.iload 4, 2) := by decide +kernel
theorem dX12_mean_6 : decode cX12_mean 6 = .ok (.invokevirtual 380, 3) := by decide +kernel
theorem dX12_mean_9 : decode cX12_mean 9 = .ok (.ifCond .ne 7, 3) := by decide +kernel
theorem dX12_mean_12 : decode cX12_mean 12 = .ok (.ldc2_w 384, 3) := by decide +kernel
theorem dX12_mean_15 : decode cX12_mean 15 = .ok (.lreturn, 1) := by decide +kernel
theorem dX12_mean_16 : decode cX12_mean 16 = .ok (.aload_n 0, 1) := by decide +kernel
theorem dX12_mean_17 : decode cX12_mean 17 = .ok (.iload_n 1, 1) := by decide +kernel
theorem dX12_mean_18 : decode cX12_mean 18 = .ok (.iload_n 2, 1) := by decide +kernel
theorem dX12_mean_19 : decode cX12_mean 19 = .ok (.iload_n 3, 1) := by decide +kernel
theorem dX12_mean_20 : decode cX12_mean 20 = .ok (.invokevirtual 386, 3) := by decide +kernel
theorem dX12_mean_23 : decode cX12_mean 23 = .ok (.lstore 5, 2) := by decide +kernel
theorem dX12_mean_25 : decode cX12_mean 25 = .ok (.aload_n 0, 1) := by decide +kernel
theorem dX12_mean_26 : decode cX12_mean 26 = .ok (.getfield 371, 3) := by decide +kernel
theorem dX12_mean_29 : decode cX12_mean 29 = .ok (.lload 5, 2) := by decide +kernel
theorem dX12_mean_31 : decode cX12_mean 31 = .ok (.iload 4, 2) := by decide +kernel
theorem dX12_mean_33 : decode cX12_mean 33 = .ok (.invokestatic 390, 3) := by decide +kernel
theorem dX12_mean_36 : decode cX12_mean 36 = .ok (.lreturn, 1) := by decide +kernel
theorem dX12_endsBy_0 : decode cX12_endsBy 0 = .ok (.aload_n 0, 1) := by decide +kernel
theorem dX12_endsBy_1 : decode cX12_endsBy 1 = .ok (.iload 4, 2) := by decide +kernel
theorem dX12_endsBy_3 : decode cX12_endsBy 3 = .ok (.putfield 262, 3) := by decide +kernel
theorem dX12_endsBy_6 : decode cX12_endsBy 6 = .ok (.aload_n 0, 1) := by decide +kernel
theorem dX12_endsBy_7 : decode cX12_endsBy 7 = .ok (.iload 5, 2) := by decide +kernel
theorem dX12_endsBy_9 : decode cX12_endsBy 9 = .ok (.putfield 265, 3) := by decide +kernel
theorem dX12_endsBy_12 : decode cX12_endsBy 12 = .ok (.aload_n 0, 1) := by decide +kernel
theorem dX12_endsBy_13 : decode cX12_endsBy 13 = .ok (.iload_n 1, 1) := by decide +kernel
theorem dX12_endsBy_14 : decode cX12_endsBy 14 = .ok (.iload_n 2, 1) := by decide +kernel
theorem dX12_endsBy_15 : decode cX12_endsBy 15 = .ok (.iload 7, 2) := by decide +kernel
theorem dX12_endsBy_17 : decode cX12_endsBy 17 = .ok (.invokevirtual 287, 3) := by decide +kernel
theorem dX12_endsBy_20 : decode cX12_endsBy 20 = .ok (.aload_n 0, 1) := by decide +kernel
theorem dX12_endsBy_21 : decode cX12_endsBy 21 = .ok (.iload_n 1, 1) := by decide +kernel
theorem dX12_endsBy_22 : decode cX12_endsBy 22 = .ok (.iload_n 2, 1) := by decide +kernel
theorem dX12_endsBy_23 : decode cX12_endsBy 23 = .ok (.iconst 1, 1) := by decide +kernel
theorem dX12_endsBy_24 : decode cX12_endsBy 24 = .ok (.iadd, 1) := by decide +kernel
theorem dX12_endsBy_25 : decode cX12_endsBy 25 = .ok (.iload_n 3, 1) := by decide +kernel
theorem dX12_endsBy_26 : decode cX12_endsBy 26 = .ok (.aload_n 0, 1) := by decide +kernel
theorem dX12_endsBy_27 : decode cX12_endsBy 27 = .ok (.getfield 262, 3) := by decide +kernel
theorem dX12_endsBy_30 : decode cX12_endsBy 30 = .ok (.aload_n 0, 1) := by decide +kernel
