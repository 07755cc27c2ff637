theorem dX12_endsBy_31 : decode cX12_endsBy 31 = .ok (.getfield 265, 3) := by decide +kernel
theorem dX12_endsBy_34 : decode cX12_endsBy 34 = .ok (.iload 6, 2) := by decide +kernel
theorem dX12_endsBy_36 : decode cX12_endsBy 36 = .ok (.invokevirtual 394, 3) := by decide +kernel
theorem dX12_endsBy_39 : decode cX12_endsBy 39 = .ok (.ireturn, 1) := by decide +kernel
theorem dX12_endsAt_0 : decode cX12_endsAt 0 = .ok (.iload_n 2, 1) := by decide +kernel
theorem dX12_endsAt_1 : decode cX12_endsAt 1 = .ok (.iload_n 3, 1) := by decide +kernel
theorem dX12_endsAt_2 : decode cX12_endsAt 2 = .ok (.if_icmp .ne 11, 3) := by decide +kernel
theorem dX12_endsAt_5 : decode cX12_endsAt 5 = .ok (.iload 4, 2) := by decide +kernel
theorem dX12_endsAt_7 : decode cX12_endsAt 7 = .ok (.iload 6, 2) := by decide +kernel
theorem dX12_endsAt_9 : decode cX12_endsAt 9 = .ok (.invokestatic 296, 3) := by decide +kernel
theorem dX12_endsAt_12 : decode cX12_endsAt 12 = .ok (.ireturn, 1) := by decide +kernel
theorem dX12_endsAt_13 : decode cX12_endsAt 13 = .ok (.aload_n 0, 1) := by decide +kernel
theorem dX12_endsAt_14 : decode cX12_endsAt 14 = .ok (.iload_n 1, 1) := by decide +kernel
theorem dX12_endsAt_15 : decode cX12_endsAt 15 = .ok (.iload_n 2, 1) := by decide +kernel
theorem dX12_endsAt_16 : decode cX12_endsAt 16 = .ok (.iload_n 3, 1) := by decide +kernel
theorem dX12_endsAt_17 : decode cX12_endsAt 17 = .ok (.iload 4, 2) := by decide +kernel
theorem dX12_endsAt_19 : decode cX12_endsAt 19 = .ok (.iload 5, 2) := by decide +kernel
theorem dX12_endsAt_21 : decode cX12_endsAt 21 = .ok (.iload 6, 2) := by decide +kernel
theorem dX12_endsAt_23 : decode cX12_endsAt 23 = .ok (.iconst 0, 1) := by decide +kernel
theorem dX12_endsAt_24 : decode cX12_endsAt 24 = .ok (.invokevirtual 397, 3) := by decide +kernel
theorem dX12_endsAt_27 : decode cX12_endsAt 27 = .ok (.istore 7, 2) := by decide +kernel
theorem dX12_endsAt_29 : decode cX12_endsAt 29 = .ok (.iconst (-1), 1) := by decide +kernel
theorem dX12_endsAt_30 : decode cX12_endsAt 30 = .ok (.istore 8, 2) := by decide +kernel
theorem dX12_endsAt_32 : decode cX12_endsAt 32 = .ok (.iload 8, 2) := by decide +kernel
theorem dX12_endsAt_34 : decode cX12_endsAt 34 = .ok (.iconst 2, 1) := by decide +kernel
theorem dX12_endsAt_35 : decode cX12_endsAt 35 = .ok (.if_icmp .ge 53, 3) := by decide +kernel
theorem dX12_endsAt_38 : decode cX12_endsAt 38 = .ok (.aload_n 0, 1) := by decide +kernel
theorem dX12_endsAt_39 : decode cX12_endsAt 39 = .ok (.iload_n 1, 1) := by decide +kernel
theorem dX12_endsAt_40 : decode cX12_endsAt 40 = .ok (.iload_n 2, 1) := by decide +kernel
theorem dX12_endsAt_41 : decode cX12_endsAt 41 = .ok (.iload_n 3, 1) := by decide +kernel
theorem dX12_endsAt_42 : decode cX12_endsAt 42 = .ok (.iload 4, 2) := by decide +kernel
theorem dX12_endsAt_44 : decode cX12_endsAt 44 = .ok (.iload 5, 2) := by decide +kernel
theorem dX12_endsAt_46 : decode cX12_endsAt 46 = .ok (.iload 6, 2) := by decide +kernel
theorem dX12_endsAt_48 : decode cX12_endsAt 48 = .ok (.iload 8, 2) := by decide +kernel
theorem dX12_endsAt_50 : decode cX12_endsAt 50 = .ok (.invokevirtual 397, 3) := by decide +kernel
theorem dX12_endsAt_53 : decode cX12_endsAt 53 = .ok (.istore 9, 2) := by decide +kernel
theorem dX12_endsAt_55 : decode cX12_endsAt 55 = .ok (.iload_n 2, 1) := by decide +kernel
theorem dX12_endsAt_56 : decode cX12_endsAt 56 = .ok (.iconst 2, 1) := by decide +kernel
theorem dX12_endsAt_57 : decode cX12_endsAt 57 = .ok (.irem, 1) := by decide +kernel
theorem dX12_endsAt_58 : decode cX12_endsAt 58 = .ok (.ifCond .ne 13, 3) := by decide +kernel
theorem dX12_endsAt_61 : decode cX12_endsAt 61 = .ok (.iload 9, 2) := by decide +kernel
theorem dX12_endsAt_63 : decode cX12_endsAt 63 = .ok (.iload 7, 2) := by decide +kernel
theorem dX12_endsAt_65 : decode cX12_endsAt 65 = .ok (.if_icmp .ge 17, 3) := by decide +kernel
theorem dX12_endsAt_68 : decode cX12_endsAt 68 = .ok (.goto 10, 3) := by decide +kernel
theorem dX12_endsAt_71 : decode cX12_endsAt 71 = .ok (.iload 9, 2) := by decide +kernel
theorem dX12_endsAt_73 : decode cX12_endsAt 73 = .ok (.iload 7, 2) := by decide +kernel
theorem dX12_endsAt_75 : decode cX12_endsAt 75 = .ok (.if_icmp .le 7, 3) := by decide +kernel
theorem dX12_endsAt_78 : decode cX12_endsAt 78 = .ok (.iload 9, 2) := by decide +kernel
theorem dX12_endsAt_80 : decode cX12_endsAt 80 = .ok (.istore 7, 2) := by decide +kernel
theorem dX12_endsAt_82 : decode cX12_endsAt 82 = .ok (.iinc 8 2, 3) := by decide +kernel
theorem dX12_endsAt_85 : decode cX12_endsAt 85 = .ok (.goto (-53), 3) := by decide +kernel
theorem dX12_endsAt_88 : decode cX12_endsAt 88 = .ok (.iload 7, 2) := by decide +kernel
theorem dX12_endsAt_90 : decode cX12_endsAt 90 = .ok (.ireturn, 1) := by decide +kernel
theorem dX12_byTurns_0 : decode cX12_byTurns 0 = .ok (.aload_n 0, 1) := by decide +kernel
theorem dX12_byTurns_1 : decode cX12_byTurns 1 = .ok (.iload_n 1, 1) := by decide +kernel
theorem dX12_byTurns_2 : decode cX12_byTurns 2 = .ok (.invokevirtual 299, 3) := by decide +kernel
theorem dX12_byTurns_5 : decode cX12_byTurns 5 = .ok (.ifCond .eq 22, 3) := by decide +kernel
theorem dX12_byTurns_8 : decode cX12_byTurns 8 = .ok (.iload_n 2, 1) := by decide +kernel
theorem dX12_byTurns_9 : decode cX12_byTurns 9 = .ok (.iconst 1, 1) := by decide +kernel
theorem dX12_byTurns_10 : decode cX12_byTurns 10 = .ok (.bipush 6, 2) := by decide +kernel
theorem dX12_byTurns_12 : decode cX12_byTurns 12 = .ok (.invokestatic 128, 3) := by decide +kernel
theorem dX12_byTurns_15 : decode cX12_byTurns 15 = .ok (.ifCond .eq 12, 3) := by decide +kernel
theorem dX12_byTurns_18 : decode cX12_byTurns 18 = .ok (.iload_n 3, 1) := by decide +kernel
theorem dX12_byTurns_19 : decode cX12_byTurns 19 = .ok (.iconst 0, 1) := by decide +kernel
theorem dX12_byTurns_20 : decode cX12_byTurns 20 = .ok (.iconst 1, 1) := by decide +kernel
theorem dX12_byTurns_21 : decode cX12_byTurns 21 = .ok (.invokestatic 128, 3) := by decide +kernel
theorem dX12_byTurns_24 : decode cX12_byTurns 24 = .ok (.ifCond .ne 5, 3) := by decide +kernel
theorem dX12_byTurns_27 : decode cX12_byTurns 27 = .ok (.iconst (-1), 1) := by decide +kernel
theorem dX12_byTurns_28 : decode cX12_byTurns 28 = .ok (.ireturn, 1) := by decide +kernel
theorem dX12_byTurns_29 : decode cX12_byTurns 29 = .ok (.iload_n 1, 1) := by decide +kernel
theorem dX12_byTurns_30 : decode cX12_byTurns 30 = .ok (.bipush 10, 2) := by decide +kernel
theorem dX12_byTurns_32 : decode cX12_byTurns 32 = .ok (.idiv, 1) := by decide +kernel
theorem dX12_byTurns_33 : decode cX12_byTurns 33 = .ok (.istore 4, 2) := by decide +kernel
theorem dX12_byTurns_35 : decode cX12_byTurns 35 = .ok (.aload_n 0, 1) := by decide +kernel
theorem dX12_byTurns_36 : decode cX12_byTurns 36 = .ok (.getfield 24, 3) := by decide +kernel
theorem dX12_byTurns_39 : decode cX12_byTurns 39 = .ok (.iload_n 1, 1) := by decide +kernel
theorem dX12_byTurns_40 : decode cX12_byTurns 40 = .ok (.bipush 10, 2) := by decide +kernel
theorem dX12_byTurns_42 : decode cX12_byTurns 42 = .ok (.irem, 1) := by decide +kernel
theorem dX12_byTurns_43 : decode cX12_byTurns 43 = .ok (.iaload, 1) := by decide +kernel
theorem dX12_byTurns_44 : decode cX12_byTurns 44 = .ok (.istore 5, 2) := by decide +kernel
theorem dX12_byTurns_46 : decode cX12_byTurns 46 = .ok (.aload_n 0, 1) := by decide +kernel
theorem dX12_byTurns_47 : decode cX12_byTurns 47 = .ok (.iload 4, 2) := by decide +kernel
theorem dX12_byTurns_49 : decode cX12_byTurns 49 = .ok (.iconst 0, 1) := by decide +kernel
theorem dX12_byTurns_50 : decode cX12_byTurns 50 = .ok (.iload_n 2, 1) := by decide +kernel
theorem dX12_byTurns_51 : decode cX12_byTurns 51 = .ok (.aload_n 0, 1) := by decide +kernel
theorem dX12_byTurns_52 : decode cX12_byTurns 52 = .ok (.getfield 9, 3) := by decide +kernel
theorem dX12_byTurns_55 : decode cX12_byTurns 55 = .ok (.iload 4, 2) := by decide +kernel
theorem dX12_byTurns_57 : decode cX12_byTurns 57 = .ok (.iaload, 1) := by decide +kernel
theorem dX12_byTurns_58 : decode cX12_byTurns 58 = .ok (.aload_n 0, 1) := by decide +kernel
theorem dX12_byTurns_59 : decode cX12_byTurns 59 = .ok (.getfield 15, 3) := by decide +kernel
theorem dX12_byTurns_62 : decode cX12_byTurns 62 = .ok (.iload 4, 2) := by decide +kernel
theorem dX12_byTurns_64 : decode cX12_byTurns 64 = .ok (.iaload, 1) := by decide +kernel
theorem dX12_byTurns_65 : decode cX12_byTurns 65 = .ok (.iload 5, 2) := by decide +kernel
theorem dX12_byTurns_67 : decode cX12_byTurns 67 = .ok (.invokevirtual 394, 3) := by decide +kernel
theorem dX12_byTurns_70 : decode cX12_byTurns 70 = .ok (.istore 6, 2) := by decide +kernel
theorem dX12_byTurns_72 : decode cX12_byTurns 72 = .ok (.iload_n 3, 1) := by decide +kernel
theorem dX12_byTurns_73 : decode cX12_byTurns 73 = .ok (.ifCond .ne 6, 3) := by decide +kernel
theorem dX12_byTurns_76 : decode cX12_byTurns 76 = .ok (.iload 6, 2) := by decide +kernel
theorem dX12_byTurns_78 : decode cX12_byTurns 78 = .ok (.ireturn, 1) := by decide +kernel
theorem dX12_byTurns_79 : decode cX12_byTurns 79 = .ok (.iconst 0, 1) := by decide +kernel
theorem dX12_byTurns_80 : decode cX12_byTurns 80 = .ok (.istore 7, 2) := by decide +kernel
theorem dX12_byTurns_82 : decode cX12_byTurns 82 = .ok (.aload_n 0, 1) := by decide +kernel
theorem dX12_byTurns_83 : decode cX12_byTurns 83 = .ok (.iload 4, 2) := by decide +kernel
theorem dX12_byTurns_85 : decode cX12_byTurns 85 = .ok (.iconst 0, 1) := by decide +kernel
theorem dX12_byTurns_86 : decode cX12_byTurns 86 = .ok (.iload_n 2, 1) := by decide +kernel
theorem dX12_byTurns_87 : decode cX12_byTurns 87 = .ok (.aload_n 0, 1) := by decide +kernel
theorem dX12_byTurns_88 : decode cX12_byTurns 88 = .ok (.getfield 9, 3) := by decide +kernel
theorem dX12_byTurns_91 : decode cX12_byTurns 91 = .ok (.iload 4, 2) := by decide +kernel
theorem dX12_byTurns_93 : decode cX12_byTurns 93 = .ok (.iaload, 1) := by decide +kernel
theorem dX12_byTurns_94 : decode cX12_byTurns 94 = .ok (.aload_n 0, 1) := by decide +kernel
theorem dX12_byTurns_95 : decode cX12_byTurns 95 = .ok (.getfield 15, 3) := by decide +kernel
theorem dX12_byTurns_98 : decode cX12_byTurns 98 = .ok (.iload 4, 2) := by decide +kernel
theorem dX12_byTurns_100 : decode cX12_byTurns 100 = .ok (.iaload, 1) := by decide +kernel
theorem dX12_byTurns_101 : decode cX12_byTurns 101 = .ok (.iload 5, 2) := by decide +kernel
theorem dX12_byTurns_103 : decode cX12_byTurns 103 = .ok (.getstatic 357, 3) := by decide +kernel
theorem dX12_byTurns_106 : decode cX12_byTurns 106 = .ok (.iload 7, 2) := by decide +kernel
theorem dX12_byTurns_108 : decode cX12_byTurns 108 = .ok (.iaload, 1) := by decide +kernel
theorem dX12_byTurns_109 : decode cX12_byTurns 109 = .ok (.invokevirtual 397, 3) := by decide +kernel
theorem dX12_byTurns_112 : decode cX12_byTurns 112 = .ok (.iload 6, 2) := by decide +kernel
theorem dX12_byTurns_114 : decode cX12_byTurns 114 = .ok (.if_icmp .eq 9, 3) := by decide +kernel
theorem dX12_byTurns_117 : decode cX12_byTurns 117 = .ok (.iinc 7 1, 3) := by decide +kernel
theorem dX12_byTurns_120 : decode cX12_byTurns 120 = .ok (.goto (-38), 3) := by decide +kernel
theorem dX12_byTurns_123 : decode cX12_byTurns 123 = .ok (.iconst 1, 1) := by decide +kernel
theorem dX12_byTurns_124 : decode cX12_byTurns 124 = .ok (.getstatic 357, 3) := by decide +kernel
theorem dX12_byTurns_127 : decode cX12_byTurns 127 = .ok (.iload 7, 2) := by decide +kernel
theorem dX12_byTurns_129 : decode cX12_byTurns 129 = .ok (.iaload, 1) := by decide +kernel
theorem dX12_byTurns_130 : decode cX12_byTurns 130 = .ok (.iadd, 1) := by decide +kernel
theorem dX12_byTurns_131 : decode cX12_byTurns 131 = .ok (.ireturn, 1) := by decide +kernel
theorem dX12_placesNear_0 : decode cX12_placesNear 0 = .ok (.iconst 0, 1) := by decide +kernel
theorem dX12_placesNear_1 : decode cX12_placesNear 1 = .ok (.istore_n 1, 1) := by decide +kernel
theorem dX12_placesNear_2 : decode cX12_placesNear 2 = .ok (.iconst 0, 1) := by decide +kernel
theorem dX12_placesNear_3 : decode cX12_placesNear 3 = .ok (.istore_n 2, 1) := by decide +kernel
theorem dX12_placesNear_4 : decode cX12_placesNear 4 = .ok (.iload_n 2, 1) := by decide +kernel
theorem dX12_placesNear_5 : decode cX12_placesNear 5 = .ok (.aload_n 0, 1) := by decide +kernel
theorem dX12_placesNear_6 : decode cX12_placesNear 6 = .ok (.getfield 132, 3) := by decide +kernel
theorem dX12_placesNear_9 : decode cX12_placesNear 9 = .ok (.if_icmp .ge 20, 3) := by decide +kernel
theorem dX12_placesNear_12 : decode cX12_placesNear 12 = .ok (.aload_n 0, 1) := by decide +kernel
theorem dX12_placesNear_13 : decode cX12_placesNear 13 = .ok (.iload_n 2, 1) := by decide +kernel
theorem dX12_placesNear_14 : decode cX12_placesNear 14 = .ok (.invokevirtual 401, 3) := by decide +kernel
theorem dX12_placesNear_17 : decode cX12_placesNear 17 = .ok (.ifCond .le 6, 3) := by decide +kernel
theorem dX12_placesNear_20 : decode cX12_placesNear 20 = .ok (.iinc 1 1, 3) := by decide +kernel
theorem dX12_placesNear_23 : decode cX12_placesNear 23 = .ok (.iinc 2 1, 3) := by decide +kernel
theorem dX12_placesNear_26 : decode cX12_placesNear 26 = .ok (.goto (-22), 3) := by decide +kernel
theorem dX12_placesNear_29 : decode cX12_placesNear 29 = .ok (.iload_n 1, 1) := by decide +kernel
theorem dX12_placesNear_30 : decode cX12_placesNear 30 = .ok (.ireturn, 1) := by decide +kernel
theorem dX12_manyNear_0 : decode cX12_manyNear 0 = .ok (.iconst 0, 1) := by decide +kernel
theorem dX12_manyNear_1 : decode cX12_manyNear 1 = .ok (.istore_n 2, 1) := by decide +kernel
theorem dX12_manyNear_2 : decode cX12_manyNear 2 = .ok (.iconst 0, 1) := by decide +kernel
theorem dX12_manyNear_3 : decode cX12_manyNear 3 = .ok (.istore_n 3, 1) := by decide +kernel
theorem dX12_manyNear_4 : decode cX12_manyNear 4 = .ok (.iload_n 3, 1) := by decide +kernel
theorem dX12_manyNear_5 : decode cX12_manyNear 5 = .ok (.aload_n 0, 1) := by decide +kernel
theorem dX12_manyNear_6 : decode cX12_manyNear 6 = .ok (.getfield 125, 3) := by decide +kernel
theorem dX12_manyNear_9 : decode cX12_manyNear 9 = .ok (.if_icmp .ge 31, 3) := by decide +kernel
theorem dX12_manyNear_12 : decode cX12_manyNear 12 = .ok (.aload_n 0, 1) := by decide +kernel
theorem dX12_manyNear_13 : decode cX12_manyNear 13 = .ok (.aload_n 0, 1) := by decide +kernel
theorem dX12_manyNear_14 : decode cX12_manyNear 14 = .ok (.getfield 77, 3) := by decide +kernel
theorem dX12_manyNear_17 : decode cX12_manyNear 17 = .ok (.iload_n 3, 1) := by decide +kernel
theorem dX12_manyNear_18 : decode cX12_manyNear 18 = .ok (.iaload, 1) := by decide +kernel
theorem dX12_manyNear_19 : decode cX12_manyNear 19 = .ok (.aload_n 0, 1) := by decide +kernel
theorem dX12_manyNear_20 : decode cX12_manyNear 20 = .ok (.getfield 24, 3) := by decide +kernel
theorem dX12_manyNear_23 : decode cX12_manyNear 23 = .ok (.iload_n 1, 1) := by decide +kernel
theorem dX12_manyNear_24 : decode cX12_manyNear 24 = .ok (.iaload, 1) := by decide +kernel
theorem dX12_manyNear_25 : decode cX12_manyNear 25 = .ok (.invokevirtual 305, 3) := by decide +kernel
theorem dX12_manyNear_28 : decode cX12_manyNear 28 = .ok (.ifCond .eq 6, 3) := by decide +kernel
theorem dX12_manyNear_31 : decode cX12_manyNear 31 = .ok (.iinc 2 1, 3) := by decide +kernel
theorem dX12_manyNear_34 : decode cX12_manyNear 34 = .ok (.iinc 3 1, 3) := by decide +kernel
theorem dX12_manyNear_37 : decode cX12_manyNear 37 = .ok (.goto (-33), 3) := by decide +kernel
theorem dX12_manyNear_40 : decode cX12_manyNear 40 = .ok (.iload_n 2, 1) := by decide +kernel
theorem dX12_manyNear_41 : decode cX12_manyNear 41 = .ok (.ireturn, 1) := by decide +kernel
theorem dX12_drawn_0 : decode cX12_drawn 0 = .ok (.iload_n 2, 1) := by decide +kernel
theorem dX12_drawn_1 : decode cX12_drawn 1 = .ok (.ifCond .lt 43, 3) := by decide +kernel
theorem dX12_drawn_4 : decode cX12_drawn 4 = .ok (.iload_n 2, 1) := by decide +kernel
theorem dX12_drawn_5 : decode cX12_drawn 5 = .ok (.bipush 100, 2) := by decide +kernel
theorem dX12_drawn_7 : decode cX12_drawn 7 = .ok (.idiv, 1) := by decide +kernel
theorem dX12_drawn_8 : decode cX12_drawn 8 = .ok (.iconst 1, 1) := by decide +kernel
theorem dX12_drawn_9 : decode cX12_drawn 9 = .ok (.bipush 30, 2) := by decide +kernel
theorem dX12_drawn_11 : decode cX12_drawn 11 = .ok (.invokestatic 128, 3) := by decide +kernel
theorem dX12_drawn_14 : decode cX12_drawn 14 = .ok (.ifCond .eq 30, 3) := by decide +kernel
theorem dX12_drawn_17 : decode cX12_drawn 17 = .ok (.iload_n 2, 1) := by decide +kernel
theorem dX12_drawn_18 : decode cX12_drawn 18 = .ok (.bipush 100, 2) := by decide +kernel
theorem dX12_drawn_20 : decode cX12_drawn 20 = .ok (.irem, 1) := by decide +kernel
theorem dX12_drawn_21 : decode cX12_drawn 21 = .ok (.iconst 1, 1) := by decide +kernel
theorem dX12_drawn_22 : decode cX12_drawn 22 = .ok (.bipush 40, 2) := by decide +kernel
theorem dX12_drawn_24 : decode cX12_drawn 24 = .ok (.invokestatic 128, 3) := by decide +kernel
theorem dX12_drawn_27 : decode cX12_drawn 27 = .ok (.ifCond .eq 17, 3) := by decide +kernel
theorem dX12_drawn_30 : decode cX12_drawn 30 = .ok (.iload_n 3, 1) := by decide +kernel
theorem dX12_drawn_31 : decode cX12_drawn 31 = .ok (.iconst (-1), 1) := by decide +kernel
theorem dX12_drawn_32 : decode cX12_drawn 32 = .ok (.aload_n 0, 1) := by decide +kernel
theorem dX12_drawn_33 : decode cX12_drawn 33 = .ok (.getfield 132, 3) := by decide +kernel
theorem dX12_drawn_36 : decode cX12_drawn 36 = .ok (.iconst 1, 1) := by decide +kernel
theorem dX12_drawn_37 : decode cX12_drawn 37 = .ok (.isub, 1) := by decide +kernel
theorem dX12_drawn_38 : decode cX12_drawn 38 = .ok (.invokestatic 128, 3) := by decide +kernel
theorem dX12_drawn_41 : decode cX12_drawn 41 = .ok (.ifCond .ne 5, 3) := by decide +kernel
theorem dX12_drawn_44 : decode cX12_drawn 44 = .ok (.iconst (-1), 1) := by decide +kernel
theorem dX12_drawn_45 : decode cX12_drawn 45 = .ok (.ireturn, 1) := by decide +kernel
theorem dX12_drawn_46 : decode cX12_drawn 46 = .ok (.iload_n 1, 1) := by decide +kernel
theorem dX12_drawn_47 : decode cX12_drawn 47 = .ok (.istore 4, 2) := by decide +kernel
theorem dX12_drawn_49 : decode cX12_drawn 49 = .ok (.iconst 0, 1) := by decide +kernel
theorem dX12_drawn_50 : decode cX12_drawn 50 = .ok (.istore 5, 2) := by decide +kernel
theorem dX12_drawn_52 : decode cX12_drawn 52 = .ok (.iconst 0, 1) := by decide +kernel
theorem dX12_drawn_53 : decode cX12_drawn 53 = .ok (.istore 6, 2) := by decide +kernel
theorem dX12_drawn_55 : decode cX12_drawn 55 = .ok (.iload 6, 2) := by decide +kernel
theorem dX12_drawn_57 : decode cX12_drawn 57 = .ok (.iload_n 2, 1) := by decide +kernel
theorem dX12_drawn_58 : decode cX12_drawn 58 = .ok (.bipush 100, 2) := by decide +kernel
theorem dX12_drawn_60 : decode cX12_drawn 60 = .ok (.idiv, 1) := by decide +kernel
theorem dX12_drawn_61 : decode cX12_drawn 61 = .ok (.if_icmp .ge 185, 3) := by decide +kernel
theorem dX12_drawn_64 : decode cX12_drawn 64 = .ok (.iconst 0, 1) := by decide +kernel
theorem dX12_drawn_65 : decode cX12_drawn 65 = .ok (.istore 7, 2) := by decide +kernel
theorem dX12_drawn_67 : decode cX12_drawn 67 = .ok (.iload 7, 2) := by decide +kernel
theorem dX12_drawn_69 : decode cX12_drawn 69 = .ok (.aload_n 0, 1) := by decide +kernel
theorem dX12_drawn_70 : decode cX12_drawn 70 = .ok (.getfield 125, 3) := by decide +kernel
theorem dX12_drawn_73 : decode cX12_drawn 73 = .ok (.if_icmp .ge 37, 3) := by decide +kernel
theorem dX12_drawn_76 : decode cX12_drawn 76 = .ok (.aload_n 0, 1) := by decide +kernel
theorem dX12_drawn_77 : decode cX12_drawn 77 = .ok (.getfield 77, 3) := by decide +kernel
theorem dX12_drawn_80 : decode cX12_drawn 80 = .ok (.iload 7, 2) := by decide +kernel
theorem dX12_drawn_82 : decode cX12_drawn 82 = .ok (.aload_n 0, 1) := by decide +kernel
theorem dX12_drawn_83 : decode cX12_drawn 83 = .ok (.getfield 9, 3) := by decide +kernel
theorem dX12_drawn_86 : decode cX12_drawn 86 = .ok (.iload 7, 2) := by decide +kernel
theorem dX12_drawn_88 : decode cX12_drawn 88 = .ok (.iaload, 1) := by decide +kernel
theorem dX12_drawn_89 : decode cX12_drawn 89 = .ok (.iastore, 1) := by decide +kernel
theorem dX12_drawn_90 : decode cX12_drawn 90 = .ok (.aload_n 0, 1) := by decide +kernel
theorem dX12_drawn_91 : decode cX12_drawn 91 = .ok (.getfield 80, 3) := by decide +kernel
theorem dX12_drawn_94 : decode cX12_drawn 94 = .ok (.iload 7, 2) := by decide +kernel
theorem dX12_drawn_96 : decode cX12_drawn 96 = .ok (.aload_n 0, 1) := by decide +kernel
theorem dX12_drawn_97 : decode cX12_drawn 97 = .ok (.getfield 15, 3) := by decide +kernel
theorem dX12_drawn_100 : decode cX12_drawn 100 = .ok (.iload 7, 2) := by decide +kernel
theorem dX12_drawn_102 : decode cX12_drawn 102 = .ok (.iaload, 1) := by decide +kernel
theorem dX12_drawn_103 : decode cX12_drawn 103 = .ok (.iastore, 1) := by decide +kernel
theorem dX12_drawn_104 : decode cX12_drawn 104 = .ok (.iinc 7 1, 3) := by decide +kernel
theorem dX12_drawn_107 : decode cX12_drawn 107 = .ok (.goto (-40), 3) := by decide +kernel
theorem dX12_drawn_110 : decode cX12_drawn 110 = .ok (.iconst 0, 1) := by decide +kernel
theorem dX12_drawn_111 : decode cX12_drawn 111 = .ok (.istore 7, 2) := by decide +kernel
theorem dX12_drawn_113 : decode cX12_drawn 113 = .ok (.iload 7, 2) := by decide +kernel
theorem dX12_drawn_115 : decode cX12_drawn 115 = .ok (.iload_n 2, 1) := by decide +kernel
theorem dX12_drawn_116 : decode cX12_drawn 116 = .ok (.bipush 100, 2) := by decide +kernel
theorem dX12_drawn_118 : decode cX12_drawn 118 = .ok (.irem, 1) := by decide +kernel
theorem dX12_drawn_119 : decode cX12_drawn 119 = .ok (.if_icmp .ge 100, 3) := by decide +kernel
theorem dX12_drawn_122 : decode cX12_drawn 122 = .ok (.iconst 0, 1) := by decide +kernel
theorem dX12_drawn_123 : decode cX12_drawn 123 = .ok (.istore 8, 2) := by decide +kernel
theorem dX12_drawn_125 : decode cX12_drawn 125 = .ok (.iload 8, 2) := by decide +kernel
theorem dX12_drawn_127 : decode cX12_drawn 127 = .ok (.aload_n 0, 1) := by decide +kernel
theorem dX12_drawn_128 : decode cX12_drawn 128 = .ok (.getfield 125, 3) := by decide +kernel
theorem dX12_drawn_131 : decode cX12_drawn 131 = .ok (.if_icmp .ge 82, 3) := by decide +kernel
theorem dX12_drawn_134 : decode cX12_drawn 134 = .ok (.iload 4, 2) := by decide +kernel
theorem dX12_drawn_136 : decode cX12_drawn 136 = .ok (.ldc_w 404, 3) := by decide +kernel
theorem dX12_drawn_139 : decode cX12_drawn 139 = .ok (.imul, 1) := by decide +kernel
theorem dX12_drawn_140 : decode cX12_drawn 140 = .ok (.sipush 12345, 3) := by decide +kernel
theorem dX12_drawn_143 : decode cX12_drawn 143 = .ok (.iadd, 1) := by decide +kernel
theorem dX12_drawn_144 : decode cX12_drawn 144 = .ok (.istore 4, 2) := by decide +kernel
theorem dX12_drawn_146 : decode cX12_drawn 146 = .ok (.aload_n 0, 1) := by decide +kernel
theorem dX12_drawn_147 : decode cX12_drawn 147 = .ok (.aload_n 0, 1) := by decide +kernel
theorem dX12_drawn_148 : decode cX12_drawn 148 = .ok (.getfield 77, 3) := by decide +kernel
theorem dX12_drawn_151 : decode cX12_drawn 151 = .ok (.iload 8, 2) := by decide +kernel
theorem dX12_drawn_153 : decode cX12_drawn 153 = .ok (.iaload, 1) := by decide +kernel
theorem dX12_drawn_154 : decode cX12_drawn 154 = .ok (.putfield 262, 3) := by decide +kernel
theorem dX12_drawn_157 : decode cX12_drawn 157 = .ok (.aload_n 0, 1) := by decide +kernel
theorem dX12_drawn_158 : decode cX12_drawn 158 = .ok (.aload_n 0, 1) := by decide +kernel
theorem dX12_drawn_159 : decode cX12_drawn 159 = .ok (.getfield 80, 3) := by decide +kernel
theorem dX12_drawn_162 : decode cX12_drawn 162 = .ok (.iload 8, 2) := by decide +kernel
theorem dX12_drawn_164 : decode cX12_drawn 164 = .ok (.iaload, 1) := by decide +kernel
theorem dX12_drawn_165 : decode cX12_drawn 165 = .ok (.putfield 265, 3) := by decide +kernel
theorem dX12_drawn_168 : decode cX12_drawn 168 = .ok (.aload_n 0, 1) := by decide +kernel
theorem dX12_drawn_169 : decode cX12_drawn 169 = .ok (.iload 8, 2) := by decide +kernel
theorem dX12_drawn_171 : decode cX12_drawn 171 = .ok (.iload 7, 2) := by decide +kernel
theorem dX12_drawn_173 : decode cX12_drawn 173 = .ok (.iload 4, 2) := by decide +kernel
theorem dX12_drawn_175 : decode cX12_drawn 175 = .ok (.bipush 8, 2) := by decide +kernel
theorem dX12_drawn_177 : decode cX12_drawn 177 = .ok (.iushr, 1) := by decide +kernel
theorem dX12_drawn_178 : decode cX12_drawn 178 = .ok (.iconst 3, 1) := by decide +kernel
theorem dX12_drawn_179 : decode cX12_drawn 179 = .ok (.irem, 1) := by decide +kernel
theorem dX12_drawn_180 : decode cX12_drawn 180 = .ok (.iconst 1, 1) := by decide +kernel
theorem dX12_drawn_181 : decode cX12_drawn 181 = .ok (.isub, 1) := by decide +kernel
theorem dX12_drawn_182 : decode cX12_drawn 182 = .ok (.invokevirtual 287, 3) := by decide +kernel
theorem dX12_drawn_185 : decode cX12_drawn 185 = .ok (.aload_n 0, 1) := by decide +kernel
theorem dX12_drawn_186 : decode cX12_drawn 186 = .ok (.getfield 77, 3) := by decide +kernel
theorem dX12_drawn_189 : decode cX12_drawn 189 = .ok (.iload 8, 2) := by decide +kernel
theorem dX12_drawn_191 : decode cX12_drawn 191 = .ok (.aload_n 0, 1) := by decide +kernel
theorem dX12_drawn_192 : decode cX12_drawn 192 = .ok (.getfield 262, 3) := by decide +kernel
theorem dX12_drawn_195 : decode cX12_drawn 195 = .ok (.iastore, 1) := by decide +kernel
theorem dX12_drawn_196 : decode cX12_drawn 196 = .ok (.aload_n 0, 1) := by decide +kernel
theorem dX12_drawn_197 : decode cX12_drawn 197 = .ok (.getfield 80, 3) := by decide +kernel
theorem dX12_drawn_200 : decode cX12_drawn 200 = .ok (.iload 8, 2) := by decide +kernel
theorem dX12_drawn_202 : decode cX12_drawn 202 = .ok (.aload_n 0, 1) := by decide +kernel
theorem dX12_drawn_203 : decode cX12_drawn 203 = .ok (.getfield 265, 3) := by decide +kernel
theorem dX12_drawn_206 : decode cX12_drawn 206 = .ok (.iastore, 1) := by decide +kernel
theorem dX12_drawn_207 : decode cX12_drawn 207 = .ok (.iinc 8 1, 3) := by decide +kernel
theorem dX12_drawn_210 : decode cX12_drawn 210 = .ok (.goto (-85), 3) := by decide +kernel
theorem dX12_drawn_213 : decode cX12_drawn 213 = .ok (.iinc 7 1, 3) := by decide +kernel
theorem dX12_drawn_216 : decode cX12_drawn 216 = .ok (.goto (-103), 3) := by decide +kernel
theorem dX12_drawn_219 : decode cX12_drawn 219 = .ok (.iload 5, 2) := by decide +kernel
theorem dX12_drawn_221 : decode cX12_drawn 221 = .ok (.iload_n 3, 1) := by decide +kernel
theorem dX12_drawn_222 : decode cX12_drawn 222 = .ok (.ifCond .ge 10, 3) := by decide +kernel
theorem dX12_drawn_225 : decode cX12_drawn 225 = .ok (.aload_n 0, 1) := by decide +kernel
theorem dX12_drawn_226 : decode cX12_drawn 226 = .ok (.invokevirtual 405, 3) := by decide +kernel
theorem dX12_drawn_229 : decode cX12_drawn 229 = .ok (.goto 8, 3) := by decide +kernel
theorem dX12_drawn_232 : decode cX12_drawn 232 = .ok (.aload_n 0, 1) := by decide +kernel
theorem dX12_drawn_233 : decode cX12_drawn 233 = .ok (.iload_n 3, 1) := by decide +kernel
theorem dX12_drawn_234 : decode cX12_drawn 234 = .ok (.invokevirtual 401, 3) := by decide +kernel
theorem dX12_drawn_237 : decode cX12_drawn 237 = .ok (.iadd, 1) := by decide +kernel
theorem dX12_drawn_238 : decode cX12_drawn 238 = .ok (.istore 5, 2) := by decide +kernel
theorem dX12_drawn_240 : decode cX12_drawn 240 = .ok (.iinc 6 1, 3) := by decide +kernel
theorem dX12_drawn_243 : decode cX12_drawn 243 = .ok (.goto (-188), 3) := by decide +kernel
theorem dX12_drawn_246 : decode cX12_drawn 246 = .ok (.iload 5, 2) := by decide +kernel
theorem dX12_drawn_248 : decode cX12_drawn 248 = .ok (.ireturn, 1) := by decide +kernel
theorem dX12_hour_0 : decode cX12_hour 0 = .ok (.iconst 0, 1) := by decide +kernel
theorem dX12_hour_1 : decode cX12_hour 1 = .ok (.istore_n 1, 1) := by decide +kernel
theorem dX12_hour_2 : decode cX12_hour 2 = .ok (.iload_n 1, 1) := by decide +kernel
theorem dX12_hour_3 : decode cX12_hour 3 = .ok (.aload_n 0, 1) := by decide +kernel
theorem dX12_hour_4 : decode cX12_hour 4 = .ok (.getfield 125, 3) := by decide +kernel
theorem dX12_hour_7 : decode cX12_hour 7 = .ok (.if_icmp .ge 118, 3) := by decide +kernel
theorem dX12_hour_10 : decode cX12_hour 10 = .ok (.aload_n 0, 1) := by decide +kernel
theorem dX12_hour_11 : decode cX12_hour 11 = .ok (.iload_n 1, 1) := by decide +kernel
theorem dX12_hour_12 : decode cX12_hour 12 = .ok (.invokevirtual 283, 3) := by decide +kernel
theorem dX12_hour_15 : decode cX12_hour 15 = .ok (.aload_n 0, 1) := by decide +kernel
theorem dX12_hour_16 : decode cX12_hour 16 = .ok (.iconst 0, 1) := by decide +kernel
theorem dX12_hour_17 : decode cX12_hour 17 = .ok (.putfield 271, 3) := by decide +kernel
theorem dX12_hour_20 : decode cX12_hour 20 = .ok (.aload_n 0, 1) := by decide +kernel
theorem dX12_hour_21 : decode cX12_hour 21 = .ok (.iload_n 1, 1) := by decide +kernel
theorem dX12_hour_22 : decode cX12_hour 22 = .ok (.iconst 0, 1) := by decide +kernel
theorem dX12_hour_23 : decode cX12_hour 23 = .ok (.iconst 0, 1) := by decide +kernel
theorem dX12_hour_24 : decode cX12_hour 24 = .ok (.invokevirtual 287, 3) := by decide +kernel
theorem dX12_hour_27 : decode cX12_hour 27 = .ok (.aload_n 0, 1) := by decide +kernel
theorem dX12_hour_28 : decode cX12_hour 28 = .ok (.getfield 9, 3) := by decide +kernel
theorem dX12_hour_31 : decode cX12_hour 31 = .ok (.iload_n 1, 1) := by decide +kernel
theorem dX12_hour_32 : decode cX12_hour 32 = .ok (.aload_n 0, 1) := by decide +kernel
theorem dX12_hour_33 : decode cX12_hour 33 = .ok (.getfield 262, 3) := by decide +kernel
theorem dX12_hour_36 : decode cX12_hour 36 = .ok (.iastore, 1) := by decide +kernel
theorem dX12_hour_37 : decode cX12_hour 37 = .ok (.aload_n 0, 1) := by decide +kernel
theorem dX12_hour_38 : decode cX12_hour 38 = .ok (.getfield 15, 3) := by decide +kernel
theorem dX12_hour_41 : decode cX12_hour 41 = .ok (.iload_n 1, 1) := by decide +kernel
theorem dX12_hour_42 : decode cX12_hour 42 = .ok (.aload_n 0, 1) := by decide +kernel
theorem dX12_hour_43 : decode cX12_hour 43 = .ok (.getfield 265, 3) := by decide +kernel
theorem dX12_hour_46 : decode cX12_hour 46 = .ok (.iastore, 1) := by decide +kernel
theorem dX12_hour_47 : decode cX12_hour 47 = .ok (.aload_n 0, 1) := by decide +kernel
theorem dX12_hour_48 : decode cX12_hour 48 = .ok (.getfield 21, 3) := by decide +kernel
theorem dX12_hour_51 : decode cX12_hour 51 = .ok (.iload_n 1, 1) := by decide +kernel
theorem dX12_hour_52 : decode cX12_hour 52 = .ok (.aload_n 0, 1) := by decide +kernel
theorem dX12_hour_53 : decode cX12_hour 53 = .ok (.getfield 21, 3) := by decide +kernel
theorem dX12_hour_56 : decode cX12_hour 56 = .ok (.iload_n 1, 1) := by decide +kernel
theorem dX12_hour_57 : decode cX12_hour 57 = .ok (.iaload, 1) := by decide +kernel
theorem dX12_hour_58 : decode cX12_hour 58 = .ok (.iconst 1, 1) := by decide +kernel
theorem dX12_hour_59 : decode cX12_hour 59 = .ok (.invokestatic 274, 3) := by decide +kernel
theorem dX12_hour_62 : decode cX12_hour 62 = .ok (.iastore, 1) := by decide +kernel
theorem dX12_hour_63 : decode cX12_hour 63 = .ok (.aload_n 0, 1) := by decide +kernel
theorem dX12_hour_64 : decode cX12_hour 64 = .ok (.getfield 83, 3) := by decide +kernel
theorem dX12_hour_67 : decode cX12_hour 67 = .ok (.iconst 1, 1) := by decide +kernel
theorem dX12_hour_68 : decode cX12_hour 68 = .ok (.dup2, 1) := by decide +kernel
theorem dX12_hour_69 : decode cX12_hour 69 = .ok (.iaload, 1) := by decide +kernel
theorem dX12_hour_70 : decode cX12_hour 70 = .ok (.aload_n 0, 1) := by decide +kernel
theorem dX12_hour_71 : decode cX12_hour 71 = .ok (.getfield 271, 3) := by decide +kernel
theorem dX12_hour_74 : decode cX12_hour 74 = .ok (.iadd, 1) := by decide +kernel
theorem dX12_hour_75 : decode cX12_hour 75 = .ok (.iastore, 1) := by decide +kernel
theorem dX12_hour_76 : decode cX12_hour 76 = .ok (.iconst 0, 1) := by decide +kernel
theorem dX12_hour_77 : decode cX12_hour 77 = .ok (.istore_n 2, 1) := by decide +kernel
theorem dX12_hour_78 : decode cX12_hour 78 = .ok (.iload_n 2, 1) := by decide +kernel
theorem dX12_hour_79 : decode cX12_hour 79 = .ok (.aload_n 0, 1) := by decide +kernel
theorem dX12_hour_80 : decode cX12_hour 80 = .ok (.getfield 132, 3) := by decide +kernel
theorem dX12_hour_83 : decode cX12_hour 83 = .ok (.if_icmp .ge 36, 3) := by decide +kernel
theorem dX12_hour_86 : decode cX12_hour 86 = .ok (.aload_n 0, 1) := by decide +kernel
theorem dX12_hour_87 : decode cX12_hour 87 = .ok (.aload_n 0, 1) := by decide +kernel
theorem dX12_hour_88 : decode cX12_hour 88 = .ok (.getfield 262, 3) := by decide +kernel
theorem dX12_hour_91 : decode cX12_hour 91 = .ok (.aload_n 0, 1) := by decide +kernel
theorem dX12_hour_92 : decode cX12_hour 92 = .ok (.getfield 24, 3) := by decide +kernel
theorem dX12_hour_95 : decode cX12_hour 95 = .ok (.iload_n 2, 1) := by decide +kernel
theorem dX12_hour_96 : decode cX12_hour 96 = .ok (.iaload, 1) := by decide +kernel
theorem dX12_hour_97 : decode cX12_hour 97 = .ok (.invokevirtual 305, 3) := by decide +kernel
theorem dX12_hour_100 : decode cX12_hour 100 = .ok (.ifCond .eq 13, 3) := by decide +kernel
theorem dX12_hour_103 : decode cX12_hour 103 = .ok (.aload_n 0, 1) := by decide +kernel
theorem dX12_hour_104 : decode cX12_hour 104 = .ok (.getfield 83, 3) := by decide +kernel
theorem dX12_hour_107 : decode cX12_hour 107 = .ok (.iconst 4, 1) := by decide +kernel
theorem dX12_hour_108 : decode cX12_hour 108 = .ok (.dup2, 1) := by decide +kernel
theorem dX12_hour_109 : decode cX12_hour 109 = .ok (.iaload, 1) := by decide +kernel
theorem dX12_hour_110 : decode cX12_hour 110 = .ok (.iconst 1, 1) := by decide +kernel
theorem dX12_hour_111 : decode cX12_hour 111 = .ok (.iadd, 1) := by decide +kernel
theorem dX12_hour_112 : decode cX12_hour 112 = .ok (.iastore, 1) := by decide +kernel
theorem dX12_hour_113 : decode cX12_hour 113 = .ok (.iinc 2 1, 3) := by decide +kernel
theorem dX12_hour_116 : decode cX12_hour 116 = .ok (.goto (-38), 3) := by decide +kernel
theorem dX12_hour_119 : decode cX12_hour 119 = .ok (.iinc 1 1, 3) := by decide +kernel
theorem dX12_hour_122 : decode cX12_hour 122 = .ok (.goto (-120), 3) := by decide +kernel
theorem dX12_hour_125 : decode cX12_hour 125 = .ok (.aload_n 0, 1) := by decide +kernel
theorem dX12_hour_126 : decode cX12_hour 126 = .ok (.getfield 30, 3) := by decide +kernel
theorem dX12_hour_129 : decode cX12_hour 129 = .ok (.iconst 2, 1) := by decide +kernel
theorem dX12_hour_130 : decode cX12_hour 130 = .ok (.aload_n 0, 1) := by decide +kernel
theorem dX12_hour_131 : decode cX12_hour 131 = .ok (.iconst 1, 1) := by decide +kernel
theorem dX12_hour_132 : decode cX12_hour 132 = .ok (.invokevirtual 277, 3) := by decide +kernel
theorem dX12_hour_135 : decode cX12_hour 135 = .ok (.iastore, 1) := by decide +kernel
theorem dX12_hour_136 : decode cX12_hour 136 = .ok (.aload_n 0, 1) := by decide +kernel
theorem dX12_hour_137 : decode cX12_hour 137 = .ok (.getfield 83, 3) := by decide +kernel
theorem dX12_hour_140 : decode cX12_hour 140 = .ok (.iconst 0, 1) := by decide +kernel
theorem dX12_hour_141 : decode cX12_hour 141 = .ok (.dup2, 1) := by decide +kernel
theorem dX12_hour_142 : decode cX12_hour 142 = .ok (.iaload, 1) := by decide +kernel
theorem dX12_hour_143 : decode cX12_hour 143 = .ok (.iconst 1, 1) := by decide +kernel
theorem dX12_hour_144 : decode cX12_hour 144 = .ok (.iadd, 1) := by decide +kernel
theorem dX12_hour_145 : decode cX12_hour 145 = .ok (.iastore, 1) := by decide +kernel
theorem dX12_hour_146 : decode cX12_hour 146 = .ok (.aload_n 0, 1) := by decide +kernel
theorem dX12_hour_147 : decode cX12_hour 147 = .ok (.getfield 30, 3) := by decide +kernel
theorem dX12_hour_150 : decode cX12_hour 150 = .ok (.iconst 2, 1) := by decide +kernel
theorem dX12_hour_151 : decode cX12_hour 151 = .ok (.iaload, 1) := by decide +kernel
theorem dX12_hour_152 : decode cX12_hour 152 = .ok (.ireturn, 1) := by decide +kernel
theorem dX12_rein_0 : decode cX12_rein 0 = .ok (.aload_n 0, 1) := by decide +kernel
theorem dX12_rein_1 : decode cX12_rein 1 = .ok (.iload_n 1, 1) := by decide +kernel
theorem dX12_rein_2 : decode cX12_rein 2 = .ok (.invokevirtual 135, 3) := by decide +kernel
theorem dX12_rein_5 : decode cX12_rein 5 = .ok (.ifCond .eq 12, 3) := by decide +kernel
theorem dX12_rein_8 : decode cX12_rein 8 = .ok (.iload_n 2, 1) := by decide +kernel
theorem dX12_rein_9 : decode cX12_rein 9 = .ok (.iconst 0, 1) := by decide +kernel
theorem dX12_rein_10 : decode cX12_rein 10 = .ok (.iconst 1, 1) := by decide +kernel
theorem dX12_rein_11 : decode cX12_rein 11 = .ok (.invokestatic 128, 3) := by decide +kernel
theorem dX12_rein_14 : decode cX12_rein 14 = .ok (.ifCond .ne 5, 3) := by decide +kernel
theorem dX12_rein_17 : decode cX12_rein 17 = .ok (.iconst (-1), 1) := by decide +kernel
theorem dX12_rein_18 : decode cX12_rein 18 = .ok (.ireturn, 1) := by decide +kernel
theorem dX12_rein_19 : decode cX12_rein 19 = .ok (.aload_n 0, 1) := by decide +kernel
theorem dX12_rein_20 : decode cX12_rein 20 = .ok (.getfield 15, 3) := by decide +kernel
theorem dX12_rein_23 : decode cX12_rein 23 = .ok (.iload_n 1, 1) := by decide +kernel
theorem dX12_rein_24 : decode cX12_rein 24 = .ok (.aload_n 0, 1) := by decide +kernel
theorem dX12_rein_25 : decode cX12_rein 25 = .ok (.getfield 15, 3) := by decide +kernel
theorem dX12_rein_28 : decode cX12_rein 28 = .ok (.iload_n 1, 1) := by decide +kernel
theorem dX12_rein_29 : decode cX12_rein 29 = .ok (.iaload, 1) := by decide +kernel
theorem dX12_rein_30 : decode cX12_rein 30 = .ok (.iload_n 2, 1) := by decide +kernel
theorem dX12_rein_31 : decode cX12_rein 31 = .ok (.ifCond .ne 8, 3) := by decide +kernel
theorem dX12_rein_34 : decode cX12_rein 34 = .ok (.bipush 7, 2) := by decide +kernel
theorem dX12_rein_36 : decode cX12_rein 36 = .ok (.goto 4, 3) := by decide +kernel
theorem dX12_rein_39 : decode cX12_rein 39 = .ok (.iconst 1, 1) := by decide +kernel
theorem dX12_rein_40 : decode cX12_rein 40 = .ok (.iadd, 1) := by decide +kernel
theorem dX12_rein_41 : decode cX12_rein 41 = .ok (.bipush 8, 2) := by decide +kernel
theorem dX12_rein_43 : decode cX12_rein 43 = .ok (.irem, 1) := by decide +kernel
theorem dX12_rein_44 : decode cX12_rein 44 = .ok (.iastore, 1) := by decide +kernel
theorem dX12_rein_45 : decode cX12_rein 45 = .ok (.aload_n 0, 1) := by decide +kernel
theorem dX12_rein_46 : decode cX12_rein 46 = .ok (.getfield 83, 3) := by decide +kernel
theorem dX12_rein_49 : decode cX12_rein 49 = .ok (.iconst 2, 1) := by decide +kernel
theorem dX12_rein_50 : decode cX12_rein 50 = .ok (.dup2, 1) := by decide +kernel
theorem dX12_rein_51 : decode cX12_rein 51 = .ok (.iaload, 1) := by decide +kernel
theorem dX12_rein_52 : decode cX12_rein 52 = .ok (.iconst 1, 1) := by decide +kernel
theorem dX12_rein_53 : decode cX12_rein 53 = .ok (.iadd, 1) := by decide +kernel
theorem dX12_rein_54 : decode cX12_rein 54 = .ok (.iastore, 1) := by decide +kernel
theorem dX12_rein_55 : decode cX12_rein 55 = .ok (.aload_n 0, 1) := by decide +kernel
theorem dX12_rein_56 : decode cX12_rein 56 = .ok (.getfield 15, 3) := by decide +kernel
theorem dX12_rein_59 : decode cX12_rein 59 = .ok (.iload_n 1, 1) := by decide +kernel
theorem dX12_rein_60 : decode cX12_rein 60 = .ok (.iaload, 1) := by decide +kernel
theorem dX12_rein_61 : decode cX12_rein 61 = .ok (.ireturn, 1) := by decide +kernel
theorem dX12_shoe_0 : decode cX12_shoe 0 = .ok (.aload_n 0, 1) := by decide +kernel
theorem dX12_shoe_1 : decode cX12_shoe 1 = .ok (.iload_n 1, 1) := by decide +kernel
theorem dX12_shoe_2 : decode cX12_shoe 2 = .ok (.invokevirtual 135, 3) := by decide +kernel
theorem dX12_shoe_5 : decode cX12_shoe 5 = .ok (.ifCond .ne 5, 3) := by decide +kernel
theorem dX12_shoe_8 : decode cX12_shoe 8 = .ok (.iconst (-1), 1) := by decide +kernel
theorem dX12_shoe_9 : decode cX12_shoe 9 = .ok (.ireturn, 1) := by decide +kernel
theorem dX12_shoe_10 : decode cX12_shoe 10 = .ok (.aload_n 0, 1) := by decide +kernel
theorem dX12_shoe_11 : decode cX12_shoe 11 = .ok (.getfield 21, 3) := by decide +kernel
theorem dX12_shoe_14 : decode cX12_shoe 14 = .ok (.iload_n 1, 1) := by decide +kernel
theorem dX12_shoe_15 : decode cX12_shoe 15 = .ok (.iaload, 1) := by decide +kernel
theorem dX12_shoe_16 : decode cX12_shoe 16 = .ok (.istore_n 2, 1) := by decide +kernel
theorem dX12_shoe_17 : decode cX12_shoe 17 = .ok (.aload_n 0, 1) := by decide +kernel
theorem dX12_shoe_18 : decode cX12_shoe 18 = .ok (.getfield 21, 3) := by decide +kernel
theorem dX12_shoe_21 : decode cX12_shoe 21 = .ok (.iload_n 1, 1) := by decide +kernel
theorem dX12_shoe_22 : decode cX12_shoe 22 = .ok (.bipush 9, 2) := by decide +kernel
theorem dX12_shoe_24 : decode cX12_shoe 24 = .ok (.iastore, 1) := by decide +kernel
theorem dX12_shoe_25 : decode cX12_shoe 25 = .ok (.aload_n 0, 1) := by decide +kernel
theorem dX12_shoe_26 : decode cX12_shoe 26 = .ok (.getfield 83, 3) := by decide +kernel
theorem dX12_shoe_29 : decode cX12_shoe 29 = .ok (.iconst 3, 1) := by decide +kernel
theorem dX12_shoe_30 : decode cX12_shoe 30 = .ok (.dup2, 1) := by decide +kernel
theorem dX12_shoe_31 : decode cX12_shoe 31 = .ok (.iaload, 1) := by decide +kernel
theorem dX12_shoe_32 : decode cX12_shoe 32 = .ok (.iconst 1, 1) := by decide +kernel
theorem dX12_shoe_33 : decode cX12_shoe 33 = .ok (.iadd, 1) := by decide +kernel
theorem dX12_shoe_34 : decode cX12_shoe 34 = .ok (.iastore, 1) := by decide +kernel
theorem dX12_shoe_35 : decode cX12_shoe 35 = .ok (.iload_n 2, 1) := by decide +kernel
theorem dX12_shoe_36 : decode cX12_shoe 36 = .ok (.ireturn, 1) := by decide +kernel
theorem dX12_buys_0 : decode cX12_buys 0 = .ok (.aload_n 0, 1) := by decide +kernel
theorem dX12_buys_1 : decode cX12_buys 1 = .ok (.iload_n 1, 1) := by decide +kernel
theorem dX12_buys_2 : decode cX12_buys 2 = .ok (.invokevirtual 139, 3) := by decide +kernel
theorem dX12_buys_5 : decode cX12_buys 5 = .ok (.ifCond .ne 5, 3) := by decide +kernel
theorem dX12_buys_8 : decode cX12_buys 8 = .ok (.iconst (-1), 1) := by decide +kernel
theorem dX12_buys_9 : decode cX12_buys 9 = .ok (.ireturn, 1) := by decide +kernel
theorem dX12_buys_10 : decode cX12_buys 10 = .ok (.aload_n 0, 1) := by decide +kernel
theorem dX12_buys_11 : decode cX12_buys 11 = .ok (.getfield 27, 3) := by decide +kernel
theorem dX12_buys_14 : decode cX12_buys 14 = .ok (.iload_n 1, 1) := by decide +kernel
theorem dX12_buys_15 : decode cX12_buys 15 = .ok (.iaload, 1) := by decide +kernel
theorem dX12_buys_16 : decode cX12_buys 16 = .ok (.istore_n 2, 1) := by decide +kernel
theorem dX12_buys_17 : decode cX12_buys 17 = .ok (.aload_n 0, 1) := by decide +kernel
theorem dX12_buys_18 : decode cX12_buys 18 = .ok (.getfield 27, 3) := by decide +kernel
theorem dX12_buys_21 : decode cX12_buys 21 = .ok (.iload_n 1, 1) := by decide +kernel
theorem dX12_buys_22 : decode cX12_buys 22 = .ok (.bipush 9, 2) := by decide +kernel
theorem dX12_buys_24 : decode cX12_buys 24 = .ok (.iastore, 1) := by decide +kernel
theorem dX12_buys_25 : decode cX12_buys 25 = .ok (.iload_n 2, 1) := by decide +kernel
theorem dX12_buys_26 : decode cX12_buys 26 = .ok (.ireturn, 1) := by decide +kernel
theorem dX12_led_0 : decode cX12_led 0 = .ok (.iload_n 1, 1) := by decide +kernel
theorem dX12_led_1 : decode cX12_led 1 = .ok (.iconst 0, 1) := by decide +kernel
theorem dX12_led_2 : decode cX12_led 2 = .ok (.iconst 4, 1) := by decide +kernel
theorem dX12_led_3 : decode cX12_led 3 = .ok (.invokestatic 128, 3) := by decide +kernel
theorem dX12_led_6 : decode cX12_led 6 = .ok (.ifCond .eq 12, 3) := by decide +kernel
theorem dX12_led_9 : decode cX12_led 9 = .ok (.aload_n 0, 1) := by decide +kernel
theorem dX12_led_10 : decode cX12_led 10 = .ok (.getfield 83, 3) := by decide +kernel
theorem dX12_led_13 : decode cX12_led 13 = .ok (.iload_n 1, 1) := by decide +kernel
theorem dX12_led_14 : decode cX12_led 14 = .ok (.iaload, 1) := by decide +kernel
theorem dX12_led_15 : decode cX12_led 15 = .ok (.goto 4, 3) := by decide +kernel
theorem dX12_led_18 : decode cX12_led 18 = .ok (.iconst (-1), 1) := by decide +kernel
theorem dX12_led_19 : decode cX12_led 19 = .ok (.ireturn, 1) := by decide +kernel
theorem dX12_image_0 : decode cX12_image 0 = .ok (.aload_n 0, 1) := by decide +kernel
theorem dX12_image_1 : decode cX12_image 1 = .ok (.iconst 1, 1) := by decide +kernel
theorem dX12_image_2 : decode cX12_image 2 = .ok (.putfield 408, 3) := by decide +kernel
theorem dX12_image_5 : decode cX12_image 5 = .ok (.aload_n 0, 1) := by decide +kernel
theorem dX12_image_6 : decode cX12_image 6 = .ok (.aload_n 0, 1) := by decide +kernel
theorem dX12_image_7 : decode cX12_image 7 = .ok (.getfield 125, 3) := by decide +kernel
theorem dX12_image_10 : decode cX12_image 10 = .ok (.putfield 411, 3) := by decide +kernel
theorem dX12_image_13 : decode cX12_image 13 = .ok (.aload_n 0, 1) := by decide +kernel
theorem dX12_image_14 : decode cX12_image 14 = .ok (.aload_n 0, 1) := by decide +kernel
theorem dX12_image_15 : decode cX12_image 15 = .ok (.getfield 30, 3) := by decide +kernel
theorem dX12_image_18 : decode cX12_image 18 = .ok (.iconst 2, 1) := by decide +kernel
theorem dX12_image_19 : decode cX12_image 19 = .ok (.iaload, 1) := by decide +kernel
theorem dX12_image_20 : decode cX12_image 20 = .ok (.putfield 414, 3) := by decide +kernel
theorem dX12_image_23 : decode cX12_image 23 = .ok (.iconst 0, 1) := by decide +kernel
theorem dX12_image_24 : decode cX12_image 24 = .ok (.istore_n 1, 1) := by decide +kernel
theorem dX12_image_25 : decode cX12_image 25 = .ok (.iload_n 1, 1) := by decide +kernel
theorem dX12_image_26 : decode cX12_image 26 = .ok (.aload_n 0, 1) := by decide +kernel
theorem dX12_image_27 : decode cX12_image 27 = .ok (.getfield 125, 3) := by decide +kernel
theorem dX12_image_30 : decode cX12_image 30 = .ok (.if_icmp .ge 45, 3) := by decide +kernel
theorem dX12_image_33 : decode cX12_image 33 = .ok (.aload_n 0, 1) := by decide +kernel
theorem dX12_image_34 : decode cX12_image 34 = .ok (.getfield 86, 3) := by decide +kernel
theorem dX12_image_37 : decode cX12_image 37 = .ok (.iload_n 1, 1) := by decide +kernel
theorem dX12_image_38 : decode cX12_image 38 = .ok (.aload_n 0, 1) := by decide +kernel
theorem dX12_image_39 : decode cX12_image 39 = .ok (.getfield 9, 3) := by decide +kernel
theorem dX12_image_42 : decode cX12_image 42 = .ok (.iload_n 1, 1) := by decide +kernel
theorem dX12_image_43 : decode cX12_image 43 = .ok (.iaload, 1) := by decide +kernel
theorem dX12_image_44 : decode cX12_image 44 = .ok (.iastore, 1) := by decide +kernel
theorem dX12_image_45 : decode cX12_image 45 = .ok (.aload_n 0, 1) := by decide +kernel
theorem dX12_image_46 : decode cX12_image 46 = .ok (.getfield 89, 3) := by decide +kernel
theorem dX12_image_49 : decode cX12_image 49 = .ok (.iload_n 1, 1) := by decide +kernel
theorem dX12_image_50 : decode cX12_image 50 = .ok (.aload_n 0, 1) := by decide +kernel
theorem dX12_image_51 : decode cX12_image 51 = .ok (.getfield 15, 3) := by decide +kernel
theorem dX12_image_54 : decode cX12_image 54 = .ok (.iload_n 1, 1) := by decide +kernel
theorem dX12_image_55 : decode cX12_image 55 = .ok (.iaload, 1) := by decide +kernel
theorem dX12_image_56 : decode cX12_image 56 = .ok (.iastore, 1) := by decide +kernel
theorem dX12_image_57 : decode cX12_image 57 = .ok (.aload_n 0, 1) := by decide +kernel
theorem dX12_image_58 : decode cX12_image 58 = .ok (.getfield 92, 3) := by decide +kernel
theorem dX12_image_61 : decode cX12_image 61 = .ok (.iload_n 1, 1) := by decide +kernel
theorem dX12_image_62 : decode cX12_image 62 = .ok (.aload_n 0, 1) := by decide +kernel
theorem dX12_image_63 : decode cX12_image 63 = .ok (.getfield 21, 3) := by decide +kernel
theorem dX12_image_66 : decode cX12_image 66 = .ok (.iload_n 1, 1) := by decide +kernel
theorem dX12_image_67 : decode cX12_image 67 = .ok (.iaload, 1) := by decide +kernel
theorem dX12_image_68 : decode cX12_image 68 = .ok (.iastore, 1) := by decide +kernel
theorem dX12_image_69 : decode cX12_image 69 = .ok (.iinc 1 1, 3) := by decide +kernel
theorem dX12_image_72 : decode cX12_image 72 = .ok (.goto (-47), 3) := by decide +kernel
theorem dX12_image_75 : decode cX12_image 75 = .ok (.iconst 0, 1) := by decide +kernel
theorem dX12_image_76 : decode cX12_image 76 = .ok (.istore_n 1, 1) := by decide +kernel
theorem dX12_image_77 : decode cX12_image 77 = .ok (.iload_n 1, 1) := by decide +kernel
theorem dX12_image_78 : decode cX12_image 78 = .ok (.iconst 5, 1) := by decide +kernel
theorem dX12_image_79 : decode cX12_image 79 = .ok (.if_icmp .ge 21, 3) := by decide +kernel
theorem dX12_image_82 : decode cX12_image 82 = .ok (.aload_n 0, 1) := by decide +kernel
theorem dX12_image_83 : decode cX12_image 83 = .ok (.getfield 95, 3) := by decide +kernel
theorem dX12_image_86 : decode cX12_image 86 = .ok (.iload_n 1, 1) := by decide +kernel
theorem dX12_image_87 : decode cX12_image 87 = .ok (.aload_n 0, 1) := by decide +kernel
theorem dX12_image_88 : decode cX12_image 88 = .ok (.getfield 83, 3) := by decide +kernel
theorem dX12_image_91 : decode cX12_image 91 = .ok (.iload_n 1, 1) := by decide +kernel
theorem dX12_image_92 : decode cX12_image 92 = .ok (.iaload, 1) := by decide +kernel
theorem dX12_image_93 : decode cX12_image 93 = .ok (.iastore, 1) := by decide +kernel
theorem dX12_image_94 : decode cX12_image 94 = .ok (.iinc 1 1, 3) := by decide +kernel
theorem dX12_image_97 : decode cX12_image 97 = .ok (.goto (-20), 3) := by decide +kernel
theorem dX12_image_100 : decode cX12_image 100 = .ok (.aload_n 0, 1) := by decide +kernel
theorem dX12_image_101 : decode cX12_image 101 = .ok (.getfield 83, 3) := by decide +kernel
theorem dX12_image_104 : decode cX12_image 104 = .ok (.iconst 0, 1) := by decide +kernel
theorem dX12_image_105 : decode cX12_image 105 = .ok (.iaload, 1) := by decide +kernel
theorem dX12_image_106 : decode cX12_image 106 = .ok (.ireturn, 1) := by decide +kernel
theorem dX12_back_0 : decode cX12_back 0 = .ok (.aload_n 0, 1) := by decide +kernel
theorem dX12_back_1 : decode cX12_back 1 = .ok (.getfield 408, 3) := by decide +kernel
theorem dX12_back_4 : decode cX12_back 4 = .ok (.ifCond .ne 6, 3) := by decide +kernel
theorem dX12_back_7 : decode cX12_back 7 = .ok (.bipush (-5), 2) := by decide +kernel
theorem dX12_back_9 : decode cX12_back 9 = .ok (.ireturn, 1) := by decide +kernel
theorem dX12_back_10 : decode cX12_back 10 = .ok (.aload_n 0, 1) := by decide +kernel
theorem dX12_back_11 : decode cX12_back 11 = .ok (.getfield 30, 3) := by decide +kernel
theorem dX12_back_14 : decode cX12_back 14 = .ok (.iconst 2, 1) := by decide +kernel
theorem dX12_back_15 : decode cX12_back 15 = .ok (.aload_n 0, 1) := by decide +kernel
theorem dX12_back_16 : decode cX12_back 16 = .ok (.getfield 414, 3) := by decide +kernel
theorem dX12_back_19 : decode cX12_back 19 = .ok (.iastore, 1) := by decide +kernel
theorem dX12_back_20 : decode cX12_back 20 = .ok (.iconst 0, 1) := by decide +kernel
theorem dX12_back_21 : decode cX12_back 21 = .ok (.istore_n 1, 1) := by decide +kernel
theorem dX12_back_22 : decode cX12_back 22 = .ok (.iload_n 1, 1) := by decide +kernel
theorem dX12_back_23 : decode cX12_back 23 = .ok (.aload_n 0, 1) := by decide +kernel
theorem dX12_back_24 : decode cX12_back 24 = .ok (.getfield 411, 3) := by decide +kernel
theorem dX12_back_27 : decode cX12_back 27 = .ok (.if_icmp .ge 45, 3) := by decide +kernel
theorem dX12_back_30 : decode cX12_back 30 = .ok (.aload_n 0, 1) := by decide +kernel
theorem dX12_back_31 : decode cX12_back 31 = .ok (.getfield 9, 3) := by decide +kernel
theorem dX12_back_34 : decode cX12_back 34 = .ok (.iload_n 1, 1) := by decide +kernel
theorem dX12_back_35 : decode cX12_back 35 = .ok (.aload_n 0, 1) := by decide +kernel
theorem dX12_back_36 : decode cX12_back 36 = .ok (.getfield 86, 3) := by decide +kernel
theorem dX12_back_39 : decode cX12_back 39 = .ok (.iload_n 1, 1) := by decide +kernel
theorem dX12_back_40 : decode cX12_back 40 = .ok (.iaload, 1) := by decide +kernel
theorem dX12_back_41 : decode cX12_back 41 = .ok (.iastore, 1) := by decide +kernel
theorem dX12_back_42 : decode cX12_back 42 = .ok (.aload_n 0, 1) := by decide +kernel
theorem dX12_back_43 : decode cX12_back 43 = .ok (.getfield 15, 3) := by decide +kernel
theorem dX12_back_46 : decode cX12_back 46 = .ok (.iload_n 1, 1) := by decide +kernel
theorem dX12_back_47 : decode cX12_back 47 = .ok (.aload_n 0, 1) := by decide +kernel
theorem dX12_back_48 : decode cX12_back 48 = .ok (.getfield 89, 3) := by decide +kernel
theorem dX12_back_51 : decode cX12_back 51 = .ok (.iload_n 1, 1) := by decide +kernel
theorem dX12_back_52 : decode cX12_back 52 = .ok (.iaload, 1) := by decide +kernel
theorem dX12_back_53 : decode cX12_back 53 = .ok (.iastore, 1) := by decide +kernel
theorem dX12_back_54 : decode cX12_back 54 = .ok (.aload_n 0, 1) := by decide +kernel
theorem dX12_back_55 : decode cX12_back 55 = .ok (.getfield 21, 3) := by decide +kernel
theorem dX12_back_58 : decode cX12_back 58 = .ok (.iload_n 1, 1) := by decide +kernel
theorem dX12_back_59 : decode cX12_back 59 = .ok (.aload_n 0, 1) := by decide +kernel
theorem dX12_back_60 : decode cX12_back 60 = .ok (.getfield 92, 3) := by decide +kernel
theorem dX12_back_63 : decode cX12_back 63 = .ok (.iload_n 1, 1) := by decide +kernel
theorem dX12_back_64 : decode cX12_back 64 = .ok (.iaload, 1) := by decide +kernel
theorem dX12_back_65 : decode cX12_back 65 = .ok (.iastore, 1) := by decide +kernel
theorem dX12_back_66 : decode cX12_back 66 = .ok (.iinc 1 1, 3) := by decide +kernel
theorem dX12_back_69 : decode cX12_back 69 = .ok (.goto (-47), 3) := by decide +kernel
theorem dX12_back_72 : decode cX12_back 72 = .ok (.iconst 0, 1) := by decide +kernel
theorem dX12_back_73 : decode cX12_back 73 = .ok (.istore_n 1, 1) := by decide +kernel
theorem dX12_back_74 : decode cX12_back 74 = .ok (.iload_n 1, 1) := by decide +kernel
theorem dX12_back_75 : decode cX12_back 75 = .ok (.iconst 5, 1) := by decide +kernel
theorem dX12_back_76 : decode cX12_back 76 = .ok (.if_icmp .ge 21, 3) := by decide +kernel
theorem dX12_back_79 : decode cX12_back 79 = .ok (.aload_n 0, 1) := by decide +kernel
theorem dX12_back_80 : decode cX12_back 80 = .ok (.getfield 83, 3) := by decide +kernel
theorem dX12_back_83 : decode cX12_back 83 = .ok (.iload_n 1, 1) := by decide +kernel
theorem dX12_back_84 : decode cX12_back 84 = .ok (.aload_n 0, 1) := by decide +kernel
theorem dX12_back_85 : decode cX12_back 85 = .ok (.getfield 95, 3) := by decide +kernel
theorem dX12_back_88 : decode cX12_back 88 = .ok (.iload_n 1, 1) := by decide +kernel
theorem dX12_back_89 : decode cX12_back 89 = .ok (.iaload, 1) := by decide +kernel
theorem dX12_back_90 : decode cX12_back 90 = .ok (.iastore, 1) := by decide +kernel
theorem dX12_back_91 : decode cX12_back 91 = .ok (.iinc 1 1, 3) := by decide +kernel
theorem dX12_back_94 : decode cX12_back 94 = .ok (.goto (-20), 3) := by decide +kernel
theorem dX12_back_97 : decode cX12_back 97 = .ok (.aload_n 0, 1) := by decide +kernel
theorem dX12_back_98 : decode cX12_back 98 = .ok (.getfield 83, 3) := by decide +kernel
theorem dX12_back_101 : decode cX12_back 101 = .ok (.iconst 0, 1) := by decide +kernel
theorem dX12_back_102 : decode cX12_back 102 = .ok (.iaload, 1) := by decide +kernel
theorem dX12_back_103 : decode cX12_back 103 = .ok (.ireturn, 1) := by decide +kernel
theorem dX12_isBody_0 : decode cX12_isBody 0 = .ok (.iload_n 1, 1) := by decide +kernel
theorem dX12_isBody_1 : decode cX12_isBody 1 = .ok (.iconst 0, 1) := by decide +kernel
theorem dX12_isBody_2 : decode cX12_isBody 2 = .ok (.aload_n 0, 1) := by decide +kernel
theorem dX12_isBody_3 : decode cX12_isBody 3 = .ok (.getfield 417, 3) := by decide +kernel
theorem dX12_isBody_6 : decode cX12_isBody 6 = .ok (.iconst 1, 1) := by decide +kernel
theorem dX12_isBody_7 : decode cX12_isBody 7 = .ok (.isub, 1) := by decide +kernel
theorem dX12_isBody_8 : decode cX12_isBody 8 = .ok (.invokestatic 128, 3) := by decide +kernel
theorem dX12_isBody_11 : decode cX12_isBody 11 = .ok (.ireturn, 1) := by decide +kernel
theorem dX12_ran_0 : decode cX12_ran 0 = .ok (.aload_n 0, 1) := by decide +kernel
theorem dX12_ran_1 : decode cX12_ran 1 = .ok (.getfield 420, 3) := by decide +kernel
theorem dX12_ran_4 : decode cX12_ran 4 = .ok (.bipush 24, 2) := by decide +kernel
theorem dX12_ran_6 : decode cX12_ran 6 = .ok (.if_icmp .ge 13, 3) := by decide +kernel
theorem dX12_ran_9 : decode cX12_ran 9 = .ok (.aload_n 0, 1) := by decide +kernel
theorem dX12_ran_10 : decode cX12_ran 10 = .ok (.getfield 101, 3) := by decide +kernel
theorem dX12_ran_13 : decode cX12_ran 13 = .ok (.aload_n 0, 1) := by decide +kernel
theorem dX12_ran_14 : decode cX12_ran 14 = .ok (.getfield 420, 3) := by decide +kernel
theorem dX12_ran_17 : decode cX12_ran 17 = .ok (.iload_n 1, 1) := by decide +kernel
theorem dX12_ran_18 : decode cX12_ran 18 = .ok (.iastore, 1) := by decide +kernel
theorem dX12_ran_19 : decode cX12_ran 19 = .ok (.aload_n 0, 1) := by decide +kernel
theorem dX12_ran_20 : decode cX12_ran 20 = .ok (.dup, 1) := by decide +kernel
theorem dX12_ran_21 : decode cX12_ran 21 = .ok (.getfield 420, 3) := by decide +kernel
theorem dX12_ran_24 : decode cX12_ran 24 = .ok (.iconst 1, 1) := by decide +kernel
theorem dX12_ran_25 : decode cX12_ran 25 = .ok (.iadd, 1) := by decide +kernel
theorem dX12_ran_26 : decode cX12_ran 26 = .ok (.putfield 420, 3) := by decide +kernel
theorem dX12_ran_29 : decode cX12_ran 29 = .ok (.return_, 1) := by decide +kernel
theorem dX12_trace_0 : decode cX12_trace 0 = .ok (.iload_n 1, 1) := by decide +kernel
theorem dX12_trace_1 : decode cX12_trace 1 = .ok (.ifCond .lt 26, 3) := by decide +kernel
theorem dX12_trace_4 : decode cX12_trace 4 = .ok (.iload_n 1, 1) := by decide +kernel
theorem dX12_trace_5 : decode cX12_trace 5 = .ok (.aload_n 0, 1) := by decide +kernel
theorem dX12_trace_6 : decode cX12_trace 6 = .ok (.getfield 420, 3) := by decide +kernel
theorem dX12_trace_9 : decode cX12_trace 9 = .ok (.if_icmp .ge 18, 3) := by decide +kernel
theorem dX12_trace_12 : decode cX12_trace 12 = .ok (.iload_n 1, 1) := by decide +kernel
theorem dX12_trace_13 : decode cX12_trace 13 = .ok (.bipush 24, 2) := by decide +kernel
theorem dX12_trace_15 : decode cX12_trace 15 = .ok (.if_icmp .ge 12, 3) := by decide +kernel
theorem dX12_trace_18 : decode cX12_trace 18 = .ok (.aload_n 0, 1) := by decide +kernel
theorem dX12_trace_19 : decode cX12_trace 19 = .ok (.getfield 101, 3) := by decide +kernel
theorem dX12_trace_22 : decode cX12_trace 22 = .ok (.iload_n 1, 1) := by decide +kernel
theorem dX12_trace_23 : decode cX12_trace 23 = .ok (.iaload, 1) := by decide +kernel
theorem dX12_trace_24 : decode cX12_trace 24 = .ok (.goto 4, 3) := by decide +kernel
theorem dX12_trace_27 : decode cX12_trace 27 = .ok (.iconst (-1), 1) := by decide +kernel
theorem dX12_trace_28 : decode cX12_trace 28 = .ok (.ireturn, 1) := by decide +kernel
theorem dX12_body_0 : decode cX12_body 0 = .ok (.iload_n 1, 1) := by decide +kernel
theorem dX12_body_1 : decode cX12_body 1 = .ok (.iconst 0, 1) := by decide +kernel
theorem dX12_body_2 : decode cX12_body 2 = .ok (.bipush 7, 2) := by decide +kernel
theorem dX12_body_4 : decode cX12_body 4 = .ok (.invokestatic 128, 3) := by decide +kernel
theorem dX12_body_7 : decode cX12_body 7 = .ok (.ifCond .ne 5, 3) := by decide +kernel
theorem dX12_body_10 : decode cX12_body 10 = .ok (.iconst (-1), 1) := by decide +kernel
theorem dX12_body_11 : decode cX12_body 11 = .ok (.ireturn, 1) := by decide +kernel
theorem dX12_body_12 : decode cX12_body 12 = .ok (.aload_n 0, 1) := by decide +kernel
theorem dX12_body_13 : decode cX12_body 13 = .ok (.getfield 417, 3) := by decide +kernel
theorem dX12_body_16 : decode cX12_body 16 = .ok (.bipush 50, 2) := by decide +kernel
theorem dX12_body_18 : decode cX12_body 18 = .ok (.if_icmp .ne 6, 3) := by decide +kernel
theorem dX12_body_21 : decode cX12_body 21 = .ok (.bipush (-3), 2) := by decide +kernel
theorem dX12_body_23 : decode cX12_body 23 = .ok (.ireturn, 1) := by decide +kernel
theorem dX12_body_24 : decode cX12_body 24 = .ok (.aload_n 0, 1) := by decide +kernel
theorem dX12_body_25 : decode cX12_body 25 = .ok (.getfield 98, 3) := by decide +kernel
theorem dX12_body_28 : decode cX12_body 28 = .ok (.aload_n 0, 1) := by decide +kernel
theorem dX12_body_29 : decode cX12_body 29 = .ok (.getfield 417, 3) := by decide +kernel
theorem dX12_body_32 : decode cX12_body 32 = .ok (.iload_n 1, 1) := by decide +kernel
theorem dX12_body_33 : decode cX12_body 33 = .ok (.iastore, 1) := by decide +kernel
theorem dX12_body_34 : decode cX12_body 34 = .ok (.aload_n 0, 1) := by decide +kernel
theorem dX12_body_35 : decode cX12_body 35 = .ok (.dup, 1) := by decide +kernel
theorem dX12_body_36 : decode cX12_body 36 = .ok (.getfield 417, 3) := by decide +kernel
theorem dX12_body_39 : decode cX12_body 39 = .ok (.iconst 1, 1) := by decide +kernel
theorem dX12_body_40 : decode cX12_body 40 = .ok (.iadd, 1) := by decide +kernel
theorem dX12_body_41 : decode cX12_body 41 = .ok (.putfield 417, 3) := by decide +kernel
theorem dX12_body_44 : decode cX12_body 44 = .ok (.aload_n 0, 1) := by decide +kernel
theorem dX12_body_45 : decode cX12_body 45 = .ok (.getfield 417, 3) := by decide +kernel
theorem dX12_body_48 : decode cX12_body 48 = .ok (.iconst 1, 1) := by decide +kernel
theorem dX12_body_49 : decode cX12_body 49 = .ok (.isub, 1) := by decide +kernel
theorem dX12_body_50 : decode cX12_body 50 = .ok (.ireturn, 1) := by decide +kernel
theorem dX12_isUnder_0 : decode cX12_isUnder 0 = .ok (.iload_n 1, 1) := by decide +kernel
theorem dX12_isUnder_1 : decode cX12_isUnder 1 = .ok (.ifCond .eq 55, 3) := by decide +kernel
theorem dX12_isUnder_4 : decode cX12_isUnder 4 = .ok (.iload_n 0, 1) := by decide +kernel
theorem dX12_isUnder_5 : decode cX12_isUnder 5 = .ok (.iload_n 1, 1) := by decide +kernel
theorem dX12_isUnder_6 : decode cX12_isUnder 6 = .ok (.if_icmp .eq 50, 3) := by decide +kernel
theorem dX12_isUnder_9 : decode cX12_isUnder 9 = .ok (.iload_n 1, 1) := by decide +kernel
theorem dX12_isUnder_10 : decode cX12_isUnder 10 = .ok (.iconst 1, 1) := by decide +kernel
theorem dX12_isUnder_11 : decode cX12_isUnder 11 = .ok (.if_icmp .ne 8, 3) := by decide +kernel
theorem dX12_isUnder_14 : decode cX12_isUnder 14 = .ok (.iload_n 0, 1) := by decide +kernel
theorem dX12_isUnder_15 : decode cX12_isUnder 15 = .ok (.iconst 4, 1) := by decide +kernel
theorem dX12_isUnder_16 : decode cX12_isUnder 16 = .ok (.if_icmp .eq 40, 3) := by decide +kernel
theorem dX12_isUnder_19 : decode cX12_isUnder 19 = .ok (.iload_n 1, 1) := by decide +kernel
theorem dX12_isUnder_20 : decode cX12_isUnder 20 = .ok (.iconst 2, 1) := by decide +kernel
theorem dX12_isUnder_21 : decode cX12_isUnder 21 = .ok (.if_icmp .ne 13, 3) := by decide +kernel
theorem dX12_isUnder_24 : decode cX12_isUnder 24 = .ok (.iload_n 0, 1) := by decide +kernel
theorem dX12_isUnder_25 : decode cX12_isUnder 25 = .ok (.iconst 3, 1) := by decide +kernel
theorem dX12_isUnder_26 : decode cX12_isUnder 26 = .ok (.if_icmp .eq 30, 3) := by decide +kernel
theorem dX12_isUnder_29 : decode cX12_isUnder 29 = .ok (.iload_n 0, 1) := by decide +kernel
theorem dX12_isUnder_30 : decode cX12_isUnder 30 = .ok (.iconst 5, 1) := by decide +kernel
theorem dX12_isUnder_31 : decode cX12_isUnder 31 = .ok (.if_icmp .eq 25, 3) := by decide +kernel
theorem dX12_isUnder_34 : decode cX12_isUnder 34 = .ok (.iload_n 1, 1) := by decide +kernel
theorem dX12_isUnder_35 : decode cX12_isUnder 35 = .ok (.iconst 3, 1) := by decide +kernel
theorem dX12_isUnder_36 : decode cX12_isUnder 36 = .ok (.if_icmp .ne 8, 3) := by decide +kernel
theorem dX12_isUnder_39 : decode cX12_isUnder 39 = .ok (.iload_n 0, 1) := by decide +kernel
theorem dX12_isUnder_40 : decode cX12_isUnder 40 = .ok (.iconst 5, 1) := by decide +kernel
theorem dX12_isUnder_41 : decode cX12_isUnder 41 = .ok (.if_icmp .eq 15, 3) := by decide +kernel
theorem dX12_isUnder_44 : decode cX12_isUnder 44 = .ok (.iload_n 1, 1) := by decide +kernel
theorem dX12_isUnder_45 : decode cX12_isUnder 45 = .ok (.bipush 6, 2) := by decide +kernel
theorem dX12_isUnder_47 : decode cX12_isUnder 47 = .ok (.if_icmp .ne 13, 3) := by decide +kernel
theorem dX12_isUnder_50 : decode cX12_isUnder 50 = .ok (.iload_n 0, 1) := by decide +kernel
theorem dX12_isUnder_51 : decode cX12_isUnder 51 = .ok (.bipush 7, 2) := by decide +kernel
theorem dX12_isUnder_53 : decode cX12_isUnder 53 = .ok (.if_icmp .ne 7, 3) := by decide +kernel
theorem dX12_isUnder_56 : decode cX12_isUnder 56 = .ok (.iconst 1, 1) := by decide +kernel
theorem dX12_isUnder_57 : decode cX12_isUnder 57 = .ok (.goto 4, 3) := by decide +kernel
theorem dX12_isUnder_60 : decode cX12_isUnder 60 = .ok (.iconst 0, 1) := by decide +kernel
theorem dX12_isUnder_61 : decode cX12_isUnder 61 = .ok (.ireturn, 1) := by decide +kernel
theorem dX12_plainFaces_0 : decode cX12_plainFaces 0 = .ok (.aload_n 0, 1) := by decide +kernel
theorem dX12_plainFaces_1 : decode cX12_plainFaces 1 = .ok (.iconst 1, 1) := by decide +kernel
theorem dX12_plainFaces_2 : decode cX12_plainFaces 2 = .ok (.invokevirtual 423, 3) := by decide +kernel
theorem dX12_plainFaces_5 : decode cX12_plainFaces 5 = .ok (.iload_n 2, 1) := by decide +kernel
theorem dX12_plainFaces_6 : decode cX12_plainFaces 6 = .ok (.iload_n 1, 1) := by decide +kernel
theorem dX12_plainFaces_7 : decode cX12_plainFaces 7 = .ok (.iadd, 1) := by decide +kernel
theorem dX12_plainFaces_8 : decode cX12_plainFaces 8 = .ok (.ireturn, 1) := by decide +kernel
theorem dX12_ludlowFaces_0 : decode cX12_ludlowFaces 0 = .ok (.aload_n 0, 1) := by decide +kernel
theorem dX12_ludlowFaces_1 : decode cX12_ludlowFaces 1 = .ok (.bipush 70, 2) := by decide +kernel
theorem dX12_ludlowFaces_3 : decode cX12_ludlowFaces 3 = .ok (.invokevirtual 423, 3) := by decide +kernel
theorem dX12_ludlowFaces_6 : decode cX12_ludlowFaces 6 = .ok (.aload_n 0, 1) := by decide +kernel
theorem dX12_ludlowFaces_7 : decode cX12_ludlowFaces 7 = .ok (.iload_n 1, 1) := by decide +kernel
theorem dX12_ludlowFaces_8 : decode cX12_ludlowFaces 8 = .ok (.iload_n 2, 1) := by decide +kernel
theorem dX12_ludlowFaces_9 : decode cX12_ludlowFaces 9 = .ok (.invokevirtual 426, 3) := by decide +kernel
theorem dX12_ludlowFaces_12 : decode cX12_ludlowFaces 12 = .ok (.iconst 2, 1) := by decide +kernel
theorem dX12_ludlowFaces_13 : decode cX12_ludlowFaces 13 = .ok (.imul, 1) := by decide +kernel
theorem dX12_ludlowFaces_14 : decode cX12_ludlowFaces 14 = .ok (.ireturn, 1) := by decide +kernel
theorem dX12_facing_0 : decode cX12_facing 0 = .ok (.aload_n 0, 1) := by decide +kernel
theorem dX12_facing_1 : decode cX12_facing 1 = .ok (.getfield 98, 3) := by decide +kernel
theorem dX12_facing_4 : decode cX12_facing 4 = .ok (.iload_n 1, 1) := by decide +kernel
theorem dX12_facing_5 : decode cX12_facing 5 = .ok (.iaload, 1) := by decide +kernel
theorem dX12_facing_6 : decode cX12_facing 6 = .ok (.iconst 1, 1) := by decide +kernel
theorem dX12_facing_7 : decode cX12_facing 7 = .ok (.invokestatic 429, 3) := by decide +kernel
theorem dX12_facing_10 : decode cX12_facing 10 = .ok (.ifCond .eq 18, 3) := by decide +kernel
theorem dX12_facing_13 : decode cX12_facing 13 = .ok (.aload_n 0, 1) := by decide +kernel
theorem dX12_facing_14 : decode cX12_facing 14 = .ok (.bipush 20, 2) := by decide +kernel
theorem dX12_facing_16 : decode cX12_facing 16 = .ok (.invokevirtual 423, 3) := by decide +kernel
theorem dX12_facing_19 : decode cX12_facing 19 = .ok (.aload_n 0, 1) := by decide +kernel
theorem dX12_facing_20 : decode cX12_facing 20 = .ok (.iload_n 1, 1) := by decide +kernel
theorem dX12_facing_21 : decode cX12_facing 21 = .ok (.iload_n 2, 1) := by decide +kernel
theorem dX12_facing_22 : decode cX12_facing 22 = .ok (.invokevirtual 426, 3) := by decide +kernel
theorem dX12_facing_25 : decode cX12_facing 25 = .ok (.iconst 3, 1) := by decide +kernel
theorem dX12_facing_26 : decode cX12_facing 26 = .ok (.iadd, 1) := by decide +kernel
theorem dX12_facing_27 : decode cX12_facing 27 = .ok (.ireturn, 1) := by decide +kernel
theorem dX12_facing_28 : decode cX12_facing 28 = .ok (.aload_n 0, 1) := by decide +kernel
theorem dX12_facing_29 : decode cX12_facing 29 = .ok (.getfield 98, 3) := by decide +kernel
theorem dX12_facing_32 : decode cX12_facing 32 = .ok (.iload_n 1, 1) := by decide +kernel
theorem dX12_facing_33 : decode cX12_facing 33 = .ok (.iaload, 1) := by decide +kernel
theorem dX12_facing_34 : decode cX12_facing 34 = .ok (.bipush 7, 2) := by decide +kernel
theorem dX12_facing_36 : decode cX12_facing 36 = .ok (.if_icmp .ne 18, 3) := by decide +kernel
theorem dX12_facing_39 : decode cX12_facing 39 = .ok (.aload_n 0, 1) := by decide +kernel
theorem dX12_facing_40 : decode cX12_facing 40 = .ok (.bipush 81, 2) := by decide +kernel
theorem dX12_facing_42 : decode cX12_facing 42 = .ok (.invokevirtual 423, 3) := by decide +kernel
theorem dX12_facing_45 : decode cX12_facing 45 = .ok (.aload_n 0, 1) := by decide +kernel
theorem dX12_facing_46 : decode cX12_facing 46 = .ok (.iload_n 1, 1) := by decide +kernel
theorem dX12_facing_47 : decode cX12_facing 47 = .ok (.iload_n 2, 1) := by decide +kernel
theorem dX12_facing_48 : decode cX12_facing 48 = .ok (.invokevirtual 432, 3) := by decide +kernel
theorem dX12_facing_51 : decode cX12_facing 51 = .ok (.iconst 1, 1) := by decide +kernel
theorem dX12_facing_52 : decode cX12_facing 52 = .ok (.isub, 1) := by decide +kernel
theorem dX12_facing_53 : decode cX12_facing 53 = .ok (.ireturn, 1) := by decide +kernel
theorem dX12_facing_54 : decode cX12_facing 54 = .ok (.aload_n 0, 1) := by decide +kernel
theorem dX12_facing_55 : decode cX12_facing 55 = .ok (.getfield 98, 3) := by decide +kernel
theorem dX12_facing_58 : decode cX12_facing 58 = .ok (.iload_n 1, 1) := by decide +kernel
theorem dX12_facing_59 : decode cX12_facing 59 = .ok (.iaload, 1) := by decide +kernel
theorem dX12_facing_60 : decode cX12_facing 60 = .ok (.bipush 6, 2) := by decide +kernel
theorem dX12_facing_62 : decode cX12_facing 62 = .ok (.if_icmp .ne 12, 3) := by decide +kernel
theorem dX12_facing_65 : decode cX12_facing 65 = .ok (.aload_n 0, 1) := by decide +kernel
theorem dX12_facing_66 : decode cX12_facing 66 = .ok (.iload_n 1, 1) := by decide +kernel
theorem dX12_facing_67 : decode cX12_facing 67 = .ok (.iload_n 2, 1) := by decide +kernel
theorem dX12_facing_68 : decode cX12_facing 68 = .ok (.invokevirtual 432, 3) := by decide +kernel
theorem dX12_facing_71 : decode cX12_facing 71 = .ok (.goto 9, 3) := by decide +kernel
theorem dX12_facing_74 : decode cX12_facing 74 = .ok (.aload_n 0, 1) := by decide +kernel
theorem dX12_facing_75 : decode cX12_facing 75 = .ok (.iload_n 1, 1) := by decide +kernel
theorem dX12_facing_76 : decode cX12_facing 76 = .ok (.iload_n 2, 1) := by decide +kernel
theorem dX12_facing_77 : decode cX12_facing 77 = .ok (.invokevirtual 426, 3) := by decide +kernel
theorem dX12_facing_80 : decode cX12_facing 80 = .ok (.ireturn, 1) := by decide +kernel
theorem dX12_plainDrives_0 : decode cX12_plainDrives 0 = .ok (.aload_n 0, 1) := by decide +kernel
theorem dX12_plainDrives_1 : decode cX12_plainDrives 1 = .ok (.bipush 10, 2) := by decide +kernel
theorem dX12_plainDrives_3 : decode cX12_plainDrives 3 = .ok (.invokevirtual 423, 3) := by decide +kernel
theorem dX12_plainDrives_6 : decode cX12_plainDrives 6 = .ok (.aload_n 0, 1) := by decide +kernel
theorem dX12_plainDrives_7 : decode cX12_plainDrives 7 = .ok (.iload_n 1, 1) := by decide +kernel
theorem dX12_plainDrives_8 : decode cX12_plainDrives 8 = .ok (.iload_n 2, 1) := by decide +kernel
theorem dX12_plainDrives_9 : decode cX12_plainDrives 9 = .ok (.invokevirtual 435, 3) := by decide +kernel
theorem dX12_plainDrives_12 : decode cX12_plainDrives 12 = .ok (.iconst 2, 1) := by decide +kernel
theorem dX12_plainDrives_13 : decode cX12_plainDrives 13 = .ok (.imul, 1) := by decide +kernel
theorem dX12_plainDrives_14 : decode cX12_plainDrives 14 = .ok (.ireturn, 1) := by decide +kernel
theorem dX12_buddDrives_0 : decode cX12_buddDrives 0 = .ok (.aload_n 0, 1) := by decide +kernel
theorem dX12_buddDrives_1 : decode cX12_buddDrives 1 = .ok (.bipush 30, 2) := by decide +kernel
theorem dX12_buddDrives_3 : decode cX12_buddDrives 3 = .ok (.invokevirtual 423, 3) := by decide +kernel
theorem dX12_buddDrives_6 : decode cX12_buddDrives 6 = .ok (.aload_n 0, 1) := by decide +kernel
theorem dX12_buddDrives_7 : decode cX12_buddDrives 7 = .ok (.iload_n 1, 1) := by decide +kernel
theorem dX12_buddDrives_8 : decode cX12_buddDrives 8 = .ok (.iload_n 2, 1) := by decide +kernel
theorem dX12_buddDrives_9 : decode cX12_buddDrives 9 = .ok (.invokevirtual 438, 3) := by decide +kernel
theorem dX12_buddDrives_12 : decode cX12_buddDrives 12 = .ok (.ineg, 1) := by decide +kernel
theorem dX12_buddDrives_13 : decode cX12_buddDrives 13 = .ok (.ireturn, 1) := by decide +kernel
theorem dX12_driving_0 : decode cX12_driving 0 = .ok (.aload_n 0, 1) := by decide +kernel
theorem dX12_driving_1 : decode cX12_driving 1 = .ok (.getfield 98, 3) := by decide +kernel
theorem dX12_driving_4 : decode cX12_driving 4 = .ok (.iload_n 1, 1) := by decide +kernel
theorem dX12_driving_5 : decode cX12_driving 5 = .ok (.iaload, 1) := by decide +kernel
theorem dX12_driving_6 : decode cX12_driving 6 = .ok (.iconst 3, 1) := by decide +kernel
theorem dX12_driving_7 : decode cX12_driving 7 = .ok (.invokestatic 429, 3) := by decide +kernel
theorem dX12_driving_10 : decode cX12_driving 10 = .ok (.ifCond .eq 18, 3) := by decide +kernel
theorem dX12_driving_13 : decode cX12_driving 13 = .ok (.aload_n 0, 1) := by decide +kernel
theorem dX12_driving_14 : decode cX12_driving 14 = .ok (.bipush 41, 2) := by decide +kernel
theorem dX12_driving_16 : decode cX12_driving 16 = .ok (.invokevirtual 423, 3) := by decide +kernel
theorem dX12_driving_19 : decode cX12_driving 19 = .ok (.aload_n 0, 1) := by decide +kernel
theorem dX12_driving_20 : decode cX12_driving 20 = .ok (.iload_n 1, 1) := by decide +kernel
theorem dX12_driving_21 : decode cX12_driving 21 = .ok (.iload_n 2, 1) := by decide +kernel
theorem dX12_driving_22 : decode cX12_driving 22 = .ok (.iconst 1, 1) := by decide +kernel
theorem dX12_driving_23 : decode cX12_driving 23 = .ok (.iadd, 1) := by decide +kernel
theorem dX12_driving_24 : decode cX12_driving 24 = .ok (.invokevirtual 441, 3) := by decide +kernel
theorem dX12_driving_27 : decode cX12_driving 27 = .ok (.ireturn, 1) := by decide +kernel
theorem dX12_driving_28 : decode cX12_driving 28 = .ok (.aload_n 0, 1) := by decide +kernel
theorem dX12_driving_29 : decode cX12_driving 29 = .ok (.getfield 98, 3) := by decide +kernel
theorem dX12_driving_32 : decode cX12_driving 32 = .ok (.iload_n 1, 1) := by decide +kernel
theorem dX12_driving_33 : decode cX12_driving 33 = .ok (.iaload, 1) := by decide +kernel
theorem dX12_driving_34 : decode cX12_driving 34 = .ok (.bipush 7, 2) := by decide +kernel
theorem dX12_driving_36 : decode cX12_driving 36 = .ok (.if_icmp .ne 25, 3) := by decide +kernel
theorem dX12_driving_39 : decode cX12_driving 39 = .ok (.aload_n 0, 1) := by decide +kernel
theorem dX12_driving_40 : decode cX12_driving 40 = .ok (.bipush 80, 2) := by decide +kernel
theorem dX12_driving_42 : decode cX12_driving 42 = .ok (.invokevirtual 423, 3) := by decide +kernel
theorem dX12_driving_45 : decode cX12_driving 45 = .ok (.aload_n 0, 1) := by decide +kernel
theorem dX12_driving_46 : decode cX12_driving 46 = .ok (.iload_n 1, 1) := by decide +kernel
theorem dX12_driving_47 : decode cX12_driving 47 = .ok (.iload_n 2, 1) := by decide +kernel
theorem dX12_driving_48 : decode cX12_driving 48 = .ok (.invokevirtual 438, 3) := by decide +kernel
theorem dX12_driving_51 : decode cX12_driving 51 = .ok (.istore_n 3, 1) := by decide +kernel
theorem dX12_driving_52 : decode cX12_driving 52 = .ok (.iload_n 3, 1) := by decide +kernel
theorem dX12_driving_53 : decode cX12_driving 53 = .ok (.aload_n 0, 1) := by decide +kernel
theorem dX12_driving_54 : decode cX12_driving 54 = .ok (.iload_n 1, 1) := by decide +kernel
theorem dX12_driving_55 : decode cX12_driving 55 = .ok (.iconst 2, 1) := by decide +kernel
theorem dX12_driving_56 : decode cX12_driving 56 = .ok (.invokevirtual 444, 3) := by decide +kernel
theorem dX12_driving_59 : decode cX12_driving 59 = .ok (.iadd, 1) := by decide +kernel
theorem dX12_driving_60 : decode cX12_driving 60 = .ok (.ireturn, 1) := by decide +kernel
theorem dX12_driving_61 : decode cX12_driving 61 = .ok (.aload_n 0, 1) := by decide +kernel
theorem dX12_driving_62 : decode cX12_driving 62 = .ok (.getfield 98, 3) := by decide +kernel
theorem dX12_driving_65 : decode cX12_driving 65 = .ok (.iload_n 1, 1) := by decide +kernel
theorem dX12_driving_66 : decode cX12_driving 66 = .ok (.iaload, 1) := by decide +kernel
theorem dX12_driving_67 : decode cX12_driving 67 = .ok (.iconst 2, 1) := by decide +kernel
theorem dX12_driving_68 : decode cX12_driving 68 = .ok (.if_icmp .ne 12, 3) := by decide +kernel
theorem dX12_driving_71 : decode cX12_driving 71 = .ok (.aload_n 0, 1) := by decide +kernel
theorem dX12_driving_72 : decode cX12_driving 72 = .ok (.iload_n 1, 1) := by decide +kernel
theorem dX12_driving_73 : decode cX12_driving 73 = .ok (.iload_n 2, 1) := by decide +kernel
theorem dX12_driving_74 : decode cX12_driving 74 = .ok (.invokevirtual 441, 3) := by decide +kernel
theorem dX12_driving_77 : decode cX12_driving 77 = .ok (.goto 9, 3) := by decide +kernel
theorem dX12_driving_80 : decode cX12_driving 80 = .ok (.aload_n 0, 1) := by decide +kernel
theorem dX12_driving_81 : decode cX12_driving 81 = .ok (.iload_n 1, 1) := by decide +kernel
theorem dX12_driving_82 : decode cX12_driving 82 = .ok (.iload_n 2, 1) := by decide +kernel
theorem dX12_driving_83 : decode cX12_driving 83 = .ok (.invokevirtual 438, 3) := by decide +kernel
theorem dX12_driving_86 : decode cX12_driving 86 = .ok (.ireturn, 1) := by decide +kernel
theorem dX12_plainWeeps_0 : decode cX12_plainWeeps 0 = .ok (.aload_n 0, 1) := by decide +kernel
theorem dX12_plainWeeps_1 : decode cX12_plainWeeps 1 = .ok (.bipush 11, 2) := by decide +kernel
theorem dX12_plainWeeps_3 : decode cX12_plainWeeps 3 = .ok (.invokevirtual 423, 3) := by decide +kernel
theorem dX12_plainWeeps_6 : decode cX12_plainWeeps 6 = .ok (.iload_n 2, 1) := by decide +kernel
theorem dX12_plainWeeps_7 : decode cX12_plainWeeps 7 = .ok (.iload_n 1, 1) := by decide +kernel
theorem dX12_plainWeeps_8 : decode cX12_plainWeeps 8 = .ok (.ixor, 1) := by decide +kernel
theorem dX12_plainWeeps_9 : decode cX12_plainWeeps 9 = .ok (.ireturn, 1) := by decide +kernel
theorem dX12_farmWeeps_0 : decode cX12_farmWeeps 0 = .ok (.aload_n 0, 1) := by decide +kernel
theorem dX12_farmWeeps_1 : decode cX12_farmWeeps 1 = .ok (.bipush 40, 2) := by decide +kernel
theorem dX12_farmWeeps_3 : decode cX12_farmWeeps 3 = .ok (.invokevirtual 423, 3) := by decide +kernel
theorem dX12_farmWeeps_6 : decode cX12_farmWeeps 6 = .ok (.aload_n 0, 1) := by decide +kernel
theorem dX12_farmWeeps_7 : decode cX12_farmWeeps 7 = .ok (.iload_n 1, 1) := by decide +kernel
theorem dX12_farmWeeps_8 : decode cX12_farmWeeps 8 = .ok (.iload_n 2, 1) := by decide +kernel
theorem dX12_farmWeeps_9 : decode cX12_farmWeeps 9 = .ok (.invokevirtual 447, 3) := by decide +kernel
theorem dX12_farmWeeps_12 : decode cX12_farmWeeps 12 = .ok (.iconst 3, 1) := by decide +kernel
theorem dX12_farmWeeps_13 : decode cX12_farmWeeps 13 = .ok (.imul, 1) := by decide +kernel
theorem dX12_farmWeeps_14 : decode cX12_farmWeeps 14 = .ok (.ireturn, 1) := by decide +kernel
theorem dX12_weeping_0 : decode cX12_weeping 0 = .ok (.aload_n 0, 1) := by decide +kernel
theorem dX12_weeping_1 : decode cX12_weeping 1 = .ok (.getfield 98, 3) := by decide +kernel
theorem dX12_weeping_4 : decode cX12_weeping 4 = .ok (.iload_n 1, 1) := by decide +kernel
theorem dX12_weeping_5 : decode cX12_weeping 5 = .ok (.iaload, 1) := by decide +kernel
theorem dX12_weeping_6 : decode cX12_weeping 6 = .ok (.iconst 5, 1) := by decide +kernel
theorem dX12_weeping_7 : decode cX12_weeping 7 = .ok (.if_icmp .ne 25, 3) := by decide +kernel
theorem dX12_weeping_10 : decode cX12_weeping 10 = .ok (.aload_n 0, 1) := by decide +kernel
theorem dX12_weeping_11 : decode cX12_weeping 11 = .ok (.bipush 60, 2) := by decide +kernel
theorem dX12_weeping_13 : decode cX12_weeping 13 = .ok (.invokevirtual 423, 3) := by decide +kernel
theorem dX12_weeping_16 : decode cX12_weeping 16 = .ok (.aload_n 0, 1) := by decide +kernel
theorem dX12_weeping_17 : decode cX12_weeping 17 = .ok (.iload_n 1, 1) := by decide +kernel
theorem dX12_weeping_18 : decode cX12_weeping 18 = .ok (.iload_n 2, 1) := by decide +kernel
theorem dX12_weeping_19 : decode cX12_weeping 19 = .ok (.invokevirtual 450, 3) := by decide +kernel
theorem dX12_weeping_22 : decode cX12_weeping 22 = .ok (.istore_n 3, 1) := by decide +kernel
theorem dX12_weeping_23 : decode cX12_weeping 23 = .ok (.iload_n 3, 1) := by decide +kernel
theorem dX12_weeping_24 : decode cX12_weeping 24 = .ok (.aload_n 0, 1) := by decide +kernel
theorem dX12_weeping_25 : decode cX12_weeping 25 = .ok (.iload_n 1, 1) := by decide +kernel
theorem dX12_weeping_26 : decode cX12_weeping 26 = .ok (.iconst 2, 1) := by decide +kernel
theorem dX12_weeping_27 : decode cX12_weeping 27 = .ok (.invokevirtual 435, 3) := by decide +kernel
theorem dX12_weeping_30 : decode cX12_weeping 30 = .ok (.isub, 1) := by decide +kernel
theorem dX12_weeping_31 : decode cX12_weeping 31 = .ok (.ireturn, 1) := by decide +kernel
theorem dX12_weeping_32 : decode cX12_weeping 32 = .ok (.aload_n 0, 1) := by decide +kernel
theorem dX12_weeping_33 : decode cX12_weeping 33 = .ok (.getfield 98, 3) := by decide +kernel
theorem dX12_weeping_36 : decode cX12_weeping 36 = .ok (.iload_n 1, 1) := by decide +kernel
theorem dX12_weeping_37 : decode cX12_weeping 37 = .ok (.iaload, 1) := by decide +kernel
theorem dX12_weeping_38 : decode cX12_weeping 38 = .ok (.iconst 3, 1) := by decide +kernel
theorem dX12_weeping_39 : decode cX12_weeping 39 = .ok (.if_icmp .ne 12, 3) := by decide +kernel
theorem dX12_weeping_42 : decode cX12_weeping 42 = .ok (.aload_n 0, 1) := by decide +kernel
theorem dX12_weeping_43 : decode cX12_weeping 43 = .ok (.iload_n 1, 1) := by decide +kernel
theorem dX12_weeping_44 : decode cX12_weeping 44 = .ok (.iload_n 2, 1) := by decide +kernel
theorem dX12_weeping_45 : decode cX12_weeping 45 = .ok (.invokevirtual 450, 3) := by decide +kernel
theorem dX12_weeping_48 : decode cX12_weeping 48 = .ok (.goto 9, 3) := by decide +kernel
theorem dX12_weeping_51 : decode cX12_weeping 51 = .ok (.aload_n 0, 1) := by decide +kernel
theorem dX12_weeping_52 : decode cX12_weeping 52 = .ok (.iload_n 1, 1) := by decide +kernel
theorem dX12_weeping_53 : decode cX12_weeping 53 = .ok (.iload_n 2, 1) := by decide +kernel
theorem dX12_weeping_54 : decode cX12_weeping 54 = .ok (.invokevirtual 447, 3) := by decide +kernel
theorem dX12_weeping_57 : decode cX12_weeping 57 = .ok (.ireturn, 1) := by decide +kernel
theorem dX12_plainTells_0 : decode cX12_plainTells 0 = .ok (.aload_n 0, 1) := by decide +kernel
theorem dX12_plainTells_1 : decode cX12_plainTells 1 = .ok (.iconst 2, 1) := by decide +kernel
theorem dX12_plainTells_2 : decode cX12_plainTells 2 = .ok (.invokevirtual 423, 3) := by decide +kernel
theorem dX12_plainTells_5 : decode cX12_plainTells 5 = .ok (.aload_n 0, 1) := by decide +kernel
theorem dX12_plainTells_6 : decode cX12_plainTells 6 = .ok (.iload_n 1, 1) := by decide +kernel
theorem dX12_plainTells_7 : decode cX12_plainTells 7 = .ok (.iload_n 2, 1) := by decide +kernel
theorem dX12_plainTells_8 : decode cX12_plainTells 8 = .ok (.invokevirtual 453, 3) := by decide +kernel
theorem dX12_plainTells_11 : decode cX12_plainTells 11 = .ok (.istore_n 3, 1) := by decide +kernel
theorem dX12_plainTells_12 : decode cX12_plainTells 12 = .ok (.iload_n 3, 1) := by decide +kernel
theorem dX12_plainTells_13 : decode cX12_plainTells 13 = .ok (.aload_n 0, 1) := by decide +kernel
theorem dX12_plainTells_14 : decode cX12_plainTells 14 = .ok (.iload_n 1, 1) := by decide +kernel
theorem dX12_plainTells_15 : decode cX12_plainTells 15 = .ok (.iconst 1, 1) := by decide +kernel
theorem dX12_plainTells_16 : decode cX12_plainTells 16 = .ok (.invokevirtual 444, 3) := by decide +kernel
theorem dX12_plainTells_19 : decode cX12_plainTells 19 = .ok (.isub, 1) := by decide +kernel
theorem dX12_plainTells_20 : decode cX12_plainTells 20 = .ok (.ireturn, 1) := by decide +kernel
theorem dX12_telling_0 : decode cX12_telling 0 = .ok (.aload_n 0, 1) := by decide +kernel
theorem dX12_telling_1 : decode cX12_telling 1 = .ok (.getfield 98, 3) := by decide +kernel
theorem dX12_telling_4 : decode cX12_telling 4 = .ok (.iload_n 1, 1) := by decide +kernel
theorem dX12_telling_5 : decode cX12_telling 5 = .ok (.iaload, 1) := by decide +kernel
theorem dX12_telling_6 : decode cX12_telling 6 = .ok (.iconst 4, 1) := by decide +kernel
theorem dX12_telling_7 : decode cX12_telling 7 = .ok (.if_icmp .ne 18, 3) := by decide +kernel
theorem dX12_telling_10 : decode cX12_telling 10 = .ok (.aload_n 0, 1) := by decide +kernel
theorem dX12_telling_11 : decode cX12_telling 11 = .ok (.bipush 50, 2) := by decide +kernel
theorem dX12_telling_13 : decode cX12_telling 13 = .ok (.invokevirtual 423, 3) := by decide +kernel
theorem dX12_telling_16 : decode cX12_telling 16 = .ok (.aload_n 0, 1) := by decide +kernel
theorem dX12_telling_17 : decode cX12_telling 17 = .ok (.iload_n 1, 1) := by decide +kernel
theorem dX12_telling_18 : decode cX12_telling 18 = .ok (.iload_n 2, 1) := by decide +kernel
theorem dX12_telling_19 : decode cX12_telling 19 = .ok (.invokevirtual 456, 3) := by decide +kernel
theorem dX12_telling_22 : decode cX12_telling 22 = .ok (.iconst 5, 1) := by decide +kernel
theorem dX12_telling_23 : decode cX12_telling 23 = .ok (.ixor, 1) := by decide +kernel
theorem dX12_telling_24 : decode cX12_telling 24 = .ok (.ireturn, 1) := by decide +kernel
theorem dX12_telling_25 : decode cX12_telling 25 = .ok (.aload_n 0, 1) := by decide +kernel
theorem dX12_telling_26 : decode cX12_telling 26 = .ok (.getfield 98, 3) := by decide +kernel
theorem dX12_telling_29 : decode cX12_telling 29 = .ok (.iload_n 1, 1) := by decide +kernel
theorem dX12_telling_30 : decode cX12_telling 30 = .ok (.iaload, 1) := by decide +kernel
theorem dX12_telling_31 : decode cX12_telling 31 = .ok (.iconst 5, 1) := by decide +kernel
theorem dX12_telling_32 : decode cX12_telling 32 = .ok (.if_icmp .ne 18, 3) := by decide +kernel
theorem dX12_telling_35 : decode cX12_telling 35 = .ok (.aload_n 0, 1) := by decide +kernel
theorem dX12_telling_36 : decode cX12_telling 36 = .ok (.bipush 61, 2) := by decide +kernel
theorem dX12_telling_38 : decode cX12_telling 38 = .ok (.invokevirtual 423, 3) := by decide +kernel
theorem dX12_telling_41 : decode cX12_telling 41 = .ok (.aload_n 0, 1) := by decide +kernel
theorem dX12_telling_42 : decode cX12_telling 42 = .ok (.iload_n 1, 1) := by decide +kernel
theorem dX12_telling_43 : decode cX12_telling 43 = .ok (.iload_n 2, 1) := by decide +kernel
theorem dX12_telling_44 : decode cX12_telling 44 = .ok (.invokevirtual 456, 3) := by decide +kernel
theorem dX12_telling_47 : decode cX12_telling 47 = .ok (.iconst 1, 1) := by decide +kernel
theorem dX12_telling_48 : decode cX12_telling 48 = .ok (.iadd, 1) := by decide +kernel
theorem dX12_telling_49 : decode cX12_telling 49 = .ok (.ireturn, 1) := by decide +kernel
theorem dX12_telling_50 : decode cX12_telling 50 = .ok (.aload_n 0, 1) := by decide +kernel
theorem dX12_telling_51 : decode cX12_telling 51 = .ok (.iload_n 1, 1) := by decide +kernel
theorem dX12_telling_52 : decode cX12_telling 52 = .ok (.iload_n 2, 1) := by decide +kernel
theorem dX12_telling_53 : decode cX12_telling 53 = .ok (.invokevirtual 456, 3) := by decide +kernel
theorem dX12_telling_56 : decode cX12_telling 56 = .ok (.ireturn, 1) := by decide +kernel
theorem dX12_act_0 : decode cX12_act 0 = .ok (.aload_n 0, 1) := by decide +kernel
theorem dX12_act_1 : decode cX12_act 1 = .ok (.iconst 0, 1) := by decide +kernel
theorem dX12_act_2 : decode cX12_act 2 = .ok (.putfield 420, 3) := by decide +kernel
theorem dX12_act_5 : decode cX12_act 5 = .ok (.aload_n 0, 1) := by decide +kernel
theorem dX12_act_6 : decode cX12_act 6 = .ok (.iload_n 1, 1) := by decide +kernel
theorem dX12_act_7 : decode cX12_act 7 = .ok (.invokevirtual 459, 3) := by decide +kernel
theorem dX12_act_10 : decode cX12_act 10 = .ok (.ifCond .eq 12, 3) := by decide +kernel
theorem dX12_act_13 : decode cX12_act 13 = .ok (.iload_n 2, 1) := by decide +kernel
theorem dX12_act_14 : decode cX12_act 14 = .ok (.iconst 0, 1) := by decide +kernel
theorem dX12_act_15 : decode cX12_act 15 = .ok (.iconst 3, 1) := by decide +kernel
theorem dX12_act_16 : decode cX12_act 16 = .ok (.invokestatic 128, 3) := by decide +kernel
theorem dX12_act_19 : decode cX12_act 19 = .ok (.ifCond .ne 5, 3) := by decide +kernel
theorem dX12_act_22 : decode cX12_act 22 = .ok (.iconst 0, 1) := by decide +kernel
theorem dX12_act_23 : decode cX12_act 23 = .ok (.ireturn, 1) := by decide +kernel
theorem dX12_act_24 : decode cX12_act 24 = .ok (.iload_n 2, 1) := by decide +kernel
theorem dX12_act_25 : decode cX12_act 25 = .ok (.ifCond .ne 12, 3) := by decide +kernel
theorem dX12_act_28 : decode cX12_act 28 = .ok (.aload_n 0, 1) := by decide +kernel
theorem dX12_act_29 : decode cX12_act 29 = .ok (.iload_n 1, 1) := by decide +kernel
theorem dX12_act_30 : decode cX12_act 30 = .ok (.iload_n 3, 1) := by decide +kernel
theorem dX12_act_31 : decode cX12_act 31 = .ok (.invokevirtual 435, 3) := by decide +kernel
theorem dX12_act_34 : decode cX12_act 34 = .ok (.goto 37, 3) := by decide +kernel
theorem dX12_act_37 : decode cX12_act 37 = .ok (.iload_n 2, 1) := by decide +kernel
theorem dX12_act_38 : decode cX12_act 38 = .ok (.iconst 1, 1) := by decide +kernel
theorem dX12_act_39 : decode cX12_act 39 = .ok (.if_icmp .ne 12, 3) := by decide +kernel
theorem dX12_act_42 : decode cX12_act 42 = .ok (.aload_n 0, 1) := by decide +kernel
theorem dX12_act_43 : decode cX12_act 43 = .ok (.iload_n 1, 1) := by decide +kernel
theorem dX12_act_44 : decode cX12_act 44 = .ok (.iload_n 3, 1) := by decide +kernel
theorem dX12_act_45 : decode cX12_act 45 = .ok (.invokevirtual 453, 3) := by decide +kernel
theorem dX12_act_48 : decode cX12_act 48 = .ok (.goto 23, 3) := by decide +kernel
theorem dX12_act_51 : decode cX12_act 51 = .ok (.iload_n 2, 1) := by decide +kernel
theorem dX12_act_52 : decode cX12_act 52 = .ok (.iconst 2, 1) := by decide +kernel
theorem dX12_act_53 : decode cX12_act 53 = .ok (.if_icmp .ne 12, 3) := by decide +kernel
theorem dX12_act_56 : decode cX12_act 56 = .ok (.aload_n 0, 1) := by decide +kernel
theorem dX12_act_57 : decode cX12_act 57 = .ok (.iload_n 1, 1) := by decide +kernel
theorem dX12_act_58 : decode cX12_act 58 = .ok (.iload_n 3, 1) := by decide +kernel
theorem dX12_act_59 : decode cX12_act 59 = .ok (.invokevirtual 444, 3) := by decide +kernel
theorem dX12_act_62 : decode cX12_act 62 = .ok (.goto 9, 3) := by decide +kernel
theorem dX12_act_65 : decode cX12_act 65 = .ok (.aload_n 0, 1) := by decide +kernel
theorem dX12_act_66 : decode cX12_act 66 = .ok (.iload_n 1, 1) := by decide +kernel
theorem dX12_act_67 : decode cX12_act 67 = .ok (.iload_n 3, 1) := by decide +kernel
theorem dX12_act_68 : decode cX12_act 68 = .ok (.invokevirtual 462, 3) := by decide +kernel
theorem dX12_act_71 : decode cX12_act 71 = .ok (.ireturn, 1) := by decide +kernel
theorem dX12_count_0 : decode cX12_count 0 = .ok (.iload_n 1, 1) := by decide +kernel
theorem dX12_count_1 : decode cX12_count 1 = .ok (.tableswitch 69 0 5 #[39, 44, 49, 54, 59, 64], 39) := by decide +kernel
theorem dX12_count_40 : decode cX12_count 40 = .ok (.aload_n 0, 1) := by decide +kernel
theorem dX12_count_41 : decode cX12_count 41 = .ok (.getfield 125, 3) := by decide +kernel
theorem dX12_count_44 : decode cX12_count 44 = .ok (.ireturn, 1) := by decide +kernel
theorem dX12_count_45 : decode cX12_count 45 = .ok (.aload_n 0, 1) := by decide +kernel
theorem dX12_count_46 : decode cX12_count 46 = .ok (.getfield 132, 3) := by decide +kernel
theorem dX12_count_49 : decode cX12_count 49 = .ok (.ireturn, 1) := by decide +kernel
theorem dX12_count_50 : decode cX12_count 50 = .ok (.aload_n 0, 1) := by decide +kernel
theorem dX12_count_51 : decode cX12_count 51 = .ok (.getfield 178, 3) := by decide +kernel
theorem dX12_count_54 : decode cX12_count 54 = .ok (.ireturn, 1) := by decide +kernel
theorem dX12_count_55 : decode cX12_count 55 = .ok (.aload_n 0, 1) := by decide +kernel
theorem dX12_count_56 : decode cX12_count 56 = .ok (.getfield 160, 3) := by decide +kernel
theorem dX12_count_59 : decode cX12_count 59 = .ok (.ireturn, 1) := by decide +kernel
theorem dX12_count_60 : decode cX12_count 60 = .ok (.aload_n 0, 1) := by decide +kernel
theorem dX12_count_61 : decode cX12_count 61 = .ok (.getfield 417, 3) := by decide +kernel
theorem dX12_count_64 : decode cX12_count 64 = .ok (.ireturn, 1) := by decide +kernel
theorem dX12_count_65 : decode cX12_count 65 = .ok (.aload_n 0, 1) := by decide +kernel
theorem dX12_count_66 : decode cX12_count 66 = .ok (.getfield 420, 3) := by decide +kernel
theorem dX12_count_69 : decode cX12_count 69 = .ok (.ireturn, 1) := by decide +kernel
theorem dX12_count_70 : decode cX12_count 70 = .ok (.iconst (-1), 1) := by decide +kernel
theorem dX12_count_71 : decode cX12_count 71 = .ok (.ireturn, 1) := by decide +kernel
theorem dX12_isShelf_0 : decode cX12_isShelf 0 = .ok (.iload_n 0, 1) := by decide +kernel
theorem dX12_isShelf_1 : decode cX12_isShelf 1 = .ok (.iconst 0, 1) := by decide +kernel
theorem dX12_isShelf_2 : decode cX12_isShelf 2 = .ok (.iconst 5, 1) := by decide +kernel
theorem dX12_isShelf_3 : decode cX12_isShelf 3 = .ok (.invokestatic 128, 3) := by decide +kernel
theorem dX12_isShelf_6 : decode cX12_isShelf 6 = .ok (.ireturn, 1) := by decide +kernel
theorem dX12_keep_0 : decode cX12_keep 0 = .ok (.iload_n 1, 1) := by decide +kernel
theorem dX12_keep_1 : decode cX12_keep 1 = .ok (.invokestatic 149, 3) := by decide +kernel
theorem dX12_keep_4 : decode cX12_keep 4 = .ok (.ifCond .eq 16, 3) := by decide +kernel
theorem dX12_keep_7 : decode cX12_keep 7 = .ok (.iload_n 2, 1) := by decide +kernel
theorem dX12_keep_8 : decode cX12_keep 8 = .ok (.iconst (-1), 1) := by decide +kernel
theorem dX12_keep_9 : decode cX12_keep 9 = .ok (.if_icmp .eq 13, 3) := by decide +kernel
theorem dX12_keep_12 : decode cX12_keep 12 = .ok (.aload_n 0, 1) := by decide +kernel
theorem dX12_keep_13 : decode cX12_keep 13 = .ok (.iload_n 2, 1) := by decide +kernel
theorem dX12_keep_14 : decode cX12_keep 14 = .ok (.invokevirtual 459, 3) := by decide +kernel
theorem dX12_keep_17 : decode cX12_keep 17 = .ok (.ifCond .ne 5, 3) := by decide +kernel
theorem dX12_keep_20 : decode cX12_keep 20 = .ok (.iconst (-1), 1) := by decide +kernel
theorem dX12_keep_21 : decode cX12_keep 21 = .ok (.ireturn, 1) := by decide +kernel
theorem dX12_keep_22 : decode cX12_keep 22 = .ok (.aload_n 0, 1) := by decide +kernel
theorem dX12_keep_23 : decode cX12_keep 23 = .ok (.getfield 104, 3) := by decide +kernel
theorem dX12_keep_26 : decode cX12_keep 26 = .ok (.iload_n 1, 1) := by decide +kernel
theorem dX12_keep_27 : decode cX12_keep 27 = .ok (.iload_n 2, 1) := by decide +kernel
theorem dX12_keep_28 : decode cX12_keep 28 = .ok (.iastore, 1) := by decide +kernel
theorem dX12_keep_29 : decode cX12_keep 29 = .ok (.iconst 1, 1) := by decide +kernel
theorem dX12_keep_30 : decode cX12_keep 30 = .ok (.ireturn, 1) := by decide +kernel
theorem dX12_row_0 : decode cX12_row 0 = .ok (.iload_n 1, 1) := by decide +kernel
theorem dX12_row_1 : decode cX12_row 1 = .ok (.invokestatic 149, 3) := by decide +kernel
theorem dX12_row_4 : decode cX12_row 4 = .ok (.ifCond .eq 18, 3) := by decide +kernel
theorem dX12_row_7 : decode cX12_row 7 = .ok (.iload_n 2, 1) := by decide +kernel
theorem dX12_row_8 : decode cX12_row 8 = .ok (.iconst 0, 1) := by decide +kernel
theorem dX12_row_9 : decode cX12_row 9 = .ok (.iconst 4, 1) := by decide +kernel
theorem dX12_row_10 : decode cX12_row 10 = .ok (.invokestatic 128, 3) := by decide +kernel
theorem dX12_row_13 : decode cX12_row 13 = .ok (.ifCond .eq 9, 3) := by decide +kernel
theorem dX12_row_16 : decode cX12_row 16 = .ok (.iload_n 3, 1) := by decide +kernel
theorem dX12_row_17 : decode cX12_row 17 = .ok (.bipush 60, 2) := by decide +kernel
theorem dX12_row_19 : decode cX12_row 19 = .ok (.if_icmp .le 5, 3) := by decide +kernel
theorem dX12_row_22 : decode cX12_row 22 = .ok (.iconst (-1), 1) := by decide +kernel
theorem dX12_row_23 : decode cX12_row 23 = .ok (.ireturn, 1) := by decide +kernel
theorem dX12_row_24 : decode cX12_row 24 = .ok (.iload_n 3, 1) := by decide +kernel
theorem dX12_row_25 : decode cX12_row 25 = .ok (.ifCond .ge 6, 3) := by decide +kernel
theorem dX12_row_28 : decode cX12_row 28 = .ok (.bipush (-14), 2) := by decide +kernel
theorem dX12_row_30 : decode cX12_row 30 = .ok (.ireturn, 1) := by decide +kernel
theorem dX12_row_31 : decode cX12_row 31 = .ok (.aload_n 0, 1) := by decide +kernel
theorem dX12_row_32 : decode cX12_row 32 = .ok (.getfield 104, 3) := by decide +kernel
theorem dX12_row_35 : decode cX12_row 35 = .ok (.iload_n 1, 1) := by decide +kernel
theorem dX12_row_36 : decode cX12_row 36 = .ok (.bipush (-2), 2) := by decide +kernel
theorem dX12_row_38 : decode cX12_row 38 = .ok (.iload_n 2, 1) := by decide +kernel
theorem dX12_row_39 : decode cX12_row 39 = .ok (.isub, 1) := by decide +kernel
theorem dX12_row_40 : decode cX12_row 40 = .ok (.iastore, 1) := by decide +kernel
theorem dX12_row_41 : decode cX12_row 41 = .ok (.aload_n 0, 1) := by decide +kernel
theorem dX12_row_42 : decode cX12_row 42 = .ok (.getfield 107, 3) := by decide +kernel
theorem dX12_row_45 : decode cX12_row 45 = .ok (.iload_n 1, 1) := by decide +kernel
theorem dX12_row_46 : decode cX12_row 46 = .ok (.iload_n 3, 1) := by decide +kernel
theorem dX12_row_47 : decode cX12_row 47 = .ok (.iastore, 1) := by decide +kernel
theorem dX12_row_48 : decode cX12_row 48 = .ok (.bipush 60, 2) := by decide +kernel
theorem dX12_row_50 : decode cX12_row 50 = .ok (.iload_n 1, 1) := by decide +kernel
theorem dX12_row_51 : decode cX12_row 51 = .ok (.imul, 1) := by decide +kernel
theorem dX12_row_52 : decode cX12_row 52 = .ok (.istore 4, 2) := by decide +kernel
theorem dX12_row_54 : decode cX12_row 54 = .ok (.iload 4, 2) := by decide +kernel
theorem dX12_row_56 : decode cX12_row 56 = .ok (.bipush 60, 2) := by decide +kernel
theorem dX12_row_58 : decode cX12_row 58 = .ok (.iload_n 1, 1) := by decide +kernel
theorem dX12_row_59 : decode cX12_row 59 = .ok (.imul, 1) := by decide +kernel
theorem dX12_row_60 : decode cX12_row 60 = .ok (.bipush 60, 2) := by decide +kernel
theorem dX12_row_62 : decode cX12_row 62 = .ok (.iadd, 1) := by decide +kernel
theorem dX12_row_63 : decode cX12_row 63 = .ok (.if_icmp .ge 17, 3) := by decide +kernel
theorem dX12_row_66 : decode cX12_row 66 = .ok (.aload_n 0, 1) := by decide +kernel
theorem dX12_row_67 : decode cX12_row 67 = .ok (.getfield 110, 3) := by decide +kernel
theorem dX12_row_70 : decode cX12_row 70 = .ok (.iload 4, 2) := by decide +kernel
theorem dX12_row_72 : decode cX12_row 72 = .ok (.lconst 0, 1) := by decide +kernel
theorem dX12_row_73 : decode cX12_row 73 = .ok (.lastore, 1) := by decide +kernel
theorem dX12_row_74 : decode cX12_row 74 = .ok (.iinc 4 1, 3) := by decide +kernel
theorem dX12_row_77 : decode cX12_row 77 = .ok (.goto (-23), 3) := by decide +kernel
theorem dX12_row_80 : decode cX12_row 80 = .ok (.iconst 1, 1) := by decide +kernel
theorem dX12_row_81 : decode cX12_row 81 = .ok (.ireturn, 1) := by decide +kernel
theorem dX12_whyNoPlace_0 : decode cX12_whyNoPlace 0 = .ok (.iload_n 1, 1) := by decide +kernel
theorem dX12_whyNoPlace_1 : decode cX12_whyNoPlace 1 = .ok (.invokestatic 149, 3) := by decide +kernel
theorem dX12_whyNoPlace_4 : decode cX12_whyNoPlace 4 = .ok (.ifCond .ne 5, 3) := by decide +kernel
theorem dX12_whyNoPlace_7 : decode cX12_whyNoPlace 7 = .ok (.iconst (-1), 1) := by decide +kernel
theorem dX12_whyNoPlace_8 : decode cX12_whyNoPlace 8 = .ok (.ireturn, 1) := by decide +kernel
theorem dX12_whyNoPlace_9 : decode cX12_whyNoPlace 9 = .ok (.aload_n 0, 1) := by decide +kernel
theorem dX12_whyNoPlace_10 : decode cX12_whyNoPlace 10 = .ok (.getfield 104, 3) := by decide +kernel
theorem dX12_whyNoPlace_13 : decode cX12_whyNoPlace 13 = .ok (.iload_n 1, 1) := by decide +kernel
theorem dX12_whyNoPlace_14 : decode cX12_whyNoPlace 14 = .ok (.iaload, 1) := by decide +kernel
theorem dX12_whyNoPlace_15 : decode cX12_whyNoPlace 15 = .ok (.iconst (-1), 1) := by decide +kernel
theorem dX12_whyNoPlace_16 : decode cX12_whyNoPlace 16 = .ok (.if_icmp .ne 6, 3) := by decide +kernel
theorem dX12_whyNoPlace_19 : decode cX12_whyNoPlace 19 = .ok (.bipush (-11), 2) := by decide +kernel
theorem dX12_whyNoPlace_21 : decode cX12_whyNoPlace 21 = .ok (.ireturn, 1) := by decide +kernel
theorem dX12_whyNoPlace_22 : decode cX12_whyNoPlace 22 = .ok (.aload_n 0, 1) := by decide +kernel
theorem dX12_whyNoPlace_23 : decode cX12_whyNoPlace 23 = .ok (.getfield 104, 3) := by decide +kernel
theorem dX12_whyNoPlace_26 : decode cX12_whyNoPlace 26 = .ok (.iload_n 1, 1) := by decide +kernel
theorem dX12_whyNoPlace_27 : decode cX12_whyNoPlace 27 = .ok (.iaload, 1) := by decide +kernel
theorem dX12_whyNoPlace_28 : decode cX12_whyNoPlace 28 = .ok (.ifCond .lt 6, 3) := by decide +kernel
theorem dX12_whyNoPlace_31 : decode cX12_whyNoPlace 31 = .ok (.bipush (-12), 2) := by decide +kernel
theorem dX12_whyNoPlace_33 : decode cX12_whyNoPlace 33 = .ok (.ireturn, 1) := by decide +kernel
theorem dX12_whyNoPlace_34 : decode cX12_whyNoPlace 34 = .ok (.iload_n 2, 1) := by decide +kernel
theorem dX12_whyNoPlace_35 : decode cX12_whyNoPlace 35 = .ok (.iconst 0, 1) := by decide +kernel
theorem dX12_whyNoPlace_36 : decode cX12_whyNoPlace 36 = .ok (.aload_n 0, 1) := by decide +kernel
theorem dX12_whyNoPlace_37 : decode cX12_whyNoPlace 37 = .ok (.getfield 107, 3) := by decide +kernel
theorem dX12_whyNoPlace_40 : decode cX12_whyNoPlace 40 = .ok (.iload_n 1, 1) := by decide +kernel
theorem dX12_whyNoPlace_41 : decode cX12_whyNoPlace 41 = .ok (.iaload, 1) := by decide +kernel
theorem dX12_whyNoPlace_42 : decode cX12_whyNoPlace 42 = .ok (.iconst 1, 1) := by decide +kernel
theorem dX12_whyNoPlace_43 : decode cX12_whyNoPlace 43 = .ok (.isub, 1) := by decide +kernel
theorem dX12_whyNoPlace_44 : decode cX12_whyNoPlace 44 = .ok (.invokestatic 128, 3) := by decide +kernel
theorem dX12_whyNoPlace_47 : decode cX12_whyNoPlace 47 = .ok (.ifCond .eq 7, 3) := by decide +kernel
theorem dX12_whyNoPlace_50 : decode cX12_whyNoPlace 50 = .ok (.iconst 0, 1) := by decide +kernel
theorem dX12_whyNoPlace_51 : decode cX12_whyNoPlace 51 = .ok (.goto 5, 3) := by decide +kernel
theorem dX12_whyNoPlace_54 : decode cX12_whyNoPlace 54 = .ok (.bipush (-13), 2) := by decide +kernel
theorem dX12_whyNoPlace_56 : decode cX12_whyNoPlace 56 = .ok (.ireturn, 1) := by decide +kernel
theorem dX12_put_0 : decode cX12_put 0 = .ok (.aload_n 0, 1) := by decide +kernel
theorem dX12_put_1 : decode cX12_put 1 = .ok (.iload_n 1, 1) := by decide +kernel
theorem dX12_put_2 : decode cX12_put 2 = .ok (.iload_n 2, 1) := by decide +kernel
theorem dX12_put_3 : decode cX12_put 3 = .ok (.invokevirtual 465, 3) := by decide +kernel
theorem dX12_put_6 : decode cX12_put 6 = .ok (.istore 5, 2) := by decide +kernel
theorem dX12_put_8 : decode cX12_put 8 = .ok (.iload 5, 2) := by decide +kernel
theorem dX12_put_10 : decode cX12_put 10 = .ok (.ifCond .ge 6, 3) := by decide +kernel
theorem dX12_put_13 : decode cX12_put 13 = .ok (.iload 5, 2) := by decide +kernel
theorem dX12_put_15 : decode cX12_put 15 = .ok (.ireturn, 1) := by decide +kernel
theorem dX12_put_16 : decode cX12_put 16 = .ok (.bipush (-2), 2) := by decide +kernel
theorem dX12_put_18 : decode cX12_put 18 = .ok (.aload_n 0, 1) := by decide +kernel
theorem dX12_put_19 : decode cX12_put 19 = .ok (.getfield 104, 3) := by decide +kernel
theorem dX12_put_22 : decode cX12_put 22 = .ok (.iload_n 1, 1) := by decide +kernel
theorem dX12_put_23 : decode cX12_put 23 = .ok (.iaload, 1) := by decide +kernel
theorem dX12_put_24 : decode cX12_put 24 = .ok (.isub, 1) := by decide +kernel
theorem dX12_put_25 : decode cX12_put 25 = .ok (.istore 6, 2) := by decide +kernel
theorem dX12_put_27 : decode cX12_put 27 = .ok (.aload_n 0, 1) := by decide +kernel
theorem dX12_put_28 : decode cX12_put 28 = .ok (.getfield 110, 3) := by decide +kernel
theorem dX12_put_31 : decode cX12_put 31 = .ok (.bipush 60, 2) := by decide +kernel
theorem dX12_put_33 : decode cX12_put 33 = .ok (.iload_n 1, 1) := by decide +kernel
theorem dX12_put_34 : decode cX12_put 34 = .ok (.imul, 1) := by decide +kernel
theorem dX12_put_35 : decode cX12_put 35 = .ok (.iload_n 2, 1) := by decide +kernel
theorem dX12_put_36 : decode cX12_put 36 = .ok (.iadd, 1) := by decide +kernel
theorem dX12_put_37 : decode cX12_put 37 = .ok (.iload 6, 2) := by decide +kernel
theorem dX12_put_39 : decode cX12_put 39 = .ok (.ifCond .ne 10, 3) := by decide +kernel
theorem dX12_put_42 : decode cX12_put 42 = .ok (.lload_n 3, 1) := by decide +kernel
theorem dX12_put_43 : decode cX12_put 43 = .ok (.l2i, 1) := by decide +kernel
theorem dX12_put_44 : decode cX12_put 44 = .ok (.i2b, 1) := by decide +kernel
theorem dX12_put_45 : decode cX12_put 45 = .ok (.i2l, 1) := by decide +kernel
theorem dX12_put_46 : decode cX12_put 46 = .ok (.goto 49, 3) := by decide +kernel
theorem dX12_put_49 : decode cX12_put 49 = .ok (.iload 6, 2) := by decide +kernel
theorem dX12_put_51 : decode cX12_put 51 = .ok (.iconst 1, 1) := by decide +kernel
theorem dX12_put_52 : decode cX12_put 52 = .ok (.if_icmp .ne 10, 3) := by decide +kernel
theorem dX12_put_55 : decode cX12_put 55 = .ok (.lload_n 3, 1) := by decide +kernel
theorem dX12_put_56 : decode cX12_put 56 = .ok (.l2i, 1) := by decide +kernel
theorem dX12_put_57 : decode cX12_put 57 = .ok (.i2s, 1) := by decide +kernel
theorem dX12_put_58 : decode cX12_put 58 = .ok (.i2l, 1) := by decide +kernel
theorem dX12_put_59 : decode cX12_put 59 = .ok (.goto 36, 3) := by decide +kernel
theorem dX12_put_62 : decode cX12_put 62 = .ok (.iload 6, 2) := by decide +kernel
theorem dX12_put_64 : decode cX12_put 64 = .ok (.iconst 2, 1) := by decide +kernel
theorem dX12_put_65 : decode cX12_put 65 = .ok (.if_icmp .ne 9, 3) := by decide +kernel
theorem dX12_put_68 : decode cX12_put 68 = .ok (.lload_n 3, 1) := by decide +kernel
theorem dX12_put_69 : decode cX12_put 69 = .ok (.l2i, 1) := by decide +kernel
theorem dX12_put_70 : decode cX12_put 70 = .ok (.i2l, 1) := by decide +kernel
theorem dX12_put_71 : decode cX12_put 71 = .ok (.goto 24, 3) := by decide +kernel
theorem dX12_put_74 : decode cX12_put 74 = .ok (.iload 6, 2) := by decide +kernel
theorem dX12_put_76 : decode cX12_put 76 = .ok (.iconst 3, 1) := by decide +kernel
theorem dX12_put_77 : decode cX12_put 77 = .ok (.if_icmp .ne 7, 3) := by decide +kernel
theorem dX12_put_80 : decode cX12_put 80 = .ok (.lload_n 3, 1) := by decide +kernel
theorem dX12_put_81 : decode cX12_put 81 = .ok (.goto 14, 3) := by decide +kernel
theorem dX12_put_84 : decode cX12_put 84 = .ok (.lload_n 3, 1) := by decide +kernel
theorem dX12_put_85 : decode cX12_put 85 = .ok (.lconst 0, 1) := by decide +kernel
theorem dX12_put_86 : decode cX12_put 86 = .ok (.lcmp, 1) := by decide +kernel
theorem dX12_put_87 : decode cX12_put 87 = .ok (.ifCond .eq 7, 3) := by decide +kernel
theorem dX12_put_90 : decode cX12_put 90 = .ok (.lconst 1, 1) := by decide +kernel
theorem dX12_put_91 : decode cX12_put 91 = .ok (.goto 4, 3) := by decide +kernel
theorem dX12_put_94 : decode cX12_put 94 = .ok (.lconst 0, 1) := by decide +kernel
theorem dX12_put_95 : decode cX12_put 95 = .ok (.lastore, 1) := by decide +kernel
theorem dX12_put_96 : decode cX12_put 96 = .ok (.iconst 1, 1) := by decide +kernel
theorem dX12_put_97 : decode cX12_put 97 = .ok (.ireturn, 1) := by decide +kernel
theorem dX12_element_0 : decode cX12_element 0 = .ok (.aload_n 0, 1) := by decide +kernel
theorem dX12_element_1 : decode cX12_element 1 = .ok (.iload_n 1, 1) := by decide +kernel
theorem dX12_element_2 : decode cX12_element 2 = .ok (.iload_n 2, 1) := by decide +kernel
theorem dX12_element_3 : decode cX12_element 3 = .ok (.invokevirtual 465, 3) := by decide +kernel
theorem dX12_element_6 : decode cX12_element 6 = .ok (.ifCond .ge 9, 3) := by decide +kernel
theorem dX12_element_9 : decode cX12_element 9 = .ok (.ldc2_w 384, 3) := by decide +kernel
theorem dX12_element_12 : decode cX12_element 12 = .ok (.goto 14, 3) := by decide +kernel
theorem dX12_element_15 : decode cX12_element 15 = .ok (.aload_n 0, 1) := by decide +kernel
theorem dX12_element_16 : decode cX12_element 16 = .ok (.getfield 110, 3) := by decide +kernel
theorem dX12_element_19 : decode cX12_element 19 = .ok (.bipush 60, 2) := by decide +kernel
theorem dX12_element_21 : decode cX12_element 21 = .ok (.iload_n 1, 1) := by decide +kernel
theorem dX12_element_22 : decode cX12_element 22 = .ok (.imul, 1) := by decide +kernel
theorem dX12_element_23 : decode cX12_element 23 = .ok (.iload_n 2, 1) := by decide +kernel
theorem dX12_element_24 : decode cX12_element 24 = .ok (.iadd, 1) := by decide +kernel
theorem dX12_element_25 : decode cX12_element 25 = .ok (.laload, 1) := by decide +kernel
theorem dX12_element_26 : decode cX12_element 26 = .ok (.lreturn, 1) := by decide +kernel
theorem dX12_shift_0 : decode cX12_shift 0 = .ok (.iload_n 1, 1) := by decide +kernel
theorem dX12_shift_1 : decode cX12_shift 1 = .ok (.invokestatic 149, 3) := by decide +kernel
theorem dX12_shift_4 : decode cX12_shift 4 = .ok (.ifCond .eq 10, 3) := by decide +kernel
theorem dX12_shift_7 : decode cX12_shift 7 = .ok (.iload_n 3, 1) := by decide +kernel
theorem dX12_shift_8 : decode cX12_shift 8 = .ok (.invokestatic 149, 3) := by decide +kernel
theorem dX12_shift_11 : decode cX12_shift 11 = .ok (.ifCond .ne 5, 3) := by decide +kernel
theorem dX12_shift_14 : decode cX12_shift 14 = .ok (.iconst (-1), 1) := by decide +kernel
theorem dX12_shift_15 : decode cX12_shift 15 = .ok (.ireturn, 1) := by decide +kernel
theorem dX12_shift_16 : decode cX12_shift 16 = .ok (.aload_n 0, 1) := by decide +kernel
theorem dX12_shift_17 : decode cX12_shift 17 = .ok (.getfield 104, 3) := by decide +kernel
theorem dX12_shift_20 : decode cX12_shift 20 = .ok (.iload_n 1, 1) := by decide +kernel
theorem dX12_shift_21 : decode cX12_shift 21 = .ok (.iaload, 1) := by decide +kernel
theorem dX12_shift_22 : decode cX12_shift 22 = .ok (.iconst (-1), 1) := by decide +kernel
theorem dX12_shift_23 : decode cX12_shift 23 = .ok (.if_icmp .eq 13, 3) := by decide +kernel
theorem dX12_shift_26 : decode cX12_shift 26 = .ok (.aload_n 0, 1) := by decide +kernel
theorem dX12_shift_27 : decode cX12_shift 27 = .ok (.getfield 104, 3) := by decide +kernel
theorem dX12_shift_30 : decode cX12_shift 30 = .ok (.iload_n 3, 1) := by decide +kernel
theorem dX12_shift_31 : decode cX12_shift 31 = .ok (.iaload, 1) := by decide +kernel
theorem dX12_shift_32 : decode cX12_shift 32 = .ok (.iconst (-1), 1) := by decide +kernel
theorem dX12_shift_33 : decode cX12_shift 33 = .ok (.if_icmp .ne 6, 3) := by decide +kernel
theorem dX12_shift_36 : decode cX12_shift 36 = .ok (.bipush (-11), 2) := by decide +kernel
theorem dX12_shift_38 : decode cX12_shift 38 = .ok (.ireturn, 1) := by decide +kernel
theorem dX12_shift_39 : decode cX12_shift 39 = .ok (.aload_n 0, 1) := by decide +kernel
theorem dX12_shift_40 : decode cX12_shift 40 = .ok (.getfield 104, 3) := by decide +kernel
theorem dX12_shift_43 : decode cX12_shift 43 = .ok (.iload_n 1, 1) := by decide +kernel
theorem dX12_shift_44 : decode cX12_shift 44 = .ok (.iaload, 1) := by decide +kernel
theorem dX12_shift_45 : decode cX12_shift 45 = .ok (.ifCond .ge 18, 3) := by decide +kernel
theorem dX12_shift_48 : decode cX12_shift 48 = .ok (.aload_n 0, 1) := by decide +kernel
theorem dX12_shift_49 : decode cX12_shift 49 = .ok (.getfield 104, 3) := by decide +kernel
theorem dX12_shift_52 : decode cX12_shift 52 = .ok (.iload_n 1, 1) := by decide +kernel
theorem dX12_shift_53 : decode cX12_shift 53 = .ok (.iaload, 1) := by decide +kernel
theorem dX12_shift_54 : decode cX12_shift 54 = .ok (.aload_n 0, 1) := by decide +kernel
theorem dX12_shift_55 : decode cX12_shift 55 = .ok (.getfield 104, 3) := by decide +kernel
theorem dX12_shift_58 : decode cX12_shift 58 = .ok (.iload_n 3, 1) := by decide +kernel
theorem dX12_shift_59 : decode cX12_shift 59 = .ok (.iaload, 1) := by decide +kernel
theorem dX12_shift_60 : decode cX12_shift 60 = .ok (.if_icmp .eq 6, 3) := by decide +kernel
theorem dX12_shift_63 : decode cX12_shift 63 = .ok (.bipush (-12), 2) := by decide +kernel
theorem dX12_shift_65 : decode cX12_shift 65 = .ok (.ireturn, 1) := by decide +kernel
theorem dX12_shift_66 : decode cX12_shift 66 = .ok (.iload 5, 2) := by decide +kernel
theorem dX12_shift_68 : decode cX12_shift 68 = .ok (.ifCond .lt 39, 3) := by decide +kernel
theorem dX12_shift_71 : decode cX12_shift 71 = .ok (.iload_n 2, 1) := by decide +kernel
theorem dX12_shift_72 : decode cX12_shift 72 = .ok (.ifCond .lt 35, 3) := by decide +kernel
theorem dX12_shift_75 : decode cX12_shift 75 = .ok (.iload 4, 2) := by decide +kernel
theorem dX12_shift_77 : decode cX12_shift 77 = .ok (.ifCond .lt 30, 3) := by decide +kernel
theorem dX12_shift_80 : decode cX12_shift 80 = .ok (.iload_n 2, 1) := by decide +kernel
theorem dX12_shift_81 : decode cX12_shift 81 = .ok (.aload_n 0, 1) := by decide +kernel
theorem dX12_shift_82 : decode cX12_shift 82 = .ok (.getfield 107, 3) := by decide +kernel
theorem dX12_shift_85 : decode cX12_shift 85 = .ok (.iload_n 1, 1) := by decide +kernel
theorem dX12_shift_86 : decode cX12_shift 86 = .ok (.iaload, 1) := by decide +kernel
theorem dX12_shift_87 : decode cX12_shift 87 = .ok (.iload 5, 2) := by decide +kernel
theorem dX12_shift_89 : decode cX12_shift 89 = .ok (.isub, 1) := by decide +kernel
theorem dX12_shift_90 : decode cX12_shift 90 = .ok (.if_icmp .gt 17, 3) := by decide +kernel
theorem dX12_shift_93 : decode cX12_shift 93 = .ok (.iload 4, 2) := by decide +kernel
theorem dX12_shift_95 : decode cX12_shift 95 = .ok (.aload_n 0, 1) := by decide +kernel
theorem dX12_shift_96 : decode cX12_shift 96 = .ok (.getfield 107, 3) := by decide +kernel
theorem dX12_shift_99 : decode cX12_shift 99 = .ok (.iload_n 3, 1) := by decide +kernel
theorem dX12_shift_100 : decode cX12_shift 100 = .ok (.iaload, 1) := by decide +kernel
theorem dX12_shift_101 : decode cX12_shift 101 = .ok (.iload 5, 2) := by decide +kernel
theorem dX12_shift_103 : decode cX12_shift 103 = .ok (.isub, 1) := by decide +kernel
theorem dX12_shift_104 : decode cX12_shift 104 = .ok (.if_icmp .le 6, 3) := by decide +kernel
theorem dX12_shift_107 : decode cX12_shift 107 = .ok (.bipush (-13), 2) := by decide +kernel
theorem dX12_shift_109 : decode cX12_shift 109 = .ok (.ireturn, 1) := by decide +kernel
theorem dX12_shift_110 : decode cX12_shift 110 = .ok (.iconst 0, 1) := by decide +kernel
theorem dX12_shift_111 : decode cX12_shift 111 = .ok (.istore 6, 2) := by decide +kernel
theorem dX12_shift_113 : decode cX12_shift 113 = .ok (.iload 6, 2) := by decide +kernel
theorem dX12_shift_115 : decode cX12_shift 115 = .ok (.iload 5, 2) := by decide +kernel
theorem dX12_shift_117 : decode cX12_shift 117 = .ok (.if_icmp .ge 30, 3) := by decide +kernel
theorem dX12_shift_120 : decode cX12_shift 120 = .ok (.aload_n 0, 1) := by decide +kernel
theorem dX12_shift_121 : decode cX12_shift 121 = .ok (.getfield 114, 3) := by decide +kernel
theorem dX12_shift_124 : decode cX12_shift 124 = .ok (.iload 6, 2) := by decide +kernel
theorem dX12_shift_126 : decode cX12_shift 126 = .ok (.aload_n 0, 1) := by decide +kernel
theorem dX12_shift_127 : decode cX12_shift 127 = .ok (.getfield 110, 3) := by decide +kernel
theorem dX12_shift_130 : decode cX12_shift 130 = .ok (.bipush 60, 2) := by decide +kernel
theorem dX12_shift_132 : decode cX12_shift 132 = .ok (.iload_n 1, 1) := by decide +kernel
theorem dX12_shift_133 : decode cX12_shift 133 = .ok (.imul, 1) := by decide +kernel
theorem dX12_shift_134 : decode cX12_shift 134 = .ok (.iload_n 2, 1) := by decide +kernel
theorem dX12_shift_135 : decode cX12_shift 135 = .ok (.iadd, 1) := by decide +kernel
theorem dX12_shift_136 : decode cX12_shift 136 = .ok (.iload 6, 2) := by decide +kernel
theorem dX12_shift_138 : decode cX12_shift 138 = .ok (.iadd, 1) := by decide +kernel
theorem dX12_shift_139 : decode cX12_shift 139 = .ok (.laload, 1) := by decide +kernel
theorem dX12_shift_140 : decode cX12_shift 140 = .ok (.lastore, 1) := by decide +kernel
theorem dX12_shift_141 : decode cX12_shift 141 = .ok (.iinc 6 1, 3) := by decide +kernel
theorem dX12_shift_144 : decode cX12_shift 144 = .ok (.goto (-31), 3) := by decide +kernel
theorem dX12_shift_147 : decode cX12_shift 147 = .ok (.iconst 0, 1) := by decide +kernel
theorem dX12_shift_148 : decode cX12_shift 148 = .ok (.istore 6, 2) := by decide +kernel
theorem dX12_shift_150 : decode cX12_shift 150 = .ok (.iload 6, 2) := by decide +kernel
theorem dX12_shift_152 : decode cX12_shift 152 = .ok (.iload 5, 2) := by decide +kernel
theorem dX12_shift_154 : decode cX12_shift 154 = .ok (.if_icmp .ge 31, 3) := by decide +kernel
theorem dX12_shift_157 : decode cX12_shift 157 = .ok (.aload_n 0, 1) := by decide +kernel
theorem dX12_shift_158 : decode cX12_shift 158 = .ok (.getfield 110, 3) := by decide +kernel
theorem dX12_shift_161 : decode cX12_shift 161 = .ok (.bipush 60, 2) := by decide +kernel
theorem dX12_shift_163 : decode cX12_shift 163 = .ok (.iload_n 3, 1) := by decide +kernel
theorem dX12_shift_164 : decode cX12_shift 164 = .ok (.imul, 1) := by decide +kernel
theorem dX12_shift_165 : decode cX12_shift 165 = .ok (.iload 4, 2) := by decide +kernel
theorem dX12_shift_167 : decode cX12_shift 167 = .ok (.iadd, 1) := by decide +kernel
theorem dX12_shift_168 : decode cX12_shift 168 = .ok (.iload 6, 2) := by decide +kernel
theorem dX12_shift_170 : decode cX12_shift 170 = .ok (.iadd, 1) := by decide +kernel
theorem dX12_shift_171 : decode cX12_shift 171 = .ok (.aload_n 0, 1) := by decide +kernel
theorem dX12_shift_172 : decode cX12_shift 172 = .ok (.getfield 114, 3) := by decide +kernel
theorem dX12_shift_175 : decode cX12_shift 175 = .ok (.iload 6, 2) := by decide +kernel
theorem dX12_shift_177 : decode cX12_shift 177 = .ok (.laload, 1) := by decide +kernel
theorem dX12_shift_178 : decode cX12_shift 178 = .ok (.lastore, 1) := by decide +kernel
theorem dX12_shift_179 : decode cX12_shift 179 = .ok (.iinc 6 1, 3) := by decide +kernel
theorem dX12_shift_182 : decode cX12_shift 182 = .ok (.goto (-32), 3) := by decide +kernel
theorem dX12_shift_185 : decode cX12_shift 185 = .ok (.iload 5, 2) := by decide +kernel
theorem dX12_shift_187 : decode cX12_shift 187 = .ok (.ireturn, 1) := by decide +kernel
theorem dX12_taken_0 : decode cX12_taken 0 = .ok (.iload_n 1, 1) := by decide +kernel
theorem dX12_taken_1 : decode cX12_taken 1 = .ok (.invokestatic 149, 3) := by decide +kernel
theorem dX12_taken_4 : decode cX12_taken 4 = .ok (.ifCond .eq 13, 3) := by decide +kernel
theorem dX12_taken_7 : decode cX12_taken 7 = .ok (.iload_n 2, 1) := by decide +kernel
theorem dX12_taken_8 : decode cX12_taken 8 = .ok (.iconst 0, 1) := by decide +kernel
theorem dX12_taken_9 : decode cX12_taken 9 = .ok (.bipush 7, 2) := by decide +kernel
theorem dX12_taken_11 : decode cX12_taken 11 = .ok (.invokestatic 128, 3) := by decide +kernel
theorem dX12_taken_14 : decode cX12_taken 14 = .ok (.ifCond .ne 5, 3) := by decide +kernel
theorem dX12_taken_17 : decode cX12_taken 17 = .ok (.iconst (-1), 1) := by decide +kernel
theorem dX12_taken_18 : decode cX12_taken 18 = .ok (.ireturn, 1) := by decide +kernel
theorem dX12_taken_19 : decode cX12_taken 19 = .ok (.aload_n 0, 1) := by decide +kernel
theorem dX12_taken_20 : decode cX12_taken 20 = .ok (.getfield 104, 3) := by decide +kernel
theorem dX12_taken_23 : decode cX12_taken 23 = .ok (.iload_n 1, 1) := by decide +kernel
theorem dX12_taken_24 : decode cX12_taken 24 = .ok (.iaload, 1) := by decide +kernel
theorem dX12_taken_25 : decode cX12_taken 25 = .ok (.iconst (-1), 1) := by decide +kernel
theorem dX12_taken_26 : decode cX12_taken 26 = .ok (.if_icmp .ne 6, 3) := by decide +kernel
theorem dX12_taken_29 : decode cX12_taken 29 = .ok (.bipush (-11), 2) := by decide +kernel
theorem dX12_taken_31 : decode cX12_taken 31 = .ok (.ireturn, 1) := by decide +kernel
theorem dX12_taken_32 : decode cX12_taken 32 = .ok (.aload_n 0, 1) := by decide +kernel
theorem dX12_taken_33 : decode cX12_taken 33 = .ok (.getfield 104, 3) := by decide +kernel
theorem dX12_taken_36 : decode cX12_taken 36 = .ok (.iload_n 1, 1) := by decide +kernel
theorem dX12_taken_37 : decode cX12_taken 37 = .ok (.iaload, 1) := by decide +kernel
theorem dX12_taken_38 : decode cX12_taken 38 = .ok (.ifCond .lt 35, 3) := by decide +kernel
theorem dX12_taken_41 : decode cX12_taken 41 = .ok (.aload_n 0, 1) := by decide +kernel
theorem dX12_taken_42 : decode cX12_taken 42 = .ok (.getfield 98, 3) := by decide +kernel
theorem dX12_taken_45 : decode cX12_taken 45 = .ok (.aload_n 0, 1) := by decide +kernel
theorem dX12_taken_46 : decode cX12_taken 46 = .ok (.getfield 104, 3) := by decide +kernel
theorem dX12_taken_49 : decode cX12_taken 49 = .ok (.iload_n 1, 1) := by decide +kernel
theorem dX12_taken_50 : decode cX12_taken 50 = .ok (.iaload, 1) := by decide +kernel
theorem dX12_taken_51 : decode cX12_taken 51 = .ok (.iaload, 1) := by decide +kernel
theorem dX12_taken_52 : decode cX12_taken 52 = .ok (.iload_n 2, 1) := by decide +kernel
theorem dX12_taken_53 : decode cX12_taken 53 = .ok (.invokestatic 429, 3) := by decide +kernel
theorem dX12_taken_56 : decode cX12_taken 56 = .ok (.ifCond .eq 17, 3) := by decide +kernel
theorem dX12_taken_59 : decode cX12_taken 59 = .ok (.aload_n 0, 1) := by decide +kernel
theorem dX12_taken_60 : decode cX12_taken 60 = .ok (.getfield 98, 3) := by decide +kernel
theorem dX12_taken_63 : decode cX12_taken 63 = .ok (.aload_n 0, 1) := by decide +kernel
theorem dX12_taken_64 : decode cX12_taken 64 = .ok (.getfield 104, 3) := by decide +kernel
theorem dX12_taken_67 : decode cX12_taken 67 = .ok (.iload_n 1, 1) := by decide +kernel
theorem dX12_taken_68 : decode cX12_taken 68 = .ok (.iaload, 1) := by decide +kernel
theorem dX12_taken_69 : decode cX12_taken 69 = .ok (.iaload, 1) := by decide +kernel
theorem dX12_taken_70 : decode cX12_taken 70 = .ok (.goto 5, 3) := by decide +kernel
theorem dX12_taken_73 : decode cX12_taken 73 = .ok (.bipush (-12), 2) := by decide +kernel
theorem dX12_taken_75 : decode cX12_taken 75 = .ok (.ireturn, 1) := by decide +kernel
theorem dJ6_bitCount_0f7a4_0 : decode cJ6_bitCount_0f7a4 0 = .ok (.iload_n 0, 1) := by decide +kernel
theorem dJ6_bitCount_0f7a4_1 : decode cJ6_bitCount_0f7a4 1 = .ok (.iload_n 0, 1) := by decide +kernel
theorem dJ6_bitCount_0f7a4_2 : decode cJ6_bitCount_0f7a4 2 = .ok (.iconst 1, 1) := by decide +kernel
theorem dJ6_bitCount_0f7a4_3 : decode cJ6_bitCount_0f7a4 3 = .ok (.iushr, 1) := by decide +kernel
theorem dJ6_bitCount_0f7a4_4 : decode cJ6_bitCount_0f7a4 4 = .ok (.ldc_w 265, 3) := by decide +kernel
theorem dJ6_bitCount_0f7a4_7 : decode cJ6_bitCount_0f7a4 7 = .ok (.iand, 1) := by decide +kernel
theorem dJ6_bitCount_0f7a4_8 : decode cJ6_bitCount_0f7a4 8 = .ok (.isub, 1) := by decide +kernel
theorem dJ6_bitCount_0f7a4_9 : decode cJ6_bitCount_0f7a4 9 = .ok (.istore_n 0, 1) := by decide +kernel
theorem dJ6_bitCount_0f7a4_10 : decode cJ6_bitCount_0f7a4 10 = .ok (.iload_n 0, 1) := by decide +kernel
theorem dJ6_bitCount_0f7a4_11 : decode cJ6_bitCount_0f7a4 11 = .ok (.ldc_w 266, 3) := by decide +kernel
theorem dJ6_bitCount_0f7a4_14 : decode cJ6_bitCount_0f7a4 14 = .ok (.iand, 1) := by decide +kernel
theorem dJ6_bitCount_0f7a4_15 : decode cJ6_bitCount_0f7a4 15 = .ok (.iload_n 0, 1) := by decide +kernel
theorem dJ6_bitCount_0f7a4_16 : decode cJ6_bitCount_0f7a4 16 = .ok (.iconst 2, 1) := by decide +kernel
theorem dJ6_bitCount_0f7a4_17 : decode cJ6_bitCount_0f7a4 17 = .ok (.iushr, 1) := by decide +kernel
theorem dJ6_bitCount_0f7a4_18 : decode cJ6_bitCount_0f7a4 18 = .ok (.ldc_w 266, 3) := by decide +kernel
theorem dJ6_bitCount_0f7a4_21 : decode cJ6_bitCount_0f7a4 21 = .ok (.iand, 1) := by decide +kernel
theorem dJ6_bitCount_0f7a4_22 : decode cJ6_bitCount_0f7a4 22 = .ok (.iadd, 1) := by decide +kernel
theorem dJ6_bitCount_0f7a4_23 : decode cJ6_bitCount_0f7a4 23 = .ok (.istore_n 0, 1) := by decide +kernel
theorem dJ6_bitCount_0f7a4_24 : decode cJ6_bitCount_0f7a4 24 = .ok (.iload_n 0, 1) := by decide +kernel
theorem dJ6_bitCount_0f7a4_25 : decode cJ6_bitCount_0f7a4 25 = .ok (.iload_n 0, 1) := by decide +kernel
theorem dJ6_bitCount_0f7a4_26 : decode cJ6_bitCount_0f7a4 26 = .ok (.iconst 4, 1) := by decide +kernel
theorem dJ6_bitCount_0f7a4_27 : decode cJ6_bitCount_0f7a4 27 = .ok (.iushr, 1) := by decide +kernel
theorem dJ6_bitCount_0f7a4_28 : decode cJ6_bitCount_0f7a4 28 = .ok (.iadd, 1) := by decide +kernel
theorem dJ6_bitCount_0f7a4_29 : decode cJ6_bitCount_0f7a4 29 = .ok (.ldc_w 267, 3) := by decide +kernel
theorem dJ6_bitCount_0f7a4_32 : decode cJ6_bitCount_0f7a4 32 = .ok (.iand, 1) := by decide +kernel
theorem dJ6_bitCount_0f7a4_33 : decode cJ6_bitCount_0f7a4 33 = .ok (.istore_n 0, 1) := by decide +kernel
theorem dJ6_bitCount_0f7a4_34 : decode cJ6_bitCount_0f7a4 34 = .ok (.iload_n 0, 1) := by decide +kernel
theorem dJ6_bitCount_0f7a4_35 : decode cJ6_bitCount_0f7a4 35 = .ok (.iload_n 0, 1) := by decide +kernel
theorem dJ6_bitCount_0f7a4_36 : decode cJ6_bitCount_0f7a4 36 = .ok (.bipush 8, 2) := by decide +kernel
theorem dJ6_bitCount_0f7a4_38 : decode cJ6_bitCount_0f7a4 38 = .ok (.iushr, 1) := by decide +kernel
