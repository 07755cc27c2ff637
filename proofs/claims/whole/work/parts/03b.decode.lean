theorem dX4_passHour_73 : decode cX4_passHour 73 = .ok (.getfield 67, 3) := by decide +kernel
theorem dX4_passHour_76 : decode cX4_passHour 76 = .ok (.iload_n 1, 1) := by decide +kernel
theorem dX4_passHour_77 : decode cX4_passHour 77 = .ok (.iconst 0, 1) := by decide +kernel
theorem dX4_passHour_78 : decode cX4_passHour 78 = .ok (.aload_n 0, 1) := by decide +kernel
theorem dX4_passHour_79 : decode cX4_passHour 79 = .ok (.getfield 31, 3) := by decide +kernel
theorem dX4_passHour_82 : decode cX4_passHour 82 = .ok (.getfield 67, 3) := by decide +kernel
theorem dX4_passHour_85 : decode cX4_passHour 85 = .ok (.iload_n 1, 1) := by decide +kernel
theorem dX4_passHour_86 : decode cX4_passHour 86 = .ok (.iaload, 1) := by decide +kernel
theorem dX4_passHour_87 : decode cX4_passHour 87 = .ok (.iconst 1, 1) := by decide +kernel
theorem dX4_passHour_88 : decode cX4_passHour 88 = .ok (.isub, 1) := by decide +kernel
theorem dX4_passHour_89 : decode cX4_passHour 89 = .ok (.invokestatic 70, 3) := by decide +kernel
theorem dX4_passHour_92 : decode cX4_passHour 92 = .ok (.iastore, 1) := by decide +kernel
theorem dX4_passHour_93 : decode cX4_passHour 93 = .ok (.aload_n 0, 1) := by decide +kernel
theorem dX4_passHour_94 : decode cX4_passHour 94 = .ok (.getfield 11, 3) := by decide +kernel
theorem dX4_passHour_97 : decode cX4_passHour 97 = .ok (.iconst 1, 1) := by decide +kernel
theorem dX4_passHour_98 : decode cX4_passHour 98 = .ok (.dup2, 1) := by decide +kernel
theorem dX4_passHour_99 : decode cX4_passHour 99 = .ok (.iaload, 1) := by decide +kernel
theorem dX4_passHour_100 : decode cX4_passHour 100 = .ok (.aload_n 2, 1) := by decide +kernel
theorem dX4_passHour_101 : decode cX4_passHour 101 = .ok (.getfield 76, 3) := by decide +kernel
theorem dX4_passHour_104 : decode cX4_passHour 104 = .ok (.iadd, 1) := by decide +kernel
theorem dX4_passHour_105 : decode cX4_passHour 105 = .ok (.iastore, 1) := by decide +kernel
theorem dX4_passHour_106 : decode cX4_passHour 106 = .ok (.aload_n 0, 1) := by decide +kernel
theorem dX4_passHour_107 : decode cX4_passHour 107 = .ok (.getfield 11, 3) := by decide +kernel
theorem dX4_passHour_110 : decode cX4_passHour 110 = .ok (.iconst 4, 1) := by decide +kernel
theorem dX4_passHour_111 : decode cX4_passHour 111 = .ok (.dup2, 1) := by decide +kernel
theorem dX4_passHour_112 : decode cX4_passHour 112 = .ok (.iaload, 1) := by decide +kernel
theorem dX4_passHour_113 : decode cX4_passHour 113 = .ok (.aload_n 0, 1) := by decide +kernel
theorem dX4_passHour_114 : decode cX4_passHour 114 = .ok (.getfield 31, 3) := by decide +kernel
theorem dX4_passHour_117 : decode cX4_passHour 117 = .ok (.iload_n 3, 1) := by decide +kernel
theorem dX4_passHour_118 : decode cX4_passHour 118 = .ok (.iconst 3, 1) := by decide +kernel
theorem dX4_passHour_119 : decode cX4_passHour 119 = .ok (.ishr, 1) := by decide +kernel
theorem dX4_passHour_120 : decode cX4_passHour 120 = .ok (.invokevirtual 79, 3) := by decide +kernel
theorem dX4_passHour_123 : decode cX4_passHour 123 = .ok (.invokestatic 83, 3) := by decide +kernel
theorem dX4_passHour_126 : decode cX4_passHour 126 = .ok (.iadd, 1) := by decide +kernel
theorem dX4_passHour_127 : decode cX4_passHour 127 = .ok (.iastore, 1) := by decide +kernel
theorem dX4_passHour_128 : decode cX4_passHour 128 = .ok (.iinc 1 1, 3) := by decide +kernel
theorem dX4_passHour_131 : decode cX4_passHour 131 = .ok (.goto (-129), 3) := by decide +kernel
theorem dX4_passHour_134 : decode cX4_passHour 134 = .ok (.aload_n 0, 1) := by decide +kernel
theorem dX4_passHour_135 : decode cX4_passHour 135 = .ok (.getfield 31, 3) := by decide +kernel
theorem dX4_passHour_138 : decode cX4_passHour 138 = .ok (.bipush 99, 2) := by decide +kernel
theorem dX4_passHour_140 : decode cX4_passHour 140 = .ok (.aload_n 0, 1) := by decide +kernel
theorem dX4_passHour_141 : decode cX4_passHour 141 = .ok (.getfield 31, 3) := by decide +kernel
theorem dX4_passHour_144 : decode cX4_passHour 144 = .ok (.getfield 88, 3) := by decide +kernel
theorem dX4_passHour_147 : decode cX4_passHour 147 = .ok (.iconst 1, 1) := by decide +kernel
theorem dX4_passHour_148 : decode cX4_passHour 148 = .ok (.iadd, 1) := by decide +kernel
theorem dX4_passHour_149 : decode cX4_passHour 149 = .ok (.invokestatic 91, 3) := by decide +kernel
theorem dX4_passHour_152 : decode cX4_passHour 152 = .ok (.putfield 88, 3) := by decide +kernel
theorem dX4_passHour_155 : decode cX4_passHour 155 = .ok (.aload_n 0, 1) := by decide +kernel
theorem dX4_passHour_156 : decode cX4_passHour 156 = .ok (.getfield 11, 3) := by decide +kernel
theorem dX4_passHour_159 : decode cX4_passHour 159 = .ok (.iconst 0, 1) := by decide +kernel
theorem dX4_passHour_160 : decode cX4_passHour 160 = .ok (.dup2, 1) := by decide +kernel
theorem dX4_passHour_161 : decode cX4_passHour 161 = .ok (.iaload, 1) := by decide +kernel
theorem dX4_passHour_162 : decode cX4_passHour 162 = .ok (.iconst 1, 1) := by decide +kernel
theorem dX4_passHour_163 : decode cX4_passHour 163 = .ok (.iadd, 1) := by decide +kernel
theorem dX4_passHour_164 : decode cX4_passHour 164 = .ok (.iastore, 1) := by decide +kernel
theorem dX4_passHour_165 : decode cX4_passHour 165 = .ok (.return_, 1) := by decide +kernel
theorem dX4_pullRein_0 : decode cX4_pullRein 0 = .ok (.aload_n 0, 1) := by decide +kernel
theorem dX4_pullRein_1 : decode cX4_pullRein 1 = .ok (.getfield 31, 3) := by decide +kernel
theorem dX4_pullRein_4 : decode cX4_pullRein 4 = .ok (.getfield 64, 3) := by decide +kernel
theorem dX4_pullRein_7 : decode cX4_pullRein 7 = .ok (.iload_n 1, 1) := by decide +kernel
theorem dX4_pullRein_8 : decode cX4_pullRein 8 = .ok (.aload_n 0, 1) := by decide +kernel
theorem dX4_pullRein_9 : decode cX4_pullRein 9 = .ok (.getfield 31, 3) := by decide +kernel
theorem dX4_pullRein_12 : decode cX4_pullRein 12 = .ok (.getfield 64, 3) := by decide +kernel
theorem dX4_pullRein_15 : decode cX4_pullRein 15 = .ok (.iload_n 1, 1) := by decide +kernel
theorem dX4_pullRein_16 : decode cX4_pullRein 16 = .ok (.iaload, 1) := by decide +kernel
theorem dX4_pullRein_17 : decode cX4_pullRein 17 = .ok (.iload_n 2, 1) := by decide +kernel
theorem dX4_pullRein_18 : decode cX4_pullRein 18 = .ok (.iadd, 1) := by decide +kernel
theorem dX4_pullRein_19 : decode cX4_pullRein 19 = .ok (.bipush 7, 2) := by decide +kernel
theorem dX4_pullRein_21 : decode cX4_pullRein 21 = .ok (.iand, 1) := by decide +kernel
theorem dX4_pullRein_22 : decode cX4_pullRein 22 = .ok (.iastore, 1) := by decide +kernel
theorem dX4_pullRein_23 : decode cX4_pullRein 23 = .ok (.aload_n 0, 1) := by decide +kernel
theorem dX4_pullRein_24 : decode cX4_pullRein 24 = .ok (.getfield 11, 3) := by decide +kernel
theorem dX4_pullRein_27 : decode cX4_pullRein 27 = .ok (.iconst 2, 1) := by decide +kernel
theorem dX4_pullRein_28 : decode cX4_pullRein 28 = .ok (.dup2, 1) := by decide +kernel
theorem dX4_pullRein_29 : decode cX4_pullRein 29 = .ok (.iaload, 1) := by decide +kernel
theorem dX4_pullRein_30 : decode cX4_pullRein 30 = .ok (.iconst 1, 1) := by decide +kernel
theorem dX4_pullRein_31 : decode cX4_pullRein 31 = .ok (.iadd, 1) := by decide +kernel
theorem dX4_pullRein_32 : decode cX4_pullRein 32 = .ok (.iastore, 1) := by decide +kernel
theorem dX4_pullRein_33 : decode cX4_pullRein 33 = .ok (.aload_n 0, 1) := by decide +kernel
theorem dX4_pullRein_34 : decode cX4_pullRein 34 = .ok (.getfield 31, 3) := by decide +kernel
theorem dX4_pullRein_37 : decode cX4_pullRein 37 = .ok (.getfield 64, 3) := by decide +kernel
theorem dX4_pullRein_40 : decode cX4_pullRein 40 = .ok (.iload_n 1, 1) := by decide +kernel
theorem dX4_pullRein_41 : decode cX4_pullRein 41 = .ok (.iaload, 1) := by decide +kernel
theorem dX4_pullRein_42 : decode cX4_pullRein 42 = .ok (.ireturn, 1) := by decide +kernel
theorem dX4_putShoe_0 : decode cX4_putShoe 0 = .ok (.aload_n 0, 1) := by decide +kernel
theorem dX4_putShoe_1 : decode cX4_putShoe 1 = .ok (.getfield 31, 3) := by decide +kernel
theorem dX4_putShoe_4 : decode cX4_putShoe 4 = .ok (.getfield 67, 3) := by decide +kernel
theorem dX4_putShoe_7 : decode cX4_putShoe 7 = .ok (.iload_n 1, 1) := by decide +kernel
theorem dX4_putShoe_8 : decode cX4_putShoe 8 = .ok (.iaload, 1) := by decide +kernel
theorem dX4_putShoe_9 : decode cX4_putShoe 9 = .ok (.istore_n 2, 1) := by decide +kernel
theorem dX4_putShoe_10 : decode cX4_putShoe 10 = .ok (.aload_n 0, 1) := by decide +kernel
theorem dX4_putShoe_11 : decode cX4_putShoe 11 = .ok (.getfield 31, 3) := by decide +kernel
theorem dX4_putShoe_14 : decode cX4_putShoe 14 = .ok (.getfield 67, 3) := by decide +kernel
theorem dX4_putShoe_17 : decode cX4_putShoe 17 = .ok (.iload_n 1, 1) := by decide +kernel
theorem dX4_putShoe_18 : decode cX4_putShoe 18 = .ok (.bipush 9, 2) := by decide +kernel
theorem dX4_putShoe_20 : decode cX4_putShoe 20 = .ok (.iastore, 1) := by decide +kernel
theorem dX4_putShoe_21 : decode cX4_putShoe 21 = .ok (.aload_n 0, 1) := by decide +kernel
theorem dX4_putShoe_22 : decode cX4_putShoe 22 = .ok (.getfield 11, 3) := by decide +kernel
theorem dX4_putShoe_25 : decode cX4_putShoe 25 = .ok (.iconst 3, 1) := by decide +kernel
theorem dX4_putShoe_26 : decode cX4_putShoe 26 = .ok (.dup2, 1) := by decide +kernel
theorem dX4_putShoe_27 : decode cX4_putShoe 27 = .ok (.iaload, 1) := by decide +kernel
theorem dX4_putShoe_28 : decode cX4_putShoe 28 = .ok (.iconst 1, 1) := by decide +kernel
theorem dX4_putShoe_29 : decode cX4_putShoe 29 = .ok (.iadd, 1) := by decide +kernel
theorem dX4_putShoe_30 : decode cX4_putShoe 30 = .ok (.iastore, 1) := by decide +kernel
theorem dX4_putShoe_31 : decode cX4_putShoe 31 = .ok (.iload_n 2, 1) := by decide +kernel
theorem dX4_putShoe_32 : decode cX4_putShoe 32 = .ok (.ireturn, 1) := by decide +kernel
theorem dX4_keepImage_0 : decode cX4_keepImage 0 = .ok (.aload_n 0, 1) := by decide +kernel
theorem dX4_keepImage_1 : decode cX4_keepImage 1 = .ok (.aload_n 0, 1) := by decide +kernel
theorem dX4_keepImage_2 : decode cX4_keepImage 2 = .ok (.getfield 31, 3) := by decide +kernel
theorem dX4_keepImage_5 : decode cX4_keepImage 5 = .ok (.getfield 39, 3) := by decide +kernel
theorem dX4_keepImage_8 : decode cX4_keepImage 8 = .ok (.putfield 15, 3) := by decide +kernel
theorem dX4_keepImage_11 : decode cX4_keepImage 11 = .ok (.aload_n 0, 1) := by decide +kernel
theorem dX4_keepImage_12 : decode cX4_keepImage 12 = .ok (.aload_n 0, 1) := by decide +kernel
theorem dX4_keepImage_13 : decode cX4_keepImage 13 = .ok (.getfield 31, 3) := by decide +kernel
theorem dX4_keepImage_16 : decode cX4_keepImage 16 = .ok (.getfield 88, 3) := by decide +kernel
theorem dX4_keepImage_19 : decode cX4_keepImage 19 = .ok (.putfield 94, 3) := by decide +kernel
theorem dX4_keepImage_22 : decode cX4_keepImage 22 = .ok (.aload_n 0, 1) := by decide +kernel
theorem dX4_keepImage_23 : decode cX4_keepImage 23 = .ok (.getfield 31, 3) := by decide +kernel
theorem dX4_keepImage_26 : decode cX4_keepImage 26 = .ok (.getfield 61, 3) := by decide +kernel
theorem dX4_keepImage_29 : decode cX4_keepImage 29 = .ok (.iconst 0, 1) := by decide +kernel
theorem dX4_keepImage_30 : decode cX4_keepImage 30 = .ok (.aload_n 0, 1) := by decide +kernel
theorem dX4_keepImage_31 : decode cX4_keepImage 31 = .ok (.getfield 19, 3) := by decide +kernel
theorem dX4_keepImage_34 : decode cX4_keepImage 34 = .ok (.iconst 0, 1) := by decide +kernel
theorem dX4_keepImage_35 : decode cX4_keepImage 35 = .ok (.bipush 6, 2) := by decide +kernel
theorem dX4_keepImage_37 : decode cX4_keepImage 37 = .ok (.invokestatic 97, 3) := by decide +kernel
theorem dX4_keepImage_40 : decode cX4_keepImage 40 = .ok (.aload_n 0, 1) := by decide +kernel
theorem dX4_keepImage_41 : decode cX4_keepImage 41 = .ok (.getfield 31, 3) := by decide +kernel
theorem dX4_keepImage_44 : decode cX4_keepImage 44 = .ok (.getfield 64, 3) := by decide +kernel
theorem dX4_keepImage_47 : decode cX4_keepImage 47 = .ok (.iconst 0, 1) := by decide +kernel
theorem dX4_keepImage_48 : decode cX4_keepImage 48 = .ok (.aload_n 0, 1) := by decide +kernel
theorem dX4_keepImage_49 : decode cX4_keepImage 49 = .ok (.getfield 22, 3) := by decide +kernel
theorem dX4_keepImage_52 : decode cX4_keepImage 52 = .ok (.iconst 0, 1) := by decide +kernel
theorem dX4_keepImage_53 : decode cX4_keepImage 53 = .ok (.bipush 6, 2) := by decide +kernel
theorem dX4_keepImage_55 : decode cX4_keepImage 55 = .ok (.invokestatic 97, 3) := by decide +kernel
theorem dX4_keepImage_58 : decode cX4_keepImage 58 = .ok (.aload_n 0, 1) := by decide +kernel
theorem dX4_keepImage_59 : decode cX4_keepImage 59 = .ok (.getfield 31, 3) := by decide +kernel
theorem dX4_keepImage_62 : decode cX4_keepImage 62 = .ok (.getfield 67, 3) := by decide +kernel
theorem dX4_keepImage_65 : decode cX4_keepImage 65 = .ok (.iconst 0, 1) := by decide +kernel
theorem dX4_keepImage_66 : decode cX4_keepImage 66 = .ok (.aload_n 0, 1) := by decide +kernel
theorem dX4_keepImage_67 : decode cX4_keepImage 67 = .ok (.getfield 25, 3) := by decide +kernel
theorem dX4_keepImage_70 : decode cX4_keepImage 70 = .ok (.iconst 0, 1) := by decide +kernel
theorem dX4_keepImage_71 : decode cX4_keepImage 71 = .ok (.bipush 6, 2) := by decide +kernel
theorem dX4_keepImage_73 : decode cX4_keepImage 73 = .ok (.invokestatic 97, 3) := by decide +kernel
theorem dX4_keepImage_76 : decode cX4_keepImage 76 = .ok (.aload_n 0, 1) := by decide +kernel
theorem dX4_keepImage_77 : decode cX4_keepImage 77 = .ok (.getfield 11, 3) := by decide +kernel
theorem dX4_keepImage_80 : decode cX4_keepImage 80 = .ok (.iconst 0, 1) := by decide +kernel
theorem dX4_keepImage_81 : decode cX4_keepImage 81 = .ok (.aload_n 0, 1) := by decide +kernel
theorem dX4_keepImage_82 : decode cX4_keepImage 82 = .ok (.getfield 28, 3) := by decide +kernel
theorem dX4_keepImage_85 : decode cX4_keepImage 85 = .ok (.iconst 0, 1) := by decide +kernel
theorem dX4_keepImage_86 : decode cX4_keepImage 86 = .ok (.iconst 5, 1) := by decide +kernel
theorem dX4_keepImage_87 : decode cX4_keepImage 87 = .ok (.invokestatic 97, 3) := by decide +kernel
theorem dX4_keepImage_90 : decode cX4_keepImage 90 = .ok (.aload_n 0, 1) := by decide +kernel
theorem dX4_keepImage_91 : decode cX4_keepImage 91 = .ok (.getfield 11, 3) := by decide +kernel
theorem dX4_keepImage_94 : decode cX4_keepImage 94 = .ok (.iconst 0, 1) := by decide +kernel
theorem dX4_keepImage_95 : decode cX4_keepImage 95 = .ok (.iaload, 1) := by decide +kernel
theorem dX4_keepImage_96 : decode cX4_keepImage 96 = .ok (.ireturn, 1) := by decide +kernel
theorem dX4_layBack_0 : decode cX4_layBack 0 = .ok (.aload_n 0, 1) := by decide +kernel
theorem dX4_layBack_1 : decode cX4_layBack 1 = .ok (.getfield 15, 3) := by decide +kernel
theorem dX4_layBack_4 : decode cX4_layBack 4 = .ok (.bipush (-2), 2) := by decide +kernel
theorem dX4_layBack_6 : decode cX4_layBack 6 = .ok (.if_icmp .ne 6, 3) := by decide +kernel
theorem dX4_layBack_9 : decode cX4_layBack 9 = .ok (.bipush (-5), 2) := by decide +kernel
theorem dX4_layBack_11 : decode cX4_layBack 11 = .ok (.ireturn, 1) := by decide +kernel
theorem dX4_layBack_12 : decode cX4_layBack 12 = .ok (.aload_n 0, 1) := by decide +kernel
theorem dX4_layBack_13 : decode cX4_layBack 13 = .ok (.getfield 31, 3) := by decide +kernel
theorem dX4_layBack_16 : decode cX4_layBack 16 = .ok (.aload_n 0, 1) := by decide +kernel
theorem dX4_layBack_17 : decode cX4_layBack 17 = .ok (.getfield 94, 3) := by decide +kernel
theorem dX4_layBack_20 : decode cX4_layBack 20 = .ok (.putfield 88, 3) := by decide +kernel
theorem dX4_layBack_23 : decode cX4_layBack 23 = .ok (.aload_n 0, 1) := by decide +kernel
theorem dX4_layBack_24 : decode cX4_layBack 24 = .ok (.getfield 19, 3) := by decide +kernel
theorem dX4_layBack_27 : decode cX4_layBack 27 = .ok (.iconst 0, 1) := by decide +kernel
theorem dX4_layBack_28 : decode cX4_layBack 28 = .ok (.aload_n 0, 1) := by decide +kernel
theorem dX4_layBack_29 : decode cX4_layBack 29 = .ok (.getfield 31, 3) := by decide +kernel
theorem dX4_layBack_32 : decode cX4_layBack 32 = .ok (.getfield 61, 3) := by decide +kernel
theorem dX4_layBack_35 : decode cX4_layBack 35 = .ok (.iconst 0, 1) := by decide +kernel
theorem dX4_layBack_36 : decode cX4_layBack 36 = .ok (.aload_n 0, 1) := by decide +kernel
theorem dX4_layBack_37 : decode cX4_layBack 37 = .ok (.getfield 15, 3) := by decide +kernel
theorem dX4_layBack_40 : decode cX4_layBack 40 = .ok (.invokestatic 97, 3) := by decide +kernel
theorem dX4_layBack_43 : decode cX4_layBack 43 = .ok (.aload_n 0, 1) := by decide +kernel
theorem dX4_layBack_44 : decode cX4_layBack 44 = .ok (.getfield 22, 3) := by decide +kernel
theorem dX4_layBack_47 : decode cX4_layBack 47 = .ok (.iconst 0, 1) := by decide +kernel
theorem dX4_layBack_48 : decode cX4_layBack 48 = .ok (.aload_n 0, 1) := by decide +kernel
theorem dX4_layBack_49 : decode cX4_layBack 49 = .ok (.getfield 31, 3) := by decide +kernel
theorem dX4_layBack_52 : decode cX4_layBack 52 = .ok (.getfield 64, 3) := by decide +kernel
theorem dX4_layBack_55 : decode cX4_layBack 55 = .ok (.iconst 0, 1) := by decide +kernel
theorem dX4_layBack_56 : decode cX4_layBack 56 = .ok (.aload_n 0, 1) := by decide +kernel
theorem dX4_layBack_57 : decode cX4_layBack 57 = .ok (.getfield 15, 3) := by decide +kernel
theorem dX4_layBack_60 : decode cX4_layBack 60 = .ok (.invokestatic 97, 3) := by decide +kernel
theorem dX4_layBack_63 : decode cX4_layBack 63 = .ok (.aload_n 0, 1) := by decide +kernel
theorem dX4_layBack_64 : decode cX4_layBack 64 = .ok (.getfield 25, 3) := by decide +kernel
theorem dX4_layBack_67 : decode cX4_layBack 67 = .ok (.iconst 0, 1) := by decide +kernel
theorem dX4_layBack_68 : decode cX4_layBack 68 = .ok (.aload_n 0, 1) := by decide +kernel
theorem dX4_layBack_69 : decode cX4_layBack 69 = .ok (.getfield 31, 3) := by decide +kernel
theorem dX4_layBack_72 : decode cX4_layBack 72 = .ok (.getfield 67, 3) := by decide +kernel
theorem dX4_layBack_75 : decode cX4_layBack 75 = .ok (.iconst 0, 1) := by decide +kernel
theorem dX4_layBack_76 : decode cX4_layBack 76 = .ok (.aload_n 0, 1) := by decide +kernel
theorem dX4_layBack_77 : decode cX4_layBack 77 = .ok (.getfield 15, 3) := by decide +kernel
theorem dX4_layBack_80 : decode cX4_layBack 80 = .ok (.invokestatic 97, 3) := by decide +kernel
theorem dX4_layBack_83 : decode cX4_layBack 83 = .ok (.aload_n 0, 1) := by decide +kernel
theorem dX4_layBack_84 : decode cX4_layBack 84 = .ok (.getfield 28, 3) := by decide +kernel
theorem dX4_layBack_87 : decode cX4_layBack 87 = .ok (.iconst 0, 1) := by decide +kernel
theorem dX4_layBack_88 : decode cX4_layBack 88 = .ok (.aload_n 0, 1) := by decide +kernel
theorem dX4_layBack_89 : decode cX4_layBack 89 = .ok (.getfield 11, 3) := by decide +kernel
theorem dX4_layBack_92 : decode cX4_layBack 92 = .ok (.iconst 0, 1) := by decide +kernel
theorem dX4_layBack_93 : decode cX4_layBack 93 = .ok (.iconst 5, 1) := by decide +kernel
theorem dX4_layBack_94 : decode cX4_layBack 94 = .ok (.invokestatic 97, 3) := by decide +kernel
theorem dX4_layBack_97 : decode cX4_layBack 97 = .ok (.aload_n 0, 1) := by decide +kernel
theorem dX4_layBack_98 : decode cX4_layBack 98 = .ok (.getfield 11, 3) := by decide +kernel
theorem dX4_layBack_101 : decode cX4_layBack 101 = .ok (.iconst 0, 1) := by decide +kernel
theorem dX4_layBack_102 : decode cX4_layBack 102 = .ok (.iaload, 1) := by decide +kernel
theorem dX4_layBack_103 : decode cX4_layBack 103 = .ok (.ireturn, 1) := by decide +kernel
theorem dX5_init_0 : decode cX5_init 0 = .ok (.aload_n 0, 1) := by decide +kernel
theorem dX5_init_1 : decode cX5_init 1 = .ok (.invokespecial 3, 3) := by decide +kernel
theorem dX5_init_4 : decode cX5_init 4 = .ok (.aload_n 0, 1) := by decide +kernel
theorem dX5_init_5 : decode cX5_init 5 = .ok (.aload_n 1, 1) := by decide +kernel
theorem dX5_init_6 : decode cX5_init 6 = .ok (.putfield 9, 3) := by decide +kernel
theorem dX5_init_9 : decode cX5_init 9 = .ok (.aload_n 0, 1) := by decide +kernel
theorem dX5_init_10 : decode cX5_init 10 = .ok (.aload_n 2, 1) := by decide +kernel
theorem dX5_init_11 : decode cX5_init 11 = .ok (.putfield 15, 3) := by decide +kernel
theorem dX5_init_14 : decode cX5_init 14 = .ok (.aload_n 0, 1) := by decide +kernel
theorem dX5_init_15 : decode cX5_init 15 = .ok (.aload_n 3, 1) := by decide +kernel
theorem dX5_init_16 : decode cX5_init 16 = .ok (.putfield 19, 3) := by decide +kernel
theorem dX5_init_19 : decode cX5_init 19 = .ok (.return_, 1) := by decide +kernel
theorem dX5_firstWrongNow_0 : decode cX5_firstWrongNow 0 = .ok (.aload_n 0, 1) := by decide +kernel
theorem dX5_firstWrongNow_1 : decode cX5_firstWrongNow 1 = .ok (.getfield 15, 3) := by decide +kernel
theorem dX5_firstWrongNow_4 : decode cX5_firstWrongNow 4 = .ok (.iload_n 2, 1) := by decide +kernel
theorem dX5_firstWrongNow_5 : decode cX5_firstWrongNow 5 = .ok (.aaload, 1) := by decide +kernel
theorem dX5_firstWrongNow_6 : decode cX5_firstWrongNow 6 = .ok (.aload_n 0, 1) := by decide +kernel
theorem dX5_firstWrongNow_7 : decode cX5_firstWrongNow 7 = .ok (.getfield 9, 3) := by decide +kernel
theorem dX5_firstWrongNow_10 : decode cX5_firstWrongNow 10 = .ok (.getfield 23, 3) := by decide +kernel
theorem dX5_firstWrongNow_13 : decode cX5_firstWrongNow 13 = .ok (.iload_n 2, 1) := by decide +kernel
theorem dX5_firstWrongNow_14 : decode cX5_firstWrongNow 14 = .ok (.iaload, 1) := by decide +kernel
theorem dX5_firstWrongNow_15 : decode cX5_firstWrongNow 15 = .ok (.invokevirtual 29, 3) := by decide +kernel
theorem dX5_firstWrongNow_18 : decode cX5_firstWrongNow 18 = .ok (.aload_n 0, 1) := by decide +kernel
theorem dX5_firstWrongNow_19 : decode cX5_firstWrongNow 19 = .ok (.getfield 19, 3) := by decide +kernel
theorem dX5_firstWrongNow_22 : decode cX5_firstWrongNow 22 = .ok (.iload_n 2, 1) := by decide +kernel
theorem dX5_firstWrongNow_23 : decode cX5_firstWrongNow 23 = .ok (.aload_n 0, 1) := by decide +kernel
theorem dX5_firstWrongNow_24 : decode cX5_firstWrongNow 24 = .ok (.getfield 15, 3) := by decide +kernel
theorem dX5_firstWrongNow_27 : decode cX5_firstWrongNow 27 = .ok (.iload_n 2, 1) := by decide +kernel
theorem dX5_firstWrongNow_28 : decode cX5_firstWrongNow 28 = .ok (.aaload, 1) := by decide +kernel
theorem dX5_firstWrongNow_29 : decode cX5_firstWrongNow 29 = .ok (.invokevirtual 35, 3) := by decide +kernel
theorem dX5_firstWrongNow_32 : decode cX5_firstWrongNow 32 = .ok (.aload_n 1, 1) := by decide +kernel
theorem dX5_firstWrongNow_33 : decode cX5_firstWrongNow 33 = .ok (.invokestatic 39, 3) := by decide +kernel
theorem dX5_firstWrongNow_36 : decode cX5_firstWrongNow 36 = .ok (.invokevirtual 43, 3) := by decide +kernel
theorem dX5_firstWrongNow_39 : decode cX5_firstWrongNow 39 = .ok (.aload_n 0, 1) := by decide +kernel
theorem dX5_firstWrongNow_40 : decode cX5_firstWrongNow 40 = .ok (.aload_n 1, 1) := by decide +kernel
theorem dX5_firstWrongNow_41 : decode cX5_firstWrongNow 41 = .ok (.iload_n 2, 1) := by decide +kernel
theorem dX5_firstWrongNow_42 : decode cX5_firstWrongNow 42 = .ok (.invokevirtual 49, 3) := by decide +kernel
theorem dX5_firstWrongNow_45 : decode cX5_firstWrongNow 45 = .ok (.ireturn, 1) := by decide +kernel
theorem dX5_waysThatFit_0 : decode cX5_waysThatFit 0 = .ok (.aload_n 0, 1) := by decide +kernel
theorem dX5_waysThatFit_1 : decode cX5_waysThatFit 1 = .ok (.getfield 15, 3) := by decide +kernel
theorem dX5_waysThatFit_4 : decode cX5_waysThatFit 4 = .ok (.iload_n 2, 1) := by decide +kernel
theorem dX5_waysThatFit_5 : decode cX5_waysThatFit 5 = .ok (.aaload, 1) := by decide +kernel
theorem dX5_waysThatFit_6 : decode cX5_waysThatFit 6 = .ok (.aload_n 0, 1) := by decide +kernel
theorem dX5_waysThatFit_7 : decode cX5_waysThatFit 7 = .ok (.getfield 9, 3) := by decide +kernel
theorem dX5_waysThatFit_10 : decode cX5_waysThatFit 10 = .ok (.getfield 23, 3) := by decide +kernel
theorem dX5_waysThatFit_13 : decode cX5_waysThatFit 13 = .ok (.iload_n 2, 1) := by decide +kernel
theorem dX5_waysThatFit_14 : decode cX5_waysThatFit 14 = .ok (.iaload, 1) := by decide +kernel
theorem dX5_waysThatFit_15 : decode cX5_waysThatFit 15 = .ok (.invokevirtual 29, 3) := by decide +kernel
theorem dX5_waysThatFit_18 : decode cX5_waysThatFit 18 = .ok (.aload_n 1, 1) := by decide +kernel
theorem dX5_waysThatFit_19 : decode cX5_waysThatFit 19 = .ok (.invokestatic 39, 3) := by decide +kernel
theorem dX5_waysThatFit_22 : decode cX5_waysThatFit 22 = .ok (.istore_n 3, 1) := by decide +kernel
theorem dX5_waysThatFit_23 : decode cX5_waysThatFit 23 = .ok (.iconst 0, 1) := by decide +kernel
theorem dX5_waysThatFit_24 : decode cX5_waysThatFit 24 = .ok (.istore 4, 2) := by decide +kernel
theorem dX5_waysThatFit_26 : decode cX5_waysThatFit 26 = .ok (.iconst 0, 1) := by decide +kernel
theorem dX5_waysThatFit_27 : decode cX5_waysThatFit 27 = .ok (.istore 5, 2) := by decide +kernel
theorem dX5_waysThatFit_29 : decode cX5_waysThatFit 29 = .ok (.iload 5, 2) := by decide +kernel
theorem dX5_waysThatFit_31 : decode cX5_waysThatFit 31 = .ok (.bipush 8, 2) := by decide +kernel
theorem dX5_waysThatFit_33 : decode cX5_waysThatFit 33 = .ok (.if_icmp .ge 53, 3) := by decide +kernel
theorem dX5_waysThatFit_36 : decode cX5_waysThatFit 36 = .ok (.aload_n 0, 1) := by decide +kernel
theorem dX5_waysThatFit_37 : decode cX5_waysThatFit 37 = .ok (.getfield 19, 3) := by decide +kernel
theorem dX5_waysThatFit_40 : decode cX5_waysThatFit 40 = .ok (.iload_n 2, 1) := by decide +kernel
theorem dX5_waysThatFit_41 : decode cX5_waysThatFit 41 = .ok (.bipush 8, 2) := by decide +kernel
theorem dX5_waysThatFit_43 : decode cX5_waysThatFit 43 = .ok (.aload_n 0, 1) := by decide +kernel
theorem dX5_waysThatFit_44 : decode cX5_waysThatFit 44 = .ok (.getfield 9, 3) := by decide +kernel
theorem dX5_waysThatFit_47 : decode cX5_waysThatFit 47 = .ok (.getfield 53, 3) := by decide +kernel
theorem dX5_waysThatFit_50 : decode cX5_waysThatFit 50 = .ok (.iload_n 2, 1) := by decide +kernel
theorem dX5_waysThatFit_51 : decode cX5_waysThatFit 51 = .ok (.iaload, 1) := by decide +kernel
theorem dX5_waysThatFit_52 : decode cX5_waysThatFit 52 = .ok (.imul, 1) := by decide +kernel
theorem dX5_waysThatFit_53 : decode cX5_waysThatFit 53 = .ok (.iload 5, 2) := by decide +kernel
theorem dX5_waysThatFit_55 : decode cX5_waysThatFit 55 = .ok (.iadd, 1) := by decide +kernel
theorem dX5_waysThatFit_56 : decode cX5_waysThatFit 56 = .ok (.iload_n 3, 1) := by decide +kernel
theorem dX5_waysThatFit_57 : decode cX5_waysThatFit 57 = .ok (.invokevirtual 43, 3) := by decide +kernel
theorem dX5_waysThatFit_60 : decode cX5_waysThatFit 60 = .ok (.aload_n 0, 1) := by decide +kernel
theorem dX5_waysThatFit_61 : decode cX5_waysThatFit 61 = .ok (.aload_n 1, 1) := by decide +kernel
theorem dX5_waysThatFit_62 : decode cX5_waysThatFit 62 = .ok (.iload_n 2, 1) := by decide +kernel
theorem dX5_waysThatFit_63 : decode cX5_waysThatFit 63 = .ok (.invokevirtual 49, 3) := by decide +kernel
theorem dX5_waysThatFit_66 : decode cX5_waysThatFit 66 = .ok (.bipush (-2), 2) := by decide +kernel
theorem dX5_waysThatFit_68 : decode cX5_waysThatFit 68 = .ok (.if_icmp .ne 12, 3) := by decide +kernel
theorem dX5_waysThatFit_71 : decode cX5_waysThatFit 71 = .ok (.iload 4, 2) := by decide +kernel
theorem dX5_waysThatFit_73 : decode cX5_waysThatFit 73 = .ok (.iconst 1, 1) := by decide +kernel
theorem dX5_waysThatFit_74 : decode cX5_waysThatFit 74 = .ok (.iload 5, 2) := by decide +kernel
theorem dX5_waysThatFit_76 : decode cX5_waysThatFit 76 = .ok (.ishl, 1) := by decide +kernel
theorem dX5_waysThatFit_77 : decode cX5_waysThatFit 77 = .ok (.ior, 1) := by decide +kernel
theorem dX5_waysThatFit_78 : decode cX5_waysThatFit 78 = .ok (.istore 4, 2) := by decide +kernel
theorem dX5_waysThatFit_80 : decode cX5_waysThatFit 80 = .ok (.iinc 5 1, 3) := by decide +kernel
theorem dX5_waysThatFit_83 : decode cX5_waysThatFit 83 = .ok (.goto (-54), 3) := by decide +kernel
theorem dX5_waysThatFit_86 : decode cX5_waysThatFit 86 = .ok (.iload 4, 2) := by decide +kernel
theorem dX5_waysThatFit_88 : decode cX5_waysThatFit 88 = .ok (.ireturn, 1) := by decide +kernel
theorem dX5_cellsThatFit_0 : decode cX5_cellsThatFit 0 = .ok (.aload_n 0, 1) := by decide +kernel
theorem dX5_cellsThatFit_1 : decode cX5_cellsThatFit 1 = .ok (.getfield 15, 3) := by decide +kernel
theorem dX5_cellsThatFit_4 : decode cX5_cellsThatFit 4 = .ok (.iload_n 2, 1) := by decide +kernel
theorem dX5_cellsThatFit_5 : decode cX5_cellsThatFit 5 = .ok (.aaload, 1) := by decide +kernel
theorem dX5_cellsThatFit_6 : decode cX5_cellsThatFit 6 = .ok (.aload_n 0, 1) := by decide +kernel
theorem dX5_cellsThatFit_7 : decode cX5_cellsThatFit 7 = .ok (.getfield 9, 3) := by decide +kernel
theorem dX5_cellsThatFit_10 : decode cX5_cellsThatFit 10 = .ok (.getfield 23, 3) := by decide +kernel
theorem dX5_cellsThatFit_13 : decode cX5_cellsThatFit 13 = .ok (.iload_n 2, 1) := by decide +kernel
theorem dX5_cellsThatFit_14 : decode cX5_cellsThatFit 14 = .ok (.iaload, 1) := by decide +kernel
theorem dX5_cellsThatFit_15 : decode cX5_cellsThatFit 15 = .ok (.invokevirtual 29, 3) := by decide +kernel
theorem dX5_cellsThatFit_18 : decode cX5_cellsThatFit 18 = .ok (.aload_n 1, 1) := by decide +kernel
theorem dX5_cellsThatFit_19 : decode cX5_cellsThatFit 19 = .ok (.invokestatic 39, 3) := by decide +kernel
theorem dX5_cellsThatFit_22 : decode cX5_cellsThatFit 22 = .ok (.istore 4, 2) := by decide +kernel
theorem dX5_cellsThatFit_24 : decode cX5_cellsThatFit 24 = .ok (.iconst 0, 1) := by decide +kernel
theorem dX5_cellsThatFit_25 : decode cX5_cellsThatFit 25 = .ok (.istore 5, 2) := by decide +kernel
theorem dX5_cellsThatFit_27 : decode cX5_cellsThatFit 27 = .ok (.iconst 0, 1) := by decide +kernel
theorem dX5_cellsThatFit_28 : decode cX5_cellsThatFit 28 = .ok (.istore 6, 2) := by decide +kernel
theorem dX5_cellsThatFit_30 : decode cX5_cellsThatFit 30 = .ok (.iload 6, 2) := by decide +kernel
theorem dX5_cellsThatFit_32 : decode cX5_cellsThatFit 32 = .ok (.sipush 256, 3) := by decide +kernel
theorem dX5_cellsThatFit_35 : decode cX5_cellsThatFit 35 = .ok (.if_icmp .ge 55, 3) := by decide +kernel
theorem dX5_cellsThatFit_38 : decode cX5_cellsThatFit 38 = .ok (.aload_n 0, 1) := by decide +kernel
theorem dX5_cellsThatFit_39 : decode cX5_cellsThatFit 39 = .ok (.getfield 19, 3) := by decide +kernel
theorem dX5_cellsThatFit_42 : decode cX5_cellsThatFit 42 = .ok (.iload_n 2, 1) := by decide +kernel
theorem dX5_cellsThatFit_43 : decode cX5_cellsThatFit 43 = .ok (.bipush 8, 2) := by decide +kernel
theorem dX5_cellsThatFit_45 : decode cX5_cellsThatFit 45 = .ok (.iload 6, 2) := by decide +kernel
theorem dX5_cellsThatFit_47 : decode cX5_cellsThatFit 47 = .ok (.imul, 1) := by decide +kernel
theorem dX5_cellsThatFit_48 : decode cX5_cellsThatFit 48 = .ok (.aload_n 0, 1) := by decide +kernel
theorem dX5_cellsThatFit_49 : decode cX5_cellsThatFit 49 = .ok (.getfield 9, 3) := by decide +kernel
theorem dX5_cellsThatFit_52 : decode cX5_cellsThatFit 52 = .ok (.getfield 56, 3) := by decide +kernel
theorem dX5_cellsThatFit_55 : decode cX5_cellsThatFit 55 = .ok (.iload_n 2, 1) := by decide +kernel
theorem dX5_cellsThatFit_56 : decode cX5_cellsThatFit 56 = .ok (.iaload, 1) := by decide +kernel
theorem dX5_cellsThatFit_57 : decode cX5_cellsThatFit 57 = .ok (.iadd, 1) := by decide +kernel
theorem dX5_cellsThatFit_58 : decode cX5_cellsThatFit 58 = .ok (.iload 4, 2) := by decide +kernel
theorem dX5_cellsThatFit_60 : decode cX5_cellsThatFit 60 = .ok (.invokevirtual 43, 3) := by decide +kernel
theorem dX5_cellsThatFit_63 : decode cX5_cellsThatFit 63 = .ok (.aload_n 0, 1) := by decide +kernel
theorem dX5_cellsThatFit_64 : decode cX5_cellsThatFit 64 = .ok (.aload_n 1, 1) := by decide +kernel
theorem dX5_cellsThatFit_65 : decode cX5_cellsThatFit 65 = .ok (.iload_n 2, 1) := by decide +kernel
theorem dX5_cellsThatFit_66 : decode cX5_cellsThatFit 66 = .ok (.invokevirtual 49, 3) := by decide +kernel
theorem dX5_cellsThatFit_69 : decode cX5_cellsThatFit 69 = .ok (.bipush (-2), 2) := by decide +kernel
theorem dX5_cellsThatFit_71 : decode cX5_cellsThatFit 71 = .ok (.if_icmp .ne 13, 3) := by decide +kernel
theorem dX5_cellsThatFit_74 : decode cX5_cellsThatFit 74 = .ok (.iload_n 3, 1) := by decide +kernel
theorem dX5_cellsThatFit_75 : decode cX5_cellsThatFit 75 = .ok (.ifCond .eq 6, 3) := by decide +kernel
theorem dX5_cellsThatFit_78 : decode cX5_cellsThatFit 78 = .ok (.iload 6, 2) := by decide +kernel
theorem dX5_cellsThatFit_80 : decode cX5_cellsThatFit 80 = .ok (.ireturn, 1) := by decide +kernel
theorem dX5_cellsThatFit_81 : decode cX5_cellsThatFit 81 = .ok (.iinc 5 1, 3) := by decide +kernel
theorem dX5_cellsThatFit_84 : decode cX5_cellsThatFit 84 = .ok (.iinc 6 1, 3) := by decide +kernel
theorem dX5_cellsThatFit_87 : decode cX5_cellsThatFit 87 = .ok (.goto (-57), 3) := by decide +kernel
theorem dX5_cellsThatFit_90 : decode cX5_cellsThatFit 90 = .ok (.iload_n 3, 1) := by decide +kernel
theorem dX5_cellsThatFit_91 : decode cX5_cellsThatFit 91 = .ok (.ifCond .eq 8, 3) := by decide +kernel
theorem dX5_cellsThatFit_94 : decode cX5_cellsThatFit 94 = .ok (.bipush (-2), 2) := by decide +kernel
theorem dX5_cellsThatFit_96 : decode cX5_cellsThatFit 96 = .ok (.goto 5, 3) := by decide +kernel
theorem dX5_cellsThatFit_99 : decode cX5_cellsThatFit 99 = .ok (.iload 5, 2) := by decide +kernel
theorem dX5_cellsThatFit_101 : decode cX5_cellsThatFit 101 = .ok (.ireturn, 1) := by decide +kernel
theorem dX5_pacesThatFit_0 : decode cX5_pacesThatFit 0 = .ok (.aload_n 1, 1) := by decide +kernel
theorem dX5_pacesThatFit_1 : decode cX5_pacesThatFit 1 = .ok (.invokestatic 39, 3) := by decide +kernel
theorem dX5_pacesThatFit_4 : decode cX5_pacesThatFit 4 = .ok (.istore_n 3, 1) := by decide +kernel
theorem dX5_pacesThatFit_5 : decode cX5_pacesThatFit 5 = .ok (.iconst 0, 1) := by decide +kernel
theorem dX5_pacesThatFit_6 : decode cX5_pacesThatFit 6 = .ok (.istore 4, 2) := by decide +kernel
theorem dX5_pacesThatFit_8 : decode cX5_pacesThatFit 8 = .ok (.iconst 1, 1) := by decide +kernel
theorem dX5_pacesThatFit_9 : decode cX5_pacesThatFit 9 = .ok (.istore 5, 2) := by decide +kernel
theorem dX5_pacesThatFit_11 : decode cX5_pacesThatFit 11 = .ok (.iload 5, 2) := by decide +kernel
theorem dX5_pacesThatFit_13 : decode cX5_pacesThatFit 13 = .ok (.iconst 4, 1) := by decide +kernel
theorem dX5_pacesThatFit_14 : decode cX5_pacesThatFit 14 = .ok (.if_icmp .gt 58, 3) := by decide +kernel
theorem dX5_pacesThatFit_17 : decode cX5_pacesThatFit 17 = .ok (.aload_n 0, 1) := by decide +kernel
theorem dX5_pacesThatFit_18 : decode cX5_pacesThatFit 18 = .ok (.getfield 15, 3) := by decide +kernel
theorem dX5_pacesThatFit_21 : decode cX5_pacesThatFit 21 = .ok (.iload_n 2, 1) := by decide +kernel
theorem dX5_pacesThatFit_22 : decode cX5_pacesThatFit 22 = .ok (.aaload, 1) := by decide +kernel
theorem dX5_pacesThatFit_23 : decode cX5_pacesThatFit 23 = .ok (.iload 5, 2) := by decide +kernel
theorem dX5_pacesThatFit_25 : decode cX5_pacesThatFit 25 = .ok (.invokevirtual 29, 3) := by decide +kernel
theorem dX5_pacesThatFit_28 : decode cX5_pacesThatFit 28 = .ok (.aload_n 0, 1) := by decide +kernel
theorem dX5_pacesThatFit_29 : decode cX5_pacesThatFit 29 = .ok (.getfield 19, 3) := by decide +kernel
theorem dX5_pacesThatFit_32 : decode cX5_pacesThatFit 32 = .ok (.iload_n 2, 1) := by decide +kernel
theorem dX5_pacesThatFit_33 : decode cX5_pacesThatFit 33 = .ok (.aload_n 0, 1) := by decide +kernel
theorem dX5_pacesThatFit_34 : decode cX5_pacesThatFit 34 = .ok (.getfield 15, 3) := by decide +kernel
theorem dX5_pacesThatFit_37 : decode cX5_pacesThatFit 37 = .ok (.iload_n 2, 1) := by decide +kernel
theorem dX5_pacesThatFit_38 : decode cX5_pacesThatFit 38 = .ok (.aaload, 1) := by decide +kernel
theorem dX5_pacesThatFit_39 : decode cX5_pacesThatFit 39 = .ok (.invokevirtual 35, 3) := by decide +kernel
theorem dX5_pacesThatFit_42 : decode cX5_pacesThatFit 42 = .ok (.iload_n 3, 1) := by decide +kernel
theorem dX5_pacesThatFit_43 : decode cX5_pacesThatFit 43 = .ok (.invokevirtual 43, 3) := by decide +kernel
theorem dX5_pacesThatFit_46 : decode cX5_pacesThatFit 46 = .ok (.aload_n 0, 1) := by decide +kernel
theorem dX5_pacesThatFit_47 : decode cX5_pacesThatFit 47 = .ok (.aload_n 1, 1) := by decide +kernel
theorem dX5_pacesThatFit_48 : decode cX5_pacesThatFit 48 = .ok (.iload_n 2, 1) := by decide +kernel
theorem dX5_pacesThatFit_49 : decode cX5_pacesThatFit 49 = .ok (.invokevirtual 49, 3) := by decide +kernel
theorem dX5_pacesThatFit_52 : decode cX5_pacesThatFit 52 = .ok (.bipush (-2), 2) := by decide +kernel
theorem dX5_pacesThatFit_54 : decode cX5_pacesThatFit 54 = .ok (.if_icmp .ne 12, 3) := by decide +kernel
theorem dX5_pacesThatFit_57 : decode cX5_pacesThatFit 57 = .ok (.iload 4, 2) := by decide +kernel
theorem dX5_pacesThatFit_59 : decode cX5_pacesThatFit 59 = .ok (.iconst 1, 1) := by decide +kernel
theorem dX5_pacesThatFit_60 : decode cX5_pacesThatFit 60 = .ok (.iload 5, 2) := by decide +kernel
theorem dX5_pacesThatFit_62 : decode cX5_pacesThatFit 62 = .ok (.ishl, 1) := by decide +kernel
theorem dX5_pacesThatFit_63 : decode cX5_pacesThatFit 63 = .ok (.ior, 1) := by decide +kernel
theorem dX5_pacesThatFit_64 : decode cX5_pacesThatFit 64 = .ok (.istore 4, 2) := by decide +kernel
theorem dX5_pacesThatFit_66 : decode cX5_pacesThatFit 66 = .ok (.iinc 5 1, 3) := by decide +kernel
theorem dX5_pacesThatFit_69 : decode cX5_pacesThatFit 69 = .ok (.goto (-58), 3) := by decide +kernel
theorem dX5_pacesThatFit_72 : decode cX5_pacesThatFit 72 = .ok (.iload 4, 2) := by decide +kernel
theorem dX5_pacesThatFit_74 : decode cX5_pacesThatFit 74 = .ok (.ireturn, 1) := by decide +kernel
theorem dX5_firstWrong_0 : decode cX5_firstWrong 0 = .ok (.aload_n 1, 1) := by decide +kernel
theorem dX5_firstWrong_1 : decode cX5_firstWrong 1 = .ok (.invokestatic 59, 3) := by decide +kernel
theorem dX5_firstWrong_4 : decode cX5_firstWrong 4 = .ok (.istore_n 3, 1) := by decide +kernel
theorem dX5_firstWrong_5 : decode cX5_firstWrong 5 = .ok (.iconst 0, 1) := by decide +kernel
theorem dX5_firstWrong_6 : decode cX5_firstWrong 6 = .ok (.istore 4, 2) := by decide +kernel
theorem dX5_firstWrong_8 : decode cX5_firstWrong 8 = .ok (.iload 4, 2) := by decide +kernel
theorem dX5_firstWrong_10 : decode cX5_firstWrong 10 = .ok (.iload_n 3, 1) := by decide +kernel
theorem dX5_firstWrong_11 : decode cX5_firstWrong 11 = .ok (.if_icmp .ge 23, 3) := by decide +kernel
theorem dX5_firstWrong_14 : decode cX5_firstWrong 14 = .ok (.aload_n 0, 1) := by decide +kernel
theorem dX5_firstWrong_15 : decode cX5_firstWrong 15 = .ok (.aload_n 1, 1) := by decide +kernel
theorem dX5_firstWrong_16 : decode cX5_firstWrong 16 = .ok (.iload 4, 2) := by decide +kernel
theorem dX5_firstWrong_18 : decode cX5_firstWrong 18 = .ok (.iload_n 2, 1) := by decide +kernel
theorem dX5_firstWrong_19 : decode cX5_firstWrong 19 = .ok (.invokevirtual 62, 3) := by decide +kernel
theorem dX5_firstWrong_22 : decode cX5_firstWrong 22 = .ok (.ifCond .ne 6, 3) := by decide +kernel
theorem dX5_firstWrong_25 : decode cX5_firstWrong 25 = .ok (.iload 4, 2) := by decide +kernel
theorem dX5_firstWrong_27 : decode cX5_firstWrong 27 = .ok (.ireturn, 1) := by decide +kernel
theorem dX5_firstWrong_28 : decode cX5_firstWrong 28 = .ok (.iinc 4 1, 3) := by decide +kernel
theorem dX5_firstWrong_31 : decode cX5_firstWrong 31 = .ok (.goto (-23), 3) := by decide +kernel
theorem dX5_firstWrong_34 : decode cX5_firstWrong 34 = .ok (.bipush (-2), 2) := by decide +kernel
theorem dX5_firstWrong_36 : decode cX5_firstWrong 36 = .ok (.ireturn, 1) := by decide +kernel
theorem dX5_twosOf_0 : decode cX5_twosOf 0 = .ok (.bipush 20, 2) := by decide +kernel
theorem dX5_twosOf_2 : decode cX5_twosOf 2 = .ok (.aload_n 0, 1) := by decide +kernel
theorem dX5_twosOf_3 : decode cX5_twosOf 3 = .ok (.getfield 66, 3) := by decide +kernel
theorem dX5_twosOf_6 : decode cX5_twosOf 6 = .ok (.iconst 1, 1) := by decide +kernel
theorem dX5_twosOf_7 : decode cX5_twosOf 7 = .ok (.iadd, 1) := by decide +kernel
theorem dX5_twosOf_8 : decode cX5_twosOf 8 = .ok (.iconst 2, 1) := by decide +kernel
theorem dX5_twosOf_9 : decode cX5_twosOf 9 = .ok (.idiv, 1) := by decide +kernel
theorem dX5_twosOf_10 : decode cX5_twosOf 10 = .ok (.invokestatic 72, 3) := by decide +kernel
theorem dX5_twosOf_13 : decode cX5_twosOf 13 = .ok (.ireturn, 1) := by decide +kernel
theorem dX5_isSo_0 : decode cX5_isSo 0 = .ok (.iconst 2, 1) := by decide +kernel
theorem dX5_isSo_1 : decode cX5_isSo 1 = .ok (.iload_n 2, 1) := by decide +kernel
theorem dX5_isSo_2 : decode cX5_isSo 2 = .ok (.imul, 1) := by decide +kernel
theorem dX5_isSo_3 : decode cX5_isSo 3 = .ok (.iconst 1, 1) := by decide +kernel
theorem dX5_isSo_4 : decode cX5_isSo 4 = .ok (.iadd, 1) := by decide +kernel
theorem dX5_isSo_5 : decode cX5_isSo 5 = .ok (.aload_n 1, 1) := by decide +kernel
theorem dX5_isSo_6 : decode cX5_isSo 6 = .ok (.getfield 66, 3) := by decide +kernel
theorem dX5_isSo_9 : decode cX5_isSo 9 = .ok (.if_icmp .lt 5, 3) := by decide +kernel
theorem dX5_isSo_12 : decode cX5_isSo 12 = .ok (.iconst 0, 1) := by decide +kernel
theorem dX5_isSo_13 : decode cX5_isSo 13 = .ok (.ireturn, 1) := by decide +kernel
theorem dX5_isSo_14 : decode cX5_isSo 14 = .ok (.aload_n 1, 1) := by decide +kernel
theorem dX5_isSo_15 : decode cX5_isSo 15 = .ok (.getfield 78, 3) := by decide +kernel
theorem dX5_isSo_18 : decode cX5_isSo 18 = .ok (.iconst 2, 1) := by decide +kernel
theorem dX5_isSo_19 : decode cX5_isSo 19 = .ok (.iload_n 2, 1) := by decide +kernel
theorem dX5_isSo_20 : decode cX5_isSo 20 = .ok (.imul, 1) := by decide +kernel
theorem dX5_isSo_21 : decode cX5_isSo 21 = .ok (.laload, 1) := by decide +kernel
theorem dX5_isSo_22 : decode cX5_isSo 22 = .ok (.l2i, 1) := by decide +kernel
theorem dX5_isSo_23 : decode cX5_isSo 23 = .ok (.istore 4, 2) := by decide +kernel
theorem dX5_isSo_25 : decode cX5_isSo 25 = .ok (.aload_n 1, 1) := by decide +kernel
theorem dX5_isSo_26 : decode cX5_isSo 26 = .ok (.getfield 78, 3) := by decide +kernel
theorem dX5_isSo_29 : decode cX5_isSo 29 = .ok (.iconst 2, 1) := by decide +kernel
theorem dX5_isSo_30 : decode cX5_isSo 30 = .ok (.iload_n 2, 1) := by decide +kernel
theorem dX5_isSo_31 : decode cX5_isSo 31 = .ok (.imul, 1) := by decide +kernel
theorem dX5_isSo_32 : decode cX5_isSo 32 = .ok (.iconst 1, 1) := by decide +kernel
theorem dX5_isSo_33 : decode cX5_isSo 33 = .ok (.iadd, 1) := by decide +kernel
theorem dX5_isSo_34 : decode cX5_isSo 34 = .ok (.laload, 1) := by decide +kernel
theorem dX5_isSo_35 : decode cX5_isSo 35 = .ok (.l2i, 1) := by decide +kernel
theorem dX5_isSo_36 : decode cX5_isSo 36 = .ok (.istore 5, 2) := by decide +kernel
theorem dX5_isSo_38 : decode cX5_isSo 38 = .ok (.iload 4, 2) := by decide +kernel
theorem dX5_isSo_40 : decode cX5_isSo 40 = .ok (.iconst 0, 1) := by decide +kernel
theorem dX5_isSo_41 : decode cX5_isSo 41 = .ok (.bipush 60, 2) := by decide +kernel
theorem dX5_isSo_43 : decode cX5_isSo 43 = .ok (.invokestatic 82, 3) := by decide +kernel
theorem dX5_isSo_46 : decode cX5_isSo 46 = .ok (.ifCond .eq 49, 3) := by decide +kernel
theorem dX5_isSo_49 : decode cX5_isSo 49 = .ok (.aload_n 0, 1) := by decide +kernel
theorem dX5_isSo_50 : decode cX5_isSo 50 = .ok (.getfield 9, 3) := by decide +kernel
theorem dX5_isSo_53 : decode cX5_isSo 53 = .ok (.iload 5, 2) := by decide +kernel
theorem dX5_isSo_55 : decode cX5_isSo 55 = .ok (.invokevirtual 86, 3) := by decide +kernel
theorem dX5_isSo_58 : decode cX5_isSo 58 = .ok (.ifCond .eq 37, 3) := by decide +kernel
theorem dX5_isSo_61 : decode cX5_isSo 61 = .ok (.aload_n 0, 1) := by decide +kernel
theorem dX5_isSo_62 : decode cX5_isSo 62 = .ok (.getfield 9, 3) := by decide +kernel
theorem dX5_isSo_65 : decode cX5_isSo 65 = .ok (.aload_n 0, 1) := by decide +kernel
theorem dX5_isSo_66 : decode cX5_isSo 66 = .ok (.getfield 19, 3) := by decide +kernel
theorem dX5_isSo_69 : decode cX5_isSo 69 = .ok (.iload_n 3, 1) := by decide +kernel
theorem dX5_isSo_70 : decode cX5_isSo 70 = .ok (.iload 4, 2) := by decide +kernel
theorem dX5_isSo_72 : decode cX5_isSo 72 = .ok (.invokevirtual 90, 3) := by decide +kernel
theorem dX5_isSo_75 : decode cX5_isSo 75 = .ok (.aload_n 0, 1) := by decide +kernel
theorem dX5_isSo_76 : decode cX5_isSo 76 = .ok (.getfield 9, 3) := by decide +kernel
theorem dX5_isSo_79 : decode cX5_isSo 79 = .ok (.getfield 93, 3) := by decide +kernel
theorem dX5_isSo_82 : decode cX5_isSo 82 = .ok (.iload 5, 2) := by decide +kernel
theorem dX5_isSo_84 : decode cX5_isSo 84 = .ok (.iaload, 1) := by decide +kernel
theorem dX5_isSo_85 : decode cX5_isSo 85 = .ok (.invokevirtual 96, 3) := by decide +kernel
theorem dX5_isSo_88 : decode cX5_isSo 88 = .ok (.ifCond .eq 7, 3) := by decide +kernel
theorem dX5_isSo_91 : decode cX5_isSo 91 = .ok (.iconst 1, 1) := by decide +kernel
theorem dX5_isSo_92 : decode cX5_isSo 92 = .ok (.goto 4, 3) := by decide +kernel
theorem dX5_isSo_95 : decode cX5_isSo 95 = .ok (.iconst 0, 1) := by decide +kernel
theorem dX5_isSo_96 : decode cX5_isSo 96 = .ok (.ireturn, 1) := by decide +kernel
theorem dX5_lastHour_0 : decode cX5_lastHour 0 = .ok (.iconst 0, 1) := by decide +kernel
theorem dX5_lastHour_1 : decode cX5_lastHour 1 = .ok (.istore_n 1, 1) := by decide +kernel
theorem dX5_lastHour_2 : decode cX5_lastHour 2 = .ok (.aload_n 0, 1) := by decide +kernel
theorem dX5_lastHour_3 : decode cX5_lastHour 3 = .ok (.invokestatic 59, 3) := by decide +kernel
theorem dX5_lastHour_6 : decode cX5_lastHour 6 = .ok (.istore_n 2, 1) := by decide +kernel
theorem dX5_lastHour_7 : decode cX5_lastHour 7 = .ok (.iconst 0, 1) := by decide +kernel
theorem dX5_lastHour_8 : decode cX5_lastHour 8 = .ok (.istore_n 3, 1) := by decide +kernel
theorem dX5_lastHour_9 : decode cX5_lastHour 9 = .ok (.iload_n 3, 1) := by decide +kernel
theorem dX5_lastHour_10 : decode cX5_lastHour 10 = .ok (.iload_n 2, 1) := by decide +kernel
theorem dX5_lastHour_11 : decode cX5_lastHour 11 = .ok (.if_icmp .ge 36, 3) := by decide +kernel
theorem dX5_lastHour_14 : decode cX5_lastHour 14 = .ok (.aload_n 0, 1) := by decide +kernel
theorem dX5_lastHour_15 : decode cX5_lastHour 15 = .ok (.getfield 78, 3) := by decide +kernel
theorem dX5_lastHour_18 : decode cX5_lastHour 18 = .ok (.iconst 2, 1) := by decide +kernel
theorem dX5_lastHour_19 : decode cX5_lastHour 19 = .ok (.iload_n 3, 1) := by decide +kernel
theorem dX5_lastHour_20 : decode cX5_lastHour 20 = .ok (.imul, 1) := by decide +kernel
theorem dX5_lastHour_21 : decode cX5_lastHour 21 = .ok (.laload, 1) := by decide +kernel
theorem dX5_lastHour_22 : decode cX5_lastHour 22 = .ok (.l2i, 1) := by decide +kernel
theorem dX5_lastHour_23 : decode cX5_lastHour 23 = .ok (.istore 4, 2) := by decide +kernel
theorem dX5_lastHour_25 : decode cX5_lastHour 25 = .ok (.iload 4, 2) := by decide +kernel
theorem dX5_lastHour_27 : decode cX5_lastHour 27 = .ok (.iload_n 1, 1) := by decide +kernel
theorem dX5_lastHour_28 : decode cX5_lastHour 28 = .ok (.if_icmp .le 13, 3) := by decide +kernel
theorem dX5_lastHour_31 : decode cX5_lastHour 31 = .ok (.iload 4, 2) := by decide +kernel
theorem dX5_lastHour_33 : decode cX5_lastHour 33 = .ok (.bipush 60, 2) := by decide +kernel
theorem dX5_lastHour_35 : decode cX5_lastHour 35 = .ok (.if_icmp .gt 6, 3) := by decide +kernel
theorem dX5_lastHour_38 : decode cX5_lastHour 38 = .ok (.iload 4, 2) := by decide +kernel
theorem dX5_lastHour_40 : decode cX5_lastHour 40 = .ok (.istore_n 1, 1) := by decide +kernel
theorem dX5_lastHour_41 : decode cX5_lastHour 41 = .ok (.iinc 3 1, 3) := by decide +kernel
theorem dX5_lastHour_44 : decode cX5_lastHour 44 = .ok (.goto (-35), 3) := by decide +kernel
theorem dX5_lastHour_47 : decode cX5_lastHour 47 = .ok (.iload_n 1, 1) := by decide +kernel
theorem dX5_lastHour_48 : decode cX5_lastHour 48 = .ok (.ireturn, 1) := by decide +kernel
theorem dX6_init_0 : decode cX6_init 0 = .ok (.aload_n 0, 1) := by decide +kernel
theorem dX6_init_1 : decode cX6_init 1 = .ok (.invokespecial 3, 3) := by decide +kernel
theorem dX6_init_4 : decode cX6_init 4 = .ok (.aload_n 0, 1) := by decide +kernel
theorem dX6_init_5 : decode cX6_init 5 = .ok (.sipush 366, 3) := by decide +kernel
theorem dX6_init_8 : decode cX6_init 8 = .ok (.newarray .int, 2) := by decide +kernel
theorem dX6_init_10 : decode cX6_init 10 = .ok (.putfield 11, 3) := by decide +kernel
theorem dX6_init_13 : decode cX6_init 13 = .ok (.aload_n 0, 1) := by decide +kernel
theorem dX6_init_14 : decode cX6_init 14 = .ok (.bipush 8, 2) := by decide +kernel
theorem dX6_init_16 : decode cX6_init 16 = .ok (.newarray .int, 2) := by decide +kernel
theorem dX6_init_18 : decode cX6_init 18 = .ok (.putfield 15, 3) := by decide +kernel
theorem dX6_init_21 : decode cX6_init 21 = .ok (.aload_n 0, 1) := by decide +kernel
theorem dX6_init_22 : decode cX6_init 22 = .ok (.aload_n 1, 1) := by decide +kernel
theorem dX6_init_23 : decode cX6_init 23 = .ok (.putfield 18, 3) := by decide +kernel
theorem dX6_init_26 : decode cX6_init 26 = .ok (.aload_n 0, 1) := by decide +kernel
theorem dX6_init_27 : decode cX6_init 27 = .ok (.aload_n 2, 1) := by decide +kernel
theorem dX6_init_28 : decode cX6_init 28 = .ok (.putfield 22, 3) := by decide +kernel
theorem dX6_init_31 : decode cX6_init 31 = .ok (.return_, 1) := by decide +kernel
theorem dX6_follow_0 : decode cX6_follow 0 = .ok (.aload_n 0, 1) := by decide +kernel
theorem dX6_follow_1 : decode cX6_follow 1 = .ok (.getfield 22, 3) := by decide +kernel
theorem dX6_follow_4 : decode cX6_follow 4 = .ok (.iload_n 1, 1) := by decide +kernel
theorem dX6_follow_5 : decode cX6_follow 5 = .ok (.aaload, 1) := by decide +kernel
theorem dX6_follow_6 : decode cX6_follow 6 = .ok (.aload_n 0, 1) := by decide +kernel
theorem dX6_follow_7 : decode cX6_follow 7 = .ok (.getfield 18, 3) := by decide +kernel
theorem dX6_follow_10 : decode cX6_follow 10 = .ok (.getfield 26, 3) := by decide +kernel
theorem dX6_follow_13 : decode cX6_follow 13 = .ok (.iload_n 1, 1) := by decide +kernel
theorem dX6_follow_14 : decode cX6_follow 14 = .ok (.iaload, 1) := by decide +kernel
theorem dX6_follow_15 : decode cX6_follow 15 = .ok (.invokevirtual 31, 3) := by decide +kernel
theorem dX6_follow_18 : decode cX6_follow 18 = .ok (.aload_n 0, 1) := by decide +kernel
theorem dX6_follow_19 : decode cX6_follow 19 = .ok (.iload_n 1, 1) := by decide +kernel
theorem dX6_follow_20 : decode cX6_follow 20 = .ok (.aload_n 0, 1) := by decide +kernel
theorem dX6_follow_21 : decode cX6_follow 21 = .ok (.getfield 22, 3) := by decide +kernel
theorem dX6_follow_24 : decode cX6_follow 24 = .ok (.iload_n 1, 1) := by decide +kernel
theorem dX6_follow_25 : decode cX6_follow 25 = .ok (.aaload, 1) := by decide +kernel
theorem dX6_follow_26 : decode cX6_follow 26 = .ok (.invokevirtual 37, 3) := by decide +kernel
theorem dX6_follow_29 : decode cX6_follow 29 = .ok (.iload_n 2, 1) := by decide +kernel
theorem dX6_follow_30 : decode cX6_follow 30 = .ok (.invokevirtual 41, 3) := by decide +kernel
theorem dX6_follow_33 : decode cX6_follow 33 = .ok (.return_, 1) := by decide +kernel
theorem dX6_followFrom_0 : decode cX6_followFrom 0 = .ok (.iload_n 2, 1) := by decide +kernel
theorem dX6_followFrom_1 : decode cX6_followFrom 1 = .ok (.istore 4, 2) := by decide +kernel
theorem dX6_followFrom_3 : decode cX6_followFrom 3 = .ok (.aload_n 0, 1) := by decide +kernel
theorem dX6_followFrom_4 : decode cX6_followFrom 4 = .ok (.getfield 11, 3) := by decide +kernel
theorem dX6_followFrom_7 : decode cX6_followFrom 7 = .ok (.iload_n 1, 1) := by decide +kernel
theorem dX6_followFrom_8 : decode cX6_followFrom 8 = .ok (.bipush 61, 2) := by decide +kernel
theorem dX6_followFrom_10 : decode cX6_followFrom 10 = .ok (.imul, 1) := by decide +kernel
theorem dX6_followFrom_11 : decode cX6_followFrom 11 = .ok (.iload 4, 2) := by decide +kernel
theorem dX6_followFrom_13 : decode cX6_followFrom 13 = .ok (.iastore, 1) := by decide +kernel
theorem dX6_followFrom_14 : decode cX6_followFrom 14 = .ok (.iconst 0, 1) := by decide +kernel
theorem dX6_followFrom_15 : decode cX6_followFrom 15 = .ok (.istore 5, 2) := by decide +kernel
theorem dX6_followFrom_17 : decode cX6_followFrom 17 = .ok (.iload 5, 2) := by decide +kernel
theorem dX6_followFrom_19 : decode cX6_followFrom 19 = .ok (.iload_n 3, 1) := by decide +kernel
theorem dX6_followFrom_20 : decode cX6_followFrom 20 = .ok (.if_icmp .ge 41, 3) := by decide +kernel
theorem dX6_followFrom_23 : decode cX6_followFrom 23 = .ok (.aload_n 0, 1) := by decide +kernel
theorem dX6_followFrom_24 : decode cX6_followFrom 24 = .ok (.getfield 22, 3) := by decide +kernel
theorem dX6_followFrom_27 : decode cX6_followFrom 27 = .ok (.iload_n 1, 1) := by decide +kernel
theorem dX6_followFrom_28 : decode cX6_followFrom 28 = .ok (.aaload, 1) := by decide +kernel
theorem dX6_followFrom_29 : decode cX6_followFrom 29 = .ok (.iload 4, 2) := by decide +kernel
theorem dX6_followFrom_31 : decode cX6_followFrom 31 = .ok (.iload 5, 2) := by decide +kernel
theorem dX6_followFrom_33 : decode cX6_followFrom 33 = .ok (.iconst 0, 1) := by decide +kernel
theorem dX6_followFrom_34 : decode cX6_followFrom 34 = .ok (.invokevirtual 45, 3) := by decide +kernel
theorem dX6_followFrom_37 : decode cX6_followFrom 37 = .ok (.istore 4, 2) := by decide +kernel
theorem dX6_followFrom_39 : decode cX6_followFrom 39 = .ok (.aload_n 0, 1) := by decide +kernel
theorem dX6_followFrom_40 : decode cX6_followFrom 40 = .ok (.getfield 11, 3) := by decide +kernel
theorem dX6_followFrom_43 : decode cX6_followFrom 43 = .ok (.iload_n 1, 1) := by decide +kernel
theorem dX6_followFrom_44 : decode cX6_followFrom 44 = .ok (.bipush 61, 2) := by decide +kernel
theorem dX6_followFrom_46 : decode cX6_followFrom 46 = .ok (.imul, 1) := by decide +kernel
theorem dX6_followFrom_47 : decode cX6_followFrom 47 = .ok (.iload 5, 2) := by decide +kernel
theorem dX6_followFrom_49 : decode cX6_followFrom 49 = .ok (.iadd, 1) := by decide +kernel
theorem dX6_followFrom_50 : decode cX6_followFrom 50 = .ok (.iconst 1, 1) := by decide +kernel
theorem dX6_followFrom_51 : decode cX6_followFrom 51 = .ok (.iadd, 1) := by decide +kernel
theorem dX6_followFrom_52 : decode cX6_followFrom 52 = .ok (.iload 4, 2) := by decide +kernel
theorem dX6_followFrom_54 : decode cX6_followFrom 54 = .ok (.iastore, 1) := by decide +kernel
theorem dX6_followFrom_55 : decode cX6_followFrom 55 = .ok (.iinc 5 1, 3) := by decide +kernel
theorem dX6_followFrom_58 : decode cX6_followFrom 58 = .ok (.goto (-41), 3) := by decide +kernel
theorem dX6_followFrom_61 : decode cX6_followFrom 61 = .ok (.return_, 1) := by decide +kernel
theorem dX6_followAll_0 : decode cX6_followAll 0 = .ok (.iconst 0, 1) := by decide +kernel
theorem dX6_followAll_1 : decode cX6_followAll 1 = .ok (.istore_n 2, 1) := by decide +kernel
theorem dX6_followAll_2 : decode cX6_followAll 2 = .ok (.iload_n 2, 1) := by decide +kernel
theorem dX6_followAll_3 : decode cX6_followAll 3 = .ok (.aload_n 0, 1) := by decide +kernel
theorem dX6_followAll_4 : decode cX6_followAll 4 = .ok (.getfield 18, 3) := by decide +kernel
theorem dX6_followAll_7 : decode cX6_followAll 7 = .ok (.getfield 49, 3) := by decide +kernel
theorem dX6_followAll_10 : decode cX6_followAll 10 = .ok (.if_icmp .ge 42, 3) := by decide +kernel
theorem dX6_followAll_13 : decode cX6_followAll 13 = .ok (.aload_n 0, 1) := by decide +kernel
theorem dX6_followAll_14 : decode cX6_followAll 14 = .ok (.getfield 22, 3) := by decide +kernel
theorem dX6_followAll_17 : decode cX6_followAll 17 = .ok (.iload_n 2, 1) := by decide +kernel
theorem dX6_followAll_18 : decode cX6_followAll 18 = .ok (.aaload, 1) := by decide +kernel
theorem dX6_followAll_19 : decode cX6_followAll 19 = .ok (.aload_n 0, 1) := by decide +kernel
theorem dX6_followAll_20 : decode cX6_followAll 20 = .ok (.getfield 18, 3) := by decide +kernel
theorem dX6_followAll_23 : decode cX6_followAll 23 = .ok (.getfield 26, 3) := by decide +kernel
theorem dX6_followAll_26 : decode cX6_followAll 26 = .ok (.iload_n 2, 1) := by decide +kernel
theorem dX6_followAll_27 : decode cX6_followAll 27 = .ok (.iaload, 1) := by decide +kernel
theorem dX6_followAll_28 : decode cX6_followAll 28 = .ok (.invokevirtual 31, 3) := by decide +kernel
theorem dX6_followAll_31 : decode cX6_followAll 31 = .ok (.aload_n 0, 1) := by decide +kernel
theorem dX6_followAll_32 : decode cX6_followAll 32 = .ok (.iload_n 2, 1) := by decide +kernel
theorem dX6_followAll_33 : decode cX6_followAll 33 = .ok (.aload_n 0, 1) := by decide +kernel
theorem dX6_followAll_34 : decode cX6_followAll 34 = .ok (.getfield 22, 3) := by decide +kernel
theorem dX6_followAll_37 : decode cX6_followAll 37 = .ok (.iload_n 2, 1) := by decide +kernel
theorem dX6_followAll_38 : decode cX6_followAll 38 = .ok (.aaload, 1) := by decide +kernel
theorem dX6_followAll_39 : decode cX6_followAll 39 = .ok (.invokevirtual 37, 3) := by decide +kernel
theorem dX6_followAll_42 : decode cX6_followAll 42 = .ok (.iload_n 1, 1) := by decide +kernel
theorem dX6_followAll_43 : decode cX6_followAll 43 = .ok (.invokevirtual 41, 3) := by decide +kernel
theorem dX6_followAll_46 : decode cX6_followAll 46 = .ok (.iinc 2 1, 3) := by decide +kernel
theorem dX6_followAll_49 : decode cX6_followAll 49 = .ok (.goto (-47), 3) := by decide +kernel
theorem dX6_followAll_52 : decode cX6_followAll 52 = .ok (.return_, 1) := by decide +kernel
theorem dX6_cellBehind_0 : decode cX6_cellBehind 0 = .ok (.aload_n 0, 1) := by decide +kernel
theorem dX6_cellBehind_1 : decode cX6_cellBehind 1 = .ok (.getfield 11, 3) := by decide +kernel
theorem dX6_cellBehind_4 : decode cX6_cellBehind 4 = .ok (.iload_n 1, 1) := by decide +kernel
theorem dX6_cellBehind_5 : decode cX6_cellBehind 5 = .ok (.bipush 61, 2) := by decide +kernel
theorem dX6_cellBehind_7 : decode cX6_cellBehind 7 = .ok (.imul, 1) := by decide +kernel
theorem dX6_cellBehind_8 : decode cX6_cellBehind 8 = .ok (.iload_n 2, 1) := by decide +kernel
theorem dX6_cellBehind_9 : decode cX6_cellBehind 9 = .ok (.iadd, 1) := by decide +kernel
theorem dX6_cellBehind_10 : decode cX6_cellBehind 10 = .ok (.iaload, 1) := by decide +kernel
theorem dX6_cellBehind_11 : decode cX6_cellBehind 11 = .ok (.iconst 3, 1) := by decide +kernel
theorem dX6_cellBehind_12 : decode cX6_cellBehind 12 = .ok (.ishr, 1) := by decide +kernel
theorem dX6_cellBehind_13 : decode cX6_cellBehind 13 = .ok (.ireturn, 1) := by decide +kernel
theorem dX6_wayBehind_0 : decode cX6_wayBehind 0 = .ok (.aload_n 0, 1) := by decide +kernel
theorem dX6_wayBehind_1 : decode cX6_wayBehind 1 = .ok (.getfield 11, 3) := by decide +kernel
theorem dX6_wayBehind_4 : decode cX6_wayBehind 4 = .ok (.iload_n 1, 1) := by decide +kernel
theorem dX6_wayBehind_5 : decode cX6_wayBehind 5 = .ok (.bipush 61, 2) := by decide +kernel
theorem dX6_wayBehind_7 : decode cX6_wayBehind 7 = .ok (.imul, 1) := by decide +kernel
theorem dX6_wayBehind_8 : decode cX6_wayBehind 8 = .ok (.iload_n 2, 1) := by decide +kernel
theorem dX6_wayBehind_9 : decode cX6_wayBehind 9 = .ok (.iadd, 1) := by decide +kernel
theorem dX6_wayBehind_10 : decode cX6_wayBehind 10 = .ok (.iaload, 1) := by decide +kernel
theorem dX6_wayBehind_11 : decode cX6_wayBehind 11 = .ok (.bipush 7, 2) := by decide +kernel
theorem dX6_wayBehind_13 : decode cX6_wayBehind 13 = .ok (.iand, 1) := by decide +kernel
theorem dX6_wayBehind_14 : decode cX6_wayBehind 14 = .ok (.ireturn, 1) := by decide +kernel
theorem dX6_firstNearest_0 : decode cX6_firstNearest 0 = .ok (.iconst 0, 1) := by decide +kernel
theorem dX6_firstNearest_1 : decode cX6_firstNearest 1 = .ok (.istore 4, 2) := by decide +kernel
theorem dX6_firstNearest_3 : decode cX6_firstNearest 3 = .ok (.iconst 1, 1) := by decide +kernel
theorem dX6_firstNearest_4 : decode cX6_firstNearest 4 = .ok (.istore 5, 2) := by decide +kernel
theorem dX6_firstNearest_6 : decode cX6_firstNearest 6 = .ok (.iload 5, 2) := by decide +kernel
theorem dX6_firstNearest_8 : decode cX6_firstNearest 8 = .ok (.iload_n 3, 1) := by decide +kernel
theorem dX6_firstNearest_9 : decode cX6_firstNearest 9 = .ok (.if_icmp .gt 38, 3) := by decide +kernel
theorem dX6_firstNearest_12 : decode cX6_firstNearest 12 = .ok (.aload_n 0, 1) := by decide +kernel
theorem dX6_firstNearest_13 : decode cX6_firstNearest 13 = .ok (.iload_n 1, 1) := by decide +kernel
theorem dX6_firstNearest_14 : decode cX6_firstNearest 14 = .ok (.iload 5, 2) := by decide +kernel
theorem dX6_firstNearest_16 : decode cX6_firstNearest 16 = .ok (.invokevirtual 53, 3) := by decide +kernel
theorem dX6_firstNearest_19 : decode cX6_firstNearest 19 = .ok (.iload_n 2, 1) := by decide +kernel
theorem dX6_firstNearest_20 : decode cX6_firstNearest 20 = .ok (.invokestatic 57, 3) := by decide +kernel
theorem dX6_firstNearest_23 : decode cX6_firstNearest 23 = .ok (.aload_n 0, 1) := by decide +kernel
theorem dX6_firstNearest_24 : decode cX6_firstNearest 24 = .ok (.iload_n 1, 1) := by decide +kernel
theorem dX6_firstNearest_25 : decode cX6_firstNearest 25 = .ok (.iload 4, 2) := by decide +kernel
theorem dX6_firstNearest_27 : decode cX6_firstNearest 27 = .ok (.invokevirtual 53, 3) := by decide +kernel
theorem dX6_firstNearest_30 : decode cX6_firstNearest 30 = .ok (.iload_n 2, 1) := by decide +kernel
theorem dX6_firstNearest_31 : decode cX6_firstNearest 31 = .ok (.invokestatic 57, 3) := by decide +kernel
theorem dX6_firstNearest_34 : decode cX6_firstNearest 34 = .ok (.if_icmp .ge 7, 3) := by decide +kernel
theorem dX6_firstNearest_37 : decode cX6_firstNearest 37 = .ok (.iload 5, 2) := by decide +kernel
theorem dX6_firstNearest_39 : decode cX6_firstNearest 39 = .ok (.istore 4, 2) := by decide +kernel
theorem dX6_firstNearest_41 : decode cX6_firstNearest 41 = .ok (.iinc 5 1, 3) := by decide +kernel
theorem dX6_firstNearest_44 : decode cX6_firstNearest 44 = .ok (.goto (-38), 3) := by decide +kernel
theorem dX6_firstNearest_47 : decode cX6_firstNearest 47 = .ok (.iload 4, 2) := by decide +kernel
theorem dX6_firstNearest_49 : decode cX6_firstNearest 49 = .ok (.ireturn, 1) := by decide +kernel
theorem dX6_placesPassed_0 : decode cX6_placesPassed 0 = .ok (.iconst 0, 1) := by decide +kernel
theorem dX6_placesPassed_1 : decode cX6_placesPassed 1 = .ok (.istore_n 3, 1) := by decide +kernel
theorem dX6_placesPassed_2 : decode cX6_placesPassed 2 = .ok (.iconst 0, 1) := by decide +kernel
theorem dX6_placesPassed_3 : decode cX6_placesPassed 3 = .ok (.istore 4, 2) := by decide +kernel
theorem dX6_placesPassed_5 : decode cX6_placesPassed 5 = .ok (.iload 4, 2) := by decide +kernel
theorem dX6_placesPassed_7 : decode cX6_placesPassed 7 = .ok (.iload_n 2, 1) := by decide +kernel
theorem dX6_placesPassed_8 : decode cX6_placesPassed 8 = .ok (.if_icmp .gt 26, 3) := by decide +kernel
theorem dX6_placesPassed_11 : decode cX6_placesPassed 11 = .ok (.iload_n 3, 1) := by decide +kernel
theorem dX6_placesPassed_12 : decode cX6_placesPassed 12 = .ok (.aload_n 0, 1) := by decide +kernel
theorem dX6_placesPassed_13 : decode cX6_placesPassed 13 = .ok (.getfield 18, 3) := by decide +kernel
theorem dX6_placesPassed_16 : decode cX6_placesPassed 16 = .ok (.aload_n 0, 1) := by decide +kernel
theorem dX6_placesPassed_17 : decode cX6_placesPassed 17 = .ok (.iload_n 1, 1) := by decide +kernel
theorem dX6_placesPassed_18 : decode cX6_placesPassed 18 = .ok (.iload 4, 2) := by decide +kernel
theorem dX6_placesPassed_20 : decode cX6_placesPassed 20 = .ok (.invokevirtual 53, 3) := by decide +kernel
theorem dX6_placesPassed_23 : decode cX6_placesPassed 23 = .ok (.invokevirtual 60, 3) := by decide +kernel
theorem dX6_placesPassed_26 : decode cX6_placesPassed 26 = .ok (.ior, 1) := by decide +kernel
theorem dX6_placesPassed_27 : decode cX6_placesPassed 27 = .ok (.istore_n 3, 1) := by decide +kernel
theorem dX6_placesPassed_28 : decode cX6_placesPassed 28 = .ok (.iinc 4 1, 3) := by decide +kernel
theorem dX6_placesPassed_31 : decode cX6_placesPassed 31 = .ok (.goto (-26), 3) := by decide +kernel
theorem dX6_placesPassed_34 : decode cX6_placesPassed 34 = .ok (.iload_n 3, 1) := by decide +kernel
theorem dX6_placesPassed_35 : decode cX6_placesPassed 35 = .ok (.ireturn, 1) := by decide +kernel
theorem dX6_together_0 : decode cX6_together 0 = .ok (.aload_n 0, 1) := by decide +kernel
theorem dX6_together_1 : decode cX6_together 1 = .ok (.getfield 18, 3) := by decide +kernel
theorem dX6_together_4 : decode cX6_together 4 = .ok (.aload_n 0, 1) := by decide +kernel
theorem dX6_together_5 : decode cX6_together 5 = .ok (.iload_n 1, 1) := by decide +kernel
theorem dX6_together_6 : decode cX6_together 6 = .ok (.iload_n 3, 1) := by decide +kernel
theorem dX6_together_7 : decode cX6_together 7 = .ok (.invokevirtual 53, 3) := by decide +kernel
theorem dX6_together_10 : decode cX6_together 10 = .ok (.aload_n 0, 1) := by decide +kernel
theorem dX6_together_11 : decode cX6_together 11 = .ok (.iload_n 2, 1) := by decide +kernel
theorem dX6_together_12 : decode cX6_together 12 = .ok (.iload_n 3, 1) := by decide +kernel
theorem dX6_together_13 : decode cX6_together 13 = .ok (.invokevirtual 53, 3) := by decide +kernel
theorem dX6_together_16 : decode cX6_together 16 = .ok (.invokevirtual 64, 3) := by decide +kernel
theorem dX6_together_19 : decode cX6_together 19 = .ok (.ireturn, 1) := by decide +kernel
theorem dX6_firstMeeting_0 : decode cX6_firstMeeting 0 = .ok (.iconst 0, 1) := by decide +kernel
theorem dX6_firstMeeting_1 : decode cX6_firstMeeting 1 = .ok (.istore_n 3, 1) := by decide +kernel
theorem dX6_firstMeeting_2 : decode cX6_firstMeeting 2 = .ok (.iload_n 3, 1) := by decide +kernel
theorem dX6_firstMeeting_3 : decode cX6_firstMeeting 3 = .ok (.bipush 60, 2) := by decide +kernel
theorem dX6_firstMeeting_5 : decode cX6_firstMeeting 5 = .ok (.if_icmp .gt 21, 3) := by decide +kernel
theorem dX6_firstMeeting_8 : decode cX6_firstMeeting 8 = .ok (.aload_n 0, 1) := by decide +kernel
theorem dX6_firstMeeting_9 : decode cX6_firstMeeting 9 = .ok (.iload_n 1, 1) := by decide +kernel
theorem dX6_firstMeeting_10 : decode cX6_firstMeeting 10 = .ok (.iload_n 2, 1) := by decide +kernel
theorem dX6_firstMeeting_11 : decode cX6_firstMeeting 11 = .ok (.iload_n 3, 1) := by decide +kernel
theorem dX6_firstMeeting_12 : decode cX6_firstMeeting 12 = .ok (.invokevirtual 68, 3) := by decide +kernel
theorem dX6_firstMeeting_15 : decode cX6_firstMeeting 15 = .ok (.ifCond .eq 5, 3) := by decide +kernel
theorem dX6_firstMeeting_18 : decode cX6_firstMeeting 18 = .ok (.iload_n 3, 1) := by decide +kernel
theorem dX6_firstMeeting_19 : decode cX6_firstMeeting 19 = .ok (.ireturn, 1) := by decide +kernel
theorem dX6_firstMeeting_20 : decode cX6_firstMeeting 20 = .ok (.iinc 3 1, 3) := by decide +kernel
theorem dX6_firstMeeting_23 : decode cX6_firstMeeting 23 = .ok (.goto (-21), 3) := by decide +kernel
theorem dX6_firstMeeting_26 : decode cX6_firstMeeting 26 = .ok (.bipush (-2), 2) := by decide +kernel
theorem dX6_firstMeeting_28 : decode cX6_firstMeeting 28 = .ok (.ireturn, 1) := by decide +kernel
theorem dX6_meetings_0 : decode cX6_meetings 0 = .ok (.iconst 0, 1) := by decide +kernel
theorem dX6_meetings_1 : decode cX6_meetings 1 = .ok (.istore 4, 2) := by decide +kernel
theorem dX6_meetings_3 : decode cX6_meetings 3 = .ok (.iconst 0, 1) := by decide +kernel
theorem dX6_meetings_4 : decode cX6_meetings 4 = .ok (.istore 5, 2) := by decide +kernel
theorem dX6_meetings_6 : decode cX6_meetings 6 = .ok (.iload 5, 2) := by decide +kernel
theorem dX6_meetings_8 : decode cX6_meetings 8 = .ok (.iload_n 3, 1) := by decide +kernel
theorem dX6_meetings_9 : decode cX6_meetings 9 = .ok (.if_icmp .gt 23, 3) := by decide +kernel
theorem dX6_meetings_12 : decode cX6_meetings 12 = .ok (.aload_n 0, 1) := by decide +kernel
theorem dX6_meetings_13 : decode cX6_meetings 13 = .ok (.iload_n 1, 1) := by decide +kernel
theorem dX6_meetings_14 : decode cX6_meetings 14 = .ok (.iload_n 2, 1) := by decide +kernel
theorem dX6_meetings_15 : decode cX6_meetings 15 = .ok (.iload 5, 2) := by decide +kernel
theorem dX6_meetings_17 : decode cX6_meetings 17 = .ok (.invokevirtual 68, 3) := by decide +kernel
theorem dX6_meetings_20 : decode cX6_meetings 20 = .ok (.ifCond .eq 6, 3) := by decide +kernel
theorem dX6_meetings_23 : decode cX6_meetings 23 = .ok (.iinc 4 1, 3) := by decide +kernel
theorem dX6_meetings_26 : decode cX6_meetings 26 = .ok (.iinc 5 1, 3) := by decide +kernel
theorem dX6_meetings_29 : decode cX6_meetings 29 = .ok (.goto (-23), 3) := by decide +kernel
theorem dX6_meetings_32 : decode cX6_meetings 32 = .ok (.iload 4, 2) := by decide +kernel
theorem dX6_meetings_34 : decode cX6_meetings 34 = .ok (.ireturn, 1) := by decide +kernel
theorem dX6_carriagesNear_0 : decode cX6_carriagesNear 0 = .ok (.iconst 0, 1) := by decide +kernel
theorem dX6_carriagesNear_1 : decode cX6_carriagesNear 1 = .ok (.istore_n 3, 1) := by decide +kernel
theorem dX6_carriagesNear_2 : decode cX6_carriagesNear 2 = .ok (.iconst 0, 1) := by decide +kernel
theorem dX6_carriagesNear_3 : decode cX6_carriagesNear 3 = .ok (.istore 4, 2) := by decide +kernel
theorem dX6_carriagesNear_5 : decode cX6_carriagesNear 5 = .ok (.iload 4, 2) := by decide +kernel
theorem dX6_carriagesNear_7 : decode cX6_carriagesNear 7 = .ok (.aload_n 0, 1) := by decide +kernel
theorem dX6_carriagesNear_8 : decode cX6_carriagesNear 8 = .ok (.getfield 18, 3) := by decide +kernel
theorem dX6_carriagesNear_11 : decode cX6_carriagesNear 11 = .ok (.getfield 49, 3) := by decide +kernel
theorem dX6_carriagesNear_14 : decode cX6_carriagesNear 14 = .ok (.if_icmp .ge 34, 3) := by decide +kernel
theorem dX6_carriagesNear_17 : decode cX6_carriagesNear 17 = .ok (.aload_n 0, 1) := by decide +kernel
theorem dX6_carriagesNear_18 : decode cX6_carriagesNear 18 = .ok (.getfield 18, 3) := by decide +kernel
theorem dX6_carriagesNear_21 : decode cX6_carriagesNear 21 = .ok (.aload_n 0, 1) := by decide +kernel
theorem dX6_carriagesNear_22 : decode cX6_carriagesNear 22 = .ok (.iload 4, 2) := by decide +kernel
theorem dX6_carriagesNear_24 : decode cX6_carriagesNear 24 = .ok (.iload_n 2, 1) := by decide +kernel
theorem dX6_carriagesNear_25 : decode cX6_carriagesNear 25 = .ok (.invokevirtual 53, 3) := by decide +kernel
theorem dX6_carriagesNear_28 : decode cX6_carriagesNear 28 = .ok (.iload_n 1, 1) := by decide +kernel
theorem dX6_carriagesNear_29 : decode cX6_carriagesNear 29 = .ok (.invokevirtual 64, 3) := by decide +kernel
theorem dX6_carriagesNear_32 : decode cX6_carriagesNear 32 = .ok (.ifCond .eq 10, 3) := by decide +kernel
theorem dX6_carriagesNear_35 : decode cX6_carriagesNear 35 = .ok (.iload_n 3, 1) := by decide +kernel
theorem dX6_carriagesNear_36 : decode cX6_carriagesNear 36 = .ok (.iconst 1, 1) := by decide +kernel
theorem dX6_carriagesNear_37 : decode cX6_carriagesNear 37 = .ok (.iload 4, 2) := by decide +kernel
theorem dX6_carriagesNear_39 : decode cX6_carriagesNear 39 = .ok (.ishl, 1) := by decide +kernel
theorem dX6_carriagesNear_40 : decode cX6_carriagesNear 40 = .ok (.ior, 1) := by decide +kernel
theorem dX6_carriagesNear_41 : decode cX6_carriagesNear 41 = .ok (.istore_n 3, 1) := by decide +kernel
theorem dX6_carriagesNear_42 : decode cX6_carriagesNear 42 = .ok (.iinc 4 1, 3) := by decide +kernel
theorem dX6_carriagesNear_45 : decode cX6_carriagesNear 45 = .ok (.goto (-40), 3) := by decide +kernel
theorem dX6_carriagesNear_48 : decode cX6_carriagesNear 48 = .ok (.iload_n 3, 1) := by decide +kernel
theorem dX6_carriagesNear_49 : decode cX6_carriagesNear 49 = .ok (.ireturn, 1) := by decide +kernel
theorem dX6_soonestBetween_0 : decode cX6_soonestBetween 0 = .ok (.iconst 0, 1) := by decide +kernel
theorem dX6_soonestBetween_1 : decode cX6_soonestBetween 1 = .ok (.istore 4, 2) := by decide +kernel
theorem dX6_soonestBetween_3 : decode cX6_soonestBetween 3 = .ok (.iconst 0, 1) := by decide +kernel
theorem dX6_soonestBetween_4 : decode cX6_soonestBetween 4 = .ok (.istore 5, 2) := by decide +kernel
theorem dX6_soonestBetween_6 : decode cX6_soonestBetween 6 = .ok (.iload 5, 2) := by decide +kernel
theorem dX6_soonestBetween_8 : decode cX6_soonestBetween 8 = .ok (.bipush 60, 2) := by decide +kernel
theorem dX6_soonestBetween_10 : decode cX6_soonestBetween 10 = .ok (.if_icmp .gt 52, 3) := by decide +kernel
theorem dX6_soonestBetween_13 : decode cX6_soonestBetween 13 = .ok (.aload_n 0, 1) := by decide +kernel
theorem dX6_soonestBetween_14 : decode cX6_soonestBetween 14 = .ok (.iload 4, 2) := by decide +kernel
theorem dX6_soonestBetween_16 : decode cX6_soonestBetween 16 = .ok (.aload_n 0, 1) := by decide +kernel
theorem dX6_soonestBetween_17 : decode cX6_soonestBetween 17 = .ok (.iload_n 1, 1) := by decide +kernel
theorem dX6_soonestBetween_18 : decode cX6_soonestBetween 18 = .ok (.iload 5, 2) := by decide +kernel
theorem dX6_soonestBetween_20 : decode cX6_soonestBetween 20 = .ok (.invokevirtual 72, 3) := by decide +kernel
theorem dX6_soonestBetween_23 : decode cX6_soonestBetween 23 = .ok (.ior, 1) := by decide +kernel
theorem dX6_soonestBetween_24 : decode cX6_soonestBetween 24 = .ok (.iload 5, 2) := by decide +kernel
theorem dX6_soonestBetween_26 : decode cX6_soonestBetween 26 = .ok (.invokevirtual 75, 3) := by decide +kernel
theorem dX6_soonestBetween_29 : decode cX6_soonestBetween 29 = .ok (.istore 4, 2) := by decide +kernel
theorem dX6_soonestBetween_31 : decode cX6_soonestBetween 31 = .ok (.iload 4, 2) := by decide +kernel
theorem dX6_soonestBetween_33 : decode cX6_soonestBetween 33 = .ok (.aload_n 0, 1) := by decide +kernel
theorem dX6_soonestBetween_34 : decode cX6_soonestBetween 34 = .ok (.iload_n 2, 1) := by decide +kernel
theorem dX6_soonestBetween_35 : decode cX6_soonestBetween 35 = .ok (.iload 5, 2) := by decide +kernel
theorem dX6_soonestBetween_37 : decode cX6_soonestBetween 37 = .ok (.invokevirtual 72, 3) := by decide +kernel
theorem dX6_soonestBetween_40 : decode cX6_soonestBetween 40 = .ok (.iand, 1) := by decide +kernel
theorem dX6_soonestBetween_41 : decode cX6_soonestBetween 41 = .ok (.ifCond .eq 15, 3) := by decide +kernel
theorem dX6_soonestBetween_44 : decode cX6_soonestBetween 44 = .ok (.iload_n 3, 1) := by decide +kernel
theorem dX6_soonestBetween_45 : decode cX6_soonestBetween 45 = .ok (.ifCond .eq 8, 3) := by decide +kernel
theorem dX6_soonestBetween_48 : decode cX6_soonestBetween 48 = .ok (.iload 4, 2) := by decide +kernel
theorem dX6_soonestBetween_50 : decode cX6_soonestBetween 50 = .ok (.goto 5, 3) := by decide +kernel
theorem dX6_soonestBetween_53 : decode cX6_soonestBetween 53 = .ok (.iload 5, 2) := by decide +kernel
theorem dX6_soonestBetween_55 : decode cX6_soonestBetween 55 = .ok (.ireturn, 1) := by decide +kernel
theorem dX6_soonestBetween_56 : decode cX6_soonestBetween 56 = .ok (.iinc 5 1, 3) := by decide +kernel
theorem dX6_soonestBetween_59 : decode cX6_soonestBetween 59 = .ok (.goto (-53), 3) := by decide +kernel
theorem dX6_soonestBetween_62 : decode cX6_soonestBetween 62 = .ok (.bipush (-2), 2) := by decide +kernel
theorem dX6_soonestBetween_64 : decode cX6_soonestBetween 64 = .ok (.ireturn, 1) := by decide +kernel
theorem dX6_withChanges_0 : decode cX6_withChanges 0 = .ok (.iload_n 1, 1) := by decide +kernel
theorem dX6_withChanges_1 : decode cX6_withChanges 1 = .ok (.istore_n 3, 1) := by decide +kernel
theorem dX6_withChanges_2 : decode cX6_withChanges 2 = .ok (.iconst 1, 1) := by decide +kernel
theorem dX6_withChanges_3 : decode cX6_withChanges 3 = .ok (.istore 4, 2) := by decide +kernel
theorem dX6_withChanges_5 : decode cX6_withChanges 5 = .ok (.iload 4, 2) := by decide +kernel
theorem dX6_withChanges_7 : decode cX6_withChanges 7 = .ok (.bipush 6, 2) := by decide +kernel
theorem dX6_withChanges_9 : decode cX6_withChanges 9 = .ok (.if_icmp .ge 67, 3) := by decide +kernel
theorem dX6_withChanges_12 : decode cX6_withChanges 12 = .ok (.iload_n 3, 1) := by decide +kernel
theorem dX6_withChanges_13 : decode cX6_withChanges 13 = .ok (.istore 5, 2) := by decide +kernel
theorem dX6_withChanges_15 : decode cX6_withChanges 15 = .ok (.iconst 0, 1) := by decide +kernel
theorem dX6_withChanges_16 : decode cX6_withChanges 16 = .ok (.istore 6, 2) := by decide +kernel
theorem dX6_withChanges_18 : decode cX6_withChanges 18 = .ok (.iload 6, 2) := by decide +kernel
theorem dX6_withChanges_20 : decode cX6_withChanges 20 = .ok (.aload_n 0, 1) := by decide +kernel
theorem dX6_withChanges_21 : decode cX6_withChanges 21 = .ok (.getfield 18, 3) := by decide +kernel
theorem dX6_withChanges_24 : decode cX6_withChanges 24 = .ok (.getfield 49, 3) := by decide +kernel
theorem dX6_withChanges_27 : decode cX6_withChanges 27 = .ok (.if_icmp .ge 35, 3) := by decide +kernel
theorem dX6_withChanges_30 : decode cX6_withChanges 30 = .ok (.iload 5, 2) := by decide +kernel
theorem dX6_withChanges_32 : decode cX6_withChanges 32 = .ok (.iload 6, 2) := by decide +kernel
theorem dX6_withChanges_34 : decode cX6_withChanges 34 = .ok (.ishr, 1) := by decide +kernel
theorem dX6_withChanges_35 : decode cX6_withChanges 35 = .ok (.iconst 1, 1) := by decide +kernel
theorem dX6_withChanges_36 : decode cX6_withChanges 36 = .ok (.iand, 1) := by decide +kernel
theorem dX6_withChanges_37 : decode cX6_withChanges 37 = .ok (.iconst 1, 1) := by decide +kernel
theorem dX6_withChanges_38 : decode cX6_withChanges 38 = .ok (.if_icmp .ne 18, 3) := by decide +kernel
theorem dX6_withChanges_41 : decode cX6_withChanges 41 = .ok (.iload_n 3, 1) := by decide +kernel
theorem dX6_withChanges_42 : decode cX6_withChanges 42 = .ok (.aload_n 0, 1) := by decide +kernel
theorem dX6_withChanges_43 : decode cX6_withChanges 43 = .ok (.aload_n 0, 1) := by decide +kernel
theorem dX6_withChanges_44 : decode cX6_withChanges 44 = .ok (.iload 6, 2) := by decide +kernel
theorem dX6_withChanges_46 : decode cX6_withChanges 46 = .ok (.iload_n 2, 1) := by decide +kernel
theorem dX6_withChanges_47 : decode cX6_withChanges 47 = .ok (.invokevirtual 53, 3) := by decide +kernel
theorem dX6_withChanges_50 : decode cX6_withChanges 50 = .ok (.iload_n 2, 1) := by decide +kernel
theorem dX6_withChanges_51 : decode cX6_withChanges 51 = .ok (.invokevirtual 72, 3) := by decide +kernel
theorem dX6_withChanges_54 : decode cX6_withChanges 54 = .ok (.ior, 1) := by decide +kernel
theorem dX6_withChanges_55 : decode cX6_withChanges 55 = .ok (.istore_n 3, 1) := by decide +kernel
theorem dX6_withChanges_56 : decode cX6_withChanges 56 = .ok (.iinc 6 1, 3) := by decide +kernel
theorem dX6_withChanges_59 : decode cX6_withChanges 59 = .ok (.goto (-41), 3) := by decide +kernel
theorem dX6_withChanges_62 : decode cX6_withChanges 62 = .ok (.iload_n 3, 1) := by decide +kernel
theorem dX6_withChanges_63 : decode cX6_withChanges 63 = .ok (.iload 5, 2) := by decide +kernel
theorem dX6_withChanges_65 : decode cX6_withChanges 65 = .ok (.if_icmp .ne 5, 3) := by decide +kernel
theorem dX6_withChanges_68 : decode cX6_withChanges 68 = .ok (.iload_n 3, 1) := by decide +kernel
theorem dX6_withChanges_69 : decode cX6_withChanges 69 = .ok (.ireturn, 1) := by decide +kernel
theorem dX6_withChanges_70 : decode cX6_withChanges 70 = .ok (.iinc 4 1, 3) := by decide +kernel
theorem dX6_withChanges_73 : decode cX6_withChanges 73 = .ok (.goto (-68), 3) := by decide +kernel
theorem dX6_withChanges_76 : decode cX6_withChanges 76 = .ok (.iload_n 3, 1) := by decide +kernel
theorem dX6_withChanges_77 : decode cX6_withChanges 77 = .ok (.ireturn, 1) := by decide +kernel
theorem dX6_bestHouses_0 : decode cX6_bestHouses 0 = .ok (.aload_n 0, 1) := by decide +kernel
theorem dX6_bestHouses_1 : decode cX6_bestHouses 1 = .ok (.iload_n 2, 1) := by decide +kernel
theorem dX6_bestHouses_2 : decode cX6_bestHouses 2 = .ok (.invokevirtual 78, 3) := by decide +kernel
theorem dX6_bestHouses_5 : decode cX6_bestHouses 5 = .ok (.iconst 0, 1) := by decide +kernel
theorem dX6_bestHouses_6 : decode cX6_bestHouses 6 = .ok (.istore_n 3, 1) := by decide +kernel
theorem dX6_bestHouses_7 : decode cX6_bestHouses 7 = .ok (.iconst 1, 1) := by decide +kernel
theorem dX6_bestHouses_8 : decode cX6_bestHouses 8 = .ok (.istore 4, 2) := by decide +kernel
theorem dX6_bestHouses_10 : decode cX6_bestHouses 10 = .ok (.iload 4, 2) := by decide +kernel
theorem dX6_bestHouses_12 : decode cX6_bestHouses 12 = .ok (.iconst 1, 1) := by decide +kernel
theorem dX6_bestHouses_13 : decode cX6_bestHouses 13 = .ok (.aload_n 0, 1) := by decide +kernel
theorem dX6_bestHouses_14 : decode cX6_bestHouses 14 = .ok (.getfield 18, 3) := by decide +kernel
theorem dX6_bestHouses_17 : decode cX6_bestHouses 17 = .ok (.getfield 81, 3) := by decide +kernel
theorem dX6_bestHouses_20 : decode cX6_bestHouses 20 = .ok (.ishl, 1) := by decide +kernel
theorem dX6_bestHouses_21 : decode cX6_bestHouses 21 = .ok (.if_icmp .ge 31, 3) := by decide +kernel
theorem dX6_bestHouses_24 : decode cX6_bestHouses 24 = .ok (.iload 4, 2) := by decide +kernel
theorem dX6_bestHouses_26 : decode cX6_bestHouses 26 = .ok (.invokestatic 84, 3) := by decide +kernel
theorem dX6_bestHouses_29 : decode cX6_bestHouses 29 = .ok (.iload_n 1, 1) := by decide +kernel
theorem dX6_bestHouses_30 : decode cX6_bestHouses 30 = .ok (.if_icmp .gt 16, 3) := by decide +kernel
theorem dX6_bestHouses_33 : decode cX6_bestHouses 33 = .ok (.aload_n 0, 1) := by decide +kernel
theorem dX6_bestHouses_34 : decode cX6_bestHouses 34 = .ok (.iload 4, 2) := by decide +kernel
theorem dX6_bestHouses_36 : decode cX6_bestHouses 36 = .ok (.iload_n 3, 1) := by decide +kernel
theorem dX6_bestHouses_37 : decode cX6_bestHouses 37 = .ok (.invokevirtual 89, 3) := by decide +kernel
theorem dX6_bestHouses_40 : decode cX6_bestHouses 40 = .ok (.ifCond .eq 6, 3) := by decide +kernel
theorem dX6_bestHouses_43 : decode cX6_bestHouses 43 = .ok (.iload 4, 2) := by decide +kernel
theorem dX6_bestHouses_45 : decode cX6_bestHouses 45 = .ok (.istore_n 3, 1) := by decide +kernel
theorem dX6_bestHouses_46 : decode cX6_bestHouses 46 = .ok (.iinc 4 1, 3) := by decide +kernel
theorem dX6_bestHouses_49 : decode cX6_bestHouses 49 = .ok (.goto (-39), 3) := by decide +kernel
theorem dX6_bestHouses_52 : decode cX6_bestHouses 52 = .ok (.iload_n 3, 1) := by decide +kernel
theorem dX6_bestHouses_53 : decode cX6_bestHouses 53 = .ok (.ireturn, 1) := by decide +kernel
theorem dX6_findPassers_0 : decode cX6_findPassers 0 = .ok (.aload_n 0, 1) := by decide +kernel
theorem dX6_findPassers_1 : decode cX6_findPassers 1 = .ok (.getfield 15, 3) := by decide +kernel
theorem dX6_findPassers_4 : decode cX6_findPassers 4 = .ok (.iconst 0, 1) := by decide +kernel
theorem dX6_findPassers_5 : decode cX6_findPassers 5 = .ok (.invokestatic 92, 3) := by decide +kernel
theorem dX6_findPassers_8 : decode cX6_findPassers 8 = .ok (.iconst 0, 1) := by decide +kernel
theorem dX6_findPassers_9 : decode cX6_findPassers 9 = .ok (.istore_n 2, 1) := by decide +kernel
theorem dX6_findPassers_10 : decode cX6_findPassers 10 = .ok (.iload_n 2, 1) := by decide +kernel
theorem dX6_findPassers_11 : decode cX6_findPassers 11 = .ok (.aload_n 0, 1) := by decide +kernel
theorem dX6_findPassers_12 : decode cX6_findPassers 12 = .ok (.getfield 18, 3) := by decide +kernel
theorem dX6_findPassers_15 : decode cX6_findPassers 15 = .ok (.getfield 49, 3) := by decide +kernel
theorem dX6_findPassers_18 : decode cX6_findPassers 18 = .ok (.if_icmp .ge 55, 3) := by decide +kernel
theorem dX6_findPassers_21 : decode cX6_findPassers 21 = .ok (.aload_n 0, 1) := by decide +kernel
theorem dX6_findPassers_22 : decode cX6_findPassers 22 = .ok (.iload_n 2, 1) := by decide +kernel
theorem dX6_findPassers_23 : decode cX6_findPassers 23 = .ok (.iload_n 1, 1) := by decide +kernel
theorem dX6_findPassers_24 : decode cX6_findPassers 24 = .ok (.invokevirtual 98, 3) := by decide +kernel
theorem dX6_findPassers_27 : decode cX6_findPassers 27 = .ok (.istore_n 3, 1) := by decide +kernel
theorem dX6_findPassers_28 : decode cX6_findPassers 28 = .ok (.iconst 0, 1) := by decide +kernel
theorem dX6_findPassers_29 : decode cX6_findPassers 29 = .ok (.istore 4, 2) := by decide +kernel
theorem dX6_findPassers_31 : decode cX6_findPassers 31 = .ok (.iload 4, 2) := by decide +kernel
theorem dX6_findPassers_33 : decode cX6_findPassers 33 = .ok (.aload_n 0, 1) := by decide +kernel
theorem dX6_findPassers_34 : decode cX6_findPassers 34 = .ok (.getfield 18, 3) := by decide +kernel
theorem dX6_findPassers_37 : decode cX6_findPassers 37 = .ok (.getfield 81, 3) := by decide +kernel
theorem dX6_findPassers_40 : decode cX6_findPassers 40 = .ok (.if_icmp .ge 27, 3) := by decide +kernel
theorem dX6_findPassers_43 : decode cX6_findPassers 43 = .ok (.aload_n 0, 1) := by decide +kernel
theorem dX6_findPassers_44 : decode cX6_findPassers 44 = .ok (.getfield 15, 3) := by decide +kernel
theorem dX6_findPassers_47 : decode cX6_findPassers 47 = .ok (.iload 4, 2) := by decide +kernel
theorem dX6_findPassers_49 : decode cX6_findPassers 49 = .ok (.dup2, 1) := by decide +kernel
theorem dX6_findPassers_50 : decode cX6_findPassers 50 = .ok (.iaload, 1) := by decide +kernel
theorem dX6_findPassers_51 : decode cX6_findPassers 51 = .ok (.iload_n 3, 1) := by decide +kernel
theorem dX6_findPassers_52 : decode cX6_findPassers 52 = .ok (.iload 4, 2) := by decide +kernel
theorem dX6_findPassers_54 : decode cX6_findPassers 54 = .ok (.ishr, 1) := by decide +kernel
theorem dX6_findPassers_55 : decode cX6_findPassers 55 = .ok (.iconst 1, 1) := by decide +kernel
theorem dX6_findPassers_56 : decode cX6_findPassers 56 = .ok (.iand, 1) := by decide +kernel
theorem dX6_findPassers_57 : decode cX6_findPassers 57 = .ok (.iload_n 2, 1) := by decide +kernel
theorem dX6_findPassers_58 : decode cX6_findPassers 58 = .ok (.ishl, 1) := by decide +kernel
theorem dX6_findPassers_59 : decode cX6_findPassers 59 = .ok (.ior, 1) := by decide +kernel
theorem dX6_findPassers_60 : decode cX6_findPassers 60 = .ok (.iastore, 1) := by decide +kernel
theorem dX6_findPassers_61 : decode cX6_findPassers 61 = .ok (.iinc 4 1, 3) := by decide +kernel
theorem dX6_findPassers_64 : decode cX6_findPassers 64 = .ok (.goto (-33), 3) := by decide +kernel
theorem dX6_findPassers_67 : decode cX6_findPassers 67 = .ok (.iinc 2 1, 3) := by decide +kernel
theorem dX6_findPassers_70 : decode cX6_findPassers 70 = .ok (.goto (-60), 3) := by decide +kernel
theorem dX6_findPassers_73 : decode cX6_findPassers 73 = .ok (.return_, 1) := by decide +kernel
theorem dX6_betterHouses_0 : decode cX6_betterHouses 0 = .ok (.aload_n 0, 1) := by decide +kernel
theorem dX6_betterHouses_1 : decode cX6_betterHouses 1 = .ok (.iload_n 1, 1) := by decide +kernel
theorem dX6_betterHouses_2 : decode cX6_betterHouses 2 = .ok (.invokevirtual 101, 3) := by decide +kernel
theorem dX6_betterHouses_5 : decode cX6_betterHouses 5 = .ok (.invokestatic 84, 3) := by decide +kernel
theorem dX6_betterHouses_8 : decode cX6_betterHouses 8 = .ok (.aload_n 0, 1) := by decide +kernel
theorem dX6_betterHouses_9 : decode cX6_betterHouses 9 = .ok (.iload_n 2, 1) := by decide +kernel
theorem dX6_betterHouses_10 : decode cX6_betterHouses 10 = .ok (.invokevirtual 101, 3) := by decide +kernel
theorem dX6_betterHouses_13 : decode cX6_betterHouses 13 = .ok (.invokestatic 84, 3) := by decide +kernel
theorem dX6_betterHouses_16 : decode cX6_betterHouses 16 = .ok (.isub, 1) := by decide +kernel
theorem dX6_betterHouses_17 : decode cX6_betterHouses 17 = .ok (.istore_n 3, 1) := by decide +kernel
theorem dX6_betterHouses_18 : decode cX6_betterHouses 18 = .ok (.iload_n 3, 1) := by decide +kernel
theorem dX6_betterHouses_19 : decode cX6_betterHouses 19 = .ok (.ifCond .gt 18, 3) := by decide +kernel
theorem dX6_betterHouses_22 : decode cX6_betterHouses 22 = .ok (.iload_n 3, 1) := by decide +kernel
theorem dX6_betterHouses_23 : decode cX6_betterHouses 23 = .ok (.ifCond .ne 18, 3) := by decide +kernel
theorem dX6_betterHouses_26 : decode cX6_betterHouses 26 = .ok (.iload_n 1, 1) := by decide +kernel
theorem dX6_betterHouses_27 : decode cX6_betterHouses 27 = .ok (.invokestatic 84, 3) := by decide +kernel
theorem dX6_betterHouses_30 : decode cX6_betterHouses 30 = .ok (.iload_n 2, 1) := by decide +kernel
theorem dX6_betterHouses_31 : decode cX6_betterHouses 31 = .ok (.invokestatic 84, 3) := by decide +kernel
theorem dX6_betterHouses_34 : decode cX6_betterHouses 34 = .ok (.if_icmp .ge 7, 3) := by decide +kernel
theorem dX6_betterHouses_37 : decode cX6_betterHouses 37 = .ok (.iconst 1, 1) := by decide +kernel
theorem dX6_betterHouses_38 : decode cX6_betterHouses 38 = .ok (.goto 4, 3) := by decide +kernel
theorem dX6_betterHouses_41 : decode cX6_betterHouses 41 = .ok (.iconst 0, 1) := by decide +kernel
theorem dX6_betterHouses_42 : decode cX6_betterHouses 42 = .ok (.ireturn, 1) := by decide +kernel
theorem dX6_passersOf_0 : decode cX6_passersOf 0 = .ok (.iconst 0, 1) := by decide +kernel
theorem dX6_passersOf_1 : decode cX6_passersOf 1 = .ok (.istore_n 2, 1) := by decide +kernel
theorem dX6_passersOf_2 : decode cX6_passersOf 2 = .ok (.iconst 0, 1) := by decide +kernel
theorem dX6_passersOf_3 : decode cX6_passersOf 3 = .ok (.istore_n 3, 1) := by decide +kernel
theorem dX6_passersOf_4 : decode cX6_passersOf 4 = .ok (.iload_n 3, 1) := by decide +kernel
theorem dX6_passersOf_5 : decode cX6_passersOf 5 = .ok (.aload_n 0, 1) := by decide +kernel
theorem dX6_passersOf_6 : decode cX6_passersOf 6 = .ok (.getfield 18, 3) := by decide +kernel
theorem dX6_passersOf_9 : decode cX6_passersOf 9 = .ok (.getfield 81, 3) := by decide +kernel
theorem dX6_passersOf_12 : decode cX6_passersOf 12 = .ok (.if_icmp .ge 27, 3) := by decide +kernel
theorem dX6_passersOf_15 : decode cX6_passersOf 15 = .ok (.iload_n 1, 1) := by decide +kernel
theorem dX6_passersOf_16 : decode cX6_passersOf 16 = .ok (.iload_n 3, 1) := by decide +kernel
theorem dX6_passersOf_17 : decode cX6_passersOf 17 = .ok (.ishr, 1) := by decide +kernel
theorem dX6_passersOf_18 : decode cX6_passersOf 18 = .ok (.iconst 1, 1) := by decide +kernel
theorem dX6_passersOf_19 : decode cX6_passersOf 19 = .ok (.iand, 1) := by decide +kernel
theorem dX6_passersOf_20 : decode cX6_passersOf 20 = .ok (.iconst 1, 1) := by decide +kernel
theorem dX6_passersOf_21 : decode cX6_passersOf 21 = .ok (.if_icmp .ne 12, 3) := by decide +kernel
theorem dX6_passersOf_24 : decode cX6_passersOf 24 = .ok (.iload_n 2, 1) := by decide +kernel
theorem dX6_passersOf_25 : decode cX6_passersOf 25 = .ok (.aload_n 0, 1) := by decide +kernel
theorem dX6_passersOf_26 : decode cX6_passersOf 26 = .ok (.getfield 15, 3) := by decide +kernel
theorem dX6_passersOf_29 : decode cX6_passersOf 29 = .ok (.iload_n 3, 1) := by decide +kernel
theorem dX6_passersOf_30 : decode cX6_passersOf 30 = .ok (.iaload, 1) := by decide +kernel
theorem dX6_passersOf_31 : decode cX6_passersOf 31 = .ok (.ior, 1) := by decide +kernel
theorem dX6_passersOf_32 : decode cX6_passersOf 32 = .ok (.istore_n 2, 1) := by decide +kernel
theorem dX6_passersOf_33 : decode cX6_passersOf 33 = .ok (.iinc 3 1, 3) := by decide +kernel
theorem dX6_passersOf_36 : decode cX6_passersOf 36 = .ok (.goto (-32), 3) := by decide +kernel
theorem dX6_passersOf_39 : decode cX6_passersOf 39 = .ok (.iload_n 2, 1) := by decide +kernel
theorem dX6_passersOf_40 : decode cX6_passersOf 40 = .ok (.ireturn, 1) := by decide +kernel
theorem dX7_init_0 : decode cX7_init 0 = .ok (.aload_n 0, 1) := by decide +kernel
theorem dX7_init_1 : decode cX7_init 1 = .ok (.invokespecial 3, 3) := by decide +kernel
theorem dX7_init_4 : decode cX7_init 4 = .ok (.aload_n 0, 1) := by decide +kernel
theorem dX7_init_5 : decode cX7_init 5 = .ok (.bipush 6, 2) := by decide +kernel
theorem dX7_init_7 : decode cX7_init 7 = .ok (.newarray .int, 2) := by decide +kernel
theorem dX7_init_9 : decode cX7_init 9 = .ok (.putfield 9, 3) := by decide +kernel
theorem dX7_init_12 : decode cX7_init 12 = .ok (.aload_n 0, 1) := by decide +kernel
theorem dX7_init_13 : decode cX7_init 13 = .ok (.bipush 6, 2) := by decide +kernel
theorem dX7_init_15 : decode cX7_init 15 = .ok (.newarray .int, 2) := by decide +kernel
theorem dX7_init_17 : decode cX7_init 17 = .ok (.putfield 15, 3) := by decide +kernel
theorem dX7_init_20 : decode cX7_init 20 = .ok (.aload_n 0, 1) := by decide +kernel
theorem dX7_init_21 : decode cX7_init 21 = .ok (.bipush 6, 2) := by decide +kernel
theorem dX7_init_23 : decode cX7_init 23 = .ok (.newarray .int, 2) := by decide +kernel
theorem dX7_init_25 : decode cX7_init 25 = .ok (.putfield 18, 3) := by decide +kernel
theorem dX7_init_28 : decode cX7_init 28 = .ok (.aload_n 0, 1) := by decide +kernel
theorem dX7_init_29 : decode cX7_init 29 = .ok (.bipush 6, 2) := by decide +kernel
theorem dX7_init_31 : decode cX7_init 31 = .ok (.newarray .int, 2) := by decide +kernel
theorem dX7_init_33 : decode cX7_init 33 = .ok (.putfield 21, 3) := by decide +kernel
theorem dX7_init_36 : decode cX7_init 36 = .ok (.aload_n 0, 1) := by decide +kernel
theorem dX7_init_37 : decode cX7_init 37 = .ok (.bipush 8, 2) := by decide +kernel
theorem dX7_init_39 : decode cX7_init 39 = .ok (.newarray .int, 2) := by decide +kernel
theorem dX7_init_41 : decode cX7_init 41 = .ok (.putfield 24, 3) := by decide +kernel
theorem dX7_init_44 : decode cX7_init 44 = .ok (.aload_n 0, 1) := by decide +kernel
theorem dX7_init_45 : decode cX7_init 45 = .ok (.bipush 8, 2) := by decide +kernel
theorem dX7_init_47 : decode cX7_init 47 = .ok (.newarray .int, 2) := by decide +kernel
theorem dX7_init_49 : decode cX7_init 49 = .ok (.putfield 27, 3) := by decide +kernel
theorem dX7_init_52 : decode cX7_init 52 = .ok (.aload_n 0, 1) := by decide +kernel
theorem dX7_init_53 : decode cX7_init 53 = .ok (.iconst 1, 1) := by decide +kernel
theorem dX7_init_54 : decode cX7_init 54 = .ok (.putfield 30, 3) := by decide +kernel
theorem dX7_init_57 : decode cX7_init 57 = .ok (.return_, 1) := by decide +kernel
theorem dX7_mayBe_0 : decode cX7_mayBe 0 = .ok (.iload_n 0, 1) := by decide +kernel
theorem dX7_mayBe_1 : decode cX7_mayBe 1 = .ok (.iconst 0, 1) := by decide +kernel
theorem dX7_mayBe_2 : decode cX7_mayBe 2 = .ok (.bipush 8, 2) := by decide +kernel
theorem dX7_mayBe_4 : decode cX7_mayBe 4 = .ok (.invokestatic 34, 3) := by decide +kernel
theorem dX7_mayBe_7 : decode cX7_mayBe 7 = .ok (.ifCond .eq 24, 3) := by decide +kernel
theorem dX7_mayBe_10 : decode cX7_mayBe 10 = .ok (.iload_n 1, 1) := by decide +kernel
theorem dX7_mayBe_11 : decode cX7_mayBe 11 = .ok (.getstatic 38, 3) := by decide +kernel
theorem dX7_mayBe_14 : decode cX7_mayBe 14 = .ok (.iload_n 0, 1) := by decide +kernel
theorem dX7_mayBe_15 : decode cX7_mayBe 15 = .ok (.iaload, 1) := by decide +kernel
theorem dX7_mayBe_16 : decode cX7_mayBe 16 = .ok (.getstatic 41, 3) := by decide +kernel
theorem dX7_mayBe_19 : decode cX7_mayBe 19 = .ok (.iload_n 0, 1) := by decide +kernel
theorem dX7_mayBe_20 : decode cX7_mayBe 20 = .ok (.iaload, 1) := by decide +kernel
theorem dX7_mayBe_21 : decode cX7_mayBe 21 = .ok (.invokestatic 34, 3) := by decide +kernel
theorem dX7_mayBe_24 : decode cX7_mayBe 24 = .ok (.ifCond .eq 7, 3) := by decide +kernel
theorem dX7_mayBe_27 : decode cX7_mayBe 27 = .ok (.iconst 1, 1) := by decide +kernel
theorem dX7_mayBe_28 : decode cX7_mayBe 28 = .ok (.goto 4, 3) := by decide +kernel
theorem dX7_mayBe_31 : decode cX7_mayBe 31 = .ok (.iconst 0, 1) := by decide +kernel
theorem dX7_mayBe_32 : decode cX7_mayBe 32 = .ok (.ireturn, 1) := by decide +kernel
theorem dX7_apart_0 : decode cX7_apart 0 = .ok (.iload_n 0, 1) := by decide +kernel
theorem dX7_apart_1 : decode cX7_apart 1 = .ok (.bipush 15, 2) := by decide +kernel
theorem dX7_apart_3 : decode cX7_apart 3 = .ok (.iand, 1) := by decide +kernel
theorem dX7_apart_4 : decode cX7_apart 4 = .ok (.iload_n 1, 1) := by decide +kernel
theorem dX7_apart_5 : decode cX7_apart 5 = .ok (.bipush 15, 2) := by decide +kernel
theorem dX7_apart_7 : decode cX7_apart 7 = .ok (.iand, 1) := by decide +kernel
theorem dX7_apart_8 : decode cX7_apart 8 = .ok (.isub, 1) := by decide +kernel
theorem dX7_apart_9 : decode cX7_apart 9 = .ok (.invokestatic 44, 3) := by decide +kernel
theorem dX7_apart_12 : decode cX7_apart 12 = .ok (.iload_n 0, 1) := by decide +kernel
theorem dX7_apart_13 : decode cX7_apart 13 = .ok (.iconst 4, 1) := by decide +kernel
theorem dX7_apart_14 : decode cX7_apart 14 = .ok (.ishr, 1) := by decide +kernel
theorem dX7_apart_15 : decode cX7_apart 15 = .ok (.iload_n 1, 1) := by decide +kernel
theorem dX7_apart_16 : decode cX7_apart 16 = .ok (.iconst 4, 1) := by decide +kernel
theorem dX7_apart_17 : decode cX7_apart 17 = .ok (.ishr, 1) := by decide +kernel
theorem dX7_apart_18 : decode cX7_apart 18 = .ok (.isub, 1) := by decide +kernel
theorem dX7_apart_19 : decode cX7_apart 19 = .ok (.invokestatic 44, 3) := by decide +kernel
theorem dX7_apart_22 : decode cX7_apart 22 = .ok (.invokestatic 50, 3) := by decide +kernel
theorem dX7_apart_25 : decode cX7_apart 25 = .ok (.ireturn, 1) := by decide +kernel
theorem dX7_near_0 : decode cX7_near 0 = .ok (.iload_n 1, 1) := by decide +kernel
theorem dX7_near_1 : decode cX7_near 1 = .ok (.iload_n 2, 1) := by decide +kernel
theorem dX7_near_2 : decode cX7_near 2 = .ok (.invokestatic 54, 3) := by decide +kernel
theorem dX7_near_5 : decode cX7_near 5 = .ok (.aload_n 0, 1) := by decide +kernel
theorem dX7_near_6 : decode cX7_near 6 = .ok (.getfield 30, 3) := by decide +kernel
theorem dX7_near_9 : decode cX7_near 9 = .ok (.if_icmp .gt 7, 3) := by decide +kernel
theorem dX7_near_12 : decode cX7_near 12 = .ok (.iconst 1, 1) := by decide +kernel
theorem dX7_near_13 : decode cX7_near 13 = .ok (.goto 4, 3) := by decide +kernel
theorem dX7_near_16 : decode cX7_near 16 = .ok (.iconst 0, 1) := by decide +kernel
theorem dX7_near_17 : decode cX7_near 17 = .ok (.ireturn, 1) := by decide +kernel
theorem dX7_hasCarriage_0 : decode cX7_hasCarriage 0 = .ok (.iload_n 1, 1) := by decide +kernel
theorem dX7_hasCarriage_1 : decode cX7_hasCarriage 1 = .ok (.ifCond .lt 15, 3) := by decide +kernel
theorem dX7_hasCarriage_4 : decode cX7_hasCarriage 4 = .ok (.iload_n 1, 1) := by decide +kernel
theorem dX7_hasCarriage_5 : decode cX7_hasCarriage 5 = .ok (.aload_n 0, 1) := by decide +kernel
theorem dX7_hasCarriage_6 : decode cX7_hasCarriage 6 = .ok (.getfield 57, 3) := by decide +kernel
theorem dX7_hasCarriage_9 : decode cX7_hasCarriage 9 = .ok (.if_icmp .ge 7, 3) := by decide +kernel
theorem dX7_hasCarriage_12 : decode cX7_hasCarriage 12 = .ok (.iconst 1, 1) := by decide +kernel
theorem dX7_hasCarriage_13 : decode cX7_hasCarriage 13 = .ok (.goto 4, 3) := by decide +kernel
theorem dX7_hasCarriage_16 : decode cX7_hasCarriage 16 = .ok (.iconst 0, 1) := by decide +kernel
theorem dX7_hasCarriage_17 : decode cX7_hasCarriage 17 = .ok (.ireturn, 1) := by decide +kernel
theorem dX7_hasPlace_0 : decode cX7_hasPlace 0 = .ok (.iload_n 1, 1) := by decide +kernel
theorem dX7_hasPlace_1 : decode cX7_hasPlace 1 = .ok (.ifCond .lt 15, 3) := by decide +kernel
theorem dX7_hasPlace_4 : decode cX7_hasPlace 4 = .ok (.iload_n 1, 1) := by decide +kernel
theorem dX7_hasPlace_5 : decode cX7_hasPlace 5 = .ok (.aload_n 0, 1) := by decide +kernel
theorem dX7_hasPlace_6 : decode cX7_hasPlace 6 = .ok (.getfield 60, 3) := by decide +kernel
theorem dX7_hasPlace_9 : decode cX7_hasPlace 9 = .ok (.if_icmp .ge 7, 3) := by decide +kernel
theorem dX7_hasPlace_12 : decode cX7_hasPlace 12 = .ok (.iconst 1, 1) := by decide +kernel
theorem dX7_hasPlace_13 : decode cX7_hasPlace 13 = .ok (.goto 4, 3) := by decide +kernel
theorem dX7_hasPlace_16 : decode cX7_hasPlace 16 = .ok (.iconst 0, 1) := by decide +kernel
theorem dX7_hasPlace_17 : decode cX7_hasPlace 17 = .ok (.ireturn, 1) := by decide +kernel
theorem dX7_addCarriage_0 : decode cX7_addCarriage 0 = .ok (.aload_n 0, 1) := by decide +kernel
theorem dX7_addCarriage_1 : decode cX7_addCarriage 1 = .ok (.getfield 57, 3) := by decide +kernel
theorem dX7_addCarriage_4 : decode cX7_addCarriage 4 = .ok (.bipush 6, 2) := by decide +kernel
theorem dX7_addCarriage_6 : decode cX7_addCarriage 6 = .ok (.if_icmp .lt 6, 3) := by decide +kernel
theorem dX7_addCarriage_9 : decode cX7_addCarriage 9 = .ok (.bipush (-3), 2) := by decide +kernel
theorem dX7_addCarriage_11 : decode cX7_addCarriage 11 = .ok (.ireturn, 1) := by decide +kernel
theorem dX7_addCarriage_12 : decode cX7_addCarriage 12 = .ok (.aload_n 0, 1) := by decide +kernel
theorem dX7_addCarriage_13 : decode cX7_addCarriage 13 = .ok (.getfield 9, 3) := by decide +kernel
theorem dX7_addCarriage_16 : decode cX7_addCarriage 16 = .ok (.aload_n 0, 1) := by decide +kernel
theorem dX7_addCarriage_17 : decode cX7_addCarriage 17 = .ok (.getfield 57, 3) := by decide +kernel
theorem dX7_addCarriage_20 : decode cX7_addCarriage 20 = .ok (.iload_n 1, 1) := by decide +kernel
theorem dX7_addCarriage_21 : decode cX7_addCarriage 21 = .ok (.iastore, 1) := by decide +kernel
theorem dX7_addCarriage_22 : decode cX7_addCarriage 22 = .ok (.aload_n 0, 1) := by decide +kernel
theorem dX7_addCarriage_23 : decode cX7_addCarriage 23 = .ok (.getfield 15, 3) := by decide +kernel
theorem dX7_addCarriage_26 : decode cX7_addCarriage 26 = .ok (.aload_n 0, 1) := by decide +kernel
theorem dX7_addCarriage_27 : decode cX7_addCarriage 27 = .ok (.getfield 57, 3) := by decide +kernel
theorem dX7_addCarriage_30 : decode cX7_addCarriage 30 = .ok (.iload_n 2, 1) := by decide +kernel
theorem dX7_addCarriage_31 : decode cX7_addCarriage 31 = .ok (.iastore, 1) := by decide +kernel
theorem dX7_addCarriage_32 : decode cX7_addCarriage 32 = .ok (.aload_n 0, 1) := by decide +kernel
theorem dX7_addCarriage_33 : decode cX7_addCarriage 33 = .ok (.getfield 18, 3) := by decide +kernel
theorem dX7_addCarriage_36 : decode cX7_addCarriage 36 = .ok (.aload_n 0, 1) := by decide +kernel
theorem dX7_addCarriage_37 : decode cX7_addCarriage 37 = .ok (.getfield 57, 3) := by decide +kernel
theorem dX7_addCarriage_40 : decode cX7_addCarriage 40 = .ok (.iload_n 3, 1) := by decide +kernel
theorem dX7_addCarriage_41 : decode cX7_addCarriage 41 = .ok (.iastore, 1) := by decide +kernel
theorem dX7_addCarriage_42 : decode cX7_addCarriage 42 = .ok (.aload_n 0, 1) := by decide +kernel
theorem dX7_addCarriage_43 : decode cX7_addCarriage 43 = .ok (.getfield 21, 3) := by decide +kernel
theorem dX7_addCarriage_46 : decode cX7_addCarriage 46 = .ok (.aload_n 0, 1) := by decide +kernel
theorem dX7_addCarriage_47 : decode cX7_addCarriage 47 = .ok (.getfield 57, 3) := by decide +kernel
theorem dX7_addCarriage_50 : decode cX7_addCarriage 50 = .ok (.bipush 9, 2) := by decide +kernel
theorem dX7_addCarriage_52 : decode cX7_addCarriage 52 = .ok (.iastore, 1) := by decide +kernel
theorem dX7_addCarriage_53 : decode cX7_addCarriage 53 = .ok (.aload_n 0, 1) := by decide +kernel
theorem dX7_addCarriage_54 : decode cX7_addCarriage 54 = .ok (.dup, 1) := by decide +kernel
theorem dX7_addCarriage_55 : decode cX7_addCarriage 55 = .ok (.getfield 57, 3) := by decide +kernel
theorem dX7_addCarriage_58 : decode cX7_addCarriage 58 = .ok (.iconst 1, 1) := by decide +kernel
theorem dX7_addCarriage_59 : decode cX7_addCarriage 59 = .ok (.iadd, 1) := by decide +kernel
theorem dX7_addCarriage_60 : decode cX7_addCarriage 60 = .ok (.putfield 57, 3) := by decide +kernel
theorem dX7_addCarriage_63 : decode cX7_addCarriage 63 = .ok (.aload_n 0, 1) := by decide +kernel
theorem dX7_addCarriage_64 : decode cX7_addCarriage 64 = .ok (.getfield 57, 3) := by decide +kernel
theorem dX7_addCarriage_67 : decode cX7_addCarriage 67 = .ok (.iconst 1, 1) := by decide +kernel
theorem dX7_addCarriage_68 : decode cX7_addCarriage 68 = .ok (.isub, 1) := by decide +kernel
theorem dX7_addCarriage_69 : decode cX7_addCarriage 69 = .ok (.ireturn, 1) := by decide +kernel
theorem dX7_addPlace_0 : decode cX7_addPlace 0 = .ok (.aload_n 0, 1) := by decide +kernel
theorem dX7_addPlace_1 : decode cX7_addPlace 1 = .ok (.getfield 60, 3) := by decide +kernel
theorem dX7_addPlace_4 : decode cX7_addPlace 4 = .ok (.bipush 8, 2) := by decide +kernel
theorem dX7_addPlace_6 : decode cX7_addPlace 6 = .ok (.if_icmp .lt 6, 3) := by decide +kernel
theorem dX7_addPlace_9 : decode cX7_addPlace 9 = .ok (.bipush (-3), 2) := by decide +kernel
theorem dX7_addPlace_11 : decode cX7_addPlace 11 = .ok (.ireturn, 1) := by decide +kernel
theorem dX7_addPlace_12 : decode cX7_addPlace 12 = .ok (.aload_n 0, 1) := by decide +kernel
theorem dX7_addPlace_13 : decode cX7_addPlace 13 = .ok (.getfield 24, 3) := by decide +kernel
theorem dX7_addPlace_16 : decode cX7_addPlace 16 = .ok (.aload_n 0, 1) := by decide +kernel
theorem dX7_addPlace_17 : decode cX7_addPlace 17 = .ok (.getfield 60, 3) := by decide +kernel
theorem dX7_addPlace_20 : decode cX7_addPlace 20 = .ok (.iload_n 1, 1) := by decide +kernel
theorem dX7_addPlace_21 : decode cX7_addPlace 21 = .ok (.iastore, 1) := by decide +kernel
theorem dX7_addPlace_22 : decode cX7_addPlace 22 = .ok (.aload_n 0, 1) := by decide +kernel
theorem dX7_addPlace_23 : decode cX7_addPlace 23 = .ok (.getfield 27, 3) := by decide +kernel
theorem dX7_addPlace_26 : decode cX7_addPlace 26 = .ok (.aload_n 0, 1) := by decide +kernel
theorem dX7_addPlace_27 : decode cX7_addPlace 27 = .ok (.getfield 60, 3) := by decide +kernel
theorem dX7_addPlace_30 : decode cX7_addPlace 30 = .ok (.iconst 1, 1) := by decide +kernel
theorem dX7_addPlace_31 : decode cX7_addPlace 31 = .ok (.iastore, 1) := by decide +kernel
theorem dX7_addPlace_32 : decode cX7_addPlace 32 = .ok (.aload_n 0, 1) := by decide +kernel
theorem dX7_addPlace_33 : decode cX7_addPlace 33 = .ok (.dup, 1) := by decide +kernel
theorem dX7_addPlace_34 : decode cX7_addPlace 34 = .ok (.getfield 60, 3) := by decide +kernel
theorem dX7_addPlace_37 : decode cX7_addPlace 37 = .ok (.iconst 1, 1) := by decide +kernel
theorem dX7_addPlace_38 : decode cX7_addPlace 38 = .ok (.iadd, 1) := by decide +kernel
theorem dX7_addPlace_39 : decode cX7_addPlace 39 = .ok (.putfield 60, 3) := by decide +kernel
theorem dX7_addPlace_42 : decode cX7_addPlace 42 = .ok (.aload_n 0, 1) := by decide +kernel
theorem dX7_addPlace_43 : decode cX7_addPlace 43 = .ok (.getfield 60, 3) := by decide +kernel
theorem dX7_addPlace_46 : decode cX7_addPlace 46 = .ok (.iconst 1, 1) := by decide +kernel
theorem dX7_addPlace_47 : decode cX7_addPlace 47 = .ok (.isub, 1) := by decide +kernel
theorem dX7_addPlace_48 : decode cX7_addPlace 48 = .ok (.ireturn, 1) := by decide +kernel
theorem dX7_has_0 : decode cX7_has 0 = .ok (.iload_n 2, 1) := by decide +kernel
theorem dX7_has_1 : decode cX7_has 1 = .ok (.iconst 0, 1) := by decide +kernel
theorem dX7_has_2 : decode cX7_has 2 = .ok (.iconst 3, 1) := by decide +kernel
theorem dX7_has_3 : decode cX7_has 3 = .ok (.invokestatic 34, 3) := by decide +kernel
theorem dX7_has_6 : decode cX7_has 6 = .ok (.ifCond .eq 9, 3) := by decide +kernel
theorem dX7_has_9 : decode cX7_has 9 = .ok (.aload_n 0, 1) := by decide +kernel
theorem dX7_has_10 : decode cX7_has 10 = .ok (.iload_n 1, 1) := by decide +kernel
theorem dX7_has_11 : decode cX7_has 11 = .ok (.invokevirtual 63, 3) := by decide +kernel
theorem dX7_has_14 : decode cX7_has 14 = .ok (.ireturn, 1) := by decide +kernel
theorem dX7_has_15 : decode cX7_has 15 = .ok (.iload_n 2, 1) := by decide +kernel
theorem dX7_has_16 : decode cX7_has 16 = .ok (.iconst 4, 1) := by decide +kernel
theorem dX7_has_17 : decode cX7_has 17 = .ok (.iconst 5, 1) := by decide +kernel
theorem dX7_has_18 : decode cX7_has 18 = .ok (.invokestatic 34, 3) := by decide +kernel
theorem dX7_has_21 : decode cX7_has 21 = .ok (.ifCond .eq 9, 3) := by decide +kernel
theorem dX7_has_24 : decode cX7_has 24 = .ok (.aload_n 0, 1) := by decide +kernel
theorem dX7_has_25 : decode cX7_has 25 = .ok (.iload_n 1, 1) := by decide +kernel
theorem dX7_has_26 : decode cX7_has 26 = .ok (.invokevirtual 67, 3) := by decide +kernel
theorem dX7_has_29 : decode cX7_has 29 = .ok (.ireturn, 1) := by decide +kernel
theorem dX7_has_30 : decode cX7_has 30 = .ok (.iload_n 2, 1) := by decide +kernel
theorem dX7_has_31 : decode cX7_has 31 = .ok (.bipush 6, 2) := by decide +kernel
theorem dX7_has_33 : decode cX7_has 33 = .ok (.bipush 8, 2) := by decide +kernel
theorem dX7_has_35 : decode cX7_has 35 = .ok (.invokestatic 34, 3) := by decide +kernel
theorem dX7_has_38 : decode cX7_has 38 = .ok (.ifCond .eq 11, 3) := by decide +kernel
theorem dX7_has_41 : decode cX7_has 41 = .ok (.iload_n 1, 1) := by decide +kernel
theorem dX7_has_42 : decode cX7_has 42 = .ok (.ifCond .ne 7, 3) := by decide +kernel
theorem dX7_has_45 : decode cX7_has 45 = .ok (.iconst 1, 1) := by decide +kernel
theorem dX7_has_46 : decode cX7_has 46 = .ok (.goto 4, 3) := by decide +kernel
theorem dX7_has_49 : decode cX7_has 49 = .ok (.iconst 0, 1) := by decide +kernel
theorem dX7_has_50 : decode cX7_has 50 = .ok (.ireturn, 1) := by decide +kernel
theorem dX7_read_0 : decode cX7_read 0 = .ok (.iload_n 2, 1) := by decide +kernel
theorem dX7_read_1 : decode cX7_read 1 = .ok (.tableswitch 99 0 7 #[47, 54, 61, 68, 75, 82, 89, 94], 47) := by decide +kernel
theorem dX7_read_48 : decode cX7_read 48 = .ok (.aload_n 0, 1) := by decide +kernel
theorem dX7_read_49 : decode cX7_read 49 = .ok (.getfield 9, 3) := by decide +kernel
theorem dX7_read_52 : decode cX7_read 52 = .ok (.iload_n 1, 1) := by decide +kernel
theorem dX7_read_53 : decode cX7_read 53 = .ok (.iaload, 1) := by decide +kernel
theorem dX7_read_54 : decode cX7_read 54 = .ok (.ireturn, 1) := by decide +kernel
theorem dX7_read_55 : decode cX7_read 55 = .ok (.aload_n 0, 1) := by decide +kernel
theorem dX7_read_56 : decode cX7_read 56 = .ok (.getfield 15, 3) := by decide +kernel
theorem dX7_read_59 : decode cX7_read 59 = .ok (.iload_n 1, 1) := by decide +kernel
theorem dX7_read_60 : decode cX7_read 60 = .ok (.iaload, 1) := by decide +kernel
theorem dX7_read_61 : decode cX7_read 61 = .ok (.ireturn, 1) := by decide +kernel
theorem dX7_read_62 : decode cX7_read 62 = .ok (.aload_n 0, 1) := by decide +kernel
theorem dX7_read_63 : decode cX7_read 63 = .ok (.getfield 18, 3) := by decide +kernel
theorem dX7_read_66 : decode cX7_read 66 = .ok (.iload_n 1, 1) := by decide +kernel
theorem dX7_read_67 : decode cX7_read 67 = .ok (.iaload, 1) := by decide +kernel
theorem dX7_read_68 : decode cX7_read 68 = .ok (.ireturn, 1) := by decide +kernel
theorem dX7_read_69 : decode cX7_read 69 = .ok (.aload_n 0, 1) := by decide +kernel
theorem dX7_read_70 : decode cX7_read 70 = .ok (.getfield 21, 3) := by decide +kernel
theorem dX7_read_73 : decode cX7_read 73 = .ok (.iload_n 1, 1) := by decide +kernel
theorem dX7_read_74 : decode cX7_read 74 = .ok (.iaload, 1) := by decide +kernel
theorem dX7_read_75 : decode cX7_read 75 = .ok (.ireturn, 1) := by decide +kernel
theorem dX7_read_76 : decode cX7_read 76 = .ok (.aload_n 0, 1) := by decide +kernel
theorem dX7_read_77 : decode cX7_read 77 = .ok (.getfield 24, 3) := by decide +kernel
theorem dX7_read_80 : decode cX7_read 80 = .ok (.iload_n 1, 1) := by decide +kernel
theorem dX7_read_81 : decode cX7_read 81 = .ok (.iaload, 1) := by decide +kernel
theorem dX7_read_82 : decode cX7_read 82 = .ok (.ireturn, 1) := by decide +kernel
theorem dX7_read_83 : decode cX7_read 83 = .ok (.aload_n 0, 1) := by decide +kernel
theorem dX7_read_84 : decode cX7_read 84 = .ok (.getfield 27, 3) := by decide +kernel
theorem dX7_read_87 : decode cX7_read 87 = .ok (.iload_n 1, 1) := by decide +kernel
theorem dX7_read_88 : decode cX7_read 88 = .ok (.iaload, 1) := by decide +kernel
theorem dX7_read_89 : decode cX7_read 89 = .ok (.ireturn, 1) := by decide +kernel
theorem dX7_read_90 : decode cX7_read 90 = .ok (.aload_n 0, 1) := by decide +kernel
theorem dX7_read_91 : decode cX7_read 91 = .ok (.getfield 30, 3) := by decide +kernel
theorem dX7_read_94 : decode cX7_read 94 = .ok (.ireturn, 1) := by decide +kernel
theorem dX7_read_95 : decode cX7_read 95 = .ok (.aload_n 0, 1) := by decide +kernel
theorem dX7_read_96 : decode cX7_read 96 = .ok (.getfield 70, 3) := by decide +kernel
theorem dX7_read_99 : decode cX7_read 99 = .ok (.ireturn, 1) := by decide +kernel
theorem dX7_read_100 : decode cX7_read 100 = .ok (.aload_n 0, 1) := by decide +kernel
theorem dX7_read_101 : decode cX7_read 101 = .ok (.getfield 73, 3) := by decide +kernel
theorem dX7_read_104 : decode cX7_read 104 = .ok (.ireturn, 1) := by decide +kernel
theorem dX7_write_0 : decode cX7_write 0 = .ok (.iload_n 2, 1) := by decide +kernel
theorem dX7_write_1 : decode cX7_write 1 = .ok (.tableswitch 123 0 7 #[47, 57, 67, 77, 87, 97, 107, 115], 47) := by decide +kernel
theorem dX7_write_48 : decode cX7_write 48 = .ok (.aload_n 0, 1) := by decide +kernel
theorem dX7_write_49 : decode cX7_write 49 = .ok (.getfield 9, 3) := by decide +kernel
theorem dX7_write_52 : decode cX7_write 52 = .ok (.iload_n 1, 1) := by decide +kernel
theorem dX7_write_53 : decode cX7_write 53 = .ok (.iload_n 3, 1) := by decide +kernel
theorem dX7_write_54 : decode cX7_write 54 = .ok (.iastore, 1) := by decide +kernel
theorem dX7_write_55 : decode cX7_write 55 = .ok (.goto 74, 3) := by decide +kernel
theorem dX7_write_58 : decode cX7_write 58 = .ok (.aload_n 0, 1) := by decide +kernel
theorem dX7_write_59 : decode cX7_write 59 = .ok (.getfield 15, 3) := by decide +kernel
theorem dX7_write_62 : decode cX7_write 62 = .ok (.iload_n 1, 1) := by decide +kernel
theorem dX7_write_63 : decode cX7_write 63 = .ok (.iload_n 3, 1) := by decide +kernel
theorem dX7_write_64 : decode cX7_write 64 = .ok (.iastore, 1) := by decide +kernel
theorem dX7_write_65 : decode cX7_write 65 = .ok (.goto 64, 3) := by decide +kernel
theorem dX7_write_68 : decode cX7_write 68 = .ok (.aload_n 0, 1) := by decide +kernel
theorem dX7_write_69 : decode cX7_write 69 = .ok (.getfield 18, 3) := by decide +kernel
theorem dX7_write_72 : decode cX7_write 72 = .ok (.iload_n 1, 1) := by decide +kernel
theorem dX7_write_73 : decode cX7_write 73 = .ok (.iload_n 3, 1) := by decide +kernel
theorem dX7_write_74 : decode cX7_write 74 = .ok (.iastore, 1) := by decide +kernel
theorem dX7_write_75 : decode cX7_write 75 = .ok (.goto 54, 3) := by decide +kernel
theorem dX7_write_78 : decode cX7_write 78 = .ok (.aload_n 0, 1) := by decide +kernel
theorem dX7_write_79 : decode cX7_write 79 = .ok (.getfield 21, 3) := by decide +kernel
theorem dX7_write_82 : decode cX7_write 82 = .ok (.iload_n 1, 1) := by decide +kernel
theorem dX7_write_83 : decode cX7_write 83 = .ok (.iload_n 3, 1) := by decide +kernel
theorem dX7_write_84 : decode cX7_write 84 = .ok (.iastore, 1) := by decide +kernel
theorem dX7_write_85 : decode cX7_write 85 = .ok (.goto 44, 3) := by decide +kernel
theorem dX7_write_88 : decode cX7_write 88 = .ok (.aload_n 0, 1) := by decide +kernel
theorem dX7_write_89 : decode cX7_write 89 = .ok (.getfield 24, 3) := by decide +kernel
theorem dX7_write_92 : decode cX7_write 92 = .ok (.iload_n 1, 1) := by decide +kernel
theorem dX7_write_93 : decode cX7_write 93 = .ok (.iload_n 3, 1) := by decide +kernel
theorem dX7_write_94 : decode cX7_write 94 = .ok (.iastore, 1) := by decide +kernel
theorem dX7_write_95 : decode cX7_write 95 = .ok (.goto 34, 3) := by decide +kernel
theorem dX7_write_98 : decode cX7_write 98 = .ok (.aload_n 0, 1) := by decide +kernel
theorem dX7_write_99 : decode cX7_write 99 = .ok (.getfield 27, 3) := by decide +kernel
theorem dX7_write_102 : decode cX7_write 102 = .ok (.iload_n 1, 1) := by decide +kernel
theorem dX7_write_103 : decode cX7_write 103 = .ok (.iload_n 3, 1) := by decide +kernel
theorem dX7_write_104 : decode cX7_write 104 = .ok (.iastore, 1) := by decide +kernel
theorem dX7_write_105 : decode cX7_write 105 = .ok (.goto 24, 3) := by decide +kernel
theorem dX7_write_108 : decode cX7_write 108 = .ok (.aload_n 0, 1) := by decide +kernel
theorem dX7_write_109 : decode cX7_write 109 = .ok (.iload_n 3, 1) := by decide +kernel
theorem dX7_write_110 : decode cX7_write 110 = .ok (.putfield 30, 3) := by decide +kernel
theorem dX7_write_113 : decode cX7_write 113 = .ok (.goto 16, 3) := by decide +kernel
theorem dX7_write_116 : decode cX7_write 116 = .ok (.aload_n 0, 1) := by decide +kernel
theorem dX7_write_117 : decode cX7_write 117 = .ok (.iload_n 3, 1) := by decide +kernel
theorem dX7_write_118 : decode cX7_write 118 = .ok (.putfield 70, 3) := by decide +kernel
theorem dX7_write_121 : decode cX7_write 121 = .ok (.goto 8, 3) := by decide +kernel
theorem dX7_write_124 : decode cX7_write 124 = .ok (.aload_n 0, 1) := by decide +kernel
theorem dX7_write_125 : decode cX7_write 125 = .ok (.iload_n 3, 1) := by decide +kernel
theorem dX7_write_126 : decode cX7_write 126 = .ok (.putfield 73, 3) := by decide +kernel
theorem dX7_write_129 : decode cX7_write 129 = .ok (.return_, 1) := by decide +kernel
theorem dX7_placesNear_0 : decode cX7_placesNear 0 = .ok (.iconst 0, 1) := by decide +kernel
theorem dX7_placesNear_1 : decode cX7_placesNear 1 = .ok (.istore_n 2, 1) := by decide +kernel
theorem dX7_placesNear_2 : decode cX7_placesNear 2 = .ok (.iconst 0, 1) := by decide +kernel
theorem dX7_placesNear_3 : decode cX7_placesNear 3 = .ok (.istore_n 3, 1) := by decide +kernel
theorem dX7_placesNear_4 : decode cX7_placesNear 4 = .ok (.iload_n 3, 1) := by decide +kernel
theorem dX7_placesNear_5 : decode cX7_placesNear 5 = .ok (.aload_n 0, 1) := by decide +kernel
theorem dX7_placesNear_6 : decode cX7_placesNear 6 = .ok (.getfield 60, 3) := by decide +kernel
theorem dX7_placesNear_9 : decode cX7_placesNear 9 = .ok (.if_icmp .ge 29, 3) := by decide +kernel
theorem dX7_placesNear_12 : decode cX7_placesNear 12 = .ok (.aload_n 0, 1) := by decide +kernel
theorem dX7_placesNear_13 : decode cX7_placesNear 13 = .ok (.iload_n 1, 1) := by decide +kernel
theorem dX7_placesNear_14 : decode cX7_placesNear 14 = .ok (.aload_n 0, 1) := by decide +kernel
theorem dX7_placesNear_15 : decode cX7_placesNear 15 = .ok (.getfield 24, 3) := by decide +kernel
theorem dX7_placesNear_18 : decode cX7_placesNear 18 = .ok (.iload_n 3, 1) := by decide +kernel
theorem dX7_placesNear_19 : decode cX7_placesNear 19 = .ok (.iaload, 1) := by decide +kernel
theorem dX7_placesNear_20 : decode cX7_placesNear 20 = .ok (.invokevirtual 76, 3) := by decide +kernel
theorem dX7_placesNear_23 : decode cX7_placesNear 23 = .ok (.ifCond .eq 9, 3) := by decide +kernel
theorem dX7_placesNear_26 : decode cX7_placesNear 26 = .ok (.iload_n 2, 1) := by decide +kernel
theorem dX7_placesNear_27 : decode cX7_placesNear 27 = .ok (.iconst 1, 1) := by decide +kernel
theorem dX7_placesNear_28 : decode cX7_placesNear 28 = .ok (.iload_n 3, 1) := by decide +kernel
theorem dX7_placesNear_29 : decode cX7_placesNear 29 = .ok (.ishl, 1) := by decide +kernel
theorem dX7_placesNear_30 : decode cX7_placesNear 30 = .ok (.ior, 1) := by decide +kernel
theorem dX7_placesNear_31 : decode cX7_placesNear 31 = .ok (.istore_n 2, 1) := by decide +kernel
theorem dX7_placesNear_32 : decode cX7_placesNear 32 = .ok (.iinc 3 1, 3) := by decide +kernel
theorem dX7_placesNear_35 : decode cX7_placesNear 35 = .ok (.goto (-31), 3) := by decide +kernel
theorem dX7_placesNear_38 : decode cX7_placesNear 38 = .ok (.iload_n 2, 1) := by decide +kernel
theorem dX7_placesNear_39 : decode cX7_placesNear 39 = .ok (.ireturn, 1) := by decide +kernel
theorem dX7_worthOf_0 : decode cX7_worthOf 0 = .ok (.iconst 0, 1) := by decide +kernel
theorem dX7_worthOf_1 : decode cX7_worthOf 1 = .ok (.istore_n 2, 1) := by decide +kernel
theorem dX7_worthOf_2 : decode cX7_worthOf 2 = .ok (.iconst 0, 1) := by decide +kernel
theorem dX7_worthOf_3 : decode cX7_worthOf 3 = .ok (.istore_n 3, 1) := by decide +kernel
theorem dX7_worthOf_4 : decode cX7_worthOf 4 = .ok (.iload_n 3, 1) := by decide +kernel
theorem dX7_worthOf_5 : decode cX7_worthOf 5 = .ok (.aload_n 0, 1) := by decide +kernel
theorem dX7_worthOf_6 : decode cX7_worthOf 6 = .ok (.getfield 60, 3) := by decide +kernel
theorem dX7_worthOf_9 : decode cX7_worthOf 9 = .ok (.if_icmp .ge 27, 3) := by decide +kernel
theorem dX7_worthOf_12 : decode cX7_worthOf 12 = .ok (.iload_n 1, 1) := by decide +kernel
theorem dX7_worthOf_13 : decode cX7_worthOf 13 = .ok (.iload_n 3, 1) := by decide +kernel
theorem dX7_worthOf_14 : decode cX7_worthOf 14 = .ok (.ishr, 1) := by decide +kernel
theorem dX7_worthOf_15 : decode cX7_worthOf 15 = .ok (.iconst 1, 1) := by decide +kernel
theorem dX7_worthOf_16 : decode cX7_worthOf 16 = .ok (.iand, 1) := by decide +kernel
theorem dX7_worthOf_17 : decode cX7_worthOf 17 = .ok (.iconst 1, 1) := by decide +kernel
theorem dX7_worthOf_18 : decode cX7_worthOf 18 = .ok (.if_icmp .ne 12, 3) := by decide +kernel
theorem dX7_worthOf_21 : decode cX7_worthOf 21 = .ok (.iload_n 2, 1) := by decide +kernel
theorem dX7_worthOf_22 : decode cX7_worthOf 22 = .ok (.aload_n 0, 1) := by decide +kernel
theorem dX7_worthOf_23 : decode cX7_worthOf 23 = .ok (.getfield 27, 3) := by decide +kernel
theorem dX7_worthOf_26 : decode cX7_worthOf 26 = .ok (.iload_n 3, 1) := by decide +kernel
theorem dX7_worthOf_27 : decode cX7_worthOf 27 = .ok (.iaload, 1) := by decide +kernel
theorem dX7_worthOf_28 : decode cX7_worthOf 28 = .ok (.iadd, 1) := by decide +kernel
theorem dX7_worthOf_29 : decode cX7_worthOf 29 = .ok (.istore_n 2, 1) := by decide +kernel
theorem dX7_worthOf_30 : decode cX7_worthOf 30 = .ok (.iinc 3 1, 3) := by decide +kernel
theorem dX7_worthOf_33 : decode cX7_worthOf 33 = .ok (.goto (-29), 3) := by decide +kernel
theorem dX7_worthOf_36 : decode cX7_worthOf 36 = .ok (.iload_n 2, 1) := by decide +kernel
theorem dX7_worthOf_37 : decode cX7_worthOf 37 = .ok (.ireturn, 1) := by decide +kernel
theorem dX8_init_0 : decode cX8_init 0 = .ok (.aload_n 0, 1) := by decide +kernel
theorem dX8_init_1 : decode cX8_init 1 = .ok (.invokespecial 3, 3) := by decide +kernel
theorem dX8_init_4 : decode cX8_init 4 = .ok (.aload_n 0, 1) := by decide +kernel
theorem dX8_init_5 : decode cX8_init 5 = .ok (.bipush 120, 2) := by decide +kernel
theorem dX8_init_7 : decode cX8_init 7 = .ok (.newarray .int, 2) := by decide +kernel
theorem dX8_init_9 : decode cX8_init 9 = .ok (.putfield 9, 3) := by decide +kernel
theorem dX8_init_12 : decode cX8_init 12 = .ok (.aload_n 0, 1) := by decide +kernel
theorem dX8_init_13 : decode cX8_init 13 = .ok (.bipush 120, 2) := by decide +kernel
theorem dX8_init_15 : decode cX8_init 15 = .ok (.newarray .int, 2) := by decide +kernel
theorem dX8_init_17 : decode cX8_init 17 = .ok (.putfield 15, 3) := by decide +kernel
theorem dX8_init_20 : decode cX8_init 20 = .ok (.return_, 1) := by decide +kernel
theorem dX8_become_0 : decode cX8_become 0 = .ok (.aload_n 1, 1) := by decide +kernel
theorem dX8_become_1 : decode cX8_become 1 = .ok (.getfield 18, 3) := by decide +kernel
theorem dX8_become_4 : decode cX8_become 4 = .ok (.iconst 0, 1) := by decide +kernel
theorem dX8_become_5 : decode cX8_become 5 = .ok (.aload_n 0, 1) := by decide +kernel
theorem dX8_become_6 : decode cX8_become 6 = .ok (.getfield 9, 3) := by decide +kernel
theorem dX8_become_9 : decode cX8_become 9 = .ok (.iconst 0, 1) := by decide +kernel
theorem dX8_become_10 : decode cX8_become 10 = .ok (.aload_n 1, 1) := by decide +kernel
theorem dX8_become_11 : decode cX8_become 11 = .ok (.getfield 21, 3) := by decide +kernel
theorem dX8_become_14 : decode cX8_become 14 = .ok (.invokestatic 25, 3) := by decide +kernel
theorem dX8_become_17 : decode cX8_become 17 = .ok (.aload_n 0, 1) := by decide +kernel
theorem dX8_become_18 : decode cX8_become 18 = .ok (.aload_n 1, 1) := by decide +kernel
theorem dX8_become_19 : decode cX8_become 19 = .ok (.getfield 21, 3) := by decide +kernel
theorem dX8_become_22 : decode cX8_become 22 = .ok (.putfield 31, 3) := by decide +kernel
theorem dX8_become_25 : decode cX8_become 25 = .ok (.return_, 1) := by decide +kernel
theorem dX8_gives_0 : decode cX8_gives 0 = .ok (.aload_n 0, 1) := by decide +kernel
theorem dX8_gives_1 : decode cX8_gives 1 = .ok (.getfield 31, 3) := by decide +kernel
theorem dX8_gives_4 : decode cX8_gives 4 = .ok (.ifCond .ne 13, 3) := by decide +kernel
theorem dX8_gives_7 : decode cX8_gives 7 = .ok (.iload_n 2, 1) := by decide +kernel
theorem dX8_gives_8 : decode cX8_gives 8 = .ok (.ifCond .ne 7, 3) := by decide +kernel
theorem dX8_gives_11 : decode cX8_gives 11 = .ok (.iconst 1, 1) := by decide +kernel
theorem dX8_gives_12 : decode cX8_gives 12 = .ok (.goto 4, 3) := by decide +kernel
theorem dX8_gives_15 : decode cX8_gives 15 = .ok (.iconst 0, 1) := by decide +kernel
theorem dX8_gives_16 : decode cX8_gives 16 = .ok (.ireturn, 1) := by decide +kernel
theorem dX8_gives_17 : decode cX8_gives 17 = .ok (.aload_n 0, 1) := by decide +kernel
theorem dX8_gives_18 : decode cX8_gives 18 = .ok (.iload_n 1, 1) := by decide +kernel
theorem dX8_gives_19 : decode cX8_gives 19 = .ok (.putfield 32, 3) := by decide +kernel
theorem dX8_gives_22 : decode cX8_gives 22 = .ok (.aload_n 0, 1) := by decide +kernel
theorem dX8_gives_23 : decode cX8_gives 23 = .ok (.iload_n 2, 1) := by decide +kernel
theorem dX8_gives_24 : decode cX8_gives 24 = .ok (.putfield 35, 3) := by decide +kernel
theorem dX8_gives_27 : decode cX8_gives 27 = .ok (.aload_n 0, 1) := by decide +kernel
theorem dX8_gives_28 : decode cX8_gives 28 = .ok (.iload_n 3, 1) := by decide +kernel
theorem dX8_gives_29 : decode cX8_gives 29 = .ok (.putfield 38, 3) := by decide +kernel
theorem dX8_gives_32 : decode cX8_gives 32 = .ok (.aload_n 0, 1) := by decide +kernel
theorem dX8_gives_33 : decode cX8_gives 33 = .ok (.iload 4, 2) := by decide +kernel
theorem dX8_gives_35 : decode cX8_gives 35 = .ok (.putfield 41, 3) := by decide +kernel
theorem dX8_gives_38 : decode cX8_gives 38 = .ok (.aload_n 0, 1) := by decide +kernel
theorem dX8_gives_39 : decode cX8_gives 39 = .ok (.iload 5, 2) := by decide +kernel
theorem dX8_gives_41 : decode cX8_gives 41 = .ok (.putfield 44, 3) := by decide +kernel
theorem dX8_gives_44 : decode cX8_gives 44 = .ok (.aload_n 0, 1) := by decide +kernel
theorem dX8_gives_45 : decode cX8_gives 45 = .ok (.iload 6, 2) := by decide +kernel
theorem dX8_gives_47 : decode cX8_gives 47 = .ok (.putfield 47, 3) := by decide +kernel
theorem dX8_gives_50 : decode cX8_gives 50 = .ok (.iconst 0, 1) := by decide +kernel
theorem dX8_gives_51 : decode cX8_gives 51 = .ok (.istore 7, 2) := by decide +kernel
theorem dX8_gives_53 : decode cX8_gives 53 = .ok (.iconst 1, 1) := by decide +kernel
theorem dX8_gives_54 : decode cX8_gives 54 = .ok (.istore 8, 2) := by decide +kernel
theorem dX8_gives_56 : decode cX8_gives 56 = .ok (.iconst 0, 1) := by decide +kernel
theorem dX8_gives_57 : decode cX8_gives 57 = .ok (.istore 9, 2) := by decide +kernel
theorem dX8_gives_59 : decode cX8_gives 59 = .ok (.iload 9, 2) := by decide +kernel
theorem dX8_gives_61 : decode cX8_gives 61 = .ok (.aload_n 0, 1) := by decide +kernel
theorem dX8_gives_62 : decode cX8_gives 62 = .ok (.getfield 31, 3) := by decide +kernel
theorem dX8_gives_65 : decode cX8_gives 65 = .ok (.if_icmp .ge 93, 3) := by decide +kernel
theorem dX8_gives_68 : decode cX8_gives 68 = .ok (.iload 8, 2) := by decide +kernel
theorem dX8_gives_70 : decode cX8_gives 70 = .ok (.ifCond .eq 15, 3) := by decide +kernel
theorem dX8_gives_73 : decode cX8_gives 73 = .ok (.aload_n 0, 1) := by decide +kernel
theorem dX8_gives_74 : decode cX8_gives 74 = .ok (.getfield 9, 3) := by decide +kernel
theorem dX8_gives_77 : decode cX8_gives 77 = .ok (.iload 9, 2) := by decide +kernel
theorem dX8_gives_79 : decode cX8_gives 79 = .ok (.iaload, 1) := by decide +kernel
theorem dX8_gives_80 : decode cX8_gives 80 = .ok (.bipush (-59), 2) := by decide +kernel
theorem dX8_gives_82 : decode cX8_gives 82 = .ok (.if_icmp .eq 76, 3) := by decide +kernel
theorem dX8_gives_85 : decode cX8_gives 85 = .ok (.aload_n 0, 1) := by decide +kernel
theorem dX8_gives_86 : decode cX8_gives 86 = .ok (.getfield 9, 3) := by decide +kernel
theorem dX8_gives_89 : decode cX8_gives 89 = .ok (.iload 9, 2) := by decide +kernel
theorem dX8_gives_91 : decode cX8_gives 91 = .ok (.iaload, 1) := by decide +kernel
theorem dX8_gives_92 : decode cX8_gives 92 = .ok (.istore 10, 2) := by decide +kernel
theorem dX8_gives_94 : decode cX8_gives 94 = .ok (.iload 10, 2) := by decide +kernel
theorem dX8_gives_96 : decode cX8_gives 96 = .ok (.bipush (-59), 2) := by decide +kernel
theorem dX8_gives_98 : decode cX8_gives 98 = .ok (.if_icmp .eq 10, 3) := by decide +kernel
theorem dX8_gives_101 : decode cX8_gives 101 = .ok (.iload 10, 2) := by decide +kernel
theorem dX8_gives_103 : decode cX8_gives 103 = .ok (.bipush (-63), 2) := by decide +kernel
theorem dX8_gives_105 : decode cX8_gives 105 = .ok (.if_icmp .ne 32, 3) := by decide +kernel
theorem dX8_gives_108 : decode cX8_gives 108 = .ok (.iload 10, 2) := by decide +kernel
theorem dX8_gives_110 : decode cX8_gives 110 = .ok (.bipush (-59), 2) := by decide +kernel
theorem dX8_gives_112 : decode cX8_gives 112 = .ok (.if_icmp .eq 12, 3) := by decide +kernel
theorem dX8_gives_115 : decode cX8_gives 115 = .ok (.aload_n 0, 1) := by decide +kernel
theorem dX8_gives_116 : decode cX8_gives 116 = .ok (.iload 7, 2) := by decide +kernel
theorem dX8_gives_118 : decode cX8_gives 118 = .ok (.invokevirtual 50, 3) := by decide +kernel
theorem dX8_gives_121 : decode cX8_gives 121 = .ok (.ifCond .eq 7, 3) := by decide +kernel
theorem dX8_gives_124 : decode cX8_gives 124 = .ok (.iconst 1, 1) := by decide +kernel
theorem dX8_gives_125 : decode cX8_gives 125 = .ok (.goto 4, 3) := by decide +kernel
theorem dX8_gives_128 : decode cX8_gives 128 = .ok (.iconst 0, 1) := by decide +kernel
theorem dX8_gives_129 : decode cX8_gives 129 = .ok (.istore 8, 2) := by decide +kernel
theorem dX8_gives_131 : decode cX8_gives 131 = .ok (.iconst 0, 1) := by decide +kernel
theorem dX8_gives_132 : decode cX8_gives 132 = .ok (.istore 7, 2) := by decide +kernel
theorem dX8_gives_134 : decode cX8_gives 134 = .ok (.goto 18, 3) := by decide +kernel
theorem dX8_gives_137 : decode cX8_gives 137 = .ok (.iload 8, 2) := by decide +kernel
theorem dX8_gives_139 : decode cX8_gives 139 = .ok (.ifCond .eq 13, 3) := by decide +kernel
theorem dX8_gives_142 : decode cX8_gives 142 = .ok (.aload_n 0, 1) := by decide +kernel
theorem dX8_gives_143 : decode cX8_gives 143 = .ok (.iload 10, 2) := by decide +kernel
theorem dX8_gives_145 : decode cX8_gives 145 = .ok (.iload 7, 2) := by decide +kernel
theorem dX8_gives_147 : decode cX8_gives 147 = .ok (.invokevirtual 54, 3) := by decide +kernel
theorem dX8_gives_150 : decode cX8_gives 150 = .ok (.istore 7, 2) := by decide +kernel
theorem dX8_gives_152 : decode cX8_gives 152 = .ok (.iinc 9 1, 3) := by decide +kernel
theorem dX8_gives_155 : decode cX8_gives 155 = .ok (.goto (-96), 3) := by decide +kernel
theorem dX8_gives_158 : decode cX8_gives 158 = .ok (.iload 8, 2) := by decide +kernel
theorem dX8_gives_160 : decode cX8_gives 160 = .ok (.ifCond .eq 20, 3) := by decide +kernel
theorem dX8_gives_163 : decode cX8_gives 163 = .ok (.iconst (-1), 1) := by decide +kernel
theorem dX8_gives_164 : decode cX8_gives 164 = .ok (.iconst 1, 1) := by decide +kernel
