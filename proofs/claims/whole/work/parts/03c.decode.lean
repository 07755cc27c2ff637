theorem dX8_gives_165 : decode cX8_gives 165 = .ok (.aload_n 0, 1) := by decide +kernel
theorem dX8_gives_166 : decode cX8_gives 166 = .ok (.iload 7, 2) := by decide +kernel
theorem dX8_gives_168 : decode cX8_gives 168 = .ok (.invokevirtual 50, 3) := by decide +kernel
theorem dX8_gives_171 : decode cX8_gives 171 = .ok (.invokestatic 58, 3) := by decide +kernel
theorem dX8_gives_174 : decode cX8_gives 174 = .ok (.invokestatic 63, 3) := by decide +kernel
theorem dX8_gives_177 : decode cX8_gives 177 = .ok (.goto 4, 3) := by decide +kernel
theorem dX8_gives_180 : decode cX8_gives 180 = .ok (.iconst 0, 1) := by decide +kernel
theorem dX8_gives_181 : decode cX8_gives 181 = .ok (.ireturn, 1) := by decide +kernel
theorem dX8_valueAt_0 : decode cX8_valueAt 0 = .ok (.iload_n 1, 1) := by decide +kernel
theorem dX8_valueAt_1 : decode cX8_valueAt 1 = .ok (.iconst 1, 1) := by decide +kernel
theorem dX8_valueAt_2 : decode cX8_valueAt 2 = .ok (.bipush 120, 2) := by decide +kernel
theorem dX8_valueAt_4 : decode cX8_valueAt 4 = .ok (.invokestatic 66, 3) := by decide +kernel
theorem dX8_valueAt_7 : decode cX8_valueAt 7 = .ok (.ifCond .eq 14, 3) := by decide +kernel
theorem dX8_valueAt_10 : decode cX8_valueAt 10 = .ok (.aload_n 0, 1) := by decide +kernel
theorem dX8_valueAt_11 : decode cX8_valueAt 11 = .ok (.getfield 15, 3) := by decide +kernel
theorem dX8_valueAt_14 : decode cX8_valueAt 14 = .ok (.iload_n 1, 1) := by decide +kernel
theorem dX8_valueAt_15 : decode cX8_valueAt 15 = .ok (.iconst 1, 1) := by decide +kernel
theorem dX8_valueAt_16 : decode cX8_valueAt 16 = .ok (.isub, 1) := by decide +kernel
theorem dX8_valueAt_17 : decode cX8_valueAt 17 = .ok (.iaload, 1) := by decide +kernel
theorem dX8_valueAt_18 : decode cX8_valueAt 18 = .ok (.goto 4, 3) := by decide +kernel
theorem dX8_valueAt_21 : decode cX8_valueAt 21 = .ok (.iconst 0, 1) := by decide +kernel
theorem dX8_valueAt_22 : decode cX8_valueAt 22 = .ok (.ireturn, 1) := by decide +kernel
theorem dX8_work_0 : decode cX8_work 0 = .ok (.iload_n 1, 1) := by decide +kernel
theorem dX8_work_1 : decode cX8_work 1 = .ok (.ifCond .ge 11, 3) := by decide +kernel
theorem dX8_work_4 : decode cX8_work 4 = .ok (.iload_n 1, 1) := by decide +kernel
theorem dX8_work_5 : decode cX8_work 5 = .ok (.ineg, 1) := by decide +kernel
theorem dX8_work_6 : decode cX8_work 6 = .ok (.invokestatic 70, 3) := by decide +kernel
theorem dX8_work_9 : decode cX8_work 9 = .ok (.ifCond .eq 33, 3) := by decide +kernel
theorem dX8_work_12 : decode cX8_work 12 = .ok (.iload_n 2, 1) := by decide +kernel
theorem dX8_work_13 : decode cX8_work 13 = .ok (.bipush 120, 2) := by decide +kernel
theorem dX8_work_15 : decode cX8_work 15 = .ok (.if_icmp .ge 23, 3) := by decide +kernel
theorem dX8_work_18 : decode cX8_work 18 = .ok (.aload_n 0, 1) := by decide +kernel
theorem dX8_work_19 : decode cX8_work 19 = .ok (.getfield 15, 3) := by decide +kernel
theorem dX8_work_22 : decode cX8_work 22 = .ok (.iload_n 2, 1) := by decide +kernel
theorem dX8_work_23 : decode cX8_work 23 = .ok (.iload_n 1, 1) := by decide +kernel
theorem dX8_work_24 : decode cX8_work 24 = .ok (.ifCond .lt 7, 3) := by decide +kernel
theorem dX8_work_27 : decode cX8_work 27 = .ok (.iload_n 1, 1) := by decide +kernel
theorem dX8_work_28 : decode cX8_work 28 = .ok (.goto 9, 3) := by decide +kernel
theorem dX8_work_31 : decode cX8_work 31 = .ok (.aload_n 0, 1) := by decide +kernel
theorem dX8_work_32 : decode cX8_work 32 = .ok (.iload_n 1, 1) := by decide +kernel
theorem dX8_work_33 : decode cX8_work 33 = .ok (.ineg, 1) := by decide +kernel
theorem dX8_work_34 : decode cX8_work 34 = .ok (.invokevirtual 74, 3) := by decide +kernel
theorem dX8_work_37 : decode cX8_work 37 = .ok (.iastore, 1) := by decide +kernel
theorem dX8_work_38 : decode cX8_work 38 = .ok (.iload_n 2, 1) := by decide +kernel
theorem dX8_work_39 : decode cX8_work 39 = .ok (.iconst 1, 1) := by decide +kernel
theorem dX8_work_40 : decode cX8_work 40 = .ok (.iadd, 1) := by decide +kernel
theorem dX8_work_41 : decode cX8_work 41 = .ok (.ireturn, 1) := by decide +kernel
theorem dX8_work_42 : decode cX8_work 42 = .ok (.iload_n 1, 1) := by decide +kernel
theorem dX8_work_43 : decode cX8_work 43 = .ok (.bipush (-95), 2) := by decide +kernel
theorem dX8_work_45 : decode cX8_work 45 = .ok (.if_icmp .eq 9, 3) := by decide +kernel
theorem dX8_work_48 : decode cX8_work 48 = .ok (.iload_n 1, 1) := by decide +kernel
theorem dX8_work_49 : decode cX8_work 49 = .ok (.bipush (-33), 2) := by decide +kernel
theorem dX8_work_51 : decode cX8_work 51 = .ok (.if_icmp .ne 52, 3) := by decide +kernel
theorem dX8_work_54 : decode cX8_work 54 = .ok (.iload_n 2, 1) := by decide +kernel
theorem dX8_work_55 : decode cX8_work 55 = .ok (.iconst 1, 1) := by decide +kernel
theorem dX8_work_56 : decode cX8_work 56 = .ok (.bipush 120, 2) := by decide +kernel
theorem dX8_work_58 : decode cX8_work 58 = .ok (.invokestatic 66, 3) := by decide +kernel
theorem dX8_work_61 : decode cX8_work 61 = .ok (.ifCond .eq 40, 3) := by decide +kernel
theorem dX8_work_64 : decode cX8_work 64 = .ok (.aload_n 0, 1) := by decide +kernel
theorem dX8_work_65 : decode cX8_work 65 = .ok (.getfield 15, 3) := by decide +kernel
theorem dX8_work_68 : decode cX8_work 68 = .ok (.iload_n 2, 1) := by decide +kernel
theorem dX8_work_69 : decode cX8_work 69 = .ok (.iconst 1, 1) := by decide +kernel
theorem dX8_work_70 : decode cX8_work 70 = .ok (.isub, 1) := by decide +kernel
theorem dX8_work_71 : decode cX8_work 71 = .ok (.iaload, 1) := by decide +kernel
theorem dX8_work_72 : decode cX8_work 72 = .ok (.istore_n 3, 1) := by decide +kernel
theorem dX8_work_73 : decode cX8_work 73 = .ok (.aload_n 0, 1) := by decide +kernel
theorem dX8_work_74 : decode cX8_work 74 = .ok (.getfield 15, 3) := by decide +kernel
theorem dX8_work_77 : decode cX8_work 77 = .ok (.iload_n 2, 1) := by decide +kernel
theorem dX8_work_78 : decode cX8_work 78 = .ok (.iconst 1, 1) := by decide +kernel
theorem dX8_work_79 : decode cX8_work 79 = .ok (.isub, 1) := by decide +kernel
theorem dX8_work_80 : decode cX8_work 80 = .ok (.iload_n 1, 1) := by decide +kernel
theorem dX8_work_81 : decode cX8_work 81 = .ok (.bipush (-95), 2) := by decide +kernel
theorem dX8_work_83 : decode cX8_work 83 = .ok (.if_icmp .ne 8, 3) := by decide +kernel
theorem dX8_work_86 : decode cX8_work 86 = .ok (.iload_n 3, 1) := by decide +kernel
theorem dX8_work_87 : decode cX8_work 87 = .ok (.ineg, 1) := by decide +kernel
theorem dX8_work_88 : decode cX8_work 88 = .ok (.goto 12, 3) := by decide +kernel
theorem dX8_work_91 : decode cX8_work 91 = .ok (.iload_n 3, 1) := by decide +kernel
theorem dX8_work_92 : decode cX8_work 92 = .ok (.ifCond .ne 7, 3) := by decide +kernel
theorem dX8_work_95 : decode cX8_work 95 = .ok (.iconst 1, 1) := by decide +kernel
theorem dX8_work_96 : decode cX8_work 96 = .ok (.goto 4, 3) := by decide +kernel
theorem dX8_work_99 : decode cX8_work 99 = .ok (.iconst 0, 1) := by decide +kernel
theorem dX8_work_100 : decode cX8_work 100 = .ok (.iastore, 1) := by decide +kernel
theorem dX8_work_101 : decode cX8_work 101 = .ok (.iload_n 2, 1) := by decide +kernel
theorem dX8_work_102 : decode cX8_work 102 = .ok (.ireturn, 1) := by decide +kernel
theorem dX8_work_103 : decode cX8_work 103 = .ok (.iload_n 2, 1) := by decide +kernel
theorem dX8_work_104 : decode cX8_work 104 = .ok (.iconst 2, 1) := by decide +kernel
theorem dX8_work_105 : decode cX8_work 105 = .ok (.bipush 120, 2) := by decide +kernel
theorem dX8_work_107 : decode cX8_work 107 = .ok (.invokestatic 66, 3) := by decide +kernel
theorem dX8_work_110 : decode cX8_work 110 = .ok (.ifCond .eq 32, 3) := by decide +kernel
theorem dX8_work_113 : decode cX8_work 113 = .ok (.aload_n 0, 1) := by decide +kernel
theorem dX8_work_114 : decode cX8_work 114 = .ok (.getfield 15, 3) := by decide +kernel
theorem dX8_work_117 : decode cX8_work 117 = .ok (.iload_n 2, 1) := by decide +kernel
theorem dX8_work_118 : decode cX8_work 118 = .ok (.iconst 2, 1) := by decide +kernel
theorem dX8_work_119 : decode cX8_work 119 = .ok (.isub, 1) := by decide +kernel
theorem dX8_work_120 : decode cX8_work 120 = .ok (.iload_n 1, 1) := by decide +kernel
theorem dX8_work_121 : decode cX8_work 121 = .ok (.ineg, 1) := by decide +kernel
theorem dX8_work_122 : decode cX8_work 122 = .ok (.aload_n 0, 1) := by decide +kernel
theorem dX8_work_123 : decode cX8_work 123 = .ok (.getfield 15, 3) := by decide +kernel
theorem dX8_work_126 : decode cX8_work 126 = .ok (.iload_n 2, 1) := by decide +kernel
theorem dX8_work_127 : decode cX8_work 127 = .ok (.iconst 2, 1) := by decide +kernel
theorem dX8_work_128 : decode cX8_work 128 = .ok (.isub, 1) := by decide +kernel
theorem dX8_work_129 : decode cX8_work 129 = .ok (.iaload, 1) := by decide +kernel
theorem dX8_work_130 : decode cX8_work 130 = .ok (.aload_n 0, 1) := by decide +kernel
theorem dX8_work_131 : decode cX8_work 131 = .ok (.getfield 15, 3) := by decide +kernel
theorem dX8_work_134 : decode cX8_work 134 = .ok (.iload_n 2, 1) := by decide +kernel
theorem dX8_work_135 : decode cX8_work 135 = .ok (.iconst 1, 1) := by decide +kernel
theorem dX8_work_136 : decode cX8_work 136 = .ok (.isub, 1) := by decide +kernel
theorem dX8_work_137 : decode cX8_work 137 = .ok (.iaload, 1) := by decide +kernel
theorem dX8_work_138 : decode cX8_work 138 = .ok (.invokestatic 77, 3) := by decide +kernel
theorem dX8_work_141 : decode cX8_work 141 = .ok (.iastore, 1) := by decide +kernel
theorem dX8_work_142 : decode cX8_work 142 = .ok (.iload_n 2, 1) := by decide +kernel
theorem dX8_work_143 : decode cX8_work 143 = .ok (.iconst 1, 1) := by decide +kernel
theorem dX8_work_144 : decode cX8_work 144 = .ok (.isub, 1) := by decide +kernel
theorem dX8_work_145 : decode cX8_work 145 = .ok (.ireturn, 1) := by decide +kernel
theorem dX8_isName_0 : decode cX8_isName 0 = .ok (.iload_n 0, 1) := by decide +kernel
theorem dX8_isName_1 : decode cX8_isName 1 = .ok (.bipush 119, 2) := by decide +kernel
theorem dX8_isName_3 : decode cX8_isName 3 = .ok (.if_icmp .eq 33, 3) := by decide +kernel
theorem dX8_isName_6 : decode cX8_isName 6 = .ok (.iload_n 0, 1) := by decide +kernel
theorem dX8_isName_7 : decode cX8_isName 7 = .ok (.bipush 115, 2) := by decide +kernel
theorem dX8_isName_9 : decode cX8_isName 9 = .ok (.if_icmp .eq 27, 3) := by decide +kernel
theorem dX8_isName_12 : decode cX8_isName 12 = .ok (.iload_n 0, 1) := by decide +kernel
theorem dX8_isName_13 : decode cX8_isName 13 = .ok (.bipush 104, 2) := by decide +kernel
theorem dX8_isName_15 : decode cX8_isName 15 = .ok (.if_icmp .eq 21, 3) := by decide +kernel
theorem dX8_isName_18 : decode cX8_isName 18 = .ok (.iload_n 0, 1) := by decide +kernel
theorem dX8_isName_19 : decode cX8_isName 19 = .ok (.bipush 100, 2) := by decide +kernel
theorem dX8_isName_21 : decode cX8_isName 21 = .ok (.if_icmp .eq 15, 3) := by decide +kernel
theorem dX8_isName_24 : decode cX8_isName 24 = .ok (.iload_n 0, 1) := by decide +kernel
theorem dX8_isName_25 : decode cX8_isName 25 = .ok (.bipush 107, 2) := by decide +kernel
theorem dX8_isName_27 : decode cX8_isName 27 = .ok (.if_icmp .eq 9, 3) := by decide +kernel
theorem dX8_isName_30 : decode cX8_isName 30 = .ok (.iload_n 0, 1) := by decide +kernel
theorem dX8_isName_31 : decode cX8_isName 31 = .ok (.bipush 112, 2) := by decide +kernel
theorem dX8_isName_33 : decode cX8_isName 33 = .ok (.if_icmp .ne 7, 3) := by decide +kernel
theorem dX8_isName_36 : decode cX8_isName 36 = .ok (.iconst 1, 1) := by decide +kernel
theorem dX8_isName_37 : decode cX8_isName 37 = .ok (.goto 4, 3) := by decide +kernel
theorem dX8_isName_40 : decode cX8_isName 40 = .ok (.iconst 0, 1) := by decide +kernel
theorem dX8_isName_41 : decode cX8_isName 41 = .ok (.ireturn, 1) := by decide +kernel
theorem dX8_named_0 : decode cX8_named 0 = .ok (.iload_n 1, 1) := by decide +kernel
theorem dX8_named_1 : decode cX8_named 1 = .ok (.lookupswitch 76 #[(100, 66), (104, 61), (107, 71), (115, 56), (119, 51)], 51) := by decide +kernel
theorem dX8_named_52 : decode cX8_named 52 = .ok (.aload_n 0, 1) := by decide +kernel
theorem dX8_named_53 : decode cX8_named 53 = .ok (.getfield 32, 3) := by decide +kernel
theorem dX8_named_56 : decode cX8_named 56 = .ok (.ireturn, 1) := by decide +kernel
theorem dX8_named_57 : decode cX8_named 57 = .ok (.aload_n 0, 1) := by decide +kernel
theorem dX8_named_58 : decode cX8_named 58 = .ok (.getfield 35, 3) := by decide +kernel
theorem dX8_named_61 : decode cX8_named 61 = .ok (.ireturn, 1) := by decide +kernel
theorem dX8_named_62 : decode cX8_named 62 = .ok (.aload_n 0, 1) := by decide +kernel
theorem dX8_named_63 : decode cX8_named 63 = .ok (.getfield 38, 3) := by decide +kernel
theorem dX8_named_66 : decode cX8_named 66 = .ok (.ireturn, 1) := by decide +kernel
theorem dX8_named_67 : decode cX8_named 67 = .ok (.aload_n 0, 1) := by decide +kernel
theorem dX8_named_68 : decode cX8_named 68 = .ok (.getfield 41, 3) := by decide +kernel
theorem dX8_named_71 : decode cX8_named 71 = .ok (.ireturn, 1) := by decide +kernel
theorem dX8_named_72 : decode cX8_named 72 = .ok (.aload_n 0, 1) := by decide +kernel
theorem dX8_named_73 : decode cX8_named 73 = .ok (.getfield 44, 3) := by decide +kernel
theorem dX8_named_76 : decode cX8_named 76 = .ok (.ireturn, 1) := by decide +kernel
theorem dX8_named_77 : decode cX8_named 77 = .ok (.aload_n 0, 1) := by decide +kernel
theorem dX8_named_78 : decode cX8_named 78 = .ok (.getfield 47, 3) := by decide +kernel
theorem dX8_named_81 : decode cX8_named 81 = .ok (.ireturn, 1) := by decide +kernel
theorem dX8_joined_0 : decode cX8_joined 0 = .ok (.iload_n 0, 1) := by decide +kernel
theorem dX8_joined_1 : decode cX8_joined 1 = .ok (.lookupswitch 188 #[(37, 176), (38, 105), (42, 160), (43, 152), (45, 156), (47, 164), (60, 119), (61, 130), (62, 141), (124, 91)], 91) := by decide +kernel
theorem dX8_joined_92 : decode cX8_joined 92 = .ok (.iload_n 1, 1) := by decide +kernel
theorem dX8_joined_93 : decode cX8_joined 93 = .ok (.ifCond .ne 7, 3) := by decide +kernel
theorem dX8_joined_96 : decode cX8_joined 96 = .ok (.iload_n 2, 1) := by decide +kernel
theorem dX8_joined_97 : decode cX8_joined 97 = .ok (.ifCond .eq 7, 3) := by decide +kernel
theorem dX8_joined_100 : decode cX8_joined 100 = .ok (.iconst 1, 1) := by decide +kernel
theorem dX8_joined_101 : decode cX8_joined 101 = .ok (.goto 4, 3) := by decide +kernel
theorem dX8_joined_104 : decode cX8_joined 104 = .ok (.iconst 0, 1) := by decide +kernel
theorem dX8_joined_105 : decode cX8_joined 105 = .ok (.ireturn, 1) := by decide +kernel
theorem dX8_joined_106 : decode cX8_joined 106 = .ok (.iload_n 1, 1) := by decide +kernel
theorem dX8_joined_107 : decode cX8_joined 107 = .ok (.ifCond .eq 11, 3) := by decide +kernel
theorem dX8_joined_110 : decode cX8_joined 110 = .ok (.iload_n 2, 1) := by decide +kernel
theorem dX8_joined_111 : decode cX8_joined 111 = .ok (.ifCond .eq 7, 3) := by decide +kernel
theorem dX8_joined_114 : decode cX8_joined 114 = .ok (.iconst 1, 1) := by decide +kernel
theorem dX8_joined_115 : decode cX8_joined 115 = .ok (.goto 4, 3) := by decide +kernel
theorem dX8_joined_118 : decode cX8_joined 118 = .ok (.iconst 0, 1) := by decide +kernel
theorem dX8_joined_119 : decode cX8_joined 119 = .ok (.ireturn, 1) := by decide +kernel
theorem dX8_joined_120 : decode cX8_joined 120 = .ok (.iload_n 1, 1) := by decide +kernel
theorem dX8_joined_121 : decode cX8_joined 121 = .ok (.iload_n 2, 1) := by decide +kernel
theorem dX8_joined_122 : decode cX8_joined 122 = .ok (.if_icmp .ge 7, 3) := by decide +kernel
theorem dX8_joined_125 : decode cX8_joined 125 = .ok (.iconst 1, 1) := by decide +kernel
theorem dX8_joined_126 : decode cX8_joined 126 = .ok (.goto 4, 3) := by decide +kernel
theorem dX8_joined_129 : decode cX8_joined 129 = .ok (.iconst 0, 1) := by decide +kernel
theorem dX8_joined_130 : decode cX8_joined 130 = .ok (.ireturn, 1) := by decide +kernel
theorem dX8_joined_131 : decode cX8_joined 131 = .ok (.iload_n 1, 1) := by decide +kernel
theorem dX8_joined_132 : decode cX8_joined 132 = .ok (.iload_n 2, 1) := by decide +kernel
theorem dX8_joined_133 : decode cX8_joined 133 = .ok (.if_icmp .ne 7, 3) := by decide +kernel
theorem dX8_joined_136 : decode cX8_joined 136 = .ok (.iconst 1, 1) := by decide +kernel
theorem dX8_joined_137 : decode cX8_joined 137 = .ok (.goto 4, 3) := by decide +kernel
theorem dX8_joined_140 : decode cX8_joined 140 = .ok (.iconst 0, 1) := by decide +kernel
theorem dX8_joined_141 : decode cX8_joined 141 = .ok (.ireturn, 1) := by decide +kernel
theorem dX8_joined_142 : decode cX8_joined 142 = .ok (.iload_n 1, 1) := by decide +kernel
theorem dX8_joined_143 : decode cX8_joined 143 = .ok (.iload_n 2, 1) := by decide +kernel
theorem dX8_joined_144 : decode cX8_joined 144 = .ok (.if_icmp .le 7, 3) := by decide +kernel
theorem dX8_joined_147 : decode cX8_joined 147 = .ok (.iconst 1, 1) := by decide +kernel
theorem dX8_joined_148 : decode cX8_joined 148 = .ok (.goto 4, 3) := by decide +kernel
theorem dX8_joined_151 : decode cX8_joined 151 = .ok (.iconst 0, 1) := by decide +kernel
theorem dX8_joined_152 : decode cX8_joined 152 = .ok (.ireturn, 1) := by decide +kernel
theorem dX8_joined_153 : decode cX8_joined 153 = .ok (.iload_n 1, 1) := by decide +kernel
theorem dX8_joined_154 : decode cX8_joined 154 = .ok (.iload_n 2, 1) := by decide +kernel
theorem dX8_joined_155 : decode cX8_joined 155 = .ok (.iadd, 1) := by decide +kernel
theorem dX8_joined_156 : decode cX8_joined 156 = .ok (.ireturn, 1) := by decide +kernel
theorem dX8_joined_157 : decode cX8_joined 157 = .ok (.iload_n 1, 1) := by decide +kernel
theorem dX8_joined_158 : decode cX8_joined 158 = .ok (.iload_n 2, 1) := by decide +kernel
theorem dX8_joined_159 : decode cX8_joined 159 = .ok (.isub, 1) := by decide +kernel
theorem dX8_joined_160 : decode cX8_joined 160 = .ok (.ireturn, 1) := by decide +kernel
theorem dX8_joined_161 : decode cX8_joined 161 = .ok (.iload_n 1, 1) := by decide +kernel
theorem dX8_joined_162 : decode cX8_joined 162 = .ok (.iload_n 2, 1) := by decide +kernel
theorem dX8_joined_163 : decode cX8_joined 163 = .ok (.imul, 1) := by decide +kernel
theorem dX8_joined_164 : decode cX8_joined 164 = .ok (.ireturn, 1) := by decide +kernel
theorem dX8_joined_165 : decode cX8_joined 165 = .ok (.iload_n 2, 1) := by decide +kernel
theorem dX8_joined_166 : decode cX8_joined 166 = .ok (.ifCond .ne 7, 3) := by decide +kernel
theorem dX8_joined_169 : decode cX8_joined 169 = .ok (.iconst 0, 1) := by decide +kernel
theorem dX8_joined_170 : decode cX8_joined 170 = .ok (.goto 6, 3) := by decide +kernel
theorem dX8_joined_173 : decode cX8_joined 173 = .ok (.iload_n 1, 1) := by decide +kernel
theorem dX8_joined_174 : decode cX8_joined 174 = .ok (.iload_n 2, 1) := by decide +kernel
theorem dX8_joined_175 : decode cX8_joined 175 = .ok (.idiv, 1) := by decide +kernel
theorem dX8_joined_176 : decode cX8_joined 176 = .ok (.ireturn, 1) := by decide +kernel
theorem dX8_joined_177 : decode cX8_joined 177 = .ok (.iload_n 2, 1) := by decide +kernel
theorem dX8_joined_178 : decode cX8_joined 178 = .ok (.ifCond .ne 7, 3) := by decide +kernel
theorem dX8_joined_181 : decode cX8_joined 181 = .ok (.iconst 0, 1) := by decide +kernel
theorem dX8_joined_182 : decode cX8_joined 182 = .ok (.goto 6, 3) := by decide +kernel
theorem dX8_joined_185 : decode cX8_joined 185 = .ok (.iload_n 1, 1) := by decide +kernel
theorem dX8_joined_186 : decode cX8_joined 186 = .ok (.iload_n 2, 1) := by decide +kernel
theorem dX8_joined_187 : decode cX8_joined 187 = .ok (.irem, 1) := by decide +kernel
theorem dX8_joined_188 : decode cX8_joined 188 = .ok (.ireturn, 1) := by decide +kernel
theorem dX8_joined_189 : decode cX8_joined 189 = .ok (.iconst 0, 1) := by decide +kernel
theorem dX8_joined_190 : decode cX8_joined 190 = .ok (.ireturn, 1) := by decide +kernel
theorem dX9_init_0 : decode cX9_init 0 = .ok (.aload_n 0, 1) := by decide +kernel
theorem dX9_init_1 : decode cX9_init 1 = .ok (.invokespecial 3, 3) := by decide +kernel
theorem dX9_init_4 : decode cX9_init 4 = .ok (.aload_n 0, 1) := by decide +kernel
theorem dX9_init_5 : decode cX9_init 5 = .ok (.bipush 120, 2) := by decide +kernel
theorem dX9_init_7 : decode cX9_init 7 = .ok (.newarray .int, 2) := by decide +kernel
theorem dX9_init_9 : decode cX9_init 9 = .ok (.putfield 9, 3) := by decide +kernel
theorem dX9_init_12 : decode cX9_init 12 = .ok (.aload_n 0, 1) := by decide +kernel
theorem dX9_init_13 : decode cX9_init 13 = .ok (.bipush 120, 2) := by decide +kernel
theorem dX9_init_15 : decode cX9_init 15 = .ok (.newarray .int, 2) := by decide +kernel
theorem dX9_init_17 : decode cX9_init 17 = .ok (.putfield 15, 3) := by decide +kernel
theorem dX9_init_20 : decode cX9_init 20 = .ok (.return_, 1) := by decide +kernel
theorem dX9_faultOf_0 : decode cX9_faultOf 0 = .ok (.aload_n 0, 1) := by decide +kernel
theorem dX9_faultOf_1 : decode cX9_faultOf 1 = .ok (.iconst 0, 1) := by decide +kernel
theorem dX9_faultOf_2 : decode cX9_faultOf 2 = .ok (.putfield 18, 3) := by decide +kernel
theorem dX9_faultOf_5 : decode cX9_faultOf 5 = .ok (.aload_n 0, 1) := by decide +kernel
theorem dX9_faultOf_6 : decode cX9_faultOf 6 = .ok (.iconst 0, 1) := by decide +kernel
theorem dX9_faultOf_7 : decode cX9_faultOf 7 = .ok (.putfield 22, 3) := by decide +kernel
theorem dX9_faultOf_10 : decode cX9_faultOf 10 = .ok (.aload_n 0, 1) := by decide +kernel
theorem dX9_faultOf_11 : decode cX9_faultOf 11 = .ok (.iconst 0, 1) := by decide +kernel
theorem dX9_faultOf_12 : decode cX9_faultOf 12 = .ok (.putfield 25, 3) := by decide +kernel
theorem dX9_faultOf_15 : decode cX9_faultOf 15 = .ok (.aload_n 0, 1) := by decide +kernel
theorem dX9_faultOf_16 : decode cX9_faultOf 16 = .ok (.iconst 0, 1) := by decide +kernel
theorem dX9_faultOf_17 : decode cX9_faultOf 17 = .ok (.putfield 28, 3) := by decide +kernel
theorem dX9_faultOf_20 : decode cX9_faultOf 20 = .ok (.aload_n 0, 1) := by decide +kernel
theorem dX9_faultOf_21 : decode cX9_faultOf 21 = .ok (.iconst 1, 1) := by decide +kernel
theorem dX9_faultOf_22 : decode cX9_faultOf 22 = .ok (.putfield 31, 3) := by decide +kernel
theorem dX9_faultOf_25 : decode cX9_faultOf 25 = .ok (.aload_n 0, 1) := by decide +kernel
theorem dX9_faultOf_26 : decode cX9_faultOf 26 = .ok (.iconst 0, 1) := by decide +kernel
theorem dX9_faultOf_27 : decode cX9_faultOf 27 = .ok (.putfield 35, 3) := by decide +kernel
theorem dX9_faultOf_30 : decode cX9_faultOf 30 = .ok (.iconst 0, 1) := by decide +kernel
theorem dX9_faultOf_31 : decode cX9_faultOf 31 = .ok (.istore_n 3, 1) := by decide +kernel
theorem dX9_faultOf_32 : decode cX9_faultOf 32 = .ok (.iload_n 3, 1) := by decide +kernel
theorem dX9_faultOf_33 : decode cX9_faultOf 33 = .ok (.iload_n 2, 1) := by decide +kernel
theorem dX9_faultOf_34 : decode cX9_faultOf 34 = .ok (.if_icmp .ge 50, 3) := by decide +kernel
theorem dX9_faultOf_37 : decode cX9_faultOf 37 = .ok (.iload_n 3, 1) := by decide +kernel
theorem dX9_faultOf_38 : decode cX9_faultOf 38 = .ok (.aload_n 1, 1) := by decide +kernel
theorem dX9_faultOf_39 : decode cX9_faultOf 39 = .ok (.arraylength, 1) := by decide +kernel
theorem dX9_faultOf_40 : decode cX9_faultOf 40 = .ok (.if_icmp .ge 44, 3) := by decide +kernel
theorem dX9_faultOf_43 : decode cX9_faultOf 43 = .ok (.aload_n 0, 1) := by decide +kernel
theorem dX9_faultOf_44 : decode cX9_faultOf 44 = .ok (.getfield 31, 3) := by decide +kernel
theorem dX9_faultOf_47 : decode cX9_faultOf 47 = .ok (.ifCond .eq 13, 3) := by decide +kernel
theorem dX9_faultOf_50 : decode cX9_faultOf 50 = .ok (.aload_n 0, 1) := by decide +kernel
theorem dX9_faultOf_51 : decode cX9_faultOf 51 = .ok (.aload_n 1, 1) := by decide +kernel
theorem dX9_faultOf_52 : decode cX9_faultOf 52 = .ok (.iload_n 3, 1) := by decide +kernel
theorem dX9_faultOf_53 : decode cX9_faultOf 53 = .ok (.iload_n 2, 1) := by decide +kernel
theorem dX9_faultOf_54 : decode cX9_faultOf 54 = .ok (.invokevirtual 38, 3) := by decide +kernel
theorem dX9_faultOf_57 : decode cX9_faultOf 57 = .ok (.goto 10, 3) := by decide +kernel
theorem dX9_faultOf_60 : decode cX9_faultOf 60 = .ok (.aload_n 0, 1) := by decide +kernel
theorem dX9_faultOf_61 : decode cX9_faultOf 61 = .ok (.aload_n 1, 1) := by decide +kernel
theorem dX9_faultOf_62 : decode cX9_faultOf 62 = .ok (.iload_n 3, 1) := by decide +kernel
theorem dX9_faultOf_63 : decode cX9_faultOf 63 = .ok (.iaload, 1) := by decide +kernel
theorem dX9_faultOf_64 : decode cX9_faultOf 64 = .ok (.invokevirtual 42, 3) := by decide +kernel
theorem dX9_faultOf_67 : decode cX9_faultOf 67 = .ok (.istore 4, 2) := by decide +kernel
theorem dX9_faultOf_69 : decode cX9_faultOf 69 = .ok (.iload 4, 2) := by decide +kernel
theorem dX9_faultOf_71 : decode cX9_faultOf 71 = .ok (.ifCond .gt 5, 3) := by decide +kernel
theorem dX9_faultOf_74 : decode cX9_faultOf 74 = .ok (.iload_n 3, 1) := by decide +kernel
theorem dX9_faultOf_75 : decode cX9_faultOf 75 = .ok (.ireturn, 1) := by decide +kernel
theorem dX9_faultOf_76 : decode cX9_faultOf 76 = .ok (.iload_n 3, 1) := by decide +kernel
theorem dX9_faultOf_77 : decode cX9_faultOf 77 = .ok (.iload 4, 2) := by decide +kernel
theorem dX9_faultOf_79 : decode cX9_faultOf 79 = .ok (.iadd, 1) := by decide +kernel
theorem dX9_faultOf_80 : decode cX9_faultOf 80 = .ok (.istore_n 3, 1) := by decide +kernel
theorem dX9_faultOf_81 : decode cX9_faultOf 81 = .ok (.goto (-49), 3) := by decide +kernel
theorem dX9_faultOf_84 : decode cX9_faultOf 84 = .ok (.aload_n 0, 1) := by decide +kernel
theorem dX9_faultOf_85 : decode cX9_faultOf 85 = .ok (.getfield 31, 3) := by decide +kernel
theorem dX9_faultOf_88 : decode cX9_faultOf 88 = .ok (.ifCond .ne 10, 3) := by decide +kernel
theorem dX9_faultOf_91 : decode cX9_faultOf 91 = .ok (.aload_n 0, 1) := by decide +kernel
theorem dX9_faultOf_92 : decode cX9_faultOf 92 = .ok (.getfield 28, 3) := by decide +kernel
theorem dX9_faultOf_95 : decode cX9_faultOf 95 = .ok (.ifCond .le 5, 3) := by decide +kernel
theorem dX9_faultOf_98 : decode cX9_faultOf 98 = .ok (.iload_n 2, 1) := by decide +kernel
theorem dX9_faultOf_99 : decode cX9_faultOf 99 = .ok (.ireturn, 1) := by decide +kernel
theorem dX9_faultOf_100 : decode cX9_faultOf 100 = .ok (.aload_n 0, 1) := by decide +kernel
theorem dX9_faultOf_101 : decode cX9_faultOf 101 = .ok (.iconst 1, 1) := by decide +kernel
theorem dX9_faultOf_102 : decode cX9_faultOf 102 = .ok (.invokevirtual 46, 3) := by decide +kernel
theorem dX9_faultOf_105 : decode cX9_faultOf 105 = .ok (.iconst (-1), 1) := by decide +kernel
theorem dX9_faultOf_106 : decode cX9_faultOf 106 = .ok (.ireturn, 1) := by decide +kernel
theorem dX9_operand_0 : decode cX9_operand 0 = .ok (.aload_n 1, 1) := by decide +kernel
theorem dX9_operand_1 : decode cX9_operand 1 = .ok (.iload_n 2, 1) := by decide +kernel
theorem dX9_operand_2 : decode cX9_operand 2 = .ok (.iaload, 1) := by decide +kernel
theorem dX9_operand_3 : decode cX9_operand 3 = .ok (.istore 4, 2) := by decide +kernel
theorem dX9_operand_5 : decode cX9_operand 5 = .ok (.iload 4, 2) := by decide +kernel
theorem dX9_operand_7 : decode cX9_operand 7 = .ok (.invokestatic 50, 3) := by decide +kernel
theorem dX9_operand_10 : decode cX9_operand 10 = .ok (.ifCond .eq 11, 3) := by decide +kernel
theorem dX9_operand_13 : decode cX9_operand 13 = .ok (.aload_n 0, 1) := by decide +kernel
theorem dX9_operand_14 : decode cX9_operand 14 = .ok (.aload_n 1, 1) := by decide +kernel
theorem dX9_operand_15 : decode cX9_operand 15 = .ok (.iload_n 2, 1) := by decide +kernel
theorem dX9_operand_16 : decode cX9_operand 16 = .ok (.iload_n 3, 1) := by decide +kernel
theorem dX9_operand_17 : decode cX9_operand 17 = .ok (.invokevirtual 54, 3) := by decide +kernel
theorem dX9_operand_20 : decode cX9_operand 20 = .ok (.ireturn, 1) := by decide +kernel
theorem dX9_operand_21 : decode cX9_operand 21 = .ok (.iload 4, 2) := by decide +kernel
theorem dX9_operand_23 : decode cX9_operand 23 = .ok (.invokestatic 57, 3) := by decide +kernel
theorem dX9_operand_26 : decode cX9_operand 26 = .ok (.ifCond .eq 16, 3) := by decide +kernel
theorem dX9_operand_29 : decode cX9_operand 29 = .ok (.aload_n 0, 1) := by decide +kernel
theorem dX9_operand_30 : decode cX9_operand 30 = .ok (.iload 4, 2) := by decide +kernel
theorem dX9_operand_32 : decode cX9_operand 32 = .ok (.ineg, 1) := by decide +kernel
theorem dX9_operand_33 : decode cX9_operand 33 = .ok (.invokevirtual 62, 3) := by decide +kernel
theorem dX9_operand_36 : decode cX9_operand 36 = .ok (.aload_n 0, 1) := by decide +kernel
theorem dX9_operand_37 : decode cX9_operand 37 = .ok (.invokevirtual 65, 3) := by decide +kernel
theorem dX9_operand_40 : decode cX9_operand 40 = .ok (.iconst 1, 1) := by decide +kernel
theorem dX9_operand_41 : decode cX9_operand 41 = .ok (.ireturn, 1) := by decide +kernel
theorem dX9_operand_42 : decode cX9_operand 42 = .ok (.iload 4, 2) := by decide +kernel
theorem dX9_operand_44 : decode cX9_operand 44 = .ok (.bipush 40, 2) := by decide +kernel
theorem dX9_operand_46 : decode cX9_operand 46 = .ok (.if_icmp .eq 17, 3) := by decide +kernel
theorem dX9_operand_49 : decode cX9_operand 49 = .ok (.iload 4, 2) := by decide +kernel
theorem dX9_operand_51 : decode cX9_operand 51 = .ok (.bipush 33, 2) := by decide +kernel
theorem dX9_operand_53 : decode cX9_operand 53 = .ok (.if_icmp .eq 10, 3) := by decide +kernel
theorem dX9_operand_56 : decode cX9_operand 56 = .ok (.iload 4, 2) := by decide +kernel
theorem dX9_operand_58 : decode cX9_operand 58 = .ok (.bipush 45, 2) := by decide +kernel
theorem dX9_operand_60 : decode cX9_operand 60 = .ok (.if_icmp .ne 12, 3) := by decide +kernel
theorem dX9_operand_63 : decode cX9_operand 63 = .ok (.aload_n 0, 1) := by decide +kernel
theorem dX9_operand_64 : decode cX9_operand 64 = .ok (.getfield 25, 3) := by decide +kernel
theorem dX9_operand_67 : decode cX9_operand 67 = .ok (.bipush 6, 2) := by decide +kernel
theorem dX9_operand_69 : decode cX9_operand 69 = .ok (.if_icmp .lt 5, 3) := by decide +kernel
theorem dX9_operand_72 : decode cX9_operand 72 = .ok (.iconst 0, 1) := by decide +kernel
theorem dX9_operand_73 : decode cX9_operand 73 = .ok (.ireturn, 1) := by decide +kernel
theorem dX9_operand_74 : decode cX9_operand 74 = .ok (.aload_n 0, 1) := by decide +kernel
theorem dX9_operand_75 : decode cX9_operand 75 = .ok (.dup, 1) := by decide +kernel
theorem dX9_operand_76 : decode cX9_operand 76 = .ok (.getfield 25, 3) := by decide +kernel
theorem dX9_operand_79 : decode cX9_operand 79 = .ok (.iconst 1, 1) := by decide +kernel
theorem dX9_operand_80 : decode cX9_operand 80 = .ok (.iadd, 1) := by decide +kernel
theorem dX9_operand_81 : decode cX9_operand 81 = .ok (.putfield 25, 3) := by decide +kernel
theorem dX9_operand_84 : decode cX9_operand 84 = .ok (.iload 4, 2) := by decide +kernel
theorem dX9_operand_86 : decode cX9_operand 86 = .ok (.bipush 40, 2) := by decide +kernel
theorem dX9_operand_88 : decode cX9_operand 88 = .ok (.if_icmp .ne 13, 3) := by decide +kernel
theorem dX9_operand_91 : decode cX9_operand 91 = .ok (.aload_n 0, 1) := by decide +kernel
theorem dX9_operand_92 : decode cX9_operand 92 = .ok (.dup, 1) := by decide +kernel
theorem dX9_operand_93 : decode cX9_operand 93 = .ok (.getfield 28, 3) := by decide +kernel
theorem dX9_operand_96 : decode cX9_operand 96 = .ok (.iconst 1, 1) := by decide +kernel
theorem dX9_operand_97 : decode cX9_operand 97 = .ok (.iadd, 1) := by decide +kernel
theorem dX9_operand_98 : decode cX9_operand 98 = .ok (.putfield 28, 3) := by decide +kernel
theorem dX9_operand_101 : decode cX9_operand 101 = .ok (.aload_n 0, 1) := by decide +kernel
theorem dX9_operand_102 : decode cX9_operand 102 = .ok (.iload 4, 2) := by decide +kernel
theorem dX9_operand_104 : decode cX9_operand 104 = .ok (.bipush 45, 2) := by decide +kernel
theorem dX9_operand_106 : decode cX9_operand 106 = .ok (.if_icmp .ne 8, 3) := by decide +kernel
theorem dX9_operand_109 : decode cX9_operand 109 = .ok (.bipush 95, 2) := by decide +kernel
theorem dX9_operand_111 : decode cX9_operand 111 = .ok (.goto 5, 3) := by decide +kernel
theorem dX9_operand_114 : decode cX9_operand 114 = .ok (.iload 4, 2) := by decide +kernel
theorem dX9_operand_116 : decode cX9_operand 116 = .ok (.invokevirtual 68, 3) := by decide +kernel
theorem dX9_operand_119 : decode cX9_operand 119 = .ok (.iconst 1, 1) := by decide +kernel
theorem dX9_operand_120 : decode cX9_operand 120 = .ok (.ireturn, 1) := by decide +kernel
theorem dX9_number_0 : decode cX9_number 0 = .ok (.iconst 0, 1) := by decide +kernel
theorem dX9_number_1 : decode cX9_number 1 = .ok (.istore 4, 2) := by decide +kernel
theorem dX9_number_3 : decode cX9_number 3 = .ok (.iconst 0, 1) := by decide +kernel
theorem dX9_number_4 : decode cX9_number 4 = .ok (.istore 5, 2) := by decide +kernel
theorem dX9_number_6 : decode cX9_number 6 = .ok (.iload 4, 2) := by decide +kernel
theorem dX9_number_8 : decode cX9_number 8 = .ok (.iconst 4, 1) := by decide +kernel
theorem dX9_number_9 : decode cX9_number 9 = .ok (.if_icmp .ge 46, 3) := by decide +kernel
theorem dX9_number_12 : decode cX9_number 12 = .ok (.iload_n 2, 1) := by decide +kernel
theorem dX9_number_13 : decode cX9_number 13 = .ok (.iload 4, 2) := by decide +kernel
theorem dX9_number_15 : decode cX9_number 15 = .ok (.iadd, 1) := by decide +kernel
theorem dX9_number_16 : decode cX9_number 16 = .ok (.iload_n 3, 1) := by decide +kernel
theorem dX9_number_17 : decode cX9_number 17 = .ok (.if_icmp .ge 38, 3) := by decide +kernel
theorem dX9_number_20 : decode cX9_number 20 = .ok (.aload_n 1, 1) := by decide +kernel
theorem dX9_number_21 : decode cX9_number 21 = .ok (.iload_n 2, 1) := by decide +kernel
theorem dX9_number_22 : decode cX9_number 22 = .ok (.iload 4, 2) := by decide +kernel
theorem dX9_number_24 : decode cX9_number 24 = .ok (.iadd, 1) := by decide +kernel
theorem dX9_number_25 : decode cX9_number 25 = .ok (.iaload, 1) := by decide +kernel
theorem dX9_number_26 : decode cX9_number 26 = .ok (.invokestatic 50, 3) := by decide +kernel
theorem dX9_number_29 : decode cX9_number 29 = .ok (.ifCond .eq 26, 3) := by decide +kernel
theorem dX9_number_32 : decode cX9_number 32 = .ok (.bipush 10, 2) := by decide +kernel
theorem dX9_number_34 : decode cX9_number 34 = .ok (.iload 5, 2) := by decide +kernel
theorem dX9_number_36 : decode cX9_number 36 = .ok (.imul, 1) := by decide +kernel
theorem dX9_number_37 : decode cX9_number 37 = .ok (.aload_n 1, 1) := by decide +kernel
theorem dX9_number_38 : decode cX9_number 38 = .ok (.iload_n 2, 1) := by decide +kernel
theorem dX9_number_39 : decode cX9_number 39 = .ok (.iload 4, 2) := by decide +kernel
theorem dX9_number_41 : decode cX9_number 41 = .ok (.iadd, 1) := by decide +kernel
theorem dX9_number_42 : decode cX9_number 42 = .ok (.iaload, 1) := by decide +kernel
theorem dX9_number_43 : decode cX9_number 43 = .ok (.iadd, 1) := by decide +kernel
theorem dX9_number_44 : decode cX9_number 44 = .ok (.bipush 48, 2) := by decide +kernel
theorem dX9_number_46 : decode cX9_number 46 = .ok (.isub, 1) := by decide +kernel
theorem dX9_number_47 : decode cX9_number 47 = .ok (.istore 5, 2) := by decide +kernel
theorem dX9_number_49 : decode cX9_number 49 = .ok (.iinc 4 1, 3) := by decide +kernel
theorem dX9_number_52 : decode cX9_number 52 = .ok (.goto (-46), 3) := by decide +kernel
theorem dX9_number_55 : decode cX9_number 55 = .ok (.aload_n 0, 1) := by decide +kernel
theorem dX9_number_56 : decode cX9_number 56 = .ok (.iload 5, 2) := by decide +kernel
theorem dX9_number_58 : decode cX9_number 58 = .ok (.invokevirtual 62, 3) := by decide +kernel
theorem dX9_number_61 : decode cX9_number 61 = .ok (.aload_n 0, 1) := by decide +kernel
theorem dX9_number_62 : decode cX9_number 62 = .ok (.invokevirtual 65, 3) := by decide +kernel
theorem dX9_number_65 : decode cX9_number 65 = .ok (.iload 4, 2) := by decide +kernel
theorem dX9_number_67 : decode cX9_number 67 = .ok (.ireturn, 1) := by decide +kernel
theorem dX9_sign_0 : decode cX9_sign 0 = .ok (.iload_n 1, 1) := by decide +kernel
theorem dX9_sign_1 : decode cX9_sign 1 = .ok (.bipush 41, 2) := by decide +kernel
theorem dX9_sign_3 : decode cX9_sign 3 = .ok (.if_icmp .ne 8, 3) := by decide +kernel
theorem dX9_sign_6 : decode cX9_sign 6 = .ok (.aload_n 0, 1) := by decide +kernel
theorem dX9_sign_7 : decode cX9_sign 7 = .ok (.invokevirtual 71, 3) := by decide +kernel
theorem dX9_sign_10 : decode cX9_sign 10 = .ok (.ireturn, 1) := by decide +kernel
theorem dX9_sign_11 : decode cX9_sign 11 = .ok (.iload_n 1, 1) := by decide +kernel
theorem dX9_sign_12 : decode cX9_sign 12 = .ok (.bipush 63, 2) := by decide +kernel
theorem dX9_sign_14 : decode cX9_sign 14 = .ok (.if_icmp .eq 9, 3) := by decide +kernel
theorem dX9_sign_17 : decode cX9_sign 17 = .ok (.iload_n 1, 1) := by decide +kernel
theorem dX9_sign_18 : decode cX9_sign 18 = .ok (.bipush 59, 2) := by decide +kernel
theorem dX9_sign_20 : decode cX9_sign 20 = .ok (.if_icmp .ne 9, 3) := by decide +kernel
theorem dX9_sign_23 : decode cX9_sign 23 = .ok (.aload_n 0, 1) := by decide +kernel
theorem dX9_sign_24 : decode cX9_sign 24 = .ok (.iload_n 1, 1) := by decide +kernel
theorem dX9_sign_25 : decode cX9_sign 25 = .ok (.invokevirtual 75, 3) := by decide +kernel
theorem dX9_sign_28 : decode cX9_sign 28 = .ok (.ireturn, 1) := by decide +kernel
theorem dX9_sign_29 : decode cX9_sign 29 = .ok (.iload_n 1, 1) := by decide +kernel
theorem dX9_sign_30 : decode cX9_sign 30 = .ok (.invokestatic 78, 3) := by decide +kernel
theorem dX9_sign_33 : decode cX9_sign 33 = .ok (.istore_n 2, 1) := by decide +kernel
theorem dX9_sign_34 : decode cX9_sign 34 = .ok (.iload_n 2, 1) := by decide +kernel
theorem dX9_sign_35 : decode cX9_sign 35 = .ok (.ifCond .ne 5, 3) := by decide +kernel
theorem dX9_sign_38 : decode cX9_sign 38 = .ok (.iconst 0, 1) := by decide +kernel
theorem dX9_sign_39 : decode cX9_sign 39 = .ok (.ireturn, 1) := by decide +kernel
theorem dX9_sign_40 : decode cX9_sign 40 = .ok (.aload_n 0, 1) := by decide +kernel
theorem dX9_sign_41 : decode cX9_sign 41 = .ok (.iload_n 2, 1) := by decide +kernel
theorem dX9_sign_42 : decode cX9_sign 42 = .ok (.iconst 3, 1) := by decide +kernel
theorem dX9_sign_43 : decode cX9_sign 43 = .ok (.if_icmp .ne 9, 3) := by decide +kernel
theorem dX9_sign_46 : decode cX9_sign 46 = .ok (.iload_n 2, 1) := by decide +kernel
theorem dX9_sign_47 : decode cX9_sign 47 = .ok (.iconst 1, 1) := by decide +kernel
theorem dX9_sign_48 : decode cX9_sign 48 = .ok (.iadd, 1) := by decide +kernel
theorem dX9_sign_49 : decode cX9_sign 49 = .ok (.goto 4, 3) := by decide +kernel
theorem dX9_sign_52 : decode cX9_sign 52 = .ok (.iload_n 2, 1) := by decide +kernel
theorem dX9_sign_53 : decode cX9_sign 53 = .ok (.invokevirtual 46, 3) := by decide +kernel
theorem dX9_sign_56 : decode cX9_sign 56 = .ok (.iload_n 2, 1) := by decide +kernel
theorem dX9_sign_57 : decode cX9_sign 57 = .ok (.iconst 3, 1) := by decide +kernel
theorem dX9_sign_58 : decode cX9_sign 58 = .ok (.if_icmp .ne 16, 3) := by decide +kernel
theorem dX9_sign_61 : decode cX9_sign 61 = .ok (.aload_n 0, 1) := by decide +kernel
theorem dX9_sign_62 : decode cX9_sign 62 = .ok (.invokevirtual 81, 3) := by decide +kernel
theorem dX9_sign_65 : decode cX9_sign 65 = .ok (.invokestatic 78, 3) := by decide +kernel
theorem dX9_sign_68 : decode cX9_sign 68 = .ok (.iconst 3, 1) := by decide +kernel
theorem dX9_sign_69 : decode cX9_sign 69 = .ok (.if_icmp .ne 5, 3) := by decide +kernel
theorem dX9_sign_72 : decode cX9_sign 72 = .ok (.iconst 0, 1) := by decide +kernel
theorem dX9_sign_73 : decode cX9_sign 73 = .ok (.ireturn, 1) := by decide +kernel
theorem dX9_sign_74 : decode cX9_sign 74 = .ok (.aload_n 0, 1) := by decide +kernel
theorem dX9_sign_75 : decode cX9_sign 75 = .ok (.iload_n 1, 1) := by decide +kernel
theorem dX9_sign_76 : decode cX9_sign 76 = .ok (.invokevirtual 68, 3) := by decide +kernel
theorem dX9_sign_79 : decode cX9_sign 79 = .ok (.aload_n 0, 1) := by decide +kernel
theorem dX9_sign_80 : decode cX9_sign 80 = .ok (.iconst 1, 1) := by decide +kernel
theorem dX9_sign_81 : decode cX9_sign 81 = .ok (.putfield 31, 3) := by decide +kernel
theorem dX9_sign_84 : decode cX9_sign 84 = .ok (.iconst 1, 1) := by decide +kernel
theorem dX9_sign_85 : decode cX9_sign 85 = .ok (.ireturn, 1) := by decide +kernel
theorem dX9_closeBracket_0 : decode cX9_closeBracket 0 = .ok (.aload_n 0, 1) := by decide +kernel
theorem dX9_closeBracket_1 : decode cX9_closeBracket 1 = .ok (.getfield 28, 3) := by decide +kernel
theorem dX9_closeBracket_4 : decode cX9_closeBracket 4 = .ok (.ifCond .ne 5, 3) := by decide +kernel
theorem dX9_closeBracket_7 : decode cX9_closeBracket 7 = .ok (.iconst 0, 1) := by decide +kernel
theorem dX9_closeBracket_8 : decode cX9_closeBracket 8 = .ok (.ireturn, 1) := by decide +kernel
theorem dX9_closeBracket_9 : decode cX9_closeBracket 9 = .ok (.aload_n 0, 1) := by decide +kernel
theorem dX9_closeBracket_10 : decode cX9_closeBracket 10 = .ok (.iconst 1, 1) := by decide +kernel
theorem dX9_closeBracket_11 : decode cX9_closeBracket 11 = .ok (.invokevirtual 46, 3) := by decide +kernel
theorem dX9_closeBracket_14 : decode cX9_closeBracket 14 = .ok (.aload_n 0, 1) := by decide +kernel
theorem dX9_closeBracket_15 : decode cX9_closeBracket 15 = .ok (.dup, 1) := by decide +kernel
theorem dX9_closeBracket_16 : decode cX9_closeBracket 16 = .ok (.getfield 22, 3) := by decide +kernel
theorem dX9_closeBracket_19 : decode cX9_closeBracket 19 = .ok (.iconst 1, 1) := by decide +kernel
theorem dX9_closeBracket_20 : decode cX9_closeBracket 20 = .ok (.isub, 1) := by decide +kernel
theorem dX9_closeBracket_21 : decode cX9_closeBracket 21 = .ok (.putfield 22, 3) := by decide +kernel
theorem dX9_closeBracket_24 : decode cX9_closeBracket 24 = .ok (.aload_n 0, 1) := by decide +kernel
theorem dX9_closeBracket_25 : decode cX9_closeBracket 25 = .ok (.dup, 1) := by decide +kernel
theorem dX9_closeBracket_26 : decode cX9_closeBracket 26 = .ok (.getfield 25, 3) := by decide +kernel
theorem dX9_closeBracket_29 : decode cX9_closeBracket 29 = .ok (.iconst 1, 1) := by decide +kernel
theorem dX9_closeBracket_30 : decode cX9_closeBracket 30 = .ok (.isub, 1) := by decide +kernel
theorem dX9_closeBracket_31 : decode cX9_closeBracket 31 = .ok (.putfield 25, 3) := by decide +kernel
theorem dX9_closeBracket_34 : decode cX9_closeBracket 34 = .ok (.aload_n 0, 1) := by decide +kernel
theorem dX9_closeBracket_35 : decode cX9_closeBracket 35 = .ok (.dup, 1) := by decide +kernel
theorem dX9_closeBracket_36 : decode cX9_closeBracket 36 = .ok (.getfield 28, 3) := by decide +kernel
theorem dX9_closeBracket_39 : decode cX9_closeBracket 39 = .ok (.iconst 1, 1) := by decide +kernel
theorem dX9_closeBracket_40 : decode cX9_closeBracket 40 = .ok (.isub, 1) := by decide +kernel
theorem dX9_closeBracket_41 : decode cX9_closeBracket 41 = .ok (.putfield 28, 3) := by decide +kernel
theorem dX9_closeBracket_44 : decode cX9_closeBracket 44 = .ok (.aload_n 0, 1) := by decide +kernel
theorem dX9_closeBracket_45 : decode cX9_closeBracket 45 = .ok (.invokevirtual 65, 3) := by decide +kernel
theorem dX9_closeBracket_48 : decode cX9_closeBracket 48 = .ok (.iconst 1, 1) := by decide +kernel
theorem dX9_closeBracket_49 : decode cX9_closeBracket 49 = .ok (.ireturn, 1) := by decide +kernel
theorem dX9_endPart_0 : decode cX9_endPart 0 = .ok (.aload_n 0, 1) := by decide +kernel
theorem dX9_endPart_1 : decode cX9_endPart 1 = .ok (.getfield 28, 3) := by decide +kernel
theorem dX9_endPart_4 : decode cX9_endPart 4 = .ok (.ifCond .gt 16, 3) := by decide +kernel
theorem dX9_endPart_7 : decode cX9_endPart 7 = .ok (.iload_n 1, 1) := by decide +kernel
theorem dX9_endPart_8 : decode cX9_endPart 8 = .ok (.bipush 63, 2) := by decide +kernel
theorem dX9_endPart_10 : decode cX9_endPart 10 = .ok (.if_icmp .ne 12, 3) := by decide +kernel
theorem dX9_endPart_13 : decode cX9_endPart 13 = .ok (.aload_n 0, 1) := by decide +kernel
theorem dX9_endPart_14 : decode cX9_endPart 14 = .ok (.getfield 35, 3) := by decide +kernel
theorem dX9_endPart_17 : decode cX9_endPart 17 = .ok (.ifCond .eq 5, 3) := by decide +kernel
theorem dX9_endPart_20 : decode cX9_endPart 20 = .ok (.iconst 0, 1) := by decide +kernel
theorem dX9_endPart_21 : decode cX9_endPart 21 = .ok (.ireturn, 1) := by decide +kernel
theorem dX9_endPart_22 : decode cX9_endPart 22 = .ok (.aload_n 0, 1) := by decide +kernel
theorem dX9_endPart_23 : decode cX9_endPart 23 = .ok (.iconst 1, 1) := by decide +kernel
theorem dX9_endPart_24 : decode cX9_endPart 24 = .ok (.invokevirtual 46, 3) := by decide +kernel
theorem dX9_endPart_27 : decode cX9_endPart 27 = .ok (.aload_n 0, 1) := by decide +kernel
theorem dX9_endPart_28 : decode cX9_endPart 28 = .ok (.iload_n 1, 1) := by decide +kernel
theorem dX9_endPart_29 : decode cX9_endPart 29 = .ok (.ineg, 1) := by decide +kernel
theorem dX9_endPart_30 : decode cX9_endPart 30 = .ok (.invokevirtual 62, 3) := by decide +kernel
theorem dX9_endPart_33 : decode cX9_endPart 33 = .ok (.aload_n 0, 1) := by decide +kernel
theorem dX9_endPart_34 : decode cX9_endPart 34 = .ok (.iload_n 1, 1) := by decide +kernel
theorem dX9_endPart_35 : decode cX9_endPart 35 = .ok (.bipush 63, 2) := by decide +kernel
theorem dX9_endPart_37 : decode cX9_endPart 37 = .ok (.if_icmp .ne 7, 3) := by decide +kernel
theorem dX9_endPart_40 : decode cX9_endPart 40 = .ok (.iconst 1, 1) := by decide +kernel
theorem dX9_endPart_41 : decode cX9_endPart 41 = .ok (.goto 4, 3) := by decide +kernel
theorem dX9_endPart_44 : decode cX9_endPart 44 = .ok (.iconst 0, 1) := by decide +kernel
theorem dX9_endPart_45 : decode cX9_endPart 45 = .ok (.putfield 35, 3) := by decide +kernel
theorem dX9_endPart_48 : decode cX9_endPart 48 = .ok (.aload_n 0, 1) := by decide +kernel
theorem dX9_endPart_49 : decode cX9_endPart 49 = .ok (.iconst 1, 1) := by decide +kernel
theorem dX9_endPart_50 : decode cX9_endPart 50 = .ok (.putfield 31, 3) := by decide +kernel
theorem dX9_endPart_53 : decode cX9_endPart 53 = .ok (.iconst 1, 1) := by decide +kernel
theorem dX9_endPart_54 : decode cX9_endPart 54 = .ok (.ireturn, 1) := by decide +kernel
theorem dX9_endOperand_0 : decode cX9_endOperand 0 = .ok (.aload_n 0, 1) := by decide +kernel
theorem dX9_endOperand_1 : decode cX9_endOperand 1 = .ok (.getfield 22, 3) := by decide +kernel
theorem dX9_endOperand_4 : decode cX9_endOperand 4 = .ok (.ifCond .le 53, 3) := by decide +kernel
theorem dX9_endOperand_7 : decode cX9_endOperand 7 = .ok (.aload_n 0, 1) := by decide +kernel
theorem dX9_endOperand_8 : decode cX9_endOperand 8 = .ok (.invokevirtual 81, 3) := by decide +kernel
theorem dX9_endOperand_11 : decode cX9_endOperand 11 = .ok (.bipush 33, 2) := by decide +kernel
theorem dX9_endOperand_13 : decode cX9_endOperand 13 = .ok (.if_icmp .eq 12, 3) := by decide +kernel
theorem dX9_endOperand_16 : decode cX9_endOperand 16 = .ok (.aload_n 0, 1) := by decide +kernel
theorem dX9_endOperand_17 : decode cX9_endOperand 17 = .ok (.invokevirtual 81, 3) := by decide +kernel
theorem dX9_endOperand_20 : decode cX9_endOperand 20 = .ok (.bipush 95, 2) := by decide +kernel
theorem dX9_endOperand_22 : decode cX9_endOperand 22 = .ok (.if_icmp .ne 35, 3) := by decide +kernel
theorem dX9_endOperand_25 : decode cX9_endOperand 25 = .ok (.aload_n 0, 1) := by decide +kernel
theorem dX9_endOperand_26 : decode cX9_endOperand 26 = .ok (.aload_n 0, 1) := by decide +kernel
theorem dX9_endOperand_27 : decode cX9_endOperand 27 = .ok (.invokevirtual 81, 3) := by decide +kernel
theorem dX9_endOperand_30 : decode cX9_endOperand 30 = .ok (.ineg, 1) := by decide +kernel
theorem dX9_endOperand_31 : decode cX9_endOperand 31 = .ok (.invokevirtual 62, 3) := by decide +kernel
theorem dX9_endOperand_34 : decode cX9_endOperand 34 = .ok (.aload_n 0, 1) := by decide +kernel
theorem dX9_endOperand_35 : decode cX9_endOperand 35 = .ok (.dup, 1) := by decide +kernel
theorem dX9_endOperand_36 : decode cX9_endOperand 36 = .ok (.getfield 22, 3) := by decide +kernel
theorem dX9_endOperand_39 : decode cX9_endOperand 39 = .ok (.iconst 1, 1) := by decide +kernel
theorem dX9_endOperand_40 : decode cX9_endOperand 40 = .ok (.isub, 1) := by decide +kernel
theorem dX9_endOperand_41 : decode cX9_endOperand 41 = .ok (.putfield 22, 3) := by decide +kernel
theorem dX9_endOperand_44 : decode cX9_endOperand 44 = .ok (.aload_n 0, 1) := by decide +kernel
theorem dX9_endOperand_45 : decode cX9_endOperand 45 = .ok (.dup, 1) := by decide +kernel
theorem dX9_endOperand_46 : decode cX9_endOperand 46 = .ok (.getfield 25, 3) := by decide +kernel
theorem dX9_endOperand_49 : decode cX9_endOperand 49 = .ok (.iconst 1, 1) := by decide +kernel
theorem dX9_endOperand_50 : decode cX9_endOperand 50 = .ok (.isub, 1) := by decide +kernel
theorem dX9_endOperand_51 : decode cX9_endOperand 51 = .ok (.putfield 25, 3) := by decide +kernel
theorem dX9_endOperand_54 : decode cX9_endOperand 54 = .ok (.goto (-54), 3) := by decide +kernel
theorem dX9_endOperand_57 : decode cX9_endOperand 57 = .ok (.aload_n 0, 1) := by decide +kernel
theorem dX9_endOperand_58 : decode cX9_endOperand 58 = .ok (.iconst 0, 1) := by decide +kernel
theorem dX9_endOperand_59 : decode cX9_endOperand 59 = .ok (.putfield 31, 3) := by decide +kernel
theorem dX9_endOperand_62 : decode cX9_endOperand 62 = .ok (.return_, 1) := by decide +kernel
theorem dX9_writeWaiting_0 : decode cX9_writeWaiting 0 = .ok (.aload_n 0, 1) := by decide +kernel
theorem dX9_writeWaiting_1 : decode cX9_writeWaiting 1 = .ok (.getfield 22, 3) := by decide +kernel
theorem dX9_writeWaiting_4 : decode cX9_writeWaiting 4 = .ok (.ifCond .le 36, 3) := by decide +kernel
theorem dX9_writeWaiting_7 : decode cX9_writeWaiting 7 = .ok (.aload_n 0, 1) := by decide +kernel
theorem dX9_writeWaiting_8 : decode cX9_writeWaiting 8 = .ok (.invokevirtual 81, 3) := by decide +kernel
theorem dX9_writeWaiting_11 : decode cX9_writeWaiting 11 = .ok (.invokestatic 78, 3) := by decide +kernel
theorem dX9_writeWaiting_14 : decode cX9_writeWaiting 14 = .ok (.iload_n 1, 1) := by decide +kernel
theorem dX9_writeWaiting_15 : decode cX9_writeWaiting 15 = .ok (.if_icmp .lt 25, 3) := by decide +kernel
theorem dX9_writeWaiting_18 : decode cX9_writeWaiting 18 = .ok (.aload_n 0, 1) := by decide +kernel
theorem dX9_writeWaiting_19 : decode cX9_writeWaiting 19 = .ok (.aload_n 0, 1) := by decide +kernel
theorem dX9_writeWaiting_20 : decode cX9_writeWaiting 20 = .ok (.invokevirtual 81, 3) := by decide +kernel
theorem dX9_writeWaiting_23 : decode cX9_writeWaiting 23 = .ok (.ineg, 1) := by decide +kernel
theorem dX9_writeWaiting_24 : decode cX9_writeWaiting 24 = .ok (.invokevirtual 62, 3) := by decide +kernel
theorem dX9_writeWaiting_27 : decode cX9_writeWaiting 27 = .ok (.aload_n 0, 1) := by decide +kernel
theorem dX9_writeWaiting_28 : decode cX9_writeWaiting 28 = .ok (.dup, 1) := by decide +kernel
theorem dX9_writeWaiting_29 : decode cX9_writeWaiting 29 = .ok (.getfield 22, 3) := by decide +kernel
theorem dX9_writeWaiting_32 : decode cX9_writeWaiting 32 = .ok (.iconst 1, 1) := by decide +kernel
theorem dX9_writeWaiting_33 : decode cX9_writeWaiting 33 = .ok (.isub, 1) := by decide +kernel
theorem dX9_writeWaiting_34 : decode cX9_writeWaiting 34 = .ok (.putfield 22, 3) := by decide +kernel
theorem dX9_writeWaiting_37 : decode cX9_writeWaiting 37 = .ok (.goto (-37), 3) := by decide +kernel
theorem dX9_writeWaiting_40 : decode cX9_writeWaiting 40 = .ok (.return_, 1) := by decide +kernel
theorem dX9_lastWaiting_0 : decode cX9_lastWaiting 0 = .ok (.aload_n 0, 1) := by decide +kernel
theorem dX9_lastWaiting_1 : decode cX9_lastWaiting 1 = .ok (.getfield 22, 3) := by decide +kernel
theorem dX9_lastWaiting_4 : decode cX9_lastWaiting 4 = .ok (.iconst 1, 1) := by decide +kernel
theorem dX9_lastWaiting_5 : decode cX9_lastWaiting 5 = .ok (.bipush 120, 2) := by decide +kernel
theorem dX9_lastWaiting_7 : decode cX9_lastWaiting 7 = .ok (.invokestatic 84, 3) := by decide +kernel
theorem dX9_lastWaiting_10 : decode cX9_lastWaiting 10 = .ok (.ifCond .eq 17, 3) := by decide +kernel
theorem dX9_lastWaiting_13 : decode cX9_lastWaiting 13 = .ok (.aload_n 0, 1) := by decide +kernel
theorem dX9_lastWaiting_14 : decode cX9_lastWaiting 14 = .ok (.getfield 15, 3) := by decide +kernel
theorem dX9_lastWaiting_17 : decode cX9_lastWaiting 17 = .ok (.aload_n 0, 1) := by decide +kernel
theorem dX9_lastWaiting_18 : decode cX9_lastWaiting 18 = .ok (.getfield 22, 3) := by decide +kernel
theorem dX9_lastWaiting_21 : decode cX9_lastWaiting 21 = .ok (.iconst 1, 1) := by decide +kernel
theorem dX9_lastWaiting_22 : decode cX9_lastWaiting 22 = .ok (.isub, 1) := by decide +kernel
theorem dX9_lastWaiting_23 : decode cX9_lastWaiting 23 = .ok (.iaload, 1) := by decide +kernel
theorem dX9_lastWaiting_24 : decode cX9_lastWaiting 24 = .ok (.goto 4, 3) := by decide +kernel
theorem dX9_lastWaiting_27 : decode cX9_lastWaiting 27 = .ok (.iconst 0, 1) := by decide +kernel
theorem dX9_lastWaiting_28 : decode cX9_lastWaiting 28 = .ok (.ireturn, 1) := by decide +kernel
theorem dX9_await_0 : decode cX9_await 0 = .ok (.aload_n 0, 1) := by decide +kernel
theorem dX9_await_1 : decode cX9_await 1 = .ok (.getfield 22, 3) := by decide +kernel
theorem dX9_await_4 : decode cX9_await 4 = .ok (.bipush 120, 2) := by decide +kernel
theorem dX9_await_6 : decode cX9_await 6 = .ok (.if_icmp .ge 23, 3) := by decide +kernel
theorem dX9_await_9 : decode cX9_await 9 = .ok (.aload_n 0, 1) := by decide +kernel
theorem dX9_await_10 : decode cX9_await 10 = .ok (.getfield 15, 3) := by decide +kernel
theorem dX9_await_13 : decode cX9_await 13 = .ok (.aload_n 0, 1) := by decide +kernel
theorem dX9_await_14 : decode cX9_await 14 = .ok (.getfield 22, 3) := by decide +kernel
theorem dX9_await_17 : decode cX9_await 17 = .ok (.iload_n 1, 1) := by decide +kernel
theorem dX9_await_18 : decode cX9_await 18 = .ok (.iastore, 1) := by decide +kernel
theorem dX9_await_19 : decode cX9_await 19 = .ok (.aload_n 0, 1) := by decide +kernel
theorem dX9_await_20 : decode cX9_await 20 = .ok (.dup, 1) := by decide +kernel
theorem dX9_await_21 : decode cX9_await 21 = .ok (.getfield 22, 3) := by decide +kernel
theorem dX9_await_24 : decode cX9_await 24 = .ok (.iconst 1, 1) := by decide +kernel
theorem dX9_await_25 : decode cX9_await 25 = .ok (.iadd, 1) := by decide +kernel
theorem dX9_await_26 : decode cX9_await 26 = .ok (.putfield 22, 3) := by decide +kernel
theorem dX9_await_29 : decode cX9_await 29 = .ok (.return_, 1) := by decide +kernel
theorem dX9_write_0 : decode cX9_write 0 = .ok (.aload_n 0, 1) := by decide +kernel
theorem dX9_write_1 : decode cX9_write 1 = .ok (.getfield 18, 3) := by decide +kernel
theorem dX9_write_4 : decode cX9_write 4 = .ok (.bipush 120, 2) := by decide +kernel
theorem dX9_write_6 : decode cX9_write 6 = .ok (.if_icmp .ge 23, 3) := by decide +kernel
theorem dX9_write_9 : decode cX9_write 9 = .ok (.aload_n 0, 1) := by decide +kernel
theorem dX9_write_10 : decode cX9_write 10 = .ok (.getfield 9, 3) := by decide +kernel
theorem dX9_write_13 : decode cX9_write 13 = .ok (.aload_n 0, 1) := by decide +kernel
theorem dX9_write_14 : decode cX9_write 14 = .ok (.getfield 18, 3) := by decide +kernel
theorem dX9_write_17 : decode cX9_write 17 = .ok (.iload_n 1, 1) := by decide +kernel
theorem dX9_write_18 : decode cX9_write 18 = .ok (.iastore, 1) := by decide +kernel
theorem dX9_write_19 : decode cX9_write 19 = .ok (.aload_n 0, 1) := by decide +kernel
theorem dX9_write_20 : decode cX9_write 20 = .ok (.dup, 1) := by decide +kernel
theorem dX9_write_21 : decode cX9_write 21 = .ok (.getfield 18, 3) := by decide +kernel
theorem dX9_write_24 : decode cX9_write 24 = .ok (.iconst 1, 1) := by decide +kernel
theorem dX9_write_25 : decode cX9_write 25 = .ok (.iadd, 1) := by decide +kernel
theorem dX9_write_26 : decode cX9_write 26 = .ok (.putfield 18, 3) := by decide +kernel
theorem dX9_write_29 : decode cX9_write 29 = .ok (.return_, 1) := by decide +kernel
theorem dX9_isDigit_0 : decode cX9_isDigit 0 = .ok (.iload_n 0, 1) := by decide +kernel
theorem dX9_isDigit_1 : decode cX9_isDigit 1 = .ok (.bipush 48, 2) := by decide +kernel
theorem dX9_isDigit_3 : decode cX9_isDigit 3 = .ok (.if_icmp .lt 13, 3) := by decide +kernel
theorem dX9_isDigit_6 : decode cX9_isDigit 6 = .ok (.iload_n 0, 1) := by decide +kernel
theorem dX9_isDigit_7 : decode cX9_isDigit 7 = .ok (.bipush 57, 2) := by decide +kernel
theorem dX9_isDigit_9 : decode cX9_isDigit 9 = .ok (.if_icmp .gt 7, 3) := by decide +kernel
theorem dX9_isDigit_12 : decode cX9_isDigit 12 = .ok (.iconst 1, 1) := by decide +kernel
theorem dX9_isDigit_13 : decode cX9_isDigit 13 = .ok (.goto 4, 3) := by decide +kernel
theorem dX9_isDigit_16 : decode cX9_isDigit 16 = .ok (.iconst 0, 1) := by decide +kernel
theorem dX9_isDigit_17 : decode cX9_isDigit 17 = .ok (.ireturn, 1) := by decide +kernel
theorem dX9_rankOf_0 : decode cX9_rankOf 0 = .ok (.iload_n 0, 1) := by decide +kernel
theorem dX9_rankOf_1 : decode cX9_rankOf 1 = .ok (.lookupswitch 101 #[(37, 99), (38, 93), (42, 99), (43, 97), (45, 97), (47, 99), (60, 95), (61, 95), (62, 95), (124, 91)], 91) := by decide +kernel
theorem dX9_rankOf_92 : decode cX9_rankOf 92 = .ok (.iconst 1, 1) := by decide +kernel
theorem dX9_rankOf_93 : decode cX9_rankOf 93 = .ok (.ireturn, 1) := by decide +kernel
theorem dX9_rankOf_94 : decode cX9_rankOf 94 = .ok (.iconst 2, 1) := by decide +kernel
theorem dX9_rankOf_95 : decode cX9_rankOf 95 = .ok (.ireturn, 1) := by decide +kernel
theorem dX9_rankOf_96 : decode cX9_rankOf 96 = .ok (.iconst 3, 1) := by decide +kernel
theorem dX9_rankOf_97 : decode cX9_rankOf 97 = .ok (.ireturn, 1) := by decide +kernel
theorem dX9_rankOf_98 : decode cX9_rankOf 98 = .ok (.iconst 4, 1) := by decide +kernel
theorem dX9_rankOf_99 : decode cX9_rankOf 99 = .ok (.ireturn, 1) := by decide +kernel
theorem dX9_rankOf_100 : decode cX9_rankOf 100 = .ok (.iconst 5, 1) := by decide +kernel
theorem dX9_rankOf_101 : decode cX9_rankOf 101 = .ok (.ireturn, 1) := by decide +kernel
theorem dX9_rankOf_102 : decode cX9_rankOf 102 = .ok (.iconst 0, 1) := by decide +kernel
theorem dX9_rankOf_103 : decode cX9_rankOf 103 = .ok (.ireturn, 1) := by decide +kernel
theorem dX10_init_0 : decode cX10_init 0 = .ok (.aload_n 0, 1) := by decide +kernel
theorem dX10_init_1 : decode cX10_init 1 = .ok (.invokespecial 3, 3) := by decide +kernel
theorem dX10_init_4 : decode cX10_init 4 = .ok (.aload_n 0, 1) := by decide +kernel
theorem dX10_init_5 : decode cX10_init 5 = .ok (.bipush (-2), 2) := by decide +kernel
theorem dX10_init_7 : decode cX10_init 7 = .ok (.putfield 11, 3) := by decide +kernel
theorem dX10_init_10 : decode cX10_init 10 = .ok (.aload_n 0, 1) := by decide +kernel
theorem dX10_init_11 : decode cX10_init 11 = .ok (.bipush 60, 2) := by decide +kernel
theorem dX10_init_13 : decode cX10_init 13 = .ok (.newarray .long, 2) := by decide +kernel
theorem dX10_init_15 : decode cX10_init 15 = .ok (.putfield 15, 3) := by decide +kernel
theorem dX10_init_18 : decode cX10_init 18 = .ok (.return_, 1) := by decide +kernel
theorem dX10_clear_0 : decode cX10_clear 0 = .ok (.aload_n 0, 1) := by decide +kernel
theorem dX10_clear_1 : decode cX10_clear 1 = .ok (.bipush (-2), 2) := by decide +kernel
theorem dX10_clear_3 : decode cX10_clear 3 = .ok (.putfield 11, 3) := by decide +kernel
theorem dX10_clear_6 : decode cX10_clear 6 = .ok (.aload_n 0, 1) := by decide +kernel
theorem dX10_clear_7 : decode cX10_clear 7 = .ok (.iconst 0, 1) := by decide +kernel
theorem dX10_clear_8 : decode cX10_clear 8 = .ok (.putfield 19, 3) := by decide +kernel
theorem dX10_clear_11 : decode cX10_clear 11 = .ok (.return_, 1) := by decide +kernel
theorem dX10_holdBody_0 : decode cX10_holdBody 0 = .ok (.aload_n 0, 1) := by decide +kernel
theorem dX10_holdBody_1 : decode cX10_holdBody 1 = .ok (.iconst (-1), 1) := by decide +kernel
theorem dX10_holdBody_2 : decode cX10_holdBody 2 = .ok (.putfield 11, 3) := by decide +kernel
theorem dX10_holdBody_5 : decode cX10_holdBody 5 = .ok (.aload_n 0, 1) := by decide +kernel
theorem dX10_holdBody_6 : decode cX10_holdBody 6 = .ok (.iload_n 1, 1) := by decide +kernel
theorem dX10_holdBody_7 : decode cX10_holdBody 7 = .ok (.putfield 22, 3) := by decide +kernel
theorem dX10_holdBody_10 : decode cX10_holdBody 10 = .ok (.aload_n 0, 1) := by decide +kernel
theorem dX10_holdBody_11 : decode cX10_holdBody 11 = .ok (.iconst 0, 1) := by decide +kernel
theorem dX10_holdBody_12 : decode cX10_holdBody 12 = .ok (.putfield 19, 3) := by decide +kernel
theorem dX10_holdBody_15 : decode cX10_holdBody 15 = .ok (.return_, 1) := by decide +kernel
theorem dX10_holdRow_0 : decode cX10_holdRow 0 = .ok (.aload_n 0, 1) := by decide +kernel
theorem dX10_holdRow_1 : decode cX10_holdRow 1 = .ok (.iload_n 1, 1) := by decide +kernel
theorem dX10_holdRow_2 : decode cX10_holdRow 2 = .ok (.putfield 11, 3) := by decide +kernel
theorem dX10_holdRow_5 : decode cX10_holdRow 5 = .ok (.aload_n 0, 1) := by decide +kernel
theorem dX10_holdRow_6 : decode cX10_holdRow 6 = .ok (.iload_n 2, 1) := by decide +kernel
theorem dX10_holdRow_7 : decode cX10_holdRow 7 = .ok (.putfield 19, 3) := by decide +kernel
theorem dX10_holdRow_10 : decode cX10_holdRow 10 = .ok (.aload_n 0, 1) := by decide +kernel
theorem dX10_holdRow_11 : decode cX10_holdRow 11 = .ok (.getfield 15, 3) := by decide +kernel
theorem dX10_holdRow_14 : decode cX10_holdRow 14 = .ok (.lconst 0, 1) := by decide +kernel
theorem dX10_holdRow_15 : decode cX10_holdRow 15 = .ok (.invokestatic 25, 3) := by decide +kernel
theorem dX10_holdRow_18 : decode cX10_holdRow 18 = .ok (.return_, 1) := by decide +kernel
theorem dX10_store_0 : decode cX10_store 0 = .ok (.aload_n 0, 1) := by decide +kernel
theorem dX10_store_1 : decode cX10_store 1 = .ok (.getfield 11, 3) := by decide +kernel
theorem dX10_store_4 : decode cX10_store 4 = .ok (.tableswitch 94 0 4 #[36, 49, 62, 94, 74], 36) := by decide +kernel
theorem dX10_store_40 : decode cX10_store 40 = .ok (.aload_n 0, 1) := by decide +kernel
theorem dX10_store_41 : decode cX10_store 41 = .ok (.getfield 15, 3) := by decide +kernel
theorem dX10_store_44 : decode cX10_store 44 = .ok (.iload_n 1, 1) := by decide +kernel
theorem dX10_store_45 : decode cX10_store 45 = .ok (.lload_n 2, 1) := by decide +kernel
theorem dX10_store_46 : decode cX10_store 46 = .ok (.l2i, 1) := by decide +kernel
theorem dX10_store_47 : decode cX10_store 47 = .ok (.i2b, 1) := by decide +kernel
theorem dX10_store_48 : decode cX10_store 48 = .ok (.i2l, 1) := by decide +kernel
theorem dX10_store_49 : decode cX10_store 49 = .ok (.lastore, 1) := by decide +kernel
theorem dX10_store_50 : decode cX10_store 50 = .ok (.goto 55, 3) := by decide +kernel
theorem dX10_store_53 : decode cX10_store 53 = .ok (.aload_n 0, 1) := by decide +kernel
theorem dX10_store_54 : decode cX10_store 54 = .ok (.getfield 15, 3) := by decide +kernel
theorem dX10_store_57 : decode cX10_store 57 = .ok (.iload_n 1, 1) := by decide +kernel
theorem dX10_store_58 : decode cX10_store 58 = .ok (.lload_n 2, 1) := by decide +kernel
theorem dX10_store_59 : decode cX10_store 59 = .ok (.l2i, 1) := by decide +kernel
theorem dX10_store_60 : decode cX10_store 60 = .ok (.i2s, 1) := by decide +kernel
theorem dX10_store_61 : decode cX10_store 61 = .ok (.i2l, 1) := by decide +kernel
theorem dX10_store_62 : decode cX10_store 62 = .ok (.lastore, 1) := by decide +kernel
theorem dX10_store_63 : decode cX10_store 63 = .ok (.goto 42, 3) := by decide +kernel
theorem dX10_store_66 : decode cX10_store 66 = .ok (.aload_n 0, 1) := by decide +kernel
theorem dX10_store_67 : decode cX10_store 67 = .ok (.getfield 15, 3) := by decide +kernel
theorem dX10_store_70 : decode cX10_store 70 = .ok (.iload_n 1, 1) := by decide +kernel
theorem dX10_store_71 : decode cX10_store 71 = .ok (.lload_n 2, 1) := by decide +kernel
theorem dX10_store_72 : decode cX10_store 72 = .ok (.l2i, 1) := by decide +kernel
theorem dX10_store_73 : decode cX10_store 73 = .ok (.i2l, 1) := by decide +kernel
theorem dX10_store_74 : decode cX10_store 74 = .ok (.lastore, 1) := by decide +kernel
theorem dX10_store_75 : decode cX10_store 75 = .ok (.goto 30, 3) := by decide +kernel
theorem dX10_store_78 : decode cX10_store 78 = .ok (.aload_n 0, 1) := by decide +kernel
theorem dX10_store_79 : decode cX10_store 79 = .ok (.getfield 15, 3) := by decide +kernel
theorem dX10_store_82 : decode cX10_store 82 = .ok (.iload_n 1, 1) := by decide +kernel
theorem dX10_store_83 : decode cX10_store 83 = .ok (.lload_n 2, 1) := by decide +kernel
theorem dX10_store_84 : decode cX10_store 84 = .ok (.lconst 0, 1) := by decide +kernel
theorem dX10_store_85 : decode cX10_store 85 = .ok (.lcmp, 1) := by decide +kernel
theorem dX10_store_86 : decode cX10_store 86 = .ok (.ifCond .eq 7, 3) := by decide +kernel
theorem dX10_store_89 : decode cX10_store 89 = .ok (.lconst 1, 1) := by decide +kernel
theorem dX10_store_90 : decode cX10_store 90 = .ok (.goto 4, 3) := by decide +kernel
theorem dX10_store_93 : decode cX10_store 93 = .ok (.lconst 0, 1) := by decide +kernel
theorem dX10_store_94 : decode cX10_store 94 = .ok (.lastore, 1) := by decide +kernel
theorem dX10_store_95 : decode cX10_store 95 = .ok (.goto 10, 3) := by decide +kernel
theorem dX10_store_98 : decode cX10_store 98 = .ok (.aload_n 0, 1) := by decide +kernel
theorem dX10_store_99 : decode cX10_store 99 = .ok (.getfield 15, 3) := by decide +kernel
theorem dX10_store_102 : decode cX10_store 102 = .ok (.iload_n 1, 1) := by decide +kernel
theorem dX10_store_103 : decode cX10_store 103 = .ok (.lload_n 2, 1) := by decide +kernel
theorem dX10_store_104 : decode cX10_store 104 = .ok (.lastore, 1) := by decide +kernel
theorem dX10_store_105 : decode cX10_store 105 = .ok (.return_, 1) := by decide +kernel
theorem dX10_hasRange_0 : decode cX10_hasRange 0 = .ok (.iload_n 2, 1) := by decide +kernel
theorem dX10_hasRange_1 : decode cX10_hasRange 1 = .ok (.ifCond .lt 29, 3) := by decide +kernel
theorem dX10_hasRange_4 : decode cX10_hasRange 4 = .ok (.iload_n 2, 1) := by decide +kernel
theorem dX10_hasRange_5 : decode cX10_hasRange 5 = .ok (.aload_n 0, 1) := by decide +kernel
theorem dX10_hasRange_6 : decode cX10_hasRange 6 = .ok (.getfield 19, 3) := by decide +kernel
theorem dX10_hasRange_9 : decode cX10_hasRange 9 = .ok (.if_icmp .gt 21, 3) := by decide +kernel
theorem dX10_hasRange_12 : decode cX10_hasRange 12 = .ok (.iload_n 1, 1) := by decide +kernel
theorem dX10_hasRange_13 : decode cX10_hasRange 13 = .ok (.ifCond .lt 17, 3) := by decide +kernel
theorem dX10_hasRange_16 : decode cX10_hasRange 16 = .ok (.iload_n 1, 1) := by decide +kernel
theorem dX10_hasRange_17 : decode cX10_hasRange 17 = .ok (.aload_n 0, 1) := by decide +kernel
theorem dX10_hasRange_18 : decode cX10_hasRange 18 = .ok (.getfield 19, 3) := by decide +kernel
theorem dX10_hasRange_21 : decode cX10_hasRange 21 = .ok (.iload_n 2, 1) := by decide +kernel
theorem dX10_hasRange_22 : decode cX10_hasRange 22 = .ok (.isub, 1) := by decide +kernel
theorem dX10_hasRange_23 : decode cX10_hasRange 23 = .ok (.if_icmp .gt 7, 3) := by decide +kernel
theorem dX10_hasRange_26 : decode cX10_hasRange 26 = .ok (.iconst 1, 1) := by decide +kernel
theorem dX10_hasRange_27 : decode cX10_hasRange 27 = .ok (.goto 4, 3) := by decide +kernel
theorem dX10_hasRange_30 : decode cX10_hasRange 30 = .ok (.iconst 0, 1) := by decide +kernel
theorem dX10_hasRange_31 : decode cX10_hasRange 31 = .ok (.ireturn, 1) := by decide +kernel
theorem dX10_refusalAsBytes_0 : decode cX10_refusalAsBytes 0 = .ok (.aload_n 0, 1) := by decide +kernel
theorem dX10_refusalAsBytes_1 : decode cX10_refusalAsBytes 1 = .ok (.getfield 11, 3) := by decide +kernel
theorem dX10_refusalAsBytes_4 : decode cX10_refusalAsBytes 4 = .ok (.bipush (-2), 2) := by decide +kernel
theorem dX10_refusalAsBytes_6 : decode cX10_refusalAsBytes 6 = .ok (.if_icmp .ne 6, 3) := by decide +kernel
theorem dX10_refusalAsBytes_9 : decode cX10_refusalAsBytes 9 = .ok (.bipush (-11), 2) := by decide +kernel
theorem dX10_refusalAsBytes_11 : decode cX10_refusalAsBytes 11 = .ok (.ireturn, 1) := by decide +kernel
theorem dX10_refusalAsBytes_12 : decode cX10_refusalAsBytes 12 = .ok (.aload_n 0, 1) := by decide +kernel
theorem dX10_refusalAsBytes_13 : decode cX10_refusalAsBytes 13 = .ok (.getfield 11, 3) := by decide +kernel
theorem dX10_refusalAsBytes_16 : decode cX10_refusalAsBytes 16 = .ok (.ifCond .ne 7, 3) := by decide +kernel
theorem dX10_refusalAsBytes_19 : decode cX10_refusalAsBytes 19 = .ok (.iconst 0, 1) := by decide +kernel
theorem dX10_refusalAsBytes_20 : decode cX10_refusalAsBytes 20 = .ok (.goto 5, 3) := by decide +kernel
theorem dX10_refusalAsBytes_23 : decode cX10_refusalAsBytes 23 = .ok (.bipush (-12), 2) := by decide +kernel
theorem dX10_refusalAsBytes_25 : decode cX10_refusalAsBytes 25 = .ok (.ireturn, 1) := by decide +kernel
theorem dX11_init_0 : decode cX11_init 0 = .ok (.aload_n 0, 1) := by decide +kernel
theorem dX11_init_1 : decode cX11_init 1 = .ok (.invokespecial 1, 3) := by decide +kernel
theorem dX11_init_4 : decode cX11_init 4 = .ok (.aload_n 0, 1) := by decide +kernel
theorem dX11_init_5 : decode cX11_init 5 = .ok (.new 7, 3) := by decide +kernel
theorem dX11_init_8 : decode cX11_init 8 = .ok (.dup, 1) := by decide +kernel
theorem dX11_init_9 : decode cX11_init 9 = .ok (.invokespecial 9, 3) := by decide +kernel
theorem dX11_init_12 : decode cX11_init 12 = .ok (.putfield 10, 3) := by decide +kernel
theorem dX11_init_15 : decode cX11_init 15 = .ok (.aload_n 0, 1) := by decide +kernel
theorem dX11_init_16 : decode cX11_init 16 = .ok (.new 16, 3) := by decide +kernel
theorem dX11_init_19 : decode cX11_init 19 = .ok (.dup, 1) := by decide +kernel
theorem dX11_init_20 : decode cX11_init 20 = .ok (.invokespecial 18, 3) := by decide +kernel
theorem dX11_init_23 : decode cX11_init 23 = .ok (.putfield 19, 3) := by decide +kernel
theorem dX11_init_26 : decode cX11_init 26 = .ok (.aload_n 0, 1) := by decide +kernel
theorem dX11_init_27 : decode cX11_init 27 = .ok (.new 23, 3) := by decide +kernel
theorem dX11_init_30 : decode cX11_init 30 = .ok (.dup, 1) := by decide +kernel
theorem dX11_init_31 : decode cX11_init 31 = .ok (.invokespecial 25, 3) := by decide +kernel
theorem dX11_init_34 : decode cX11_init 34 = .ok (.putfield 26, 3) := by decide +kernel
theorem dX11_init_37 : decode cX11_init 37 = .ok (.aload_n 0, 1) := by decide +kernel
theorem dX11_init_38 : decode cX11_init 38 = .ok (.bipush 120, 2) := by decide +kernel
theorem dX11_init_40 : decode cX11_init 40 = .ok (.newarray .int, 2) := by decide +kernel
theorem dX11_init_42 : decode cX11_init 42 = .ok (.putfield 30, 3) := by decide +kernel
theorem dX11_init_45 : decode cX11_init 45 = .ok (.aload_n 0, 1) := by decide +kernel
theorem dX11_init_46 : decode cX11_init 46 = .ok (.bipush 6, 2) := by decide +kernel
theorem dX11_init_48 : decode cX11_init 48 = .ok (.anewarray 34, 3) := by decide +kernel
theorem dX11_init_51 : decode cX11_init 51 = .ok (.putfield 36, 3) := by decide +kernel
theorem dX11_init_54 : decode cX11_init 54 = .ok (.iconst 0, 1) := by decide +kernel
theorem dX11_init_55 : decode cX11_init 55 = .ok (.istore_n 1, 1) := by decide +kernel
theorem dX11_init_56 : decode cX11_init 56 = .ok (.iload_n 1, 1) := by decide +kernel
theorem dX11_init_57 : decode cX11_init 57 = .ok (.bipush 6, 2) := by decide +kernel
theorem dX11_init_59 : decode cX11_init 59 = .ok (.if_icmp .ge 31, 3) := by decide +kernel
theorem dX11_init_62 : decode cX11_init 62 = .ok (.aload_n 0, 1) := by decide +kernel
theorem dX11_init_63 : decode cX11_init 63 = .ok (.getfield 36, 3) := by decide +kernel
theorem dX11_init_66 : decode cX11_init 66 = .ok (.iload_n 1, 1) := by decide +kernel
theorem dX11_init_67 : decode cX11_init 67 = .ok (.new 34, 3) := by decide +kernel
theorem dX11_init_70 : decode cX11_init 70 = .ok (.dup, 1) := by decide +kernel
theorem dX11_init_71 : decode cX11_init 71 = .ok (.iload_n 1, 1) := by decide +kernel
theorem dX11_init_72 : decode cX11_init 72 = .ok (.aload_n 0, 1) := by decide +kernel
theorem dX11_init_73 : decode cX11_init 73 = .ok (.getfield 10, 3) := by decide +kernel
theorem dX11_init_76 : decode cX11_init 76 = .ok (.aload_n 0, 1) := by decide +kernel
theorem dX11_init_77 : decode cX11_init 77 = .ok (.getfield 19, 3) := by decide +kernel
theorem dX11_init_80 : decode cX11_init 80 = .ok (.invokespecial 40, 3) := by decide +kernel
theorem dX11_init_83 : decode cX11_init 83 = .ok (.aastore, 1) := by decide +kernel
theorem dX11_init_84 : decode cX11_init 84 = .ok (.iinc 1 1, 3) := by decide +kernel
theorem dX11_init_87 : decode cX11_init 87 = .ok (.goto (-31), 3) := by decide +kernel
theorem dX11_init_90 : decode cX11_init 90 = .ok (.aload_n 0, 1) := by decide +kernel
theorem dX11_init_91 : decode cX11_init 91 = .ok (.new 43, 3) := by decide +kernel
theorem dX11_init_94 : decode cX11_init 94 = .ok (.dup, 1) := by decide +kernel
theorem dX11_init_95 : decode cX11_init 95 = .ok (.aload_n 0, 1) := by decide +kernel
theorem dX11_init_96 : decode cX11_init 96 = .ok (.getfield 10, 3) := by decide +kernel
theorem dX11_init_99 : decode cX11_init 99 = .ok (.aload_n 0, 1) := by decide +kernel
theorem dX11_init_100 : decode cX11_init 100 = .ok (.getfield 36, 3) := by decide +kernel
theorem dX11_init_103 : decode cX11_init 103 = .ok (.invokespecial 45, 3) := by decide +kernel
theorem dX11_init_106 : decode cX11_init 106 = .ok (.putfield 48, 3) := by decide +kernel
theorem dX11_init_109 : decode cX11_init 109 = .ok (.aload_n 0, 1) := by decide +kernel
theorem dX11_init_110 : decode cX11_init 110 = .ok (.new 52, 3) := by decide +kernel
theorem dX11_init_113 : decode cX11_init 113 = .ok (.dup, 1) := by decide +kernel
theorem dX11_init_114 : decode cX11_init 114 = .ok (.aload_n 0, 1) := by decide +kernel
theorem dX11_init_115 : decode cX11_init 115 = .ok (.getfield 10, 3) := by decide +kernel
theorem dX11_init_118 : decode cX11_init 118 = .ok (.aload_n 0, 1) := by decide +kernel
theorem dX11_init_119 : decode cX11_init 119 = .ok (.getfield 36, 3) := by decide +kernel
theorem dX11_init_122 : decode cX11_init 122 = .ok (.aload_n 0, 1) := by decide +kernel
theorem dX11_init_123 : decode cX11_init 123 = .ok (.getfield 48, 3) := by decide +kernel
theorem dX11_init_126 : decode cX11_init 126 = .ok (.invokespecial 54, 3) := by decide +kernel
theorem dX11_init_129 : decode cX11_init 129 = .ok (.putfield 57, 3) := by decide +kernel
theorem dX11_init_132 : decode cX11_init 132 = .ok (.aload_n 0, 1) := by decide +kernel
theorem dX11_init_133 : decode cX11_init 133 = .ok (.new 61, 3) := by decide +kernel
theorem dX11_init_136 : decode cX11_init 136 = .ok (.dup, 1) := by decide +kernel
theorem dX11_init_137 : decode cX11_init 137 = .ok (.aload_n 0, 1) := by decide +kernel
theorem dX11_init_138 : decode cX11_init 138 = .ok (.getfield 10, 3) := by decide +kernel
theorem dX11_init_141 : decode cX11_init 141 = .ok (.aload_n 0, 1) := by decide +kernel
theorem dX11_init_142 : decode cX11_init 142 = .ok (.getfield 36, 3) := by decide +kernel
theorem dX11_init_145 : decode cX11_init 145 = .ok (.invokespecial 63, 3) := by decide +kernel
theorem dX11_init_148 : decode cX11_init 148 = .ok (.putfield 64, 3) := by decide +kernel
theorem dX11_init_151 : decode cX11_init 151 = .ok (.aload_n 0, 1) := by decide +kernel
theorem dX11_init_152 : decode cX11_init 152 = .ok (.new 68, 3) := by decide +kernel
theorem dX11_init_155 : decode cX11_init 155 = .ok (.dup, 1) := by decide +kernel
theorem dX11_init_156 : decode cX11_init 156 = .ok (.aload_n 0, 1) := by decide +kernel
theorem dX11_init_157 : decode cX11_init 157 = .ok (.getfield 10, 3) := by decide +kernel
theorem dX11_init_160 : decode cX11_init 160 = .ok (.invokespecial 70, 3) := by decide +kernel
theorem dX11_init_163 : decode cX11_init 163 = .ok (.putfield 73, 3) := by decide +kernel
theorem dX11_init_166 : decode cX11_init 166 = .ok (.aload_n 0, 1) := by decide +kernel
theorem dX11_init_167 : decode cX11_init 167 = .ok (.new 77, 3) := by decide +kernel
theorem dX11_init_170 : decode cX11_init 170 = .ok (.dup, 1) := by decide +kernel
theorem dX11_init_171 : decode cX11_init 171 = .ok (.aload_n 0, 1) := by decide +kernel
theorem dX11_init_172 : decode cX11_init 172 = .ok (.getfield 10, 3) := by decide +kernel
theorem dX11_init_175 : decode cX11_init 175 = .ok (.aload_n 0, 1) := by decide +kernel
theorem dX11_init_176 : decode cX11_init 176 = .ok (.getfield 36, 3) := by decide +kernel
theorem dX11_init_179 : decode cX11_init 179 = .ok (.invokespecial 79, 3) := by decide +kernel
theorem dX11_init_182 : decode cX11_init 182 = .ok (.putfield 80, 3) := by decide +kernel
theorem dX11_init_185 : decode cX11_init 185 = .ok (.aload_n 0, 1) := by decide +kernel
theorem dX11_init_186 : decode cX11_init 186 = .ok (.bipush 6, 2) := by decide +kernel
theorem dX11_init_188 : decode cX11_init 188 = .ok (.anewarray 84, 3) := by decide +kernel
theorem dX11_init_191 : decode cX11_init 191 = .ok (.putfield 86, 3) := by decide +kernel
theorem dX11_init_194 : decode cX11_init 194 = .ok (.iconst 0, 1) := by decide +kernel
theorem dX11_init_195 : decode cX11_init 195 = .ok (.istore_n 1, 1) := by decide +kernel
theorem dX11_init_196 : decode cX11_init 196 = .ok (.iload_n 1, 1) := by decide +kernel
theorem dX11_init_197 : decode cX11_init 197 = .ok (.bipush 6, 2) := by decide +kernel
theorem dX11_init_199 : decode cX11_init 199 = .ok (.if_icmp .ge 22, 3) := by decide +kernel
theorem dX11_init_202 : decode cX11_init 202 = .ok (.aload_n 0, 1) := by decide +kernel
theorem dX11_init_203 : decode cX11_init 203 = .ok (.getfield 86, 3) := by decide +kernel
theorem dX11_init_206 : decode cX11_init 206 = .ok (.iload_n 1, 1) := by decide +kernel
theorem dX11_init_207 : decode cX11_init 207 = .ok (.new 84, 3) := by decide +kernel
theorem dX11_init_210 : decode cX11_init 210 = .ok (.dup, 1) := by decide +kernel
theorem dX11_init_211 : decode cX11_init 211 = .ok (.invokespecial 90, 3) := by decide +kernel
theorem dX11_init_214 : decode cX11_init 214 = .ok (.aastore, 1) := by decide +kernel
theorem dX11_init_215 : decode cX11_init 215 = .ok (.iinc 1 1, 3) := by decide +kernel
theorem dX11_init_218 : decode cX11_init 218 = .ok (.goto (-22), 3) := by decide +kernel
theorem dX11_init_221 : decode cX11_init 221 = .ok (.aload_n 0, 1) := by decide +kernel
theorem dX11_init_222 : decode cX11_init 222 = .ok (.new 91, 3) := by decide +kernel
theorem dX11_init_225 : decode cX11_init 225 = .ok (.dup, 1) := by decide +kernel
theorem dX11_init_226 : decode cX11_init 226 = .ok (.invokespecial 93, 3) := by decide +kernel
theorem dX11_init_229 : decode cX11_init 229 = .ok (.putfield 94, 3) := by decide +kernel
theorem dX11_init_232 : decode cX11_init 232 = .ok (.return_, 1) := by decide +kernel
theorem dX11_carriage_0 : decode cX11_carriage 0 = .ok (.iconst 0, 1) := by decide +kernel
theorem dX11_carriage_1 : decode cX11_carriage 1 = .ok (.iload_n 1, 1) := by decide +kernel
theorem dX11_carriage_2 : decode cX11_carriage 2 = .ok (.invokestatic 98, 3) := by decide +kernel
theorem dX11_carriage_5 : decode cX11_carriage 5 = .ok (.ifCond .eq 11, 3) := by decide +kernel
theorem dX11_carriage_8 : decode cX11_carriage 8 = .ok (.iconst 1, 1) := by decide +kernel
theorem dX11_carriage_9 : decode cX11_carriage 9 = .ok (.iload_n 2, 1) := by decide +kernel
theorem dX11_carriage_10 : decode cX11_carriage 10 = .ok (.invokestatic 98, 3) := by decide +kernel
theorem dX11_carriage_13 : decode cX11_carriage 13 = .ok (.ifCond .ne 5, 3) := by decide +kernel
theorem dX11_carriage_16 : decode cX11_carriage 16 = .ok (.iconst (-1), 1) := by decide +kernel
theorem dX11_carriage_17 : decode cX11_carriage 17 = .ok (.ireturn, 1) := by decide +kernel
theorem dX11_carriage_18 : decode cX11_carriage 18 = .ok (.aload_n 0, 1) := by decide +kernel
theorem dX11_carriage_19 : decode cX11_carriage 19 = .ok (.getfield 10, 3) := by decide +kernel
theorem dX11_carriage_22 : decode cX11_carriage 22 = .ok (.iload_n 1, 1) := by decide +kernel
theorem dX11_carriage_23 : decode cX11_carriage 23 = .ok (.iload_n 2, 1) := by decide +kernel
theorem dX11_carriage_24 : decode cX11_carriage 24 = .ok (.iconst 1, 1) := by decide +kernel
theorem dX11_carriage_25 : decode cX11_carriage 25 = .ok (.invokevirtual 102, 3) := by decide +kernel
theorem dX11_carriage_28 : decode cX11_carriage 28 = .ok (.ireturn, 1) := by decide +kernel
theorem dX11_carriages_0 : decode cX11_carriages 0 = .ok (.iload_n 1, 1) := by decide +kernel
theorem dX11_carriages_1 : decode cX11_carriages 1 = .ok (.invokestatic 106, 3) := by decide +kernel
theorem dX11_carriages_4 : decode cX11_carriages 4 = .ok (.ifCond .eq 13, 3) := by decide +kernel
theorem dX11_carriages_7 : decode cX11_carriages 7 = .ok (.iload_n 3, 1) := by decide +kernel
theorem dX11_carriages_8 : decode cX11_carriages 8 = .ok (.iconst 1, 1) := by decide +kernel
theorem dX11_carriages_9 : decode cX11_carriages 9 = .ok (.bipush 6, 2) := by decide +kernel
theorem dX11_carriages_11 : decode cX11_carriages 11 = .ok (.invokestatic 110, 3) := by decide +kernel
theorem dX11_carriages_14 : decode cX11_carriages 14 = .ok (.ifCond .ne 5, 3) := by decide +kernel
theorem dX11_carriages_17 : decode cX11_carriages 17 = .ok (.iconst (-1), 1) := by decide +kernel
theorem dX11_carriages_18 : decode cX11_carriages 18 = .ok (.ireturn, 1) := by decide +kernel
theorem dX11_carriages_19 : decode cX11_carriages 19 = .ok (.aload_n 0, 1) := by decide +kernel
theorem dX11_carriages_20 : decode cX11_carriages 20 = .ok (.getfield 86, 3) := by decide +kernel
theorem dX11_carriages_23 : decode cX11_carriages 23 = .ok (.iload_n 1, 1) := by decide +kernel
theorem dX11_carriages_24 : decode cX11_carriages 24 = .ok (.aaload, 1) := by decide +kernel
theorem dX11_carriages_25 : decode cX11_carriages 25 = .ok (.astore 4, 2) := by decide +kernel
theorem dX11_carriages_27 : decode cX11_carriages 27 = .ok (.aload 4, 2) := by decide +kernel
theorem dX11_carriages_29 : decode cX11_carriages 29 = .ok (.getfield 114, 3) := by decide +kernel
theorem dX11_carriages_32 : decode cX11_carriages 32 = .ok (.bipush (-2), 2) := by decide +kernel
theorem dX11_carriages_34 : decode cX11_carriages 34 = .ok (.if_icmp .ne 5, 3) := by decide +kernel
theorem dX11_carriages_37 : decode cX11_carriages 37 = .ok (.iconst 0, 1) := by decide +kernel
theorem dX11_carriages_38 : decode cX11_carriages 38 = .ok (.ireturn, 1) := by decide +kernel
theorem dX11_carriages_39 : decode cX11_carriages 39 = .ok (.aload 4, 2) := by decide +kernel
theorem dX11_carriages_41 : decode cX11_carriages 41 = .ok (.getfield 114, 3) := by decide +kernel
theorem dX11_carriages_44 : decode cX11_carriages 44 = .ok (.iconst 1, 1) := by decide +kernel
theorem dX11_carriages_45 : decode cX11_carriages 45 = .ok (.if_icmp .eq 6, 3) := by decide +kernel
theorem dX11_carriages_48 : decode cX11_carriages 48 = .ok (.bipush (-12), 2) := by decide +kernel
theorem dX11_carriages_50 : decode cX11_carriages 50 = .ok (.ireturn, 1) := by decide +kernel
theorem dX11_carriages_51 : decode cX11_carriages 51 = .ok (.iconst 0, 1) := by decide +kernel
theorem dX11_carriages_52 : decode cX11_carriages 52 = .ok (.istore 5, 2) := by decide +kernel
theorem dX11_carriages_54 : decode cX11_carriages 54 = .ok (.iload_n 2, 1) := by decide +kernel
theorem dX11_carriages_55 : decode cX11_carriages 55 = .ok (.istore 6, 2) := by decide +kernel
theorem dX11_carriages_57 : decode cX11_carriages 57 = .ok (.iload 5, 2) := by decide +kernel
theorem dX11_carriages_59 : decode cX11_carriages 59 = .ok (.iload_n 3, 1) := by decide +kernel
theorem dX11_carriages_60 : decode cX11_carriages 60 = .ok (.if_icmp .ge 40, 3) := by decide +kernel
theorem dX11_carriages_63 : decode cX11_carriages 63 = .ok (.iload 6, 2) := by decide +kernel
theorem dX11_carriages_65 : decode cX11_carriages 65 = .ok (.ifCond .lt 35, 3) := by decide +kernel
theorem dX11_carriages_68 : decode cX11_carriages 68 = .ok (.iload 6, 2) := by decide +kernel
theorem dX11_carriages_70 : decode cX11_carriages 70 = .ok (.aload 4, 2) := by decide +kernel
theorem dX11_carriages_72 : decode cX11_carriages 72 = .ok (.getfield 118, 3) := by decide +kernel
theorem dX11_carriages_75 : decode cX11_carriages 75 = .ok (.iconst 3, 1) := by decide +kernel
theorem dX11_carriages_76 : decode cX11_carriages 76 = .ok (.isub, 1) := by decide +kernel
theorem dX11_carriages_77 : decode cX11_carriages 77 = .ok (.if_icmp .gt 23, 3) := by decide +kernel
theorem dX11_carriages_80 : decode cX11_carriages 80 = .ok (.aload_n 0, 1) := by decide +kernel
theorem dX11_carriages_81 : decode cX11_carriages 81 = .ok (.aload 4, 2) := by decide +kernel
theorem dX11_carriages_83 : decode cX11_carriages 83 = .ok (.iload 6, 2) := by decide +kernel
theorem dX11_carriages_85 : decode cX11_carriages 85 = .ok (.invokevirtual 121, 3) := by decide +kernel
theorem dX11_carriages_88 : decode cX11_carriages 88 = .ok (.ifCond .eq 12, 3) := by decide +kernel
theorem dX11_carriages_91 : decode cX11_carriages 91 = .ok (.iinc 5 1, 3) := by decide +kernel
theorem dX11_carriages_94 : decode cX11_carriages 94 = .ok (.iinc 6 3, 3) := by decide +kernel
theorem dX11_carriages_97 : decode cX11_carriages 97 = .ok (.goto (-40), 3) := by decide +kernel
theorem dX11_carriages_100 : decode cX11_carriages 100 = .ok (.iload 5, 2) := by decide +kernel
theorem dX11_carriages_102 : decode cX11_carriages 102 = .ok (.ireturn, 1) := by decide +kernel
theorem dX11_place_0 : decode cX11_place 0 = .ok (.iconst 4, 1) := by decide +kernel
theorem dX11_place_1 : decode cX11_place 1 = .ok (.iload_n 1, 1) := by decide +kernel
theorem dX11_place_2 : decode cX11_place 2 = .ok (.invokestatic 98, 3) := by decide +kernel
theorem dX11_place_5 : decode cX11_place 5 = .ok (.ifCond .eq 14, 3) := by decide +kernel
theorem dX11_place_8 : decode cX11_place 8 = .ok (.aload_n 0, 1) := by decide +kernel
theorem dX11_place_9 : decode cX11_place 9 = .ok (.getfield 10, 3) := by decide +kernel
theorem dX11_place_12 : decode cX11_place 12 = .ok (.iload_n 1, 1) := by decide +kernel
theorem dX11_place_13 : decode cX11_place 13 = .ok (.invokevirtual 125, 3) := by decide +kernel
theorem dX11_place_16 : decode cX11_place 16 = .ok (.goto 4, 3) := by decide +kernel
theorem dX11_place_19 : decode cX11_place 19 = .ok (.iconst (-1), 1) := by decide +kernel
theorem dX11_place_20 : decode cX11_place 20 = .ok (.ireturn, 1) := by decide +kernel
theorem dX11_mend_0 : decode cX11_mend 0 = .ok (.aload_n 0, 1) := by decide +kernel
theorem dX11_mend_1 : decode cX11_mend 1 = .ok (.getfield 10, 3) := by decide +kernel
theorem dX11_mend_4 : decode cX11_mend 4 = .ok (.iload_n 1, 1) := by decide +kernel
theorem dX11_mend_5 : decode cX11_mend 5 = .ok (.iload_n 2, 1) := by decide +kernel
theorem dX11_mend_6 : decode cX11_mend 6 = .ok (.invokevirtual 129, 3) := by decide +kernel
theorem dX11_mend_9 : decode cX11_mend 9 = .ok (.ifCond .eq 11, 3) := by decide +kernel
theorem dX11_mend_12 : decode cX11_mend 12 = .ok (.iload_n 2, 1) := by decide +kernel
theorem dX11_mend_13 : decode cX11_mend 13 = .ok (.iload_n 3, 1) := by decide +kernel
theorem dX11_mend_14 : decode cX11_mend 14 = .ok (.invokestatic 98, 3) := by decide +kernel
theorem dX11_mend_17 : decode cX11_mend 17 = .ok (.ifCond .ne 6, 3) := by decide +kernel
theorem dX11_mend_20 : decode cX11_mend 20 = .ok (.ldc 132, 2) := by decide +kernel
theorem dX11_mend_22 : decode cX11_mend 22 = .ok (.ireturn, 1) := by decide +kernel
theorem dX11_mend_23 : decode cX11_mend 23 = .ok (.aload_n 0, 1) := by decide +kernel
theorem dX11_mend_24 : decode cX11_mend 24 = .ok (.getfield 10, 3) := by decide +kernel
theorem dX11_mend_27 : decode cX11_mend 27 = .ok (.iload_n 1, 1) := by decide +kernel
theorem dX11_mend_28 : decode cX11_mend 28 = .ok (.iload_n 2, 1) := by decide +kernel
theorem dX11_mend_29 : decode cX11_mend 29 = .ok (.invokevirtual 133, 3) := by decide +kernel
theorem dX11_mend_32 : decode cX11_mend 32 = .ok (.istore 4, 2) := by decide +kernel
theorem dX11_mend_34 : decode cX11_mend 34 = .ok (.iload 4, 2) := by decide +kernel
theorem dX11_mend_36 : decode cX11_mend 36 = .ok (.iload_n 3, 1) := by decide +kernel
theorem dX11_mend_37 : decode cX11_mend 37 = .ok (.if_icmp .eq 25, 3) := by decide +kernel
theorem dX11_mend_40 : decode cX11_mend 40 = .ok (.aload_n 0, 1) := by decide +kernel
theorem dX11_mend_41 : decode cX11_mend 41 = .ok (.getfield 73, 3) := by decide +kernel
theorem dX11_mend_44 : decode cX11_mend 44 = .ok (.iload_n 1, 1) := by decide +kernel
theorem dX11_mend_45 : decode cX11_mend 45 = .ok (.iload_n 2, 1) := by decide +kernel
theorem dX11_mend_46 : decode cX11_mend 46 = .ok (.iload 4, 2) := by decide +kernel
theorem dX11_mend_48 : decode cX11_mend 48 = .ok (.iload_n 3, 1) := by decide +kernel
theorem dX11_mend_49 : decode cX11_mend 49 = .ok (.invokevirtual 137, 3) := by decide +kernel
theorem dX11_mend_52 : decode cX11_mend 52 = .ok (.aload_n 0, 1) := by decide +kernel
theorem dX11_mend_53 : decode cX11_mend 53 = .ok (.getfield 10, 3) := by decide +kernel
theorem dX11_mend_56 : decode cX11_mend 56 = .ok (.iload_n 1, 1) := by decide +kernel
theorem dX11_mend_57 : decode cX11_mend 57 = .ok (.iload_n 2, 1) := by decide +kernel
theorem dX11_mend_58 : decode cX11_mend 58 = .ok (.iload_n 3, 1) := by decide +kernel
theorem dX11_mend_59 : decode cX11_mend 59 = .ok (.invokevirtual 141, 3) := by decide +kernel
theorem dX11_mend_62 : decode cX11_mend 62 = .ok (.iload 4, 2) := by decide +kernel
theorem dX11_mend_64 : decode cX11_mend 64 = .ok (.ireturn, 1) := by decide +kernel
theorem dX11_of_0 : decode cX11_of 0 = .ok (.aload_n 0, 1) := by decide +kernel
theorem dX11_of_1 : decode cX11_of 1 = .ok (.getfield 10, 3) := by decide +kernel
theorem dX11_of_4 : decode cX11_of 4 = .ok (.iload_n 1, 1) := by decide +kernel
theorem dX11_of_5 : decode cX11_of 5 = .ok (.iload_n 2, 1) := by decide +kernel
theorem dX11_of_6 : decode cX11_of 6 = .ok (.invokevirtual 129, 3) := by decide +kernel
theorem dX11_of_9 : decode cX11_of 9 = .ok (.ifCond .eq 15, 3) := by decide +kernel
theorem dX11_of_12 : decode cX11_of 12 = .ok (.aload_n 0, 1) := by decide +kernel
theorem dX11_of_13 : decode cX11_of 13 = .ok (.getfield 10, 3) := by decide +kernel
theorem dX11_of_16 : decode cX11_of 16 = .ok (.iload_n 1, 1) := by decide +kernel
theorem dX11_of_17 : decode cX11_of 17 = .ok (.iload_n 2, 1) := by decide +kernel
theorem dX11_of_18 : decode cX11_of 18 = .ok (.invokevirtual 133, 3) := by decide +kernel
theorem dX11_of_21 : decode cX11_of 21 = .ok (.goto 5, 3) := by decide +kernel
theorem dX11_of_24 : decode cX11_of 24 = .ok (.ldc 132, 2) := by decide +kernel
theorem dX11_of_26 : decode cX11_of 26 = .ok (.ireturn, 1) := by decide +kernel
theorem dX11_feed_0 : decode cX11_feed 0 = .ok (.iload_n 1, 1) := by decide +kernel
theorem dX11_feed_1 : decode cX11_feed 1 = .ok (.iconst 0, 1) := by decide +kernel
theorem dX11_feed_2 : decode cX11_feed 2 = .ok (.sipush 255, 3) := by decide +kernel
theorem dX11_feed_5 : decode cX11_feed 5 = .ok (.invokestatic 110, 3) := by decide +kernel
theorem dX11_feed_8 : decode cX11_feed 8 = .ok (.ifCond .ne 5, 3) := by decide +kernel
theorem dX11_feed_11 : decode cX11_feed 11 = .ok (.iconst (-1), 1) := by decide +kernel
theorem dX11_feed_12 : decode cX11_feed 12 = .ok (.ireturn, 1) := by decide +kernel
theorem dX11_feed_13 : decode cX11_feed 13 = .ok (.aload_n 0, 1) := by decide +kernel
theorem dX11_feed_14 : decode cX11_feed 14 = .ok (.getfield 145, 3) := by decide +kernel
theorem dX11_feed_17 : decode cX11_feed 17 = .ok (.bipush 120, 2) := by decide +kernel
theorem dX11_feed_19 : decode cX11_feed 19 = .ok (.if_icmp .lt 6, 3) := by decide +kernel
theorem dX11_feed_22 : decode cX11_feed 22 = .ok (.bipush (-3), 2) := by decide +kernel
theorem dX11_feed_24 : decode cX11_feed 24 = .ok (.ireturn, 1) := by decide +kernel
theorem dX11_feed_25 : decode cX11_feed 25 = .ok (.aload_n 0, 1) := by decide +kernel
theorem dX11_feed_26 : decode cX11_feed 26 = .ok (.getfield 30, 3) := by decide +kernel
theorem dX11_feed_29 : decode cX11_feed 29 = .ok (.aload_n 0, 1) := by decide +kernel
theorem dX11_feed_30 : decode cX11_feed 30 = .ok (.getfield 145, 3) := by decide +kernel
theorem dX11_feed_33 : decode cX11_feed 33 = .ok (.iload_n 1, 1) := by decide +kernel
theorem dX11_feed_34 : decode cX11_feed 34 = .ok (.iastore, 1) := by decide +kernel
theorem dX11_feed_35 : decode cX11_feed 35 = .ok (.aload_n 0, 1) := by decide +kernel
theorem dX11_feed_36 : decode cX11_feed 36 = .ok (.dup, 1) := by decide +kernel
theorem dX11_feed_37 : decode cX11_feed 37 = .ok (.getfield 145, 3) := by decide +kernel
theorem dX11_feed_40 : decode cX11_feed 40 = .ok (.iconst 1, 1) := by decide +kernel
theorem dX11_feed_41 : decode cX11_feed 41 = .ok (.iadd, 1) := by decide +kernel
theorem dX11_feed_42 : decode cX11_feed 42 = .ok (.putfield 145, 3) := by decide +kernel
theorem dX11_feed_45 : decode cX11_feed 45 = .ok (.aload_n 0, 1) := by decide +kernel
theorem dX11_feed_46 : decode cX11_feed 46 = .ok (.getfield 145, 3) := by decide +kernel
theorem dX11_feed_49 : decode cX11_feed 49 = .ok (.ireturn, 1) := by decide +kernel
theorem dX11_law_0 : decode cX11_law 0 = .ok (.aload_n 0, 1) := by decide +kernel
theorem dX11_law_1 : decode cX11_law 1 = .ok (.getfield 26, 3) := by decide +kernel
theorem dX11_law_4 : decode cX11_law 4 = .ok (.aload_n 0, 1) := by decide +kernel
theorem dX11_law_5 : decode cX11_law 5 = .ok (.getfield 30, 3) := by decide +kernel
theorem dX11_law_8 : decode cX11_law 8 = .ok (.aload_n 0, 1) := by decide +kernel
theorem dX11_law_9 : decode cX11_law 9 = .ok (.getfield 145, 3) := by decide +kernel
theorem dX11_law_12 : decode cX11_law 12 = .ok (.invokevirtual 148, 3) := by decide +kernel
theorem dX11_law_15 : decode cX11_law 15 = .ok (.istore_n 1, 1) := by decide +kernel
theorem dX11_law_16 : decode cX11_law 16 = .ok (.aload_n 0, 1) := by decide +kernel
theorem dX11_law_17 : decode cX11_law 17 = .ok (.iconst 0, 1) := by decide +kernel
theorem dX11_law_18 : decode cX11_law 18 = .ok (.putfield 145, 3) := by decide +kernel
theorem dX11_law_21 : decode cX11_law 21 = .ok (.iload_n 1, 1) := by decide +kernel
theorem dX11_law_22 : decode cX11_law 22 = .ok (.iconst (-1), 1) := by decide +kernel
theorem dX11_law_23 : decode cX11_law 23 = .ok (.if_icmp .eq 8, 3) := by decide +kernel
theorem dX11_law_26 : decode cX11_law 26 = .ok (.bipush (-100), 2) := by decide +kernel
theorem dX11_law_28 : decode cX11_law 28 = .ok (.iload_n 1, 1) := by decide +kernel
theorem dX11_law_29 : decode cX11_law 29 = .ok (.isub, 1) := by decide +kernel
theorem dX11_law_30 : decode cX11_law 30 = .ok (.ireturn, 1) := by decide +kernel
theorem dX11_law_31 : decode cX11_law 31 = .ok (.aload_n 0, 1) := by decide +kernel
theorem dX11_law_32 : decode cX11_law 32 = .ok (.getfield 19, 3) := by decide +kernel
theorem dX11_law_35 : decode cX11_law 35 = .ok (.aload_n 0, 1) := by decide +kernel
theorem dX11_law_36 : decode cX11_law 36 = .ok (.getfield 26, 3) := by decide +kernel
theorem dX11_law_39 : decode cX11_law 39 = .ok (.invokevirtual 152, 3) := by decide +kernel
theorem dX11_law_42 : decode cX11_law 42 = .ok (.iconst 1, 1) := by decide +kernel
theorem dX11_law_43 : decode cX11_law 43 = .ok (.ireturn, 1) := by decide +kernel
theorem dX11_turn_0 : decode cX11_turn 0 = .ok (.aload_n 0, 1) := by decide +kernel
theorem dX11_turn_1 : decode cX11_turn 1 = .ok (.getfield 10, 3) := by decide +kernel
theorem dX11_turn_4 : decode cX11_turn 4 = .ok (.iload_n 1, 1) := by decide +kernel
theorem dX11_turn_5 : decode cX11_turn 5 = .ok (.invokevirtual 156, 3) := by decide +kernel
theorem dX11_turn_8 : decode cX11_turn 8 = .ok (.ifCond .ne 6, 3) := by decide +kernel
theorem dX11_turn_11 : decode cX11_turn 11 = .ok (.ldc 132, 2) := by decide +kernel
theorem dX11_turn_13 : decode cX11_turn 13 = .ok (.ireturn, 1) := by decide +kernel
theorem dX11_turn_14 : decode cX11_turn 14 = .ok (.aload_n 0, 1) := by decide +kernel
theorem dX11_turn_15 : decode cX11_turn 15 = .ok (.getfield 36, 3) := by decide +kernel
theorem dX11_turn_18 : decode cX11_turn 18 = .ok (.iload_n 1, 1) := by decide +kernel
theorem dX11_turn_19 : decode cX11_turn 19 = .ok (.aaload, 1) := by decide +kernel
theorem dX11_turn_20 : decode cX11_turn 20 = .ok (.astore_n 2, 1) := by decide +kernel
theorem dX11_turn_21 : decode cX11_turn 21 = .ok (.aload_n 2, 1) := by decide +kernel
theorem dX11_turn_22 : decode cX11_turn 22 = .ok (.aload_n 0, 1) := by decide +kernel
theorem dX11_turn_23 : decode cX11_turn 23 = .ok (.getfield 10, 3) := by decide +kernel
theorem dX11_turn_26 : decode cX11_turn 26 = .ok (.getfield 159, 3) := by decide +kernel
theorem dX11_turn_29 : decode cX11_turn 29 = .ok (.iload_n 1, 1) := by decide +kernel
theorem dX11_turn_30 : decode cX11_turn 30 = .ok (.iaload, 1) := by decide +kernel
theorem dX11_turn_31 : decode cX11_turn 31 = .ok (.invokevirtual 162, 3) := by decide +kernel
theorem dX11_turn_34 : decode cX11_turn 34 = .ok (.aload_n 2, 1) := by decide +kernel
theorem dX11_turn_35 : decode cX11_turn 35 = .ok (.iconst 0, 1) := by decide +kernel
theorem dX11_turn_36 : decode cX11_turn 36 = .ok (.aload_n 0, 1) := by decide +kernel
theorem dX11_turn_37 : decode cX11_turn 37 = .ok (.getfield 10, 3) := by decide +kernel
theorem dX11_turn_40 : decode cX11_turn 40 = .ok (.getfield 166, 3) := by decide +kernel
theorem dX11_turn_43 : decode cX11_turn 43 = .ok (.iload_n 1, 1) := by decide +kernel
theorem dX11_turn_44 : decode cX11_turn 44 = .ok (.iaload, 1) := by decide +kernel
theorem dX11_turn_45 : decode cX11_turn 45 = .ok (.invokevirtual 169, 3) := by decide +kernel
theorem dX11_turn_48 : decode cX11_turn 48 = .ok (.ireturn, 1) := by decide +kernel
theorem dX11_later_0 : decode cX11_later 0 = .ok (.aload_n 0, 1) := by decide +kernel
theorem dX11_later_1 : decode cX11_later 1 = .ok (.getfield 10, 3) := by decide +kernel
theorem dX11_later_4 : decode cX11_later 4 = .ok (.iload_n 1, 1) := by decide +kernel
theorem dX11_later_5 : decode cX11_later 5 = .ok (.invokevirtual 156, 3) := by decide +kernel
theorem dX11_later_8 : decode cX11_later 8 = .ok (.ifCond .eq 22, 3) := by decide +kernel
theorem dX11_later_11 : decode cX11_later 11 = .ok (.iload_n 2, 1) := by decide +kernel
theorem dX11_later_12 : decode cX11_later 12 = .ok (.iconst 0, 1) := by decide +kernel
theorem dX11_later_13 : decode cX11_later 13 = .ok (.bipush 60, 2) := by decide +kernel
theorem dX11_later_15 : decode cX11_later 15 = .ok (.invokestatic 110, 3) := by decide +kernel
theorem dX11_later_18 : decode cX11_later 18 = .ok (.ifCond .eq 12, 3) := by decide +kernel
theorem dX11_later_21 : decode cX11_later 21 = .ok (.iload_n 3, 1) := by decide +kernel
theorem dX11_later_22 : decode cX11_later 22 = .ok (.iconst 0, 1) := by decide +kernel
theorem dX11_later_23 : decode cX11_later 23 = .ok (.iconst 2, 1) := by decide +kernel
theorem dX11_later_24 : decode cX11_later 24 = .ok (.invokestatic 110, 3) := by decide +kernel
theorem dX11_later_27 : decode cX11_later 27 = .ok (.ifCond .ne 5, 3) := by decide +kernel
theorem dX11_later_30 : decode cX11_later 30 = .ok (.iconst (-1), 1) := by decide +kernel
theorem dX11_later_31 : decode cX11_later 31 = .ok (.ireturn, 1) := by decide +kernel
theorem dX11_later_32 : decode cX11_later 32 = .ok (.iload_n 3, 1) := by decide +kernel
theorem dX11_later_33 : decode cX11_later 33 = .ok (.iconst 2, 1) := by decide +kernel
theorem dX11_later_34 : decode cX11_later 34 = .ok (.if_icmp .ne 19, 3) := by decide +kernel
theorem dX11_later_37 : decode cX11_later 37 = .ok (.iconst 0, 1) := by decide +kernel
theorem dX11_later_38 : decode cX11_later 38 = .ok (.aload_n 0, 1) := by decide +kernel
theorem dX11_later_39 : decode cX11_later 39 = .ok (.getfield 10, 3) := by decide +kernel
theorem dX11_later_42 : decode cX11_later 42 = .ok (.getfield 172, 3) := by decide +kernel
theorem dX11_later_45 : decode cX11_later 45 = .ok (.iload_n 1, 1) := by decide +kernel
theorem dX11_later_46 : decode cX11_later 46 = .ok (.iaload, 1) := by decide +kernel
theorem dX11_later_47 : decode cX11_later 47 = .ok (.iload_n 2, 1) := by decide +kernel
theorem dX11_later_48 : decode cX11_later 48 = .ok (.isub, 1) := by decide +kernel
theorem dX11_later_49 : decode cX11_later 49 = .ok (.invokestatic 175, 3) := by decide +kernel
theorem dX11_later_52 : decode cX11_later 52 = .ok (.ireturn, 1) := by decide +kernel
theorem dX11_later_53 : decode cX11_later 53 = .ok (.aload_n 0, 1) := by decide +kernel
theorem dX11_later_54 : decode cX11_later 54 = .ok (.getfield 48, 3) := by decide +kernel
theorem dX11_later_57 : decode cX11_later 57 = .ok (.iload_n 1, 1) := by decide +kernel
theorem dX11_later_58 : decode cX11_later 58 = .ok (.iload_n 2, 1) := by decide +kernel
theorem dX11_later_59 : decode cX11_later 59 = .ok (.invokevirtual 180, 3) := by decide +kernel
theorem dX11_later_62 : decode cX11_later 62 = .ok (.iload_n 3, 1) := by decide +kernel
theorem dX11_later_63 : decode cX11_later 63 = .ok (.ifCond .ne 15, 3) := by decide +kernel
theorem dX11_later_66 : decode cX11_later 66 = .ok (.aload_n 0, 1) := by decide +kernel
theorem dX11_later_67 : decode cX11_later 67 = .ok (.getfield 48, 3) := by decide +kernel
theorem dX11_later_70 : decode cX11_later 70 = .ok (.iload_n 1, 1) := by decide +kernel
theorem dX11_later_71 : decode cX11_later 71 = .ok (.iload_n 2, 1) := by decide +kernel
theorem dX11_later_72 : decode cX11_later 72 = .ok (.invokevirtual 184, 3) := by decide +kernel
theorem dX11_later_75 : decode cX11_later 75 = .ok (.goto 12, 3) := by decide +kernel
theorem dX11_later_78 : decode cX11_later 78 = .ok (.aload_n 0, 1) := by decide +kernel
theorem dX11_later_79 : decode cX11_later 79 = .ok (.getfield 48, 3) := by decide +kernel
theorem dX11_later_82 : decode cX11_later 82 = .ok (.iload_n 1, 1) := by decide +kernel
theorem dX11_later_83 : decode cX11_later 83 = .ok (.iload_n 2, 1) := by decide +kernel
theorem dX11_later_84 : decode cX11_later 84 = .ok (.invokevirtual 187, 3) := by decide +kernel
theorem dX11_later_87 : decode cX11_later 87 = .ok (.ireturn, 1) := by decide +kernel
theorem dX11_nears_0 : decode cX11_nears 0 = .ok (.aload_n 0, 1) := by decide +kernel
theorem dX11_nears_1 : decode cX11_nears 1 = .ok (.iload_n 1, 1) := by decide +kernel
theorem dX11_nears_2 : decode cX11_nears 2 = .ok (.invokevirtual 190, 3) := by decide +kernel
theorem dX11_nears_5 : decode cX11_nears 5 = .ok (.ifCond .eq 22, 3) := by decide +kernel
theorem dX11_nears_8 : decode cX11_nears 8 = .ok (.iload_n 2, 1) := by decide +kernel
theorem dX11_nears_9 : decode cX11_nears 9 = .ok (.iconst 0, 1) := by decide +kernel
theorem dX11_nears_10 : decode cX11_nears 10 = .ok (.bipush 60, 2) := by decide +kernel
theorem dX11_nears_12 : decode cX11_nears 12 = .ok (.invokestatic 110, 3) := by decide +kernel
theorem dX11_nears_15 : decode cX11_nears 15 = .ok (.ifCond .eq 12, 3) := by decide +kernel
theorem dX11_nears_18 : decode cX11_nears 18 = .ok (.iload_n 3, 1) := by decide +kernel
theorem dX11_nears_19 : decode cX11_nears 19 = .ok (.iconst 0, 1) := by decide +kernel
theorem dX11_nears_20 : decode cX11_nears 20 = .ok (.iconst 1, 1) := by decide +kernel
theorem dX11_nears_21 : decode cX11_nears 21 = .ok (.invokestatic 110, 3) := by decide +kernel
theorem dX11_nears_24 : decode cX11_nears 24 = .ok (.ifCond .ne 5, 3) := by decide +kernel
theorem dX11_nears_27 : decode cX11_nears 27 = .ok (.iconst (-1), 1) := by decide +kernel
theorem dX11_nears_28 : decode cX11_nears 28 = .ok (.ireturn, 1) := by decide +kernel
theorem dX11_nears_29 : decode cX11_nears 29 = .ok (.aload_n 0, 1) := by decide +kernel
theorem dX11_nears_30 : decode cX11_nears 30 = .ok (.getfield 48, 3) := by decide +kernel
theorem dX11_nears_33 : decode cX11_nears 33 = .ok (.iload_n 1, 1) := by decide +kernel
theorem dX11_nears_34 : decode cX11_nears 34 = .ok (.bipush 10, 2) := by decide +kernel
theorem dX11_nears_36 : decode cX11_nears 36 = .ok (.idiv, 1) := by decide +kernel
theorem dX11_nears_37 : decode cX11_nears 37 = .ok (.iload_n 2, 1) := by decide +kernel
theorem dX11_nears_38 : decode cX11_nears 38 = .ok (.invokevirtual 180, 3) := by decide +kernel
theorem dX11_nears_41 : decode cX11_nears 41 = .ok (.aload_n 0, 1) := by decide +kernel
theorem dX11_nears_42 : decode cX11_nears 42 = .ok (.getfield 48, 3) := by decide +kernel
theorem dX11_nears_45 : decode cX11_nears 45 = .ok (.iload_n 1, 1) := by decide +kernel
theorem dX11_nears_46 : decode cX11_nears 46 = .ok (.bipush 10, 2) := by decide +kernel
theorem dX11_nears_48 : decode cX11_nears 48 = .ok (.idiv, 1) := by decide +kernel
theorem dX11_nears_49 : decode cX11_nears 49 = .ok (.aload_n 0, 1) := by decide +kernel
theorem dX11_nears_50 : decode cX11_nears 50 = .ok (.getfield 10, 3) := by decide +kernel
theorem dX11_nears_53 : decode cX11_nears 53 = .ok (.getfield 193, 3) := by decide +kernel
theorem dX11_nears_56 : decode cX11_nears 56 = .ok (.iload_n 1, 1) := by decide +kernel
theorem dX11_nears_57 : decode cX11_nears 57 = .ok (.bipush 10, 2) := by decide +kernel
theorem dX11_nears_59 : decode cX11_nears 59 = .ok (.irem, 1) := by decide +kernel
theorem dX11_nears_60 : decode cX11_nears 60 = .ok (.iaload, 1) := by decide +kernel
theorem dX11_nears_61 : decode cX11_nears 61 = .ok (.iload_n 2, 1) := by decide +kernel
theorem dX11_nears_62 : decode cX11_nears 62 = .ok (.invokevirtual 196, 3) := by decide +kernel
theorem dX11_nears_65 : decode cX11_nears 65 = .ok (.istore 4, 2) := by decide +kernel
theorem dX11_nears_67 : decode cX11_nears 67 = .ok (.iload_n 3, 1) := by decide +kernel
theorem dX11_nears_68 : decode cX11_nears 68 = .ok (.iconst 1, 1) := by decide +kernel
theorem dX11_nears_69 : decode cX11_nears 69 = .ok (.if_icmp .ne 8, 3) := by decide +kernel
theorem dX11_nears_72 : decode cX11_nears 72 = .ok (.iload 4, 2) := by decide +kernel
theorem dX11_nears_74 : decode cX11_nears 74 = .ok (.goto 31, 3) := by decide +kernel
theorem dX11_nears_77 : decode cX11_nears 77 = .ok (.aload_n 0, 1) := by decide +kernel
theorem dX11_nears_78 : decode cX11_nears 78 = .ok (.getfield 48, 3) := by decide +kernel
theorem dX11_nears_81 : decode cX11_nears 81 = .ok (.iload_n 1, 1) := by decide +kernel
theorem dX11_nears_82 : decode cX11_nears 82 = .ok (.bipush 10, 2) := by decide +kernel
theorem dX11_nears_84 : decode cX11_nears 84 = .ok (.idiv, 1) := by decide +kernel
theorem dX11_nears_85 : decode cX11_nears 85 = .ok (.iload 4, 2) := by decide +kernel
theorem dX11_nears_87 : decode cX11_nears 87 = .ok (.invokevirtual 184, 3) := by decide +kernel
theorem dX11_nears_90 : decode cX11_nears 90 = .ok (.aload_n 0, 1) := by decide +kernel
theorem dX11_nears_91 : decode cX11_nears 91 = .ok (.getfield 10, 3) := by decide +kernel
theorem dX11_nears_94 : decode cX11_nears 94 = .ok (.getfield 193, 3) := by decide +kernel
theorem dX11_nears_97 : decode cX11_nears 97 = .ok (.iload_n 1, 1) := by decide +kernel
theorem dX11_nears_98 : decode cX11_nears 98 = .ok (.bipush 10, 2) := by decide +kernel
theorem dX11_nears_100 : decode cX11_nears 100 = .ok (.irem, 1) := by decide +kernel
theorem dX11_nears_101 : decode cX11_nears 101 = .ok (.iaload, 1) := by decide +kernel
theorem dX11_nears_102 : decode cX11_nears 102 = .ok (.invokestatic 199, 3) := by decide +kernel
theorem dX11_nears_105 : decode cX11_nears 105 = .ok (.ireturn, 1) := by decide +kernel
theorem dX11_passes_0 : decode cX11_passes 0 = .ok (.aload_n 0, 1) := by decide +kernel
theorem dX11_passes_1 : decode cX11_passes 1 = .ok (.getfield 10, 3) := by decide +kernel
theorem dX11_passes_4 : decode cX11_passes 4 = .ok (.iload_n 1, 1) := by decide +kernel
theorem dX11_passes_5 : decode cX11_passes 5 = .ok (.invokevirtual 156, 3) := by decide +kernel
theorem dX11_passes_8 : decode cX11_passes 8 = .ok (.ifCond .eq 22, 3) := by decide +kernel
theorem dX11_passes_11 : decode cX11_passes 11 = .ok (.iload_n 2, 1) := by decide +kernel
theorem dX11_passes_12 : decode cX11_passes 12 = .ok (.iconst 0, 1) := by decide +kernel
theorem dX11_passes_13 : decode cX11_passes 13 = .ok (.bipush 60, 2) := by decide +kernel
theorem dX11_passes_15 : decode cX11_passes 15 = .ok (.invokestatic 110, 3) := by decide +kernel
theorem dX11_passes_18 : decode cX11_passes 18 = .ok (.ifCond .eq 12, 3) := by decide +kernel
theorem dX11_passes_21 : decode cX11_passes 21 = .ok (.iload_n 3, 1) := by decide +kernel
theorem dX11_passes_22 : decode cX11_passes 22 = .ok (.iconst 0, 1) := by decide +kernel
theorem dX11_passes_23 : decode cX11_passes 23 = .ok (.iconst 1, 1) := by decide +kernel
theorem dX11_passes_24 : decode cX11_passes 24 = .ok (.invokestatic 110, 3) := by decide +kernel
theorem dX11_passes_27 : decode cX11_passes 27 = .ok (.ifCond .ne 5, 3) := by decide +kernel
theorem dX11_passes_30 : decode cX11_passes 30 = .ok (.iconst (-1), 1) := by decide +kernel
theorem dX11_passes_31 : decode cX11_passes 31 = .ok (.ireturn, 1) := by decide +kernel
theorem dX11_passes_32 : decode cX11_passes 32 = .ok (.aload_n 0, 1) := by decide +kernel
theorem dX11_passes_33 : decode cX11_passes 33 = .ok (.getfield 48, 3) := by decide +kernel
theorem dX11_passes_36 : decode cX11_passes 36 = .ok (.iload_n 1, 1) := by decide +kernel
theorem dX11_passes_37 : decode cX11_passes 37 = .ok (.iload_n 2, 1) := by decide +kernel
theorem dX11_passes_38 : decode cX11_passes 38 = .ok (.invokevirtual 180, 3) := by decide +kernel
theorem dX11_passes_41 : decode cX11_passes 41 = .ok (.aload_n 0, 1) := by decide +kernel
theorem dX11_passes_42 : decode cX11_passes 42 = .ok (.getfield 48, 3) := by decide +kernel
theorem dX11_passes_45 : decode cX11_passes 45 = .ok (.iload_n 1, 1) := by decide +kernel
theorem dX11_passes_46 : decode cX11_passes 46 = .ok (.iload_n 2, 1) := by decide +kernel
theorem dX11_passes_47 : decode cX11_passes 47 = .ok (.invokevirtual 202, 3) := by decide +kernel
theorem dX11_passes_50 : decode cX11_passes 50 = .ok (.istore 4, 2) := by decide +kernel
theorem dX11_passes_52 : decode cX11_passes 52 = .ok (.iload_n 3, 1) := by decide +kernel
theorem dX11_passes_53 : decode cX11_passes 53 = .ok (.ifCond .ne 8, 3) := by decide +kernel
theorem dX11_passes_56 : decode cX11_passes 56 = .ok (.iload 4, 2) := by decide +kernel
theorem dX11_passes_58 : decode cX11_passes 58 = .ok (.goto 12, 3) := by decide +kernel
theorem dX11_passes_61 : decode cX11_passes 61 = .ok (.aload_n 0, 1) := by decide +kernel
theorem dX11_passes_62 : decode cX11_passes 62 = .ok (.getfield 10, 3) := by decide +kernel
theorem dX11_passes_65 : decode cX11_passes 65 = .ok (.iload 4, 2) := by decide +kernel
theorem dX11_passes_67 : decode cX11_passes 67 = .ok (.invokevirtual 205, 3) := by decide +kernel
theorem dX11_passes_70 : decode cX11_passes 70 = .ok (.ireturn, 1) := by decide +kernel
theorem dX11_meet_0 : decode cX11_meet 0 = .ok (.aload_n 0, 1) := by decide +kernel
theorem dX11_meet_1 : decode cX11_meet 1 = .ok (.iload_n 1, 1) := by decide +kernel
theorem dX11_meet_2 : decode cX11_meet 2 = .ok (.invokevirtual 208, 3) := by decide +kernel
theorem dX11_meet_5 : decode cX11_meet 5 = .ok (.ifCond .ne 5, 3) := by decide +kernel
theorem dX11_meet_8 : decode cX11_meet 8 = .ok (.iconst (-1), 1) := by decide +kernel
theorem dX11_meet_9 : decode cX11_meet 9 = .ok (.ireturn, 1) := by decide +kernel
theorem dX11_meet_10 : decode cX11_meet 10 = .ok (.aload_n 0, 1) := by decide +kernel
theorem dX11_meet_11 : decode cX11_meet 11 = .ok (.getfield 48, 3) := by decide +kernel
theorem dX11_meet_14 : decode cX11_meet 14 = .ok (.iload_n 1, 1) := by decide +kernel
theorem dX11_meet_15 : decode cX11_meet 15 = .ok (.bipush 10, 2) := by decide +kernel
theorem dX11_meet_17 : decode cX11_meet 17 = .ok (.idiv, 1) := by decide +kernel
theorem dX11_meet_18 : decode cX11_meet 18 = .ok (.bipush 60, 2) := by decide +kernel
theorem dX11_meet_20 : decode cX11_meet 20 = .ok (.invokevirtual 180, 3) := by decide +kernel
theorem dX11_meet_23 : decode cX11_meet 23 = .ok (.aload_n 0, 1) := by decide +kernel
theorem dX11_meet_24 : decode cX11_meet 24 = .ok (.getfield 48, 3) := by decide +kernel
theorem dX11_meet_27 : decode cX11_meet 27 = .ok (.iload_n 1, 1) := by decide +kernel
theorem dX11_meet_28 : decode cX11_meet 28 = .ok (.bipush 10, 2) := by decide +kernel
theorem dX11_meet_30 : decode cX11_meet 30 = .ok (.irem, 1) := by decide +kernel
theorem dX11_meet_31 : decode cX11_meet 31 = .ok (.bipush 60, 2) := by decide +kernel
theorem dX11_meet_33 : decode cX11_meet 33 = .ok (.invokevirtual 180, 3) := by decide +kernel
theorem dX11_meet_36 : decode cX11_meet 36 = .ok (.aload_n 0, 1) := by decide +kernel
theorem dX11_meet_37 : decode cX11_meet 37 = .ok (.getfield 48, 3) := by decide +kernel
theorem dX11_meet_40 : decode cX11_meet 40 = .ok (.iload_n 1, 1) := by decide +kernel
theorem dX11_meet_41 : decode cX11_meet 41 = .ok (.bipush 10, 2) := by decide +kernel
theorem dX11_meet_43 : decode cX11_meet 43 = .ok (.idiv, 1) := by decide +kernel
theorem dX11_meet_44 : decode cX11_meet 44 = .ok (.iload_n 1, 1) := by decide +kernel
theorem dX11_meet_45 : decode cX11_meet 45 = .ok (.bipush 10, 2) := by decide +kernel
theorem dX11_meet_47 : decode cX11_meet 47 = .ok (.irem, 1) := by decide +kernel
theorem dX11_meet_48 : decode cX11_meet 48 = .ok (.invokevirtual 211, 3) := by decide +kernel
theorem dX11_meet_51 : decode cX11_meet 51 = .ok (.ireturn, 1) := by decide +kernel
theorem dX11_often_0 : decode cX11_often 0 = .ok (.aload_n 0, 1) := by decide +kernel
theorem dX11_often_1 : decode cX11_often 1 = .ok (.iload_n 1, 1) := by decide +kernel
theorem dX11_often_2 : decode cX11_often 2 = .ok (.invokevirtual 208, 3) := by decide +kernel
theorem dX11_often_5 : decode cX11_often 5 = .ok (.ifCond .eq 13, 3) := by decide +kernel
theorem dX11_often_8 : decode cX11_often 8 = .ok (.iload_n 2, 1) := by decide +kernel
theorem dX11_often_9 : decode cX11_often 9 = .ok (.iconst 0, 1) := by decide +kernel
theorem dX11_often_10 : decode cX11_often 10 = .ok (.bipush 60, 2) := by decide +kernel
theorem dX11_often_12 : decode cX11_often 12 = .ok (.invokestatic 110, 3) := by decide +kernel
theorem dX11_often_15 : decode cX11_often 15 = .ok (.ifCond .ne 5, 3) := by decide +kernel
theorem dX11_often_18 : decode cX11_often 18 = .ok (.iconst (-1), 1) := by decide +kernel
theorem dX11_often_19 : decode cX11_often 19 = .ok (.ireturn, 1) := by decide +kernel
theorem dX11_often_20 : decode cX11_often 20 = .ok (.aload_n 0, 1) := by decide +kernel
theorem dX11_often_21 : decode cX11_often 21 = .ok (.getfield 48, 3) := by decide +kernel
theorem dX11_often_24 : decode cX11_often 24 = .ok (.iload_n 1, 1) := by decide +kernel
theorem dX11_often_25 : decode cX11_often 25 = .ok (.bipush 10, 2) := by decide +kernel
theorem dX11_often_27 : decode cX11_often 27 = .ok (.idiv, 1) := by decide +kernel
theorem dX11_often_28 : decode cX11_often 28 = .ok (.iload_n 2, 1) := by decide +kernel
theorem dX11_often_29 : decode cX11_often 29 = .ok (.invokevirtual 180, 3) := by decide +kernel
theorem dX11_often_32 : decode cX11_often 32 = .ok (.aload_n 0, 1) := by decide +kernel
theorem dX11_often_33 : decode cX11_often 33 = .ok (.getfield 48, 3) := by decide +kernel
theorem dX11_often_36 : decode cX11_often 36 = .ok (.iload_n 1, 1) := by decide +kernel
theorem dX11_often_37 : decode cX11_often 37 = .ok (.bipush 10, 2) := by decide +kernel
theorem dX11_often_39 : decode cX11_often 39 = .ok (.irem, 1) := by decide +kernel
theorem dX11_often_40 : decode cX11_often 40 = .ok (.iload_n 2, 1) := by decide +kernel
theorem dX11_often_41 : decode cX11_often 41 = .ok (.invokevirtual 180, 3) := by decide +kernel
theorem dX11_often_44 : decode cX11_often 44 = .ok (.aload_n 0, 1) := by decide +kernel
theorem dX11_often_45 : decode cX11_often 45 = .ok (.getfield 48, 3) := by decide +kernel
theorem dX11_often_48 : decode cX11_often 48 = .ok (.iload_n 1, 1) := by decide +kernel
theorem dX11_often_49 : decode cX11_often 49 = .ok (.bipush 10, 2) := by decide +kernel
theorem dX11_often_51 : decode cX11_often 51 = .ok (.idiv, 1) := by decide +kernel
theorem dX11_often_52 : decode cX11_often 52 = .ok (.iload_n 1, 1) := by decide +kernel
theorem dX11_often_53 : decode cX11_often 53 = .ok (.bipush 10, 2) := by decide +kernel
theorem dX11_often_55 : decode cX11_often 55 = .ok (.irem, 1) := by decide +kernel
theorem dX11_often_56 : decode cX11_often 56 = .ok (.iload_n 2, 1) := by decide +kernel
theorem dX11_often_57 : decode cX11_often 57 = .ok (.invokevirtual 214, 3) := by decide +kernel
theorem dX11_often_60 : decode cX11_often 60 = .ok (.ireturn, 1) := by decide +kernel
theorem dX11_who_0 : decode cX11_who 0 = .ok (.iconst 0, 1) := by decide +kernel
theorem dX11_who_1 : decode cX11_who 1 = .ok (.iload_n 1, 1) := by decide +kernel
theorem dX11_who_2 : decode cX11_who 2 = .ok (.invokestatic 98, 3) := by decide +kernel
theorem dX11_who_5 : decode cX11_who 5 = .ok (.ifCond .eq 13, 3) := by decide +kernel
theorem dX11_who_8 : decode cX11_who 8 = .ok (.iload_n 2, 1) := by decide +kernel
theorem dX11_who_9 : decode cX11_who 9 = .ok (.iconst 0, 1) := by decide +kernel
theorem dX11_who_10 : decode cX11_who 10 = .ok (.bipush 60, 2) := by decide +kernel
theorem dX11_who_12 : decode cX11_who 12 = .ok (.invokestatic 110, 3) := by decide +kernel
theorem dX11_who_15 : decode cX11_who 15 = .ok (.ifCond .ne 5, 3) := by decide +kernel
theorem dX11_who_18 : decode cX11_who 18 = .ok (.iconst (-1), 1) := by decide +kernel
theorem dX11_who_19 : decode cX11_who 19 = .ok (.ireturn, 1) := by decide +kernel
theorem dX11_who_20 : decode cX11_who 20 = .ok (.aload_n 0, 1) := by decide +kernel
theorem dX11_who_21 : decode cX11_who 21 = .ok (.getfield 48, 3) := by decide +kernel
theorem dX11_who_24 : decode cX11_who 24 = .ok (.iload_n 2, 1) := by decide +kernel
theorem dX11_who_25 : decode cX11_who 25 = .ok (.invokevirtual 217, 3) := by decide +kernel
theorem dX11_who_28 : decode cX11_who 28 = .ok (.aload_n 0, 1) := by decide +kernel
theorem dX11_who_29 : decode cX11_who 29 = .ok (.getfield 48, 3) := by decide +kernel
theorem dX11_who_32 : decode cX11_who 32 = .ok (.iload_n 1, 1) := by decide +kernel
theorem dX11_who_33 : decode cX11_who 33 = .ok (.iload_n 2, 1) := by decide +kernel
theorem dX11_who_34 : decode cX11_who 34 = .ok (.invokevirtual 220, 3) := by decide +kernel
theorem dX11_who_37 : decode cX11_who 37 = .ok (.ireturn, 1) := by decide +kernel
theorem dX11_soonest_0 : decode cX11_soonest 0 = .ok (.aload_n 0, 1) := by decide +kernel
theorem dX11_soonest_1 : decode cX11_soonest 1 = .ok (.iload_n 1, 1) := by decide +kernel
theorem dX11_soonest_2 : decode cX11_soonest 2 = .ok (.invokevirtual 223, 3) := by decide +kernel
theorem dX11_soonest_5 : decode cX11_soonest 5 = .ok (.ifCond .eq 12, 3) := by decide +kernel
theorem dX11_soonest_8 : decode cX11_soonest 8 = .ok (.iload_n 2, 1) := by decide +kernel
theorem dX11_soonest_9 : decode cX11_soonest 9 = .ok (.iconst 0, 1) := by decide +kernel
theorem dX11_soonest_10 : decode cX11_soonest 10 = .ok (.iconst 1, 1) := by decide +kernel
theorem dX11_soonest_11 : decode cX11_soonest 11 = .ok (.invokestatic 110, 3) := by decide +kernel
theorem dX11_soonest_14 : decode cX11_soonest 14 = .ok (.ifCond .ne 5, 3) := by decide +kernel
theorem dX11_soonest_17 : decode cX11_soonest 17 = .ok (.iconst (-1), 1) := by decide +kernel
theorem dX11_soonest_18 : decode cX11_soonest 18 = .ok (.ireturn, 1) := by decide +kernel
theorem dX11_soonest_19 : decode cX11_soonest 19 = .ok (.aload_n 0, 1) := by decide +kernel
theorem dX11_soonest_20 : decode cX11_soonest 20 = .ok (.getfield 48, 3) := by decide +kernel
theorem dX11_soonest_23 : decode cX11_soonest 23 = .ok (.bipush 60, 2) := by decide +kernel
theorem dX11_soonest_25 : decode cX11_soonest 25 = .ok (.invokevirtual 217, 3) := by decide +kernel
theorem dX11_soonest_28 : decode cX11_soonest 28 = .ok (.aload_n 0, 1) := by decide +kernel
theorem dX11_soonest_29 : decode cX11_soonest 29 = .ok (.getfield 48, 3) := by decide +kernel
theorem dX11_soonest_32 : decode cX11_soonest 32 = .ok (.aload_n 0, 1) := by decide +kernel
theorem dX11_soonest_33 : decode cX11_soonest 33 = .ok (.getfield 10, 3) := by decide +kernel
theorem dX11_soonest_36 : decode cX11_soonest 36 = .ok (.getfield 193, 3) := by decide +kernel
theorem dX11_soonest_39 : decode cX11_soonest 39 = .ok (.iload_n 1, 1) := by decide +kernel
theorem dX11_soonest_40 : decode cX11_soonest 40 = .ok (.bipush 10, 2) := by decide +kernel
theorem dX11_soonest_42 : decode cX11_soonest 42 = .ok (.idiv, 1) := by decide +kernel
theorem dX11_soonest_43 : decode cX11_soonest 43 = .ok (.iaload, 1) := by decide +kernel
theorem dX11_soonest_44 : decode cX11_soonest 44 = .ok (.aload_n 0, 1) := by decide +kernel
theorem dX11_soonest_45 : decode cX11_soonest 45 = .ok (.getfield 10, 3) := by decide +kernel
theorem dX11_soonest_48 : decode cX11_soonest 48 = .ok (.getfield 193, 3) := by decide +kernel
theorem dX11_soonest_51 : decode cX11_soonest 51 = .ok (.iload_n 1, 1) := by decide +kernel
theorem dX11_soonest_52 : decode cX11_soonest 52 = .ok (.bipush 10, 2) := by decide +kernel
theorem dX11_soonest_54 : decode cX11_soonest 54 = .ok (.irem, 1) := by decide +kernel
theorem dX11_soonest_55 : decode cX11_soonest 55 = .ok (.iaload, 1) := by decide +kernel
theorem dX11_soonest_56 : decode cX11_soonest 56 = .ok (.iload_n 2, 1) := by decide +kernel
theorem dX11_soonest_57 : decode cX11_soonest 57 = .ok (.iconst 1, 1) := by decide +kernel
theorem dX11_soonest_58 : decode cX11_soonest 58 = .ok (.if_icmp .ne 7, 3) := by decide +kernel
theorem dX11_soonest_61 : decode cX11_soonest 61 = .ok (.iconst 1, 1) := by decide +kernel
theorem dX11_soonest_62 : decode cX11_soonest 62 = .ok (.goto 4, 3) := by decide +kernel
theorem dX11_soonest_65 : decode cX11_soonest 65 = .ok (.iconst 0, 1) := by decide +kernel
theorem dX11_soonest_66 : decode cX11_soonest 66 = .ok (.invokevirtual 226, 3) := by decide +kernel
theorem dX11_soonest_69 : decode cX11_soonest 69 = .ok (.ireturn, 1) := by decide +kernel
theorem dX11_buy_0 : decode cX11_buy 0 = .ok (.iload_n 1, 1) := by decide +kernel
theorem dX11_buy_1 : decode cX11_buy 1 = .ok (.iconst 1, 1) := by decide +kernel
theorem dX11_buy_2 : decode cX11_buy 2 = .ok (.iconst 3, 1) := by decide +kernel
theorem dX11_buy_3 : decode cX11_buy 3 = .ok (.invokestatic 110, 3) := by decide +kernel
theorem dX11_buy_6 : decode cX11_buy 6 = .ok (.ifCond .eq 22, 3) := by decide +kernel
theorem dX11_buy_9 : decode cX11_buy 9 = .ok (.iload_n 2, 1) := by decide +kernel
theorem dX11_buy_10 : decode cX11_buy 10 = .ok (.iconst 0, 1) := by decide +kernel
theorem dX11_buy_11 : decode cX11_buy 11 = .ok (.bipush 30, 2) := by decide +kernel
theorem dX11_buy_13 : decode cX11_buy 13 = .ok (.invokestatic 110, 3) := by decide +kernel
theorem dX11_buy_16 : decode cX11_buy 16 = .ok (.ifCond .eq 12, 3) := by decide +kernel
theorem dX11_buy_19 : decode cX11_buy 19 = .ok (.iload_n 3, 1) := by decide +kernel
theorem dX11_buy_20 : decode cX11_buy 20 = .ok (.iconst 0, 1) := by decide +kernel
theorem dX11_buy_21 : decode cX11_buy 21 = .ok (.iconst 1, 1) := by decide +kernel
theorem dX11_buy_22 : decode cX11_buy 22 = .ok (.invokestatic 110, 3) := by decide +kernel
theorem dX11_buy_25 : decode cX11_buy 25 = .ok (.ifCond .ne 5, 3) := by decide +kernel
theorem dX11_buy_28 : decode cX11_buy 28 = .ok (.iconst (-1), 1) := by decide +kernel
theorem dX11_buy_29 : decode cX11_buy 29 = .ok (.ireturn, 1) := by decide +kernel
theorem dX11_buy_30 : decode cX11_buy 30 = .ok (.aload_n 0, 1) := by decide +kernel
theorem dX11_buy_31 : decode cX11_buy 31 = .ok (.getfield 48, 3) := by decide +kernel
theorem dX11_buy_34 : decode cX11_buy 34 = .ok (.iload_n 2, 1) := by decide +kernel
theorem dX11_buy_35 : decode cX11_buy 35 = .ok (.invokevirtual 217, 3) := by decide +kernel
theorem dX11_buy_38 : decode cX11_buy 38 = .ok (.aload_n 0, 1) := by decide +kernel
theorem dX11_buy_39 : decode cX11_buy 39 = .ok (.getfield 48, 3) := by decide +kernel
theorem dX11_buy_42 : decode cX11_buy 42 = .ok (.iload_n 1, 1) := by decide +kernel
theorem dX11_buy_43 : decode cX11_buy 43 = .ok (.iload_n 2, 1) := by decide +kernel
theorem dX11_buy_44 : decode cX11_buy 44 = .ok (.invokevirtual 230, 3) := by decide +kernel
theorem dX11_buy_47 : decode cX11_buy 47 = .ok (.istore 4, 2) := by decide +kernel
theorem dX11_buy_49 : decode cX11_buy 49 = .ok (.iload_n 3, 1) := by decide +kernel
theorem dX11_buy_50 : decode cX11_buy 50 = .ok (.iconst 1, 1) := by decide +kernel
theorem dX11_buy_51 : decode cX11_buy 51 = .ok (.if_icmp .ne 8, 3) := by decide +kernel
theorem dX11_buy_54 : decode cX11_buy 54 = .ok (.iload 4, 2) := by decide +kernel
theorem dX11_buy_56 : decode cX11_buy 56 = .ok (.goto 15, 3) := by decide +kernel
theorem dX11_buy_59 : decode cX11_buy 59 = .ok (.aload_n 0, 1) := by decide +kernel
theorem dX11_buy_60 : decode cX11_buy 60 = .ok (.getfield 48, 3) := by decide +kernel
theorem dX11_buy_63 : decode cX11_buy 63 = .ok (.iload 4, 2) := by decide +kernel
theorem dX11_buy_65 : decode cX11_buy 65 = .ok (.invokevirtual 233, 3) := by decide +kernel
theorem dX11_buy_68 : decode cX11_buy 68 = .ok (.invokestatic 236, 3) := by decide +kernel
theorem dX11_buy_71 : decode cX11_buy 71 = .ok (.ireturn, 1) := by decide +kernel
theorem dX11_judge_0 : decode cX11_judge 0 = .ok (.iload_n 1, 1) := by decide +kernel
theorem dX11_judge_1 : decode cX11_judge 1 = .ok (.invokestatic 106, 3) := by decide +kernel
theorem dX11_judge_4 : decode cX11_judge 4 = .ok (.ifCond .eq 14, 3) := by decide +kernel
theorem dX11_judge_7 : decode cX11_judge 7 = .ok (.aload_n 0, 1) := by decide +kernel
theorem dX11_judge_8 : decode cX11_judge 8 = .ok (.getfield 10, 3) := by decide +kernel
theorem dX11_judge_11 : decode cX11_judge 11 = .ok (.iload_n 2, 1) := by decide +kernel
theorem dX11_judge_12 : decode cX11_judge 12 = .ok (.invokevirtual 156, 3) := by decide +kernel
