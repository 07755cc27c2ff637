theorem dX12_lays_107 : decode cX12_lays 107 = .ok (.isub, 1) := by decide +kernel
theorem dX12_lays_108 : decode cX12_lays 108 = .ok (.iload_n 3, 1) := by decide +kernel
theorem dX12_lays_109 : decode cX12_lays 109 = .ok (.iastore, 1) := by decide +kernel
theorem dX12_lays_110 : decode cX12_lays 110 = .ok (.return_, 1) := by decide +kernel
theorem dX12_changes_0 : decode cX12_changes 0 = .ok (.aload_n 0, 1) := by decide +kernel
theorem dX12_changes_1 : decode cX12_changes 1 = .ok (.iload_n 1, 1) := by decide +kernel
theorem dX12_changes_2 : decode cX12_changes 2 = .ok (.iload_n 2, 1) := by decide +kernel
theorem dX12_changes_3 : decode cX12_changes 3 = .ok (.invokevirtual 154, 3) := by decide +kernel
theorem dX12_changes_6 : decode cX12_changes 6 = .ok (.istore 4, 2) := by decide +kernel
theorem dX12_changes_8 : decode cX12_changes 8 = .ok (.iload 4, 2) := by decide +kernel
theorem dX12_changes_10 : decode cX12_changes 10 = .ok (.iload_n 3, 1) := by decide +kernel
theorem dX12_changes_11 : decode cX12_changes 11 = .ok (.if_icmp .ne 6, 3) := by decide +kernel
theorem dX12_changes_14 : decode cX12_changes 14 = .ok (.iload 4, 2) := by decide +kernel
theorem dX12_changes_16 : decode cX12_changes 16 = .ok (.ireturn, 1) := by decide +kernel
theorem dX12_changes_17 : decode cX12_changes 17 = .ok (.aload_n 0, 1) := by decide +kernel
theorem dX12_changes_18 : decode cX12_changes 18 = .ok (.iconst 0, 1) := by decide +kernel
theorem dX12_changes_19 : decode cX12_changes 19 = .ok (.putfield 157, 3) := by decide +kernel
theorem dX12_changes_22 : decode cX12_changes 22 = .ok (.aload_n 0, 1) := by decide +kernel
theorem dX12_changes_23 : decode cX12_changes 23 = .ok (.getfield 160, 3) := by decide +kernel
theorem dX12_changes_26 : decode cX12_changes 26 = .ok (.bipush 40, 2) := by decide +kernel
theorem dX12_changes_28 : decode cX12_changes 28 = .ok (.if_icmp .ne 93, 3) := by decide +kernel
theorem dX12_changes_31 : decode cX12_changes 31 = .ok (.iconst 1, 1) := by decide +kernel
theorem dX12_changes_32 : decode cX12_changes 32 = .ok (.istore 5, 2) := by decide +kernel
theorem dX12_changes_34 : decode cX12_changes 34 = .ok (.iload 5, 2) := by decide +kernel
theorem dX12_changes_36 : decode cX12_changes 36 = .ok (.bipush 40, 2) := by decide +kernel
theorem dX12_changes_38 : decode cX12_changes 38 = .ok (.if_icmp .ge 73, 3) := by decide +kernel
theorem dX12_changes_41 : decode cX12_changes 41 = .ok (.aload_n 0, 1) := by decide +kernel
theorem dX12_changes_42 : decode cX12_changes 42 = .ok (.getfield 33, 3) := by decide +kernel
theorem dX12_changes_45 : decode cX12_changes 45 = .ok (.iload 5, 2) := by decide +kernel
theorem dX12_changes_47 : decode cX12_changes 47 = .ok (.iconst 1, 1) := by decide +kernel
theorem dX12_changes_48 : decode cX12_changes 48 = .ok (.isub, 1) := by decide +kernel
theorem dX12_changes_49 : decode cX12_changes 49 = .ok (.aload_n 0, 1) := by decide +kernel
theorem dX12_changes_50 : decode cX12_changes 50 = .ok (.getfield 33, 3) := by decide +kernel
theorem dX12_changes_53 : decode cX12_changes 53 = .ok (.iload 5, 2) := by decide +kernel
theorem dX12_changes_55 : decode cX12_changes 55 = .ok (.iaload, 1) := by decide +kernel
theorem dX12_changes_56 : decode cX12_changes 56 = .ok (.iastore, 1) := by decide +kernel
theorem dX12_changes_57 : decode cX12_changes 57 = .ok (.aload_n 0, 1) := by decide +kernel
theorem dX12_changes_58 : decode cX12_changes 58 = .ok (.getfield 36, 3) := by decide +kernel
theorem dX12_changes_61 : decode cX12_changes 61 = .ok (.iload 5, 2) := by decide +kernel
theorem dX12_changes_63 : decode cX12_changes 63 = .ok (.iconst 1, 1) := by decide +kernel
theorem dX12_changes_64 : decode cX12_changes 64 = .ok (.isub, 1) := by decide +kernel
theorem dX12_changes_65 : decode cX12_changes 65 = .ok (.aload_n 0, 1) := by decide +kernel
theorem dX12_changes_66 : decode cX12_changes 66 = .ok (.getfield 36, 3) := by decide +kernel
theorem dX12_changes_69 : decode cX12_changes 69 = .ok (.iload 5, 2) := by decide +kernel
theorem dX12_changes_71 : decode cX12_changes 71 = .ok (.iaload, 1) := by decide +kernel
theorem dX12_changes_72 : decode cX12_changes 72 = .ok (.iastore, 1) := by decide +kernel
theorem dX12_changes_73 : decode cX12_changes 73 = .ok (.aload_n 0, 1) := by decide +kernel
theorem dX12_changes_74 : decode cX12_changes 74 = .ok (.getfield 39, 3) := by decide +kernel
theorem dX12_changes_77 : decode cX12_changes 77 = .ok (.iload 5, 2) := by decide +kernel
theorem dX12_changes_79 : decode cX12_changes 79 = .ok (.iconst 1, 1) := by decide +kernel
theorem dX12_changes_80 : decode cX12_changes 80 = .ok (.isub, 1) := by decide +kernel
theorem dX12_changes_81 : decode cX12_changes 81 = .ok (.aload_n 0, 1) := by decide +kernel
theorem dX12_changes_82 : decode cX12_changes 82 = .ok (.getfield 39, 3) := by decide +kernel
theorem dX12_changes_85 : decode cX12_changes 85 = .ok (.iload 5, 2) := by decide +kernel
theorem dX12_changes_87 : decode cX12_changes 87 = .ok (.iaload, 1) := by decide +kernel
theorem dX12_changes_88 : decode cX12_changes 88 = .ok (.iastore, 1) := by decide +kernel
theorem dX12_changes_89 : decode cX12_changes 89 = .ok (.aload_n 0, 1) := by decide +kernel
theorem dX12_changes_90 : decode cX12_changes 90 = .ok (.getfield 42, 3) := by decide +kernel
theorem dX12_changes_93 : decode cX12_changes 93 = .ok (.iload 5, 2) := by decide +kernel
theorem dX12_changes_95 : decode cX12_changes 95 = .ok (.iconst 1, 1) := by decide +kernel
theorem dX12_changes_96 : decode cX12_changes 96 = .ok (.isub, 1) := by decide +kernel
theorem dX12_changes_97 : decode cX12_changes 97 = .ok (.aload_n 0, 1) := by decide +kernel
theorem dX12_changes_98 : decode cX12_changes 98 = .ok (.getfield 42, 3) := by decide +kernel
theorem dX12_changes_101 : decode cX12_changes 101 = .ok (.iload 5, 2) := by decide +kernel
theorem dX12_changes_103 : decode cX12_changes 103 = .ok (.iaload, 1) := by decide +kernel
theorem dX12_changes_104 : decode cX12_changes 104 = .ok (.iastore, 1) := by decide +kernel
theorem dX12_changes_105 : decode cX12_changes 105 = .ok (.iinc 5 1, 3) := by decide +kernel
theorem dX12_changes_108 : decode cX12_changes 108 = .ok (.goto (-74), 3) := by decide +kernel
theorem dX12_changes_111 : decode cX12_changes 111 = .ok (.aload_n 0, 1) := by decide +kernel
theorem dX12_changes_112 : decode cX12_changes 112 = .ok (.dup, 1) := by decide +kernel
theorem dX12_changes_113 : decode cX12_changes 113 = .ok (.getfield 160, 3) := by decide +kernel
theorem dX12_changes_116 : decode cX12_changes 116 = .ok (.iconst 1, 1) := by decide +kernel
theorem dX12_changes_117 : decode cX12_changes 117 = .ok (.isub, 1) := by decide +kernel
theorem dX12_changes_118 : decode cX12_changes 118 = .ok (.putfield 160, 3) := by decide +kernel
theorem dX12_changes_121 : decode cX12_changes 121 = .ok (.aload_n 0, 1) := by decide +kernel
theorem dX12_changes_122 : decode cX12_changes 122 = .ok (.getfield 33, 3) := by decide +kernel
theorem dX12_changes_125 : decode cX12_changes 125 = .ok (.aload_n 0, 1) := by decide +kernel
theorem dX12_changes_126 : decode cX12_changes 126 = .ok (.getfield 160, 3) := by decide +kernel
theorem dX12_changes_129 : decode cX12_changes 129 = .ok (.iload_n 1, 1) := by decide +kernel
theorem dX12_changes_130 : decode cX12_changes 130 = .ok (.iastore, 1) := by decide +kernel
theorem dX12_changes_131 : decode cX12_changes 131 = .ok (.aload_n 0, 1) := by decide +kernel
theorem dX12_changes_132 : decode cX12_changes 132 = .ok (.getfield 36, 3) := by decide +kernel
theorem dX12_changes_135 : decode cX12_changes 135 = .ok (.aload_n 0, 1) := by decide +kernel
theorem dX12_changes_136 : decode cX12_changes 136 = .ok (.getfield 160, 3) := by decide +kernel
theorem dX12_changes_139 : decode cX12_changes 139 = .ok (.iload_n 2, 1) := by decide +kernel
theorem dX12_changes_140 : decode cX12_changes 140 = .ok (.iastore, 1) := by decide +kernel
theorem dX12_changes_141 : decode cX12_changes 141 = .ok (.aload_n 0, 1) := by decide +kernel
theorem dX12_changes_142 : decode cX12_changes 142 = .ok (.getfield 39, 3) := by decide +kernel
theorem dX12_changes_145 : decode cX12_changes 145 = .ok (.aload_n 0, 1) := by decide +kernel
theorem dX12_changes_146 : decode cX12_changes 146 = .ok (.getfield 160, 3) := by decide +kernel
theorem dX12_changes_149 : decode cX12_changes 149 = .ok (.iload 4, 2) := by decide +kernel
theorem dX12_changes_151 : decode cX12_changes 151 = .ok (.iastore, 1) := by decide +kernel
theorem dX12_changes_152 : decode cX12_changes 152 = .ok (.aload_n 0, 1) := by decide +kernel
theorem dX12_changes_153 : decode cX12_changes 153 = .ok (.getfield 42, 3) := by decide +kernel
theorem dX12_changes_156 : decode cX12_changes 156 = .ok (.aload_n 0, 1) := by decide +kernel
theorem dX12_changes_157 : decode cX12_changes 157 = .ok (.getfield 160, 3) := by decide +kernel
theorem dX12_changes_160 : decode cX12_changes 160 = .ok (.iload_n 3, 1) := by decide +kernel
theorem dX12_changes_161 : decode cX12_changes 161 = .ok (.iastore, 1) := by decide +kernel
theorem dX12_changes_162 : decode cX12_changes 162 = .ok (.aload_n 0, 1) := by decide +kernel
theorem dX12_changes_163 : decode cX12_changes 163 = .ok (.dup, 1) := by decide +kernel
theorem dX12_changes_164 : decode cX12_changes 164 = .ok (.getfield 160, 3) := by decide +kernel
theorem dX12_changes_167 : decode cX12_changes 167 = .ok (.iconst 1, 1) := by decide +kernel
theorem dX12_changes_168 : decode cX12_changes 168 = .ok (.iadd, 1) := by decide +kernel
theorem dX12_changes_169 : decode cX12_changes 169 = .ok (.putfield 160, 3) := by decide +kernel
theorem dX12_changes_172 : decode cX12_changes 172 = .ok (.aload_n 0, 1) := by decide +kernel
theorem dX12_changes_173 : decode cX12_changes 173 = .ok (.iload_n 1, 1) := by decide +kernel
theorem dX12_changes_174 : decode cX12_changes 174 = .ok (.iload_n 2, 1) := by decide +kernel
theorem dX12_changes_175 : decode cX12_changes 175 = .ok (.iload_n 3, 1) := by decide +kernel
theorem dX12_changes_176 : decode cX12_changes 176 = .ok (.invokevirtual 163, 3) := by decide +kernel
theorem dX12_changes_179 : decode cX12_changes 179 = .ok (.iload 4, 2) := by decide +kernel
theorem dX12_changes_181 : decode cX12_changes 181 = .ok (.ireturn, 1) := by decide +kernel
theorem dX12_undo_0 : decode cX12_undo 0 = .ok (.aload_n 0, 1) := by decide +kernel
theorem dX12_undo_1 : decode cX12_undo 1 = .ok (.getfield 160, 3) := by decide +kernel
theorem dX12_undo_4 : decode cX12_undo 4 = .ok (.ifCond .ne 6, 3) := by decide +kernel
theorem dX12_undo_7 : decode cX12_undo 7 = .ok (.bipush (-5), 2) := by decide +kernel
theorem dX12_undo_9 : decode cX12_undo 9 = .ok (.ireturn, 1) := by decide +kernel
theorem dX12_undo_10 : decode cX12_undo 10 = .ok (.aload_n 0, 1) := by decide +kernel
theorem dX12_undo_11 : decode cX12_undo 11 = .ok (.dup, 1) := by decide +kernel
theorem dX12_undo_12 : decode cX12_undo 12 = .ok (.getfield 160, 3) := by decide +kernel
theorem dX12_undo_15 : decode cX12_undo 15 = .ok (.iconst 1, 1) := by decide +kernel
theorem dX12_undo_16 : decode cX12_undo 16 = .ok (.isub, 1) := by decide +kernel
theorem dX12_undo_17 : decode cX12_undo 17 = .ok (.putfield 160, 3) := by decide +kernel
theorem dX12_undo_20 : decode cX12_undo 20 = .ok (.aload_n 0, 1) := by decide +kernel
theorem dX12_undo_21 : decode cX12_undo 21 = .ok (.dup, 1) := by decide +kernel
theorem dX12_undo_22 : decode cX12_undo 22 = .ok (.getfield 157, 3) := by decide +kernel
theorem dX12_undo_25 : decode cX12_undo 25 = .ok (.iconst 1, 1) := by decide +kernel
theorem dX12_undo_26 : decode cX12_undo 26 = .ok (.iadd, 1) := by decide +kernel
theorem dX12_undo_27 : decode cX12_undo 27 = .ok (.putfield 157, 3) := by decide +kernel
theorem dX12_undo_30 : decode cX12_undo 30 = .ok (.aload_n 0, 1) := by decide +kernel
theorem dX12_undo_31 : decode cX12_undo 31 = .ok (.aload_n 0, 1) := by decide +kernel
theorem dX12_undo_32 : decode cX12_undo 32 = .ok (.getfield 33, 3) := by decide +kernel
theorem dX12_undo_35 : decode cX12_undo 35 = .ok (.aload_n 0, 1) := by decide +kernel
theorem dX12_undo_36 : decode cX12_undo 36 = .ok (.getfield 160, 3) := by decide +kernel
theorem dX12_undo_39 : decode cX12_undo 39 = .ok (.iaload, 1) := by decide +kernel
theorem dX12_undo_40 : decode cX12_undo 40 = .ok (.aload_n 0, 1) := by decide +kernel
theorem dX12_undo_41 : decode cX12_undo 41 = .ok (.getfield 36, 3) := by decide +kernel
theorem dX12_undo_44 : decode cX12_undo 44 = .ok (.aload_n 0, 1) := by decide +kernel
theorem dX12_undo_45 : decode cX12_undo 45 = .ok (.getfield 160, 3) := by decide +kernel
theorem dX12_undo_48 : decode cX12_undo 48 = .ok (.iaload, 1) := by decide +kernel
theorem dX12_undo_49 : decode cX12_undo 49 = .ok (.aload_n 0, 1) := by decide +kernel
theorem dX12_undo_50 : decode cX12_undo 50 = .ok (.getfield 39, 3) := by decide +kernel
theorem dX12_undo_53 : decode cX12_undo 53 = .ok (.aload_n 0, 1) := by decide +kernel
theorem dX12_undo_54 : decode cX12_undo 54 = .ok (.getfield 160, 3) := by decide +kernel
theorem dX12_undo_57 : decode cX12_undo 57 = .ok (.iaload, 1) := by decide +kernel
theorem dX12_undo_58 : decode cX12_undo 58 = .ok (.invokevirtual 163, 3) := by decide +kernel
theorem dX12_undo_61 : decode cX12_undo 61 = .ok (.aload_n 0, 1) := by decide +kernel
theorem dX12_undo_62 : decode cX12_undo 62 = .ok (.getfield 160, 3) := by decide +kernel
theorem dX12_undo_65 : decode cX12_undo 65 = .ok (.ireturn, 1) := by decide +kernel
theorem dX12_redo_0 : decode cX12_redo 0 = .ok (.aload_n 0, 1) := by decide +kernel
theorem dX12_redo_1 : decode cX12_redo 1 = .ok (.getfield 157, 3) := by decide +kernel
theorem dX12_redo_4 : decode cX12_redo 4 = .ok (.ifCond .ne 6, 3) := by decide +kernel
theorem dX12_redo_7 : decode cX12_redo 7 = .ok (.bipush (-5), 2) := by decide +kernel
theorem dX12_redo_9 : decode cX12_redo 9 = .ok (.ireturn, 1) := by decide +kernel
theorem dX12_redo_10 : decode cX12_redo 10 = .ok (.aload_n 0, 1) := by decide +kernel
theorem dX12_redo_11 : decode cX12_redo 11 = .ok (.aload_n 0, 1) := by decide +kernel
theorem dX12_redo_12 : decode cX12_redo 12 = .ok (.getfield 33, 3) := by decide +kernel
theorem dX12_redo_15 : decode cX12_redo 15 = .ok (.aload_n 0, 1) := by decide +kernel
theorem dX12_redo_16 : decode cX12_redo 16 = .ok (.getfield 160, 3) := by decide +kernel
theorem dX12_redo_19 : decode cX12_redo 19 = .ok (.iaload, 1) := by decide +kernel
theorem dX12_redo_20 : decode cX12_redo 20 = .ok (.aload_n 0, 1) := by decide +kernel
theorem dX12_redo_21 : decode cX12_redo 21 = .ok (.getfield 36, 3) := by decide +kernel
theorem dX12_redo_24 : decode cX12_redo 24 = .ok (.aload_n 0, 1) := by decide +kernel
theorem dX12_redo_25 : decode cX12_redo 25 = .ok (.getfield 160, 3) := by decide +kernel
theorem dX12_redo_28 : decode cX12_redo 28 = .ok (.iaload, 1) := by decide +kernel
theorem dX12_redo_29 : decode cX12_redo 29 = .ok (.aload_n 0, 1) := by decide +kernel
theorem dX12_redo_30 : decode cX12_redo 30 = .ok (.getfield 42, 3) := by decide +kernel
theorem dX12_redo_33 : decode cX12_redo 33 = .ok (.aload_n 0, 1) := by decide +kernel
theorem dX12_redo_34 : decode cX12_redo 34 = .ok (.getfield 160, 3) := by decide +kernel
theorem dX12_redo_37 : decode cX12_redo 37 = .ok (.iaload, 1) := by decide +kernel
theorem dX12_redo_38 : decode cX12_redo 38 = .ok (.invokevirtual 163, 3) := by decide +kernel
theorem dX12_redo_41 : decode cX12_redo 41 = .ok (.aload_n 0, 1) := by decide +kernel
theorem dX12_redo_42 : decode cX12_redo 42 = .ok (.dup, 1) := by decide +kernel
theorem dX12_redo_43 : decode cX12_redo 43 = .ok (.getfield 160, 3) := by decide +kernel
theorem dX12_redo_46 : decode cX12_redo 46 = .ok (.iconst 1, 1) := by decide +kernel
theorem dX12_redo_47 : decode cX12_redo 47 = .ok (.iadd, 1) := by decide +kernel
theorem dX12_redo_48 : decode cX12_redo 48 = .ok (.putfield 160, 3) := by decide +kernel
theorem dX12_redo_51 : decode cX12_redo 51 = .ok (.aload_n 0, 1) := by decide +kernel
theorem dX12_redo_52 : decode cX12_redo 52 = .ok (.dup, 1) := by decide +kernel
theorem dX12_redo_53 : decode cX12_redo 53 = .ok (.getfield 157, 3) := by decide +kernel
theorem dX12_redo_56 : decode cX12_redo 56 = .ok (.iconst 1, 1) := by decide +kernel
theorem dX12_redo_57 : decode cX12_redo 57 = .ok (.isub, 1) := by decide +kernel
theorem dX12_redo_58 : decode cX12_redo 58 = .ok (.putfield 157, 3) := by decide +kernel
theorem dX12_redo_61 : decode cX12_redo 61 = .ok (.aload_n 0, 1) := by decide +kernel
theorem dX12_redo_62 : decode cX12_redo 62 = .ok (.getfield 157, 3) := by decide +kernel
theorem dX12_redo_65 : decode cX12_redo 65 = .ok (.ireturn, 1) := by decide +kernel
theorem dX12_isOne_0 : decode cX12_isOne 0 = .ok (.iload_n 2, 1) := by decide +kernel
theorem dX12_isOne_1 : decode cX12_isOne 1 = .ok (.iconst 0, 1) := by decide +kernel
theorem dX12_isOne_2 : decode cX12_isOne 2 = .ok (.iconst 3, 1) := by decide +kernel
theorem dX12_isOne_3 : decode cX12_isOne 3 = .ok (.invokestatic 128, 3) := by decide +kernel
theorem dX12_isOne_6 : decode cX12_isOne 6 = .ok (.ifCond .eq 11, 3) := by decide +kernel
theorem dX12_isOne_9 : decode cX12_isOne 9 = .ok (.aload_n 0, 1) := by decide +kernel
theorem dX12_isOne_10 : decode cX12_isOne 10 = .ok (.iload_n 1, 1) := by decide +kernel
theorem dX12_isOne_11 : decode cX12_isOne 11 = .ok (.invokevirtual 135, 3) := by decide +kernel
theorem dX12_isOne_14 : decode cX12_isOne 14 = .ok (.goto 40, 3) := by decide +kernel
theorem dX12_isOne_17 : decode cX12_isOne 17 = .ok (.iload_n 2, 1) := by decide +kernel
theorem dX12_isOne_18 : decode cX12_isOne 18 = .ok (.iconst 4, 1) := by decide +kernel
theorem dX12_isOne_19 : decode cX12_isOne 19 = .ok (.iconst 5, 1) := by decide +kernel
theorem dX12_isOne_20 : decode cX12_isOne 20 = .ok (.invokestatic 128, 3) := by decide +kernel
theorem dX12_isOne_23 : decode cX12_isOne 23 = .ok (.ifCond .eq 11, 3) := by decide +kernel
theorem dX12_isOne_26 : decode cX12_isOne 26 = .ok (.aload_n 0, 1) := by decide +kernel
theorem dX12_isOne_27 : decode cX12_isOne 27 = .ok (.iload_n 1, 1) := by decide +kernel
theorem dX12_isOne_28 : decode cX12_isOne 28 = .ok (.invokevirtual 139, 3) := by decide +kernel
theorem dX12_isOne_31 : decode cX12_isOne 31 = .ok (.goto 23, 3) := by decide +kernel
theorem dX12_isOne_34 : decode cX12_isOne 34 = .ok (.iload_n 2, 1) := by decide +kernel
theorem dX12_isOne_35 : decode cX12_isOne 35 = .ok (.bipush 6, 2) := by decide +kernel
theorem dX12_isOne_37 : decode cX12_isOne 37 = .ok (.bipush 8, 2) := by decide +kernel
theorem dX12_isOne_39 : decode cX12_isOne 39 = .ok (.invokestatic 128, 3) := by decide +kernel
theorem dX12_isOne_42 : decode cX12_isOne 42 = .ok (.ifCond .eq 11, 3) := by decide +kernel
theorem dX12_isOne_45 : decode cX12_isOne 45 = .ok (.iload_n 1, 1) := by decide +kernel
theorem dX12_isOne_46 : decode cX12_isOne 46 = .ok (.ifCond .ne 7, 3) := by decide +kernel
theorem dX12_isOne_49 : decode cX12_isOne 49 = .ok (.iconst 1, 1) := by decide +kernel
theorem dX12_isOne_50 : decode cX12_isOne 50 = .ok (.goto 4, 3) := by decide +kernel
theorem dX12_isOne_53 : decode cX12_isOne 53 = .ok (.iconst 0, 1) := by decide +kernel
theorem dX12_isOne_54 : decode cX12_isOne 54 = .ok (.ireturn, 1) := by decide +kernel
theorem dX12_mayHave_0 : decode cX12_mayHave 0 = .ok (.iload_n 0, 1) := by decide +kernel
theorem dX12_mayHave_1 : decode cX12_mayHave 1 = .ok (.tableswitch 101 1 8 #[47, 55, 62, 101, 70, 78, 85, 93], 47) := by decide +kernel
theorem dX12_mayHave_48 : decode cX12_mayHave 48 = .ok (.iload_n 1, 1) := by decide +kernel
theorem dX12_mayHave_49 : decode cX12_mayHave 49 = .ok (.iconst 0, 1) := by decide +kernel
theorem dX12_mayHave_50 : decode cX12_mayHave 50 = .ok (.bipush 7, 2) := by decide +kernel
theorem dX12_mayHave_52 : decode cX12_mayHave 52 = .ok (.invokestatic 128, 3) := by decide +kernel
theorem dX12_mayHave_55 : decode cX12_mayHave 55 = .ok (.ireturn, 1) := by decide +kernel
theorem dX12_mayHave_56 : decode cX12_mayHave 56 = .ok (.iload_n 1, 1) := by decide +kernel
theorem dX12_mayHave_57 : decode cX12_mayHave 57 = .ok (.iconst 1, 1) := by decide +kernel
theorem dX12_mayHave_58 : decode cX12_mayHave 58 = .ok (.iconst 4, 1) := by decide +kernel
theorem dX12_mayHave_59 : decode cX12_mayHave 59 = .ok (.invokestatic 128, 3) := by decide +kernel
theorem dX12_mayHave_62 : decode cX12_mayHave 62 = .ok (.ireturn, 1) := by decide +kernel
theorem dX12_mayHave_63 : decode cX12_mayHave 63 = .ok (.iload_n 1, 1) := by decide +kernel
theorem dX12_mayHave_64 : decode cX12_mayHave 64 = .ok (.iconst 0, 1) := by decide +kernel
theorem dX12_mayHave_65 : decode cX12_mayHave 65 = .ok (.bipush 9, 2) := by decide +kernel
theorem dX12_mayHave_67 : decode cX12_mayHave 67 = .ok (.invokestatic 128, 3) := by decide +kernel
theorem dX12_mayHave_70 : decode cX12_mayHave 70 = .ok (.ireturn, 1) := by decide +kernel
theorem dX12_mayHave_71 : decode cX12_mayHave 71 = .ok (.iload_n 1, 1) := by decide +kernel
theorem dX12_mayHave_72 : decode cX12_mayHave 72 = .ok (.iconst 0, 1) := by decide +kernel
theorem dX12_mayHave_73 : decode cX12_mayHave 73 = .ok (.bipush 9, 2) := by decide +kernel
theorem dX12_mayHave_75 : decode cX12_mayHave 75 = .ok (.invokestatic 128, 3) := by decide +kernel
theorem dX12_mayHave_78 : decode cX12_mayHave 78 = .ok (.ireturn, 1) := by decide +kernel
theorem dX12_mayHave_79 : decode cX12_mayHave 79 = .ok (.iload_n 1, 1) := by decide +kernel
theorem dX12_mayHave_80 : decode cX12_mayHave 80 = .ok (.iconst 0, 1) := by decide +kernel
theorem dX12_mayHave_81 : decode cX12_mayHave 81 = .ok (.iconst 5, 1) := by decide +kernel
theorem dX12_mayHave_82 : decode cX12_mayHave 82 = .ok (.invokestatic 128, 3) := by decide +kernel
theorem dX12_mayHave_85 : decode cX12_mayHave 85 = .ok (.ireturn, 1) := by decide +kernel
theorem dX12_mayHave_86 : decode cX12_mayHave 86 = .ok (.iload_n 1, 1) := by decide +kernel
theorem dX12_mayHave_87 : decode cX12_mayHave 87 = .ok (.bipush (-3), 2) := by decide +kernel
theorem dX12_mayHave_89 : decode cX12_mayHave 89 = .ok (.iconst 3, 1) := by decide +kernel
theorem dX12_mayHave_90 : decode cX12_mayHave 90 = .ok (.invokestatic 128, 3) := by decide +kernel
theorem dX12_mayHave_93 : decode cX12_mayHave 93 = .ok (.ireturn, 1) := by decide +kernel
theorem dX12_mayHave_94 : decode cX12_mayHave 94 = .ok (.iload_n 1, 1) := by decide +kernel
theorem dX12_mayHave_95 : decode cX12_mayHave 95 = .ok (.iconst 0, 1) := by decide +kernel
theorem dX12_mayHave_96 : decode cX12_mayHave 96 = .ok (.bipush 99, 2) := by decide +kernel
theorem dX12_mayHave_98 : decode cX12_mayHave 98 = .ok (.invokestatic 128, 3) := by decide +kernel
theorem dX12_mayHave_101 : decode cX12_mayHave 101 = .ok (.ireturn, 1) := by decide +kernel
theorem dX12_mayHave_102 : decode cX12_mayHave 102 = .ok (.iload_n 1, 1) := by decide +kernel
theorem dX12_mayHave_103 : decode cX12_mayHave 103 = .ok (.invokestatic 142, 3) := by decide +kernel
theorem dX12_mayHave_106 : decode cX12_mayHave 106 = .ok (.ireturn, 1) := by decide +kernel
theorem dX12_mend_0 : decode cX12_mend 0 = .ok (.aload_n 0, 1) := by decide +kernel
theorem dX12_mend_1 : decode cX12_mend 1 = .ok (.iload_n 1, 1) := by decide +kernel
theorem dX12_mend_2 : decode cX12_mend 2 = .ok (.iload_n 2, 1) := by decide +kernel
theorem dX12_mend_3 : decode cX12_mend 3 = .ok (.invokevirtual 167, 3) := by decide +kernel
theorem dX12_mend_6 : decode cX12_mend 6 = .ok (.ifCond .eq 21, 3) := by decide +kernel
theorem dX12_mend_9 : decode cX12_mend 9 = .ok (.iload_n 2, 1) := by decide +kernel
theorem dX12_mend_10 : decode cX12_mend 10 = .ok (.iload_n 3, 1) := by decide +kernel
theorem dX12_mend_11 : decode cX12_mend 11 = .ok (.invokestatic 171, 3) := by decide +kernel
theorem dX12_mend_14 : decode cX12_mend 14 = .ok (.ifCond .eq 13, 3) := by decide +kernel
theorem dX12_mend_17 : decode cX12_mend 17 = .ok (.aload_n 0, 1) := by decide +kernel
theorem dX12_mend_18 : decode cX12_mend 18 = .ok (.iload_n 2, 1) := by decide +kernel
theorem dX12_mend_19 : decode cX12_mend 19 = .ok (.iload_n 1, 1) := by decide +kernel
theorem dX12_mend_20 : decode cX12_mend 20 = .ok (.iload_n 3, 1) := by decide +kernel
theorem dX12_mend_21 : decode cX12_mend 21 = .ok (.invokevirtual 174, 3) := by decide +kernel
theorem dX12_mend_24 : decode cX12_mend 24 = .ok (.goto 5, 3) := by decide +kernel
theorem dX12_mend_27 : decode cX12_mend 27 = .ok (.ldc 177, 2) := by decide +kernel
theorem dX12_mend_29 : decode cX12_mend 29 = .ok (.ireturn, 1) := by decide +kernel
theorem dX12_of_0 : decode cX12_of 0 = .ok (.aload_n 0, 1) := by decide +kernel
theorem dX12_of_1 : decode cX12_of 1 = .ok (.iload_n 1, 1) := by decide +kernel
theorem dX12_of_2 : decode cX12_of 2 = .ok (.iload_n 2, 1) := by decide +kernel
theorem dX12_of_3 : decode cX12_of 3 = .ok (.invokevirtual 167, 3) := by decide +kernel
theorem dX12_of_6 : decode cX12_of 6 = .ok (.ifCond .eq 12, 3) := by decide +kernel
theorem dX12_of_9 : decode cX12_of 9 = .ok (.aload_n 0, 1) := by decide +kernel
theorem dX12_of_10 : decode cX12_of 10 = .ok (.iload_n 2, 1) := by decide +kernel
theorem dX12_of_11 : decode cX12_of 11 = .ok (.iload_n 1, 1) := by decide +kernel
theorem dX12_of_12 : decode cX12_of 12 = .ok (.invokevirtual 154, 3) := by decide +kernel
theorem dX12_of_15 : decode cX12_of 15 = .ok (.goto 5, 3) := by decide +kernel
theorem dX12_of_18 : decode cX12_of 18 = .ok (.ldc 177, 2) := by decide +kernel
theorem dX12_of_20 : decode cX12_of 20 = .ok (.ireturn, 1) := by decide +kernel
theorem dX12_feed_0 : decode cX12_feed 0 = .ok (.iload_n 1, 1) := by decide +kernel
theorem dX12_feed_1 : decode cX12_feed 1 = .ok (.iconst 0, 1) := by decide +kernel
theorem dX12_feed_2 : decode cX12_feed 2 = .ok (.sipush 255, 3) := by decide +kernel
theorem dX12_feed_5 : decode cX12_feed 5 = .ok (.invokestatic 128, 3) := by decide +kernel
theorem dX12_feed_8 : decode cX12_feed 8 = .ok (.ifCond .ne 5, 3) := by decide +kernel
theorem dX12_feed_11 : decode cX12_feed 11 = .ok (.iconst (-1), 1) := by decide +kernel
theorem dX12_feed_12 : decode cX12_feed 12 = .ok (.ireturn, 1) := by decide +kernel
theorem dX12_feed_13 : decode cX12_feed 13 = .ok (.aload_n 0, 1) := by decide +kernel
theorem dX12_feed_14 : decode cX12_feed 14 = .ok (.getfield 178, 3) := by decide +kernel
theorem dX12_feed_17 : decode cX12_feed 17 = .ok (.bipush 120, 2) := by decide +kernel
theorem dX12_feed_19 : decode cX12_feed 19 = .ok (.if_icmp .ne 6, 3) := by decide +kernel
theorem dX12_feed_22 : decode cX12_feed 22 = .ok (.bipush (-3), 2) := by decide +kernel
theorem dX12_feed_24 : decode cX12_feed 24 = .ok (.ireturn, 1) := by decide +kernel
theorem dX12_feed_25 : decode cX12_feed 25 = .ok (.aload_n 0, 1) := by decide +kernel
theorem dX12_feed_26 : decode cX12_feed 26 = .ok (.getfield 45, 3) := by decide +kernel
theorem dX12_feed_29 : decode cX12_feed 29 = .ok (.aload_n 0, 1) := by decide +kernel
theorem dX12_feed_30 : decode cX12_feed 30 = .ok (.getfield 178, 3) := by decide +kernel
theorem dX12_feed_33 : decode cX12_feed 33 = .ok (.iload_n 1, 1) := by decide +kernel
theorem dX12_feed_34 : decode cX12_feed 34 = .ok (.i2b, 1) := by decide +kernel
theorem dX12_feed_35 : decode cX12_feed 35 = .ok (.bastore, 1) := by decide +kernel
theorem dX12_feed_36 : decode cX12_feed 36 = .ok (.aload_n 0, 1) := by decide +kernel
theorem dX12_feed_37 : decode cX12_feed 37 = .ok (.dup, 1) := by decide +kernel
theorem dX12_feed_38 : decode cX12_feed 38 = .ok (.getfield 178, 3) := by decide +kernel
theorem dX12_feed_41 : decode cX12_feed 41 = .ok (.iconst 1, 1) := by decide +kernel
theorem dX12_feed_42 : decode cX12_feed 42 = .ok (.iadd, 1) := by decide +kernel
theorem dX12_feed_43 : decode cX12_feed 43 = .ok (.putfield 178, 3) := by decide +kernel
theorem dX12_feed_46 : decode cX12_feed 46 = .ok (.aload_n 0, 1) := by decide +kernel
theorem dX12_feed_47 : decode cX12_feed 47 = .ok (.getfield 178, 3) := by decide +kernel
theorem dX12_feed_50 : decode cX12_feed 50 = .ok (.ireturn, 1) := by decide +kernel
theorem dX12_look_0 : decode cX12_look 0 = .ok (.aload_n 0, 1) := by decide +kernel
theorem dX12_look_1 : decode cX12_look 1 = .ok (.getfield 181, 3) := by decide +kernel
theorem dX12_look_4 : decode cX12_look 4 = .ok (.aload_n 0, 1) := by decide +kernel
theorem dX12_look_5 : decode cX12_look 5 = .ok (.getfield 178, 3) := by decide +kernel
theorem dX12_look_8 : decode cX12_look 8 = .ok (.if_icmp .ge 15, 3) := by decide +kernel
theorem dX12_look_11 : decode cX12_look 11 = .ok (.aload_n 0, 1) := by decide +kernel
theorem dX12_look_12 : decode cX12_look 12 = .ok (.getfield 45, 3) := by decide +kernel
theorem dX12_look_15 : decode cX12_look 15 = .ok (.aload_n 0, 1) := by decide +kernel
theorem dX12_look_16 : decode cX12_look 16 = .ok (.getfield 181, 3) := by decide +kernel
theorem dX12_look_19 : decode cX12_look 19 = .ok (.baload, 1) := by decide +kernel
theorem dX12_look_20 : decode cX12_look 20 = .ok (.goto 4, 3) := by decide +kernel
theorem dX12_look_23 : decode cX12_look 23 = .ok (.iconst (-1), 1) := by decide +kernel
theorem dX12_look_24 : decode cX12_look 24 = .ok (.ireturn, 1) := by decide +kernel
theorem dX12_wrong_0 : decode cX12_wrong 0 = .ok (.aload_n 0, 1) := by decide +kernel
theorem dX12_wrong_1 : decode cX12_wrong 1 = .ok (.getfield 184, 3) := by decide +kernel
theorem dX12_wrong_4 : decode cX12_wrong 4 = .ok (.ifCond .ge 11, 3) := by decide +kernel
theorem dX12_wrong_7 : decode cX12_wrong 7 = .ok (.aload_n 0, 1) := by decide +kernel
theorem dX12_wrong_8 : decode cX12_wrong 8 = .ok (.aload_n 0, 1) := by decide +kernel
theorem dX12_wrong_9 : decode cX12_wrong 9 = .ok (.getfield 181, 3) := by decide +kernel
theorem dX12_wrong_12 : decode cX12_wrong 12 = .ok (.putfield 184, 3) := by decide +kernel
theorem dX12_wrong_15 : decode cX12_wrong 15 = .ok (.return_, 1) := by decide +kernel
theorem dX12_addStep_0 : decode cX12_addStep 0 = .ok (.aload_n 0, 1) := by decide +kernel
theorem dX12_addStep_1 : decode cX12_addStep 1 = .ok (.getfield 49, 3) := by decide +kernel
theorem dX12_addStep_4 : decode cX12_addStep 4 = .ok (.sipush 130, 3) := by decide +kernel
theorem dX12_addStep_7 : decode cX12_addStep 7 = .ok (.aload_n 0, 1) := by decide +kernel
theorem dX12_addStep_8 : decode cX12_addStep 8 = .ok (.getfield 187, 3) := by decide +kernel
theorem dX12_addStep_11 : decode cX12_addStep 11 = .ok (.iadd, 1) := by decide +kernel
theorem dX12_addStep_12 : decode cX12_addStep 12 = .ok (.iload_n 1, 1) := by decide +kernel
theorem dX12_addStep_13 : decode cX12_addStep 13 = .ok (.i2b, 1) := by decide +kernel
theorem dX12_addStep_14 : decode cX12_addStep 14 = .ok (.bastore, 1) := by decide +kernel
theorem dX12_addStep_15 : decode cX12_addStep 15 = .ok (.aload_n 0, 1) := by decide +kernel
theorem dX12_addStep_16 : decode cX12_addStep 16 = .ok (.getfield 52, 3) := by decide +kernel
theorem dX12_addStep_19 : decode cX12_addStep 19 = .ok (.sipush 130, 3) := by decide +kernel
theorem dX12_addStep_22 : decode cX12_addStep 22 = .ok (.aload_n 0, 1) := by decide +kernel
theorem dX12_addStep_23 : decode cX12_addStep 23 = .ok (.getfield 187, 3) := by decide +kernel
theorem dX12_addStep_26 : decode cX12_addStep 26 = .ok (.iadd, 1) := by decide +kernel
theorem dX12_addStep_27 : decode cX12_addStep 27 = .ok (.iload_n 2, 1) := by decide +kernel
theorem dX12_addStep_28 : decode cX12_addStep 28 = .ok (.iastore, 1) := by decide +kernel
theorem dX12_addStep_29 : decode cX12_addStep 29 = .ok (.aload_n 0, 1) := by decide +kernel
theorem dX12_addStep_30 : decode cX12_addStep 30 = .ok (.dup, 1) := by decide +kernel
theorem dX12_addStep_31 : decode cX12_addStep 31 = .ok (.getfield 187, 3) := by decide +kernel
theorem dX12_addStep_34 : decode cX12_addStep 34 = .ok (.iconst 1, 1) := by decide +kernel
theorem dX12_addStep_35 : decode cX12_addStep 35 = .ok (.iadd, 1) := by decide +kernel
theorem dX12_addStep_36 : decode cX12_addStep 36 = .ok (.putfield 187, 3) := by decide +kernel
theorem dX12_addStep_39 : decode cX12_addStep 39 = .ok (.return_, 1) := by decide +kernel
theorem dX12_nameOf_0 : decode cX12_nameOf 0 = .ok (.iload_n 0, 1) := by decide +kernel
theorem dX12_nameOf_1 : decode cX12_nameOf 1 = .ok (.tableswitch 107 100 119 #[101, 107, 107, 107, 99, 107, 107, 103, 107, 107, 107, 107, 105, 107, 107, 97, 107, 107, 107, 95], 95) := by decide +kernel
theorem dX12_nameOf_96 : decode cX12_nameOf 96 = .ok (.iconst 0, 1) := by decide +kernel
theorem dX12_nameOf_97 : decode cX12_nameOf 97 = .ok (.ireturn, 1) := by decide +kernel
theorem dX12_nameOf_98 : decode cX12_nameOf 98 = .ok (.iconst 1, 1) := by decide +kernel
theorem dX12_nameOf_99 : decode cX12_nameOf 99 = .ok (.ireturn, 1) := by decide +kernel
theorem dX12_nameOf_100 : decode cX12_nameOf 100 = .ok (.iconst 2, 1) := by decide +kernel
theorem dX12_nameOf_101 : decode cX12_nameOf 101 = .ok (.ireturn, 1) := by decide +kernel
theorem dX12_nameOf_102 : decode cX12_nameOf 102 = .ok (.iconst 3, 1) := by decide +kernel
theorem dX12_nameOf_103 : decode cX12_nameOf 103 = .ok (.ireturn, 1) := by decide +kernel
theorem dX12_nameOf_104 : decode cX12_nameOf 104 = .ok (.iconst 4, 1) := by decide +kernel
theorem dX12_nameOf_105 : decode cX12_nameOf 105 = .ok (.ireturn, 1) := by decide +kernel
theorem dX12_nameOf_106 : decode cX12_nameOf 106 = .ok (.iconst 5, 1) := by decide +kernel
theorem dX12_nameOf_107 : decode cX12_nameOf 107 = .ok (.ireturn, 1) := by decide +kernel
theorem dX12_nameOf_108 : decode cX12_nameOf 108 = .ok (.iconst (-1), 1) := by decide +kernel
theorem dX12_nameOf_109 : decode cX12_nameOf 109 = .ok (.ireturn, 1) := by decide +kernel
theorem dX12_opens_0 : decode cX12_opens 0 = .ok (.aload_n 0, 1) := by decide +kernel
theorem dX12_opens_1 : decode cX12_opens 1 = .ok (.getfield 190, 3) := by decide +kernel
theorem dX12_opens_4 : decode cX12_opens 4 = .ok (.bipush 6, 2) := by decide +kernel
theorem dX12_opens_6 : decode cX12_opens 6 = .ok (.if_icmp .ne 9, 3) := by decide +kernel
theorem dX12_opens_9 : decode cX12_opens 9 = .ok (.aload_n 0, 1) := by decide +kernel
theorem dX12_opens_10 : decode cX12_opens 10 = .ok (.invokevirtual 193, 3) := by decide +kernel
theorem dX12_opens_13 : decode cX12_opens 13 = .ok (.iconst 0, 1) := by decide +kernel
theorem dX12_opens_14 : decode cX12_opens 14 = .ok (.ireturn, 1) := by decide +kernel
theorem dX12_opens_15 : decode cX12_opens 15 = .ok (.aload_n 0, 1) := by decide +kernel
theorem dX12_opens_16 : decode cX12_opens 16 = .ok (.dup, 1) := by decide +kernel
theorem dX12_opens_17 : decode cX12_opens 17 = .ok (.getfield 190, 3) := by decide +kernel
theorem dX12_opens_20 : decode cX12_opens 20 = .ok (.iconst 1, 1) := by decide +kernel
theorem dX12_opens_21 : decode cX12_opens 21 = .ok (.iadd, 1) := by decide +kernel
theorem dX12_opens_22 : decode cX12_opens 22 = .ok (.putfield 190, 3) := by decide +kernel
theorem dX12_opens_25 : decode cX12_opens 25 = .ok (.aload_n 0, 1) := by decide +kernel
theorem dX12_opens_26 : decode cX12_opens 26 = .ok (.dup, 1) := by decide +kernel
theorem dX12_opens_27 : decode cX12_opens 27 = .ok (.getfield 181, 3) := by decide +kernel
theorem dX12_opens_30 : decode cX12_opens 30 = .ok (.iconst 1, 1) := by decide +kernel
theorem dX12_opens_31 : decode cX12_opens 31 = .ok (.iadd, 1) := by decide +kernel
theorem dX12_opens_32 : decode cX12_opens 32 = .ok (.putfield 181, 3) := by decide +kernel
theorem dX12_opens_35 : decode cX12_opens 35 = .ok (.iconst 1, 1) := by decide +kernel
theorem dX12_opens_36 : decode cX12_opens 36 = .ok (.ireturn, 1) := by decide +kernel
theorem dX12_figure_0 : decode cX12_figure 0 = .ok (.iconst 0, 1) := by decide +kernel
theorem dX12_figure_1 : decode cX12_figure 1 = .ok (.istore_n 1, 1) := by decide +kernel
theorem dX12_figure_2 : decode cX12_figure 2 = .ok (.iconst 0, 1) := by decide +kernel
theorem dX12_figure_3 : decode cX12_figure 3 = .ok (.istore_n 2, 1) := by decide +kernel
theorem dX12_figure_4 : decode cX12_figure 4 = .ok (.iload_n 2, 1) := by decide +kernel
theorem dX12_figure_5 : decode cX12_figure 5 = .ok (.iconst 4, 1) := by decide +kernel
theorem dX12_figure_6 : decode cX12_figure 6 = .ok (.if_icmp .ge 46, 3) := by decide +kernel
theorem dX12_figure_9 : decode cX12_figure 9 = .ok (.aload_n 0, 1) := by decide +kernel
theorem dX12_figure_10 : decode cX12_figure 10 = .ok (.invokevirtual 196, 3) := by decide +kernel
theorem dX12_figure_13 : decode cX12_figure 13 = .ok (.bipush 48, 2) := by decide +kernel
theorem dX12_figure_15 : decode cX12_figure 15 = .ok (.bipush 57, 2) := by decide +kernel
theorem dX12_figure_17 : decode cX12_figure 17 = .ok (.invokestatic 128, 3) := by decide +kernel
theorem dX12_figure_20 : decode cX12_figure 20 = .ok (.ifCond .eq 32, 3) := by decide +kernel
theorem dX12_figure_23 : decode cX12_figure 23 = .ok (.bipush 10, 2) := by decide +kernel
theorem dX12_figure_25 : decode cX12_figure 25 = .ok (.iload_n 1, 1) := by decide +kernel
theorem dX12_figure_26 : decode cX12_figure 26 = .ok (.imul, 1) := by decide +kernel
theorem dX12_figure_27 : decode cX12_figure 27 = .ok (.aload_n 0, 1) := by decide +kernel
theorem dX12_figure_28 : decode cX12_figure 28 = .ok (.invokevirtual 196, 3) := by decide +kernel
theorem dX12_figure_31 : decode cX12_figure 31 = .ok (.iadd, 1) := by decide +kernel
theorem dX12_figure_32 : decode cX12_figure 32 = .ok (.bipush 48, 2) := by decide +kernel
theorem dX12_figure_34 : decode cX12_figure 34 = .ok (.isub, 1) := by decide +kernel
theorem dX12_figure_35 : decode cX12_figure 35 = .ok (.istore_n 1, 1) := by decide +kernel
theorem dX12_figure_36 : decode cX12_figure 36 = .ok (.iinc 2 1, 3) := by decide +kernel
theorem dX12_figure_39 : decode cX12_figure 39 = .ok (.aload_n 0, 1) := by decide +kernel
theorem dX12_figure_40 : decode cX12_figure 40 = .ok (.dup, 1) := by decide +kernel
theorem dX12_figure_41 : decode cX12_figure 41 = .ok (.getfield 181, 3) := by decide +kernel
theorem dX12_figure_44 : decode cX12_figure 44 = .ok (.iconst 1, 1) := by decide +kernel
theorem dX12_figure_45 : decode cX12_figure 45 = .ok (.iadd, 1) := by decide +kernel
theorem dX12_figure_46 : decode cX12_figure 46 = .ok (.putfield 181, 3) := by decide +kernel
theorem dX12_figure_49 : decode cX12_figure 49 = .ok (.goto (-45), 3) := by decide +kernel
theorem dX12_figure_52 : decode cX12_figure 52 = .ok (.iload_n 2, 1) := by decide +kernel
theorem dX12_figure_53 : decode cX12_figure 53 = .ok (.ifCond .eq 17, 3) := by decide +kernel
theorem dX12_figure_56 : decode cX12_figure 56 = .ok (.aload_n 0, 1) := by decide +kernel
theorem dX12_figure_57 : decode cX12_figure 57 = .ok (.invokevirtual 196, 3) := by decide +kernel
theorem dX12_figure_60 : decode cX12_figure 60 = .ok (.bipush 48, 2) := by decide +kernel
theorem dX12_figure_62 : decode cX12_figure 62 = .ok (.bipush 57, 2) := by decide +kernel
theorem dX12_figure_64 : decode cX12_figure 64 = .ok (.invokestatic 128, 3) := by decide +kernel
theorem dX12_figure_67 : decode cX12_figure 67 = .ok (.ifCond .eq 7, 3) := by decide +kernel
theorem dX12_figure_70 : decode cX12_figure 70 = .ok (.aload_n 0, 1) := by decide +kernel
theorem dX12_figure_71 : decode cX12_figure 71 = .ok (.invokevirtual 193, 3) := by decide +kernel
theorem dX12_figure_74 : decode cX12_figure 74 = .ok (.aload_n 0, 1) := by decide +kernel
theorem dX12_figure_75 : decode cX12_figure 75 = .ok (.iconst 1, 1) := by decide +kernel
theorem dX12_figure_76 : decode cX12_figure 76 = .ok (.iload_n 1, 1) := by decide +kernel
theorem dX12_figure_77 : decode cX12_figure 77 = .ok (.invokevirtual 200, 3) := by decide +kernel
theorem dX12_figure_80 : decode cX12_figure 80 = .ok (.return_, 1) := by decide +kernel
theorem dX12_operand_0 : decode cX12_operand 0 = .ok (.aload_n 0, 1) := by decide +kernel
theorem dX12_operand_1 : decode cX12_operand 1 = .ok (.invokevirtual 196, 3) := by decide +kernel
theorem dX12_operand_4 : decode cX12_operand 4 = .ok (.istore_n 1, 1) := by decide +kernel
theorem dX12_operand_5 : decode cX12_operand 5 = .ok (.iload_n 1, 1) := by decide +kernel
theorem dX12_operand_6 : decode cX12_operand 6 = .ok (.invokestatic 204, 3) := by decide +kernel
theorem dX12_operand_9 : decode cX12_operand 9 = .ok (.ifCond .lt 25, 3) := by decide +kernel
theorem dX12_operand_12 : decode cX12_operand 12 = .ok (.aload_n 0, 1) := by decide +kernel
theorem dX12_operand_13 : decode cX12_operand 13 = .ok (.iconst 2, 1) := by decide +kernel
theorem dX12_operand_14 : decode cX12_operand 14 = .ok (.iload_n 1, 1) := by decide +kernel
theorem dX12_operand_15 : decode cX12_operand 15 = .ok (.invokestatic 204, 3) := by decide +kernel
theorem dX12_operand_18 : decode cX12_operand 18 = .ok (.invokevirtual 200, 3) := by decide +kernel
theorem dX12_operand_21 : decode cX12_operand 21 = .ok (.aload_n 0, 1) := by decide +kernel
theorem dX12_operand_22 : decode cX12_operand 22 = .ok (.dup, 1) := by decide +kernel
theorem dX12_operand_23 : decode cX12_operand 23 = .ok (.getfield 181, 3) := by decide +kernel
theorem dX12_operand_26 : decode cX12_operand 26 = .ok (.iconst 1, 1) := by decide +kernel
theorem dX12_operand_27 : decode cX12_operand 27 = .ok (.iadd, 1) := by decide +kernel
theorem dX12_operand_28 : decode cX12_operand 28 = .ok (.putfield 181, 3) := by decide +kernel
theorem dX12_operand_31 : decode cX12_operand 31 = .ok (.goto 123, 3) := by decide +kernel
theorem dX12_operand_34 : decode cX12_operand 34 = .ok (.iload_n 1, 1) := by decide +kernel
theorem dX12_operand_35 : decode cX12_operand 35 = .ok (.bipush 33, 2) := by decide +kernel
theorem dX12_operand_37 : decode cX12_operand 37 = .ok (.if_icmp .eq 9, 3) := by decide +kernel
theorem dX12_operand_40 : decode cX12_operand 40 = .ok (.iload_n 1, 1) := by decide +kernel
theorem dX12_operand_41 : decode cX12_operand 41 = .ok (.bipush 45, 2) := by decide +kernel
theorem dX12_operand_43 : decode cX12_operand 43 = .ok (.if_icmp .ne 44, 3) := by decide +kernel
theorem dX12_operand_46 : decode cX12_operand 46 = .ok (.aload_n 0, 1) := by decide +kernel
theorem dX12_operand_47 : decode cX12_operand 47 = .ok (.invokevirtual 208, 3) := by decide +kernel
theorem dX12_operand_50 : decode cX12_operand 50 = .ok (.ifCond .ne 4, 3) := by decide +kernel
theorem dX12_operand_53 : decode cX12_operand 53 = .ok (.return_, 1) := by decide +kernel
theorem dX12_operand_54 : decode cX12_operand 54 = .ok (.aload_n 0, 1) := by decide +kernel
theorem dX12_operand_55 : decode cX12_operand 55 = .ok (.invokevirtual 212, 3) := by decide +kernel
theorem dX12_operand_58 : decode cX12_operand 58 = .ok (.aload_n 0, 1) := by decide +kernel
theorem dX12_operand_59 : decode cX12_operand 59 = .ok (.dup, 1) := by decide +kernel
theorem dX12_operand_60 : decode cX12_operand 60 = .ok (.getfield 190, 3) := by decide +kernel
theorem dX12_operand_63 : decode cX12_operand 63 = .ok (.iconst 1, 1) := by decide +kernel
theorem dX12_operand_64 : decode cX12_operand 64 = .ok (.isub, 1) := by decide +kernel
theorem dX12_operand_65 : decode cX12_operand 65 = .ok (.putfield 190, 3) := by decide +kernel
theorem dX12_operand_68 : decode cX12_operand 68 = .ok (.aload_n 0, 1) := by decide +kernel
theorem dX12_operand_69 : decode cX12_operand 69 = .ok (.iload_n 1, 1) := by decide +kernel
theorem dX12_operand_70 : decode cX12_operand 70 = .ok (.bipush 33, 2) := by decide +kernel
theorem dX12_operand_72 : decode cX12_operand 72 = .ok (.if_icmp .ne 7, 3) := by decide +kernel
theorem dX12_operand_75 : decode cX12_operand 75 = .ok (.iconst 3, 1) := by decide +kernel
theorem dX12_operand_76 : decode cX12_operand 76 = .ok (.goto 4, 3) := by decide +kernel
theorem dX12_operand_79 : decode cX12_operand 79 = .ok (.iconst 4, 1) := by decide +kernel
theorem dX12_operand_80 : decode cX12_operand 80 = .ok (.iconst 0, 1) := by decide +kernel
theorem dX12_operand_81 : decode cX12_operand 81 = .ok (.invokevirtual 200, 3) := by decide +kernel
theorem dX12_operand_84 : decode cX12_operand 84 = .ok (.goto 70, 3) := by decide +kernel
theorem dX12_operand_87 : decode cX12_operand 87 = .ok (.iload_n 1, 1) := by decide +kernel
theorem dX12_operand_88 : decode cX12_operand 88 = .ok (.bipush 40, 2) := by decide +kernel
theorem dX12_operand_90 : decode cX12_operand 90 = .ok (.if_icmp .ne 60, 3) := by decide +kernel
theorem dX12_operand_93 : decode cX12_operand 93 = .ok (.aload_n 0, 1) := by decide +kernel
theorem dX12_operand_94 : decode cX12_operand 94 = .ok (.invokevirtual 208, 3) := by decide +kernel
theorem dX12_operand_97 : decode cX12_operand 97 = .ok (.ifCond .ne 4, 3) := by decide +kernel
theorem dX12_operand_100 : decode cX12_operand 100 = .ok (.return_, 1) := by decide +kernel
theorem dX12_operand_101 : decode cX12_operand 101 = .ok (.aload_n 0, 1) := by decide +kernel
theorem dX12_operand_102 : decode cX12_operand 102 = .ok (.invokevirtual 215, 3) := by decide +kernel
theorem dX12_operand_105 : decode cX12_operand 105 = .ok (.aload_n 0, 1) := by decide +kernel
theorem dX12_operand_106 : decode cX12_operand 106 = .ok (.getfield 184, 3) := by decide +kernel
theorem dX12_operand_109 : decode cX12_operand 109 = .ok (.ifCond .lt 4, 3) := by decide +kernel
theorem dX12_operand_112 : decode cX12_operand 112 = .ok (.return_, 1) := by decide +kernel
theorem dX12_operand_113 : decode cX12_operand 113 = .ok (.aload_n 0, 1) := by decide +kernel
theorem dX12_operand_114 : decode cX12_operand 114 = .ok (.invokevirtual 196, 3) := by decide +kernel
theorem dX12_operand_117 : decode cX12_operand 117 = .ok (.bipush 41, 2) := by decide +kernel
theorem dX12_operand_119 : decode cX12_operand 119 = .ok (.if_icmp .eq 8, 3) := by decide +kernel
theorem dX12_operand_122 : decode cX12_operand 122 = .ok (.aload_n 0, 1) := by decide +kernel
theorem dX12_operand_123 : decode cX12_operand 123 = .ok (.invokevirtual 193, 3) := by decide +kernel
theorem dX12_operand_126 : decode cX12_operand 126 = .ok (.return_, 1) := by decide +kernel
theorem dX12_operand_127 : decode cX12_operand 127 = .ok (.aload_n 0, 1) := by decide +kernel
theorem dX12_operand_128 : decode cX12_operand 128 = .ok (.dup, 1) := by decide +kernel
theorem dX12_operand_129 : decode cX12_operand 129 = .ok (.getfield 181, 3) := by decide +kernel
theorem dX12_operand_132 : decode cX12_operand 132 = .ok (.iconst 1, 1) := by decide +kernel
theorem dX12_operand_133 : decode cX12_operand 133 = .ok (.iadd, 1) := by decide +kernel
theorem dX12_operand_134 : decode cX12_operand 134 = .ok (.putfield 181, 3) := by decide +kernel
theorem dX12_operand_137 : decode cX12_operand 137 = .ok (.aload_n 0, 1) := by decide +kernel
theorem dX12_operand_138 : decode cX12_operand 138 = .ok (.dup, 1) := by decide +kernel
theorem dX12_operand_139 : decode cX12_operand 139 = .ok (.getfield 190, 3) := by decide +kernel
theorem dX12_operand_142 : decode cX12_operand 142 = .ok (.iconst 1, 1) := by decide +kernel
theorem dX12_operand_143 : decode cX12_operand 143 = .ok (.isub, 1) := by decide +kernel
theorem dX12_operand_144 : decode cX12_operand 144 = .ok (.putfield 190, 3) := by decide +kernel
theorem dX12_operand_147 : decode cX12_operand 147 = .ok (.goto 7, 3) := by decide +kernel
theorem dX12_operand_150 : decode cX12_operand 150 = .ok (.aload_n 0, 1) := by decide +kernel
theorem dX12_operand_151 : decode cX12_operand 151 = .ok (.invokevirtual 218, 3) := by decide +kernel
theorem dX12_operand_154 : decode cX12_operand 154 = .ok (.return_, 1) := by decide +kernel
theorem dX12_product_0 : decode cX12_product 0 = .ok (.aload_n 0, 1) := by decide +kernel
theorem dX12_product_1 : decode cX12_product 1 = .ok (.invokevirtual 212, 3) := by decide +kernel
theorem dX12_product_4 : decode cX12_product 4 = .ok (.aload_n 0, 1) := by decide +kernel
theorem dX12_product_5 : decode cX12_product 5 = .ok (.getfield 184, 3) := by decide +kernel
theorem dX12_product_8 : decode cX12_product 8 = .ok (.ifCond .ge 58, 3) := by decide +kernel
theorem dX12_product_11 : decode cX12_product 11 = .ok (.aload_n 0, 1) := by decide +kernel
theorem dX12_product_12 : decode cX12_product 12 = .ok (.invokevirtual 196, 3) := by decide +kernel
theorem dX12_product_15 : decode cX12_product 15 = .ok (.bipush 42, 2) := by decide +kernel
theorem dX12_product_17 : decode cX12_product 17 = .ok (.if_icmp .eq 21, 3) := by decide +kernel
theorem dX12_product_20 : decode cX12_product 20 = .ok (.aload_n 0, 1) := by decide +kernel
theorem dX12_product_21 : decode cX12_product 21 = .ok (.invokevirtual 196, 3) := by decide +kernel
theorem dX12_product_24 : decode cX12_product 24 = .ok (.bipush 47, 2) := by decide +kernel
theorem dX12_product_26 : decode cX12_product 26 = .ok (.if_icmp .eq 12, 3) := by decide +kernel
theorem dX12_product_29 : decode cX12_product 29 = .ok (.aload_n 0, 1) := by decide +kernel
theorem dX12_product_30 : decode cX12_product 30 = .ok (.invokevirtual 196, 3) := by decide +kernel
theorem dX12_product_33 : decode cX12_product 33 = .ok (.bipush 37, 2) := by decide +kernel
theorem dX12_product_35 : decode cX12_product 35 = .ok (.if_icmp .ne 31, 3) := by decide +kernel
theorem dX12_product_38 : decode cX12_product 38 = .ok (.aload_n 0, 1) := by decide +kernel
theorem dX12_product_39 : decode cX12_product 39 = .ok (.invokevirtual 196, 3) := by decide +kernel
theorem dX12_product_42 : decode cX12_product 42 = .ok (.istore_n 1, 1) := by decide +kernel
theorem dX12_product_43 : decode cX12_product 43 = .ok (.aload_n 0, 1) := by decide +kernel
theorem dX12_product_44 : decode cX12_product 44 = .ok (.dup, 1) := by decide +kernel
theorem dX12_product_45 : decode cX12_product 45 = .ok (.getfield 181, 3) := by decide +kernel
theorem dX12_product_48 : decode cX12_product 48 = .ok (.iconst 1, 1) := by decide +kernel
theorem dX12_product_49 : decode cX12_product 49 = .ok (.iadd, 1) := by decide +kernel
theorem dX12_product_50 : decode cX12_product 50 = .ok (.putfield 181, 3) := by decide +kernel
theorem dX12_product_53 : decode cX12_product 53 = .ok (.aload_n 0, 1) := by decide +kernel
theorem dX12_product_54 : decode cX12_product 54 = .ok (.invokevirtual 212, 3) := by decide +kernel
theorem dX12_product_57 : decode cX12_product 57 = .ok (.aload_n 0, 1) := by decide +kernel
theorem dX12_product_58 : decode cX12_product 58 = .ok (.iload_n 1, 1) := by decide +kernel
theorem dX12_product_59 : decode cX12_product 59 = .ok (.iconst 0, 1) := by decide +kernel
theorem dX12_product_60 : decode cX12_product 60 = .ok (.invokevirtual 200, 3) := by decide +kernel
theorem dX12_product_63 : decode cX12_product 63 = .ok (.goto (-59), 3) := by decide +kernel
theorem dX12_product_66 : decode cX12_product 66 = .ok (.return_, 1) := by decide +kernel
theorem dX12_sum_0 : decode cX12_sum 0 = .ok (.aload_n 0, 1) := by decide +kernel
theorem dX12_sum_1 : decode cX12_sum 1 = .ok (.invokevirtual 221, 3) := by decide +kernel
theorem dX12_sum_4 : decode cX12_sum 4 = .ok (.aload_n 0, 1) := by decide +kernel
theorem dX12_sum_5 : decode cX12_sum 5 = .ok (.getfield 184, 3) := by decide +kernel
theorem dX12_sum_8 : decode cX12_sum 8 = .ok (.ifCond .ge 49, 3) := by decide +kernel
theorem dX12_sum_11 : decode cX12_sum 11 = .ok (.aload_n 0, 1) := by decide +kernel
theorem dX12_sum_12 : decode cX12_sum 12 = .ok (.invokevirtual 196, 3) := by decide +kernel
theorem dX12_sum_15 : decode cX12_sum 15 = .ok (.bipush 43, 2) := by decide +kernel
theorem dX12_sum_17 : decode cX12_sum 17 = .ok (.if_icmp .eq 12, 3) := by decide +kernel
theorem dX12_sum_20 : decode cX12_sum 20 = .ok (.aload_n 0, 1) := by decide +kernel
theorem dX12_sum_21 : decode cX12_sum 21 = .ok (.invokevirtual 196, 3) := by decide +kernel
theorem dX12_sum_24 : decode cX12_sum 24 = .ok (.bipush 45, 2) := by decide +kernel
theorem dX12_sum_26 : decode cX12_sum 26 = .ok (.if_icmp .ne 31, 3) := by decide +kernel
theorem dX12_sum_29 : decode cX12_sum 29 = .ok (.aload_n 0, 1) := by decide +kernel
theorem dX12_sum_30 : decode cX12_sum 30 = .ok (.invokevirtual 196, 3) := by decide +kernel
theorem dX12_sum_33 : decode cX12_sum 33 = .ok (.istore_n 1, 1) := by decide +kernel
theorem dX12_sum_34 : decode cX12_sum 34 = .ok (.aload_n 0, 1) := by decide +kernel
theorem dX12_sum_35 : decode cX12_sum 35 = .ok (.dup, 1) := by decide +kernel
theorem dX12_sum_36 : decode cX12_sum 36 = .ok (.getfield 181, 3) := by decide +kernel
theorem dX12_sum_39 : decode cX12_sum 39 = .ok (.iconst 1, 1) := by decide +kernel
theorem dX12_sum_40 : decode cX12_sum 40 = .ok (.iadd, 1) := by decide +kernel
theorem dX12_sum_41 : decode cX12_sum 41 = .ok (.putfield 181, 3) := by decide +kernel
theorem dX12_sum_44 : decode cX12_sum 44 = .ok (.aload_n 0, 1) := by decide +kernel
theorem dX12_sum_45 : decode cX12_sum 45 = .ok (.invokevirtual 221, 3) := by decide +kernel
theorem dX12_sum_48 : decode cX12_sum 48 = .ok (.aload_n 0, 1) := by decide +kernel
theorem dX12_sum_49 : decode cX12_sum 49 = .ok (.iload_n 1, 1) := by decide +kernel
theorem dX12_sum_50 : decode cX12_sum 50 = .ok (.iconst 0, 1) := by decide +kernel
theorem dX12_sum_51 : decode cX12_sum 51 = .ok (.invokevirtual 200, 3) := by decide +kernel
theorem dX12_sum_54 : decode cX12_sum 54 = .ok (.goto (-50), 3) := by decide +kernel
theorem dX12_sum_57 : decode cX12_sum 57 = .ok (.return_, 1) := by decide +kernel
theorem dX12_compared_0 : decode cX12_compared 0 = .ok (.aload_n 0, 1) := by decide +kernel
theorem dX12_compared_1 : decode cX12_compared 1 = .ok (.invokevirtual 224, 3) := by decide +kernel
theorem dX12_compared_4 : decode cX12_compared 4 = .ok (.aload_n 0, 1) := by decide +kernel
theorem dX12_compared_5 : decode cX12_compared 5 = .ok (.invokevirtual 196, 3) := by decide +kernel
theorem dX12_compared_8 : decode cX12_compared 8 = .ok (.istore_n 1, 1) := by decide +kernel
theorem dX12_compared_9 : decode cX12_compared 9 = .ok (.aload_n 0, 1) := by decide +kernel
theorem dX12_compared_10 : decode cX12_compared 10 = .ok (.getfield 184, 3) := by decide +kernel
theorem dX12_compared_13 : decode cX12_compared 13 = .ok (.ifCond .ge 21, 3) := by decide +kernel
theorem dX12_compared_16 : decode cX12_compared 16 = .ok (.iload_n 1, 1) := by decide +kernel
theorem dX12_compared_17 : decode cX12_compared 17 = .ok (.bipush 60, 2) := by decide +kernel
theorem dX12_compared_19 : decode cX12_compared 19 = .ok (.if_icmp .eq 16, 3) := by decide +kernel
theorem dX12_compared_22 : decode cX12_compared 22 = .ok (.iload_n 1, 1) := by decide +kernel
theorem dX12_compared_23 : decode cX12_compared 23 = .ok (.bipush 61, 2) := by decide +kernel
theorem dX12_compared_25 : decode cX12_compared 25 = .ok (.if_icmp .eq 10, 3) := by decide +kernel
theorem dX12_compared_28 : decode cX12_compared 28 = .ok (.iload_n 1, 1) := by decide +kernel
theorem dX12_compared_29 : decode cX12_compared 29 = .ok (.bipush 62, 2) := by decide +kernel
theorem dX12_compared_31 : decode cX12_compared 31 = .ok (.if_icmp .eq 4, 3) := by decide +kernel
theorem dX12_compared_34 : decode cX12_compared 34 = .ok (.return_, 1) := by decide +kernel
theorem dX12_compared_35 : decode cX12_compared 35 = .ok (.aload_n 0, 1) := by decide +kernel
theorem dX12_compared_36 : decode cX12_compared 36 = .ok (.dup, 1) := by decide +kernel
theorem dX12_compared_37 : decode cX12_compared 37 = .ok (.getfield 181, 3) := by decide +kernel
theorem dX12_compared_40 : decode cX12_compared 40 = .ok (.iconst 1, 1) := by decide +kernel
theorem dX12_compared_41 : decode cX12_compared 41 = .ok (.iadd, 1) := by decide +kernel
theorem dX12_compared_42 : decode cX12_compared 42 = .ok (.putfield 181, 3) := by decide +kernel
theorem dX12_compared_45 : decode cX12_compared 45 = .ok (.aload_n 0, 1) := by decide +kernel
theorem dX12_compared_46 : decode cX12_compared 46 = .ok (.invokevirtual 224, 3) := by decide +kernel
theorem dX12_compared_49 : decode cX12_compared 49 = .ok (.aload_n 0, 1) := by decide +kernel
theorem dX12_compared_50 : decode cX12_compared 50 = .ok (.iload_n 1, 1) := by decide +kernel
theorem dX12_compared_51 : decode cX12_compared 51 = .ok (.iconst 0, 1) := by decide +kernel
theorem dX12_compared_52 : decode cX12_compared 52 = .ok (.invokevirtual 200, 3) := by decide +kernel
theorem dX12_compared_55 : decode cX12_compared 55 = .ok (.return_, 1) := by decide +kernel
theorem dX12_both_0 : decode cX12_both 0 = .ok (.aload_n 0, 1) := by decide +kernel
theorem dX12_both_1 : decode cX12_both 1 = .ok (.invokevirtual 227, 3) := by decide +kernel
theorem dX12_both_4 : decode cX12_both 4 = .ok (.aload_n 0, 1) := by decide +kernel
theorem dX12_both_5 : decode cX12_both 5 = .ok (.getfield 184, 3) := by decide +kernel
theorem dX12_both_8 : decode cX12_both 8 = .ok (.ifCond .ge 36, 3) := by decide +kernel
theorem dX12_both_11 : decode cX12_both 11 = .ok (.aload_n 0, 1) := by decide +kernel
theorem dX12_both_12 : decode cX12_both 12 = .ok (.invokevirtual 196, 3) := by decide +kernel
theorem dX12_both_15 : decode cX12_both 15 = .ok (.bipush 38, 2) := by decide +kernel
theorem dX12_both_17 : decode cX12_both 17 = .ok (.if_icmp .ne 27, 3) := by decide +kernel
theorem dX12_both_20 : decode cX12_both 20 = .ok (.aload_n 0, 1) := by decide +kernel
theorem dX12_both_21 : decode cX12_both 21 = .ok (.dup, 1) := by decide +kernel
theorem dX12_both_22 : decode cX12_both 22 = .ok (.getfield 181, 3) := by decide +kernel
theorem dX12_both_25 : decode cX12_both 25 = .ok (.iconst 1, 1) := by decide +kernel
theorem dX12_both_26 : decode cX12_both 26 = .ok (.iadd, 1) := by decide +kernel
theorem dX12_both_27 : decode cX12_both 27 = .ok (.putfield 181, 3) := by decide +kernel
theorem dX12_both_30 : decode cX12_both 30 = .ok (.aload_n 0, 1) := by decide +kernel
theorem dX12_both_31 : decode cX12_both 31 = .ok (.invokevirtual 227, 3) := by decide +kernel
theorem dX12_both_34 : decode cX12_both 34 = .ok (.aload_n 0, 1) := by decide +kernel
theorem dX12_both_35 : decode cX12_both 35 = .ok (.bipush 38, 2) := by decide +kernel
theorem dX12_both_37 : decode cX12_both 37 = .ok (.iconst 0, 1) := by decide +kernel
theorem dX12_both_38 : decode cX12_both 38 = .ok (.invokevirtual 200, 3) := by decide +kernel
theorem dX12_both_41 : decode cX12_both 41 = .ok (.goto (-37), 3) := by decide +kernel
theorem dX12_both_44 : decode cX12_both 44 = .ok (.return_, 1) := by decide +kernel
theorem dX12_either_0 : decode cX12_either 0 = .ok (.aload_n 0, 1) := by decide +kernel
theorem dX12_either_1 : decode cX12_either 1 = .ok (.invokevirtual 230, 3) := by decide +kernel
theorem dX12_either_4 : decode cX12_either 4 = .ok (.aload_n 0, 1) := by decide +kernel
theorem dX12_either_5 : decode cX12_either 5 = .ok (.getfield 184, 3) := by decide +kernel
theorem dX12_either_8 : decode cX12_either 8 = .ok (.ifCond .ge 36, 3) := by decide +kernel
theorem dX12_either_11 : decode cX12_either 11 = .ok (.aload_n 0, 1) := by decide +kernel
theorem dX12_either_12 : decode cX12_either 12 = .ok (.invokevirtual 196, 3) := by decide +kernel
theorem dX12_either_15 : decode cX12_either 15 = .ok (.bipush 124, 2) := by decide +kernel
theorem dX12_either_17 : decode cX12_either 17 = .ok (.if_icmp .ne 27, 3) := by decide +kernel
theorem dX12_either_20 : decode cX12_either 20 = .ok (.aload_n 0, 1) := by decide +kernel
theorem dX12_either_21 : decode cX12_either 21 = .ok (.dup, 1) := by decide +kernel
theorem dX12_either_22 : decode cX12_either 22 = .ok (.getfield 181, 3) := by decide +kernel
theorem dX12_either_25 : decode cX12_either 25 = .ok (.iconst 1, 1) := by decide +kernel
theorem dX12_either_26 : decode cX12_either 26 = .ok (.iadd, 1) := by decide +kernel
theorem dX12_either_27 : decode cX12_either 27 = .ok (.putfield 181, 3) := by decide +kernel
theorem dX12_either_30 : decode cX12_either 30 = .ok (.aload_n 0, 1) := by decide +kernel
theorem dX12_either_31 : decode cX12_either 31 = .ok (.invokevirtual 230, 3) := by decide +kernel
theorem dX12_either_34 : decode cX12_either 34 = .ok (.aload_n 0, 1) := by decide +kernel
theorem dX12_either_35 : decode cX12_either 35 = .ok (.bipush 124, 2) := by decide +kernel
theorem dX12_either_37 : decode cX12_either 37 = .ok (.iconst 0, 1) := by decide +kernel
theorem dX12_either_38 : decode cX12_either 38 = .ok (.invokevirtual 200, 3) := by decide +kernel
theorem dX12_either_41 : decode cX12_either 41 = .ok (.goto (-37), 3) := by decide +kernel
theorem dX12_either_44 : decode cX12_either 44 = .ok (.return_, 1) := by decide +kernel
theorem dX12_line_0 : decode cX12_line 0 = .ok (.bipush 61, 2) := by decide +kernel
theorem dX12_line_2 : decode cX12_line 2 = .ok (.aload_n 0, 1) := by decide +kernel
theorem dX12_line_3 : decode cX12_line 3 = .ok (.getfield 55, 3) := by decide +kernel
theorem dX12_line_6 : decode cX12_line 6 = .ok (.iconst 1, 1) := by decide +kernel
theorem dX12_line_7 : decode cX12_line 7 = .ok (.iaload, 1) := by decide +kernel
theorem dX12_line_8 : decode cX12_line 8 = .ok (.iadd, 1) := by decide +kernel
theorem dX12_line_9 : decode cX12_line 9 = .ok (.istore_n 1, 1) := by decide +kernel
theorem dX12_line_10 : decode cX12_line 10 = .ok (.aload_n 0, 1) := by decide +kernel
theorem dX12_line_11 : decode cX12_line 11 = .ok (.getfield 58, 3) := by decide +kernel
theorem dX12_line_14 : decode cX12_line 14 = .ok (.iload_n 1, 1) := by decide +kernel
theorem dX12_line_15 : decode cX12_line 15 = .ok (.aload_n 0, 1) := by decide +kernel
theorem dX12_line_16 : decode cX12_line 16 = .ok (.getfield 187, 3) := by decide +kernel
theorem dX12_line_19 : decode cX12_line 19 = .ok (.i2s, 1) := by decide +kernel
theorem dX12_line_20 : decode cX12_line 20 = .ok (.sastore, 1) := by decide +kernel
theorem dX12_line_21 : decode cX12_line 21 = .ok (.aload_n 0, 1) := by decide +kernel
theorem dX12_line_22 : decode cX12_line 22 = .ok (.invokevirtual 215, 3) := by decide +kernel
theorem dX12_line_25 : decode cX12_line 25 = .ok (.aload_n 0, 1) := by decide +kernel
theorem dX12_line_26 : decode cX12_line 26 = .ok (.getfield 184, 3) := by decide +kernel
theorem dX12_line_29 : decode cX12_line 29 = .ok (.ifCond .ge 37, 3) := by decide +kernel
theorem dX12_line_32 : decode cX12_line 32 = .ok (.aload_n 0, 1) := by decide +kernel
theorem dX12_line_33 : decode cX12_line 33 = .ok (.invokevirtual 196, 3) := by decide +kernel
theorem dX12_line_36 : decode cX12_line 36 = .ok (.bipush 63, 2) := by decide +kernel
theorem dX12_line_38 : decode cX12_line 38 = .ok (.if_icmp .ne 28, 3) := by decide +kernel
theorem dX12_line_41 : decode cX12_line 41 = .ok (.aload_n 0, 1) := by decide +kernel
theorem dX12_line_42 : decode cX12_line 42 = .ok (.dup, 1) := by decide +kernel
theorem dX12_line_43 : decode cX12_line 43 = .ok (.getfield 181, 3) := by decide +kernel
theorem dX12_line_46 : decode cX12_line 46 = .ok (.iconst 1, 1) := by decide +kernel
theorem dX12_line_47 : decode cX12_line 47 = .ok (.iadd, 1) := by decide +kernel
theorem dX12_line_48 : decode cX12_line 48 = .ok (.putfield 181, 3) := by decide +kernel
theorem dX12_line_51 : decode cX12_line 51 = .ok (.aload_n 0, 1) := by decide +kernel
theorem dX12_line_52 : decode cX12_line 52 = .ok (.getfield 58, 3) := by decide +kernel
theorem dX12_line_55 : decode cX12_line 55 = .ok (.iload_n 1, 1) := by decide +kernel
theorem dX12_line_56 : decode cX12_line 56 = .ok (.aload_n 0, 1) := by decide +kernel
theorem dX12_line_57 : decode cX12_line 57 = .ok (.getfield 187, 3) := by decide +kernel
theorem dX12_line_60 : decode cX12_line 60 = .ok (.i2s, 1) := by decide +kernel
theorem dX12_line_61 : decode cX12_line 61 = .ok (.sastore, 1) := by decide +kernel
theorem dX12_line_62 : decode cX12_line 62 = .ok (.aload_n 0, 1) := by decide +kernel
theorem dX12_line_63 : decode cX12_line 63 = .ok (.invokevirtual 215, 3) := by decide +kernel
theorem dX12_line_66 : decode cX12_line 66 = .ok (.aload_n 0, 1) := by decide +kernel
theorem dX12_line_67 : decode cX12_line 67 = .ok (.getfield 62, 3) := by decide +kernel
theorem dX12_line_70 : decode cX12_line 70 = .ok (.iload_n 1, 1) := by decide +kernel
theorem dX12_line_71 : decode cX12_line 71 = .ok (.aload_n 0, 1) := by decide +kernel
theorem dX12_line_72 : decode cX12_line 72 = .ok (.getfield 187, 3) := by decide +kernel
theorem dX12_line_75 : decode cX12_line 75 = .ok (.i2s, 1) := by decide +kernel
theorem dX12_line_76 : decode cX12_line 76 = .ok (.sastore, 1) := by decide +kernel
theorem dX12_line_77 : decode cX12_line 77 = .ok (.aload_n 0, 1) := by decide +kernel
theorem dX12_line_78 : decode cX12_line 78 = .ok (.getfield 55, 3) := by decide +kernel
theorem dX12_line_81 : decode cX12_line 81 = .ok (.iconst 1, 1) := by decide +kernel
theorem dX12_line_82 : decode cX12_line 82 = .ok (.dup2, 1) := by decide +kernel
theorem dX12_line_83 : decode cX12_line 83 = .ok (.iaload, 1) := by decide +kernel
theorem dX12_line_84 : decode cX12_line 84 = .ok (.iconst 1, 1) := by decide +kernel
theorem dX12_line_85 : decode cX12_line 85 = .ok (.iadd, 1) := by decide +kernel
theorem dX12_line_86 : decode cX12_line 86 = .ok (.iastore, 1) := by decide +kernel
theorem dX12_line_87 : decode cX12_line 87 = .ok (.return_, 1) := by decide +kernel
theorem dX12_readText_0 : decode cX12_readText 0 = .ok (.aload_n 0, 1) := by decide +kernel
theorem dX12_readText_1 : decode cX12_readText 1 = .ok (.iconst 0, 1) := by decide +kernel
theorem dX12_readText_2 : decode cX12_readText 2 = .ok (.putfield 181, 3) := by decide +kernel
theorem dX12_readText_5 : decode cX12_readText 5 = .ok (.aload_n 0, 1) := by decide +kernel
theorem dX12_readText_6 : decode cX12_readText 6 = .ok (.iconst (-1), 1) := by decide +kernel
theorem dX12_readText_7 : decode cX12_readText 7 = .ok (.putfield 184, 3) := by decide +kernel
theorem dX12_readText_10 : decode cX12_readText 10 = .ok (.aload_n 0, 1) := by decide +kernel
theorem dX12_readText_11 : decode cX12_readText 11 = .ok (.iconst 0, 1) := by decide +kernel
theorem dX12_readText_12 : decode cX12_readText 12 = .ok (.putfield 190, 3) := by decide +kernel
theorem dX12_readText_15 : decode cX12_readText 15 = .ok (.aload_n 0, 1) := by decide +kernel
theorem dX12_readText_16 : decode cX12_readText 16 = .ok (.iconst 0, 1) := by decide +kernel
theorem dX12_readText_17 : decode cX12_readText 17 = .ok (.putfield 187, 3) := by decide +kernel
theorem dX12_readText_20 : decode cX12_readText 20 = .ok (.aload_n 0, 1) := by decide +kernel
theorem dX12_readText_21 : decode cX12_readText 21 = .ok (.getfield 55, 3) := by decide +kernel
theorem dX12_readText_24 : decode cX12_readText 24 = .ok (.iconst 1, 1) := by decide +kernel
theorem dX12_readText_25 : decode cX12_readText 25 = .ok (.iconst 0, 1) := by decide +kernel
theorem dX12_readText_26 : decode cX12_readText 26 = .ok (.iastore, 1) := by decide +kernel
theorem dX12_readText_27 : decode cX12_readText 27 = .ok (.aload_n 0, 1) := by decide +kernel
theorem dX12_readText_28 : decode cX12_readText 28 = .ok (.invokevirtual 233, 3) := by decide +kernel
theorem dX12_readText_31 : decode cX12_readText 31 = .ok (.aload_n 0, 1) := by decide +kernel
theorem dX12_readText_32 : decode cX12_readText 32 = .ok (.getfield 184, 3) := by decide +kernel
theorem dX12_readText_35 : decode cX12_readText 35 = .ok (.ifCond .ge 29, 3) := by decide +kernel
theorem dX12_readText_38 : decode cX12_readText 38 = .ok (.aload_n 0, 1) := by decide +kernel
theorem dX12_readText_39 : decode cX12_readText 39 = .ok (.invokevirtual 196, 3) := by decide +kernel
theorem dX12_readText_42 : decode cX12_readText 42 = .ok (.bipush 59, 2) := by decide +kernel
theorem dX12_readText_44 : decode cX12_readText 44 = .ok (.if_icmp .ne 20, 3) := by decide +kernel
theorem dX12_readText_47 : decode cX12_readText 47 = .ok (.aload_n 0, 1) := by decide +kernel
theorem dX12_readText_48 : decode cX12_readText 48 = .ok (.dup, 1) := by decide +kernel
theorem dX12_readText_49 : decode cX12_readText 49 = .ok (.getfield 181, 3) := by decide +kernel
theorem dX12_readText_52 : decode cX12_readText 52 = .ok (.iconst 1, 1) := by decide +kernel
theorem dX12_readText_53 : decode cX12_readText 53 = .ok (.iadd, 1) := by decide +kernel
theorem dX12_readText_54 : decode cX12_readText 54 = .ok (.putfield 181, 3) := by decide +kernel
theorem dX12_readText_57 : decode cX12_readText 57 = .ok (.aload_n 0, 1) := by decide +kernel
theorem dX12_readText_58 : decode cX12_readText 58 = .ok (.invokevirtual 233, 3) := by decide +kernel
theorem dX12_readText_61 : decode cX12_readText 61 = .ok (.goto (-30), 3) := by decide +kernel
theorem dX12_readText_64 : decode cX12_readText 64 = .ok (.aload_n 0, 1) := by decide +kernel
theorem dX12_readText_65 : decode cX12_readText 65 = .ok (.getfield 184, 3) := by decide +kernel
theorem dX12_readText_68 : decode cX12_readText 68 = .ok (.ifCond .ge 18, 3) := by decide +kernel
theorem dX12_readText_71 : decode cX12_readText 71 = .ok (.aload_n 0, 1) := by decide +kernel
theorem dX12_readText_72 : decode cX12_readText 72 = .ok (.getfield 181, 3) := by decide +kernel
theorem dX12_readText_75 : decode cX12_readText 75 = .ok (.aload_n 0, 1) := by decide +kernel
theorem dX12_readText_76 : decode cX12_readText 76 = .ok (.getfield 178, 3) := by decide +kernel
theorem dX12_readText_79 : decode cX12_readText 79 = .ok (.if_icmp .ge 7, 3) := by decide +kernel
theorem dX12_readText_82 : decode cX12_readText 82 = .ok (.aload_n 0, 1) := by decide +kernel
theorem dX12_readText_83 : decode cX12_readText 83 = .ok (.invokevirtual 193, 3) := by decide +kernel
theorem dX12_readText_86 : decode cX12_readText 86 = .ok (.aload_n 0, 1) := by decide +kernel
theorem dX12_readText_87 : decode cX12_readText 87 = .ok (.iconst 0, 1) := by decide +kernel
theorem dX12_readText_88 : decode cX12_readText 88 = .ok (.putfield 178, 3) := by decide +kernel
theorem dX12_readText_91 : decode cX12_readText 91 = .ok (.aload_n 0, 1) := by decide +kernel
theorem dX12_readText_92 : decode cX12_readText 92 = .ok (.getfield 184, 3) := by decide +kernel
theorem dX12_readText_95 : decode cX12_readText 95 = .ok (.ifCond .lt 8, 3) := by decide +kernel
theorem dX12_readText_98 : decode cX12_readText 98 = .ok (.aload_n 0, 1) := by decide +kernel
theorem dX12_readText_99 : decode cX12_readText 99 = .ok (.getfield 184, 3) := by decide +kernel
theorem dX12_readText_102 : decode cX12_readText 102 = .ok (.ireturn, 1) := by decide +kernel
theorem dX12_readText_103 : decode cX12_readText 103 = .ok (.iconst 0, 1) := by decide +kernel
theorem dX12_readText_104 : decode cX12_readText 104 = .ok (.istore_n 2, 1) := by decide +kernel
theorem dX12_readText_105 : decode cX12_readText 105 = .ok (.iload_n 2, 1) := by decide +kernel
theorem dX12_readText_106 : decode cX12_readText 106 = .ok (.aload_n 0, 1) := by decide +kernel
theorem dX12_readText_107 : decode cX12_readText 107 = .ok (.getfield 187, 3) := by decide +kernel
theorem dX12_readText_110 : decode cX12_readText 110 = .ok (.if_icmp .ge 53, 3) := by decide +kernel
theorem dX12_readText_113 : decode cX12_readText 113 = .ok (.aload_n 0, 1) := by decide +kernel
theorem dX12_readText_114 : decode cX12_readText 114 = .ok (.getfield 49, 3) := by decide +kernel
theorem dX12_readText_117 : decode cX12_readText 117 = .ok (.sipush 130, 3) := by decide +kernel
theorem dX12_readText_120 : decode cX12_readText 120 = .ok (.iload_n 1, 1) := by decide +kernel
theorem dX12_readText_121 : decode cX12_readText 121 = .ok (.imul, 1) := by decide +kernel
theorem dX12_readText_122 : decode cX12_readText 122 = .ok (.iload_n 2, 1) := by decide +kernel
theorem dX12_readText_123 : decode cX12_readText 123 = .ok (.iadd, 1) := by decide +kernel
theorem dX12_readText_124 : decode cX12_readText 124 = .ok (.aload_n 0, 1) := by decide +kernel
theorem dX12_readText_125 : decode cX12_readText 125 = .ok (.getfield 49, 3) := by decide +kernel
theorem dX12_readText_128 : decode cX12_readText 128 = .ok (.sipush 130, 3) := by decide +kernel
theorem dX12_readText_131 : decode cX12_readText 131 = .ok (.iload_n 2, 1) := by decide +kernel
theorem dX12_readText_132 : decode cX12_readText 132 = .ok (.iadd, 1) := by decide +kernel
theorem dX12_readText_133 : decode cX12_readText 133 = .ok (.baload, 1) := by decide +kernel
theorem dX12_readText_134 : decode cX12_readText 134 = .ok (.bastore, 1) := by decide +kernel
theorem dX12_readText_135 : decode cX12_readText 135 = .ok (.aload_n 0, 1) := by decide +kernel
theorem dX12_readText_136 : decode cX12_readText 136 = .ok (.getfield 52, 3) := by decide +kernel
theorem dX12_readText_139 : decode cX12_readText 139 = .ok (.sipush 130, 3) := by decide +kernel
theorem dX12_readText_142 : decode cX12_readText 142 = .ok (.iload_n 1, 1) := by decide +kernel
theorem dX12_readText_143 : decode cX12_readText 143 = .ok (.imul, 1) := by decide +kernel
theorem dX12_readText_144 : decode cX12_readText 144 = .ok (.iload_n 2, 1) := by decide +kernel
theorem dX12_readText_145 : decode cX12_readText 145 = .ok (.iadd, 1) := by decide +kernel
theorem dX12_readText_146 : decode cX12_readText 146 = .ok (.aload_n 0, 1) := by decide +kernel
theorem dX12_readText_147 : decode cX12_readText 147 = .ok (.getfield 52, 3) := by decide +kernel
theorem dX12_readText_150 : decode cX12_readText 150 = .ok (.sipush 130, 3) := by decide +kernel
theorem dX12_readText_153 : decode cX12_readText 153 = .ok (.iload_n 2, 1) := by decide +kernel
theorem dX12_readText_154 : decode cX12_readText 154 = .ok (.iadd, 1) := by decide +kernel
theorem dX12_readText_155 : decode cX12_readText 155 = .ok (.iaload, 1) := by decide +kernel
theorem dX12_readText_156 : decode cX12_readText 156 = .ok (.iastore, 1) := by decide +kernel
theorem dX12_readText_157 : decode cX12_readText 157 = .ok (.iinc 2 1, 3) := by decide +kernel
theorem dX12_readText_160 : decode cX12_readText 160 = .ok (.goto (-55), 3) := by decide +kernel
theorem dX12_readText_163 : decode cX12_readText 163 = .ok (.aload_n 0, 1) := by decide +kernel
theorem dX12_readText_164 : decode cX12_readText 164 = .ok (.getfield 55, 3) := by decide +kernel
theorem dX12_readText_167 : decode cX12_readText 167 = .ok (.iload_n 1, 1) := by decide +kernel
theorem dX12_readText_168 : decode cX12_readText 168 = .ok (.aload_n 0, 1) := by decide +kernel
theorem dX12_readText_169 : decode cX12_readText 169 = .ok (.getfield 55, 3) := by decide +kernel
theorem dX12_readText_172 : decode cX12_readText 172 = .ok (.iconst 1, 1) := by decide +kernel
theorem dX12_readText_173 : decode cX12_readText 173 = .ok (.iaload, 1) := by decide +kernel
theorem dX12_readText_174 : decode cX12_readText 174 = .ok (.iastore, 1) := by decide +kernel
theorem dX12_readText_175 : decode cX12_readText 175 = .ok (.iconst 0, 1) := by decide +kernel
theorem dX12_readText_176 : decode cX12_readText 176 = .ok (.istore_n 2, 1) := by decide +kernel
theorem dX12_readText_177 : decode cX12_readText 177 = .ok (.iload_n 2, 1) := by decide +kernel
theorem dX12_readText_178 : decode cX12_readText 178 = .ok (.aload_n 0, 1) := by decide +kernel
theorem dX12_readText_179 : decode cX12_readText 179 = .ok (.getfield 55, 3) := by decide +kernel
theorem dX12_readText_182 : decode cX12_readText 182 = .ok (.iload_n 1, 1) := by decide +kernel
theorem dX12_readText_183 : decode cX12_readText 183 = .ok (.iaload, 1) := by decide +kernel
theorem dX12_readText_184 : decode cX12_readText 184 = .ok (.if_icmp .ge 49, 3) := by decide +kernel
theorem dX12_readText_187 : decode cX12_readText 187 = .ok (.aload_n 0, 1) := by decide +kernel
theorem dX12_readText_188 : decode cX12_readText 188 = .ok (.getfield 58, 3) := by decide +kernel
theorem dX12_readText_191 : decode cX12_readText 191 = .ok (.bipush 61, 2) := by decide +kernel
theorem dX12_readText_193 : decode cX12_readText 193 = .ok (.iload_n 1, 1) := by decide +kernel
theorem dX12_readText_194 : decode cX12_readText 194 = .ok (.imul, 1) := by decide +kernel
theorem dX12_readText_195 : decode cX12_readText 195 = .ok (.iload_n 2, 1) := by decide +kernel
theorem dX12_readText_196 : decode cX12_readText 196 = .ok (.iadd, 1) := by decide +kernel
theorem dX12_readText_197 : decode cX12_readText 197 = .ok (.aload_n 0, 1) := by decide +kernel
theorem dX12_readText_198 : decode cX12_readText 198 = .ok (.getfield 58, 3) := by decide +kernel
theorem dX12_readText_201 : decode cX12_readText 201 = .ok (.bipush 61, 2) := by decide +kernel
theorem dX12_readText_203 : decode cX12_readText 203 = .ok (.iload_n 2, 1) := by decide +kernel
theorem dX12_readText_204 : decode cX12_readText 204 = .ok (.iadd, 1) := by decide +kernel
theorem dX12_readText_205 : decode cX12_readText 205 = .ok (.saload, 1) := by decide +kernel
theorem dX12_readText_206 : decode cX12_readText 206 = .ok (.sastore, 1) := by decide +kernel
theorem dX12_readText_207 : decode cX12_readText 207 = .ok (.aload_n 0, 1) := by decide +kernel
theorem dX12_readText_208 : decode cX12_readText 208 = .ok (.getfield 62, 3) := by decide +kernel
theorem dX12_readText_211 : decode cX12_readText 211 = .ok (.bipush 61, 2) := by decide +kernel
theorem dX12_readText_213 : decode cX12_readText 213 = .ok (.iload_n 1, 1) := by decide +kernel
theorem dX12_readText_214 : decode cX12_readText 214 = .ok (.imul, 1) := by decide +kernel
theorem dX12_readText_215 : decode cX12_readText 215 = .ok (.iload_n 2, 1) := by decide +kernel
theorem dX12_readText_216 : decode cX12_readText 216 = .ok (.iadd, 1) := by decide +kernel
theorem dX12_readText_217 : decode cX12_readText 217 = .ok (.aload_n 0, 1) := by decide +kernel
theorem dX12_readText_218 : decode cX12_readText 218 = .ok (.getfield 62, 3) := by decide +kernel
theorem dX12_readText_221 : decode cX12_readText 221 = .ok (.bipush 61, 2) := by decide +kernel
theorem dX12_readText_223 : decode cX12_readText 223 = .ok (.iload_n 2, 1) := by decide +kernel
theorem dX12_readText_224 : decode cX12_readText 224 = .ok (.iadd, 1) := by decide +kernel
theorem dX12_readText_225 : decode cX12_readText 225 = .ok (.saload, 1) := by decide +kernel
theorem dX12_readText_226 : decode cX12_readText 226 = .ok (.sastore, 1) := by decide +kernel
theorem dX12_readText_227 : decode cX12_readText 227 = .ok (.iinc 2 1, 3) := by decide +kernel
theorem dX12_readText_230 : decode cX12_readText 230 = .ok (.goto (-53), 3) := by decide +kernel
theorem dX12_readText_233 : decode cX12_readText 233 = .ok (.iconst (-1), 1) := by decide +kernel
theorem dX12_readText_234 : decode cX12_readText 234 = .ok (.ireturn, 1) := by decide +kernel
theorem dX12_twoOf_0 : decode cX12_twoOf 0 = .ok (.iload_n 0, 1) := by decide +kernel
theorem dX12_twoOf_1 : decode cX12_twoOf 1 = .ok (.tableswitch 217 37 62 #[153, 203, 217, 217, 217, 127, 119, 217, 123, 217, 131, 217, 217, 217, 217, 217, 217, 217, 217, 217, 217, 217, 217, 170, 181, 192], 119) := by decide +kernel
theorem dX12_twoOf_120 : decode cX12_twoOf 120 = .ok (.iload_n 1, 1) := by decide +kernel
theorem dX12_twoOf_121 : decode cX12_twoOf 121 = .ok (.iload_n 2, 1) := by decide +kernel
theorem dX12_twoOf_122 : decode cX12_twoOf 122 = .ok (.iadd, 1) := by decide +kernel
theorem dX12_twoOf_123 : decode cX12_twoOf 123 = .ok (.ireturn, 1) := by decide +kernel
theorem dX12_twoOf_124 : decode cX12_twoOf 124 = .ok (.iload_n 1, 1) := by decide +kernel
theorem dX12_twoOf_125 : decode cX12_twoOf 125 = .ok (.iload_n 2, 1) := by decide +kernel
theorem dX12_twoOf_126 : decode cX12_twoOf 126 = .ok (.isub, 1) := by decide +kernel
theorem dX12_twoOf_127 : decode cX12_twoOf 127 = .ok (.ireturn, 1) := by decide +kernel
theorem dX12_twoOf_128 : decode cX12_twoOf 128 = .ok (.iload_n 1, 1) := by decide +kernel
theorem dX12_twoOf_129 : decode cX12_twoOf 129 = .ok (.iload_n 2, 1) := by decide +kernel
theorem dX12_twoOf_130 : decode cX12_twoOf 130 = .ok (.imul, 1) := by decide +kernel
theorem dX12_twoOf_131 : decode cX12_twoOf 131 = .ok (.ireturn, 1) := by decide +kernel
theorem dX12_twoOf_132 : decode cX12_twoOf 132 = .ok (.iload_n 2, 1) := by decide +kernel
theorem dX12_twoOf_133 : decode cX12_twoOf 133 = .ok (.ifCond .ne 7, 3) := by decide +kernel
theorem dX12_twoOf_136 : decode cX12_twoOf 136 = .ok (.iconst 0, 1) := by decide +kernel
theorem dX12_twoOf_137 : decode cX12_twoOf 137 = .ok (.goto 16, 3) := by decide +kernel
theorem dX12_twoOf_140 : decode cX12_twoOf 140 = .ok (.iload_n 2, 1) := by decide +kernel
theorem dX12_twoOf_141 : decode cX12_twoOf 141 = .ok (.iconst (-1), 1) := by decide +kernel
theorem dX12_twoOf_142 : decode cX12_twoOf 142 = .ok (.if_icmp .ne 8, 3) := by decide +kernel
theorem dX12_twoOf_145 : decode cX12_twoOf 145 = .ok (.iload_n 1, 1) := by decide +kernel
theorem dX12_twoOf_146 : decode cX12_twoOf 146 = .ok (.ineg, 1) := by decide +kernel
theorem dX12_twoOf_147 : decode cX12_twoOf 147 = .ok (.goto 6, 3) := by decide +kernel
theorem dX12_twoOf_150 : decode cX12_twoOf 150 = .ok (.iload_n 1, 1) := by decide +kernel
theorem dX12_twoOf_151 : decode cX12_twoOf 151 = .ok (.iload_n 2, 1) := by decide +kernel
theorem dX12_twoOf_152 : decode cX12_twoOf 152 = .ok (.idiv, 1) := by decide +kernel
theorem dX12_twoOf_153 : decode cX12_twoOf 153 = .ok (.ireturn, 1) := by decide +kernel
theorem dX12_twoOf_154 : decode cX12_twoOf 154 = .ok (.iload_n 2, 1) := by decide +kernel
theorem dX12_twoOf_155 : decode cX12_twoOf 155 = .ok (.ifCond .eq 8, 3) := by decide +kernel
theorem dX12_twoOf_158 : decode cX12_twoOf 158 = .ok (.iload_n 2, 1) := by decide +kernel
theorem dX12_twoOf_159 : decode cX12_twoOf 159 = .ok (.iconst (-1), 1) := by decide +kernel
theorem dX12_twoOf_160 : decode cX12_twoOf 160 = .ok (.if_icmp .ne 7, 3) := by decide +kernel
theorem dX12_twoOf_163 : decode cX12_twoOf 163 = .ok (.iconst 0, 1) := by decide +kernel
theorem dX12_twoOf_164 : decode cX12_twoOf 164 = .ok (.goto 6, 3) := by decide +kernel
theorem dX12_twoOf_167 : decode cX12_twoOf 167 = .ok (.iload_n 1, 1) := by decide +kernel
theorem dX12_twoOf_168 : decode cX12_twoOf 168 = .ok (.iload_n 2, 1) := by decide +kernel
theorem dX12_twoOf_169 : decode cX12_twoOf 169 = .ok (.irem, 1) := by decide +kernel
theorem dX12_twoOf_170 : decode cX12_twoOf 170 = .ok (.ireturn, 1) := by decide +kernel
theorem dX12_twoOf_171 : decode cX12_twoOf 171 = .ok (.iload_n 1, 1) := by decide +kernel
theorem dX12_twoOf_172 : decode cX12_twoOf 172 = .ok (.iload_n 2, 1) := by decide +kernel
theorem dX12_twoOf_173 : decode cX12_twoOf 173 = .ok (.if_icmp .ge 7, 3) := by decide +kernel
theorem dX12_twoOf_176 : decode cX12_twoOf 176 = .ok (.iconst 1, 1) := by decide +kernel
theorem dX12_twoOf_177 : decode cX12_twoOf 177 = .ok (.goto 4, 3) := by decide +kernel
theorem dX12_twoOf_180 : decode cX12_twoOf 180 = .ok (.iconst 0, 1) := by decide +kernel
theorem dX12_twoOf_181 : decode cX12_twoOf 181 = .ok (.ireturn, 1) := by decide +kernel
theorem dX12_twoOf_182 : decode cX12_twoOf 182 = .ok (.iload_n 1, 1) := by decide +kernel
theorem dX12_twoOf_183 : decode cX12_twoOf 183 = .ok (.iload_n 2, 1) := by decide +kernel
theorem dX12_twoOf_184 : decode cX12_twoOf 184 = .ok (.if_icmp .ne 7, 3) := by decide +kernel
theorem dX12_twoOf_187 : decode cX12_twoOf 187 = .ok (.iconst 1, 1) := by decide +kernel
theorem dX12_twoOf_188 : decode cX12_twoOf 188 = .ok (.goto 4, 3) := by decide +kernel
theorem dX12_twoOf_191 : decode cX12_twoOf 191 = .ok (.iconst 0, 1) := by decide +kernel
theorem dX12_twoOf_192 : decode cX12_twoOf 192 = .ok (.ireturn, 1) := by decide +kernel
theorem dX12_twoOf_193 : decode cX12_twoOf 193 = .ok (.iload_n 1, 1) := by decide +kernel
theorem dX12_twoOf_194 : decode cX12_twoOf 194 = .ok (.iload_n 2, 1) := by decide +kernel
theorem dX12_twoOf_195 : decode cX12_twoOf 195 = .ok (.if_icmp .le 7, 3) := by decide +kernel
theorem dX12_twoOf_198 : decode cX12_twoOf 198 = .ok (.iconst 1, 1) := by decide +kernel
theorem dX12_twoOf_199 : decode cX12_twoOf 199 = .ok (.goto 4, 3) := by decide +kernel
theorem dX12_twoOf_202 : decode cX12_twoOf 202 = .ok (.iconst 0, 1) := by decide +kernel
theorem dX12_twoOf_203 : decode cX12_twoOf 203 = .ok (.ireturn, 1) := by decide +kernel
theorem dX12_twoOf_204 : decode cX12_twoOf 204 = .ok (.iload_n 1, 1) := by decide +kernel
theorem dX12_twoOf_205 : decode cX12_twoOf 205 = .ok (.ifCond .eq 11, 3) := by decide +kernel
theorem dX12_twoOf_208 : decode cX12_twoOf 208 = .ok (.iload_n 2, 1) := by decide +kernel
theorem dX12_twoOf_209 : decode cX12_twoOf 209 = .ok (.ifCond .eq 7, 3) := by decide +kernel
theorem dX12_twoOf_212 : decode cX12_twoOf 212 = .ok (.iconst 1, 1) := by decide +kernel
theorem dX12_twoOf_213 : decode cX12_twoOf 213 = .ok (.goto 4, 3) := by decide +kernel
theorem dX12_twoOf_216 : decode cX12_twoOf 216 = .ok (.iconst 0, 1) := by decide +kernel
theorem dX12_twoOf_217 : decode cX12_twoOf 217 = .ok (.ireturn, 1) := by decide +kernel
theorem dX12_twoOf_218 : decode cX12_twoOf 218 = .ok (.iload_n 1, 1) := by decide +kernel
theorem dX12_twoOf_219 : decode cX12_twoOf 219 = .ok (.ifCond .ne 7, 3) := by decide +kernel
theorem dX12_twoOf_222 : decode cX12_twoOf 222 = .ok (.iload_n 2, 1) := by decide +kernel
theorem dX12_twoOf_223 : decode cX12_twoOf 223 = .ok (.ifCond .eq 7, 3) := by decide +kernel
theorem dX12_twoOf_226 : decode cX12_twoOf 226 = .ok (.iconst 1, 1) := by decide +kernel
theorem dX12_twoOf_227 : decode cX12_twoOf 227 = .ok (.goto 4, 3) := by decide +kernel
theorem dX12_twoOf_230 : decode cX12_twoOf 230 = .ok (.iconst 0, 1) := by decide +kernel
theorem dX12_twoOf_231 : decode cX12_twoOf 231 = .ok (.ireturn, 1) := by decide +kernel
theorem dX12_worked_0 : decode cX12_worked 0 = .ok (.iconst 0, 1) := by decide +kernel
theorem dX12_worked_1 : decode cX12_worked 1 = .ok (.istore 4, 2) := by decide +kernel
theorem dX12_worked_3 : decode cX12_worked 3 = .ok (.sipush 130, 3) := by decide +kernel
theorem dX12_worked_6 : decode cX12_worked 6 = .ok (.iload_n 1, 1) := by decide +kernel
theorem dX12_worked_7 : decode cX12_worked 7 = .ok (.imul, 1) := by decide +kernel
theorem dX12_worked_8 : decode cX12_worked 8 = .ok (.iload_n 2, 1) := by decide +kernel
theorem dX12_worked_9 : decode cX12_worked 9 = .ok (.iadd, 1) := by decide +kernel
theorem dX12_worked_10 : decode cX12_worked 10 = .ok (.istore 5, 2) := by decide +kernel
theorem dX12_worked_12 : decode cX12_worked 12 = .ok (.iload 5, 2) := by decide +kernel
theorem dX12_worked_14 : decode cX12_worked 14 = .ok (.sipush 130, 3) := by decide +kernel
theorem dX12_worked_17 : decode cX12_worked 17 = .ok (.iload_n 1, 1) := by decide +kernel
theorem dX12_worked_18 : decode cX12_worked 18 = .ok (.imul, 1) := by decide +kernel
theorem dX12_worked_19 : decode cX12_worked 19 = .ok (.iload_n 3, 1) := by decide +kernel
theorem dX12_worked_20 : decode cX12_worked 20 = .ok (.iadd, 1) := by decide +kernel
theorem dX12_worked_21 : decode cX12_worked 21 = .ok (.if_icmp .ge 167, 3) := by decide +kernel
theorem dX12_worked_24 : decode cX12_worked 24 = .ok (.aload_n 0, 1) := by decide +kernel
theorem dX12_worked_25 : decode cX12_worked 25 = .ok (.getfield 49, 3) := by decide +kernel
theorem dX12_worked_28 : decode cX12_worked 28 = .ok (.iload 5, 2) := by decide +kernel
theorem dX12_worked_30 : decode cX12_worked 30 = .ok (.baload, 1) := by decide +kernel
theorem dX12_worked_31 : decode cX12_worked 31 = .ok (.istore 6, 2) := by decide +kernel
theorem dX12_worked_33 : decode cX12_worked 33 = .ok (.iload 6, 2) := by decide +kernel
theorem dX12_worked_35 : decode cX12_worked 35 = .ok (.iconst 1, 1) := by decide +kernel
theorem dX12_worked_36 : decode cX12_worked 36 = .ok (.if_icmp .eq 9, 3) := by decide +kernel
theorem dX12_worked_39 : decode cX12_worked 39 = .ok (.iload 6, 2) := by decide +kernel
theorem dX12_worked_41 : decode cX12_worked 41 = .ok (.iconst 2, 1) := by decide +kernel
theorem dX12_worked_42 : decode cX12_worked 42 = .ok (.if_icmp .ne 44, 3) := by decide +kernel
theorem dX12_worked_45 : decode cX12_worked 45 = .ok (.aload_n 0, 1) := by decide +kernel
theorem dX12_worked_46 : decode cX12_worked 46 = .ok (.getfield 68, 3) := by decide +kernel
theorem dX12_worked_49 : decode cX12_worked 49 = .ok (.iload 4, 2) := by decide +kernel
theorem dX12_worked_51 : decode cX12_worked 51 = .ok (.iload 6, 2) := by decide +kernel
theorem dX12_worked_53 : decode cX12_worked 53 = .ok (.iconst 1, 1) := by decide +kernel
theorem dX12_worked_54 : decode cX12_worked 54 = .ok (.if_icmp .ne 13, 3) := by decide +kernel
theorem dX12_worked_57 : decode cX12_worked 57 = .ok (.aload_n 0, 1) := by decide +kernel
theorem dX12_worked_58 : decode cX12_worked 58 = .ok (.getfield 52, 3) := by decide +kernel
theorem dX12_worked_61 : decode cX12_worked 61 = .ok (.iload 5, 2) := by decide +kernel
theorem dX12_worked_63 : decode cX12_worked 63 = .ok (.iaload, 1) := by decide +kernel
theorem dX12_worked_64 : decode cX12_worked 64 = .ok (.goto 15, 3) := by decide +kernel
theorem dX12_worked_67 : decode cX12_worked 67 = .ok (.aload_n 0, 1) := by decide +kernel
theorem dX12_worked_68 : decode cX12_worked 68 = .ok (.getfield 65, 3) := by decide +kernel
theorem dX12_worked_71 : decode cX12_worked 71 = .ok (.aload_n 0, 1) := by decide +kernel
theorem dX12_worked_72 : decode cX12_worked 72 = .ok (.getfield 52, 3) := by decide +kernel
theorem dX12_worked_75 : decode cX12_worked 75 = .ok (.iload 5, 2) := by decide +kernel
theorem dX12_worked_77 : decode cX12_worked 77 = .ok (.iaload, 1) := by decide +kernel
theorem dX12_worked_78 : decode cX12_worked 78 = .ok (.iaload, 1) := by decide +kernel
theorem dX12_worked_79 : decode cX12_worked 79 = .ok (.iastore, 1) := by decide +kernel
theorem dX12_worked_80 : decode cX12_worked 80 = .ok (.iinc 4 1, 3) := by decide +kernel
theorem dX12_worked_83 : decode cX12_worked 83 = .ok (.goto 99, 3) := by decide +kernel
theorem dX12_worked_86 : decode cX12_worked 86 = .ok (.iload 6, 2) := by decide +kernel
theorem dX12_worked_88 : decode cX12_worked 88 = .ok (.iconst 3, 1) := by decide +kernel
theorem dX12_worked_89 : decode cX12_worked 89 = .ok (.if_icmp .ne 32, 3) := by decide +kernel
theorem dX12_worked_92 : decode cX12_worked 92 = .ok (.aload_n 0, 1) := by decide +kernel
theorem dX12_worked_93 : decode cX12_worked 93 = .ok (.getfield 68, 3) := by decide +kernel
theorem dX12_worked_96 : decode cX12_worked 96 = .ok (.iload 4, 2) := by decide +kernel
theorem dX12_worked_98 : decode cX12_worked 98 = .ok (.iconst 1, 1) := by decide +kernel
theorem dX12_worked_99 : decode cX12_worked 99 = .ok (.isub, 1) := by decide +kernel
theorem dX12_worked_100 : decode cX12_worked 100 = .ok (.aload_n 0, 1) := by decide +kernel
theorem dX12_worked_101 : decode cX12_worked 101 = .ok (.getfield 68, 3) := by decide +kernel
theorem dX12_worked_104 : decode cX12_worked 104 = .ok (.iload 4, 2) := by decide +kernel
theorem dX12_worked_106 : decode cX12_worked 106 = .ok (.iconst 1, 1) := by decide +kernel
theorem dX12_worked_107 : decode cX12_worked 107 = .ok (.isub, 1) := by decide +kernel
theorem dX12_worked_108 : decode cX12_worked 108 = .ok (.iaload, 1) := by decide +kernel
theorem dX12_worked_109 : decode cX12_worked 109 = .ok (.ifCond .ne 7, 3) := by decide +kernel
theorem dX12_worked_112 : decode cX12_worked 112 = .ok (.iconst 1, 1) := by decide +kernel
theorem dX12_worked_113 : decode cX12_worked 113 = .ok (.goto 4, 3) := by decide +kernel
theorem dX12_worked_116 : decode cX12_worked 116 = .ok (.iconst 0, 1) := by decide +kernel
theorem dX12_worked_117 : decode cX12_worked 117 = .ok (.iastore, 1) := by decide +kernel
theorem dX12_worked_118 : decode cX12_worked 118 = .ok (.goto 64, 3) := by decide +kernel
theorem dX12_worked_121 : decode cX12_worked 121 = .ok (.iload 6, 2) := by decide +kernel
theorem dX12_worked_123 : decode cX12_worked 123 = .ok (.iconst 4, 1) := by decide +kernel
theorem dX12_worked_124 : decode cX12_worked 124 = .ok (.if_icmp .ne 25, 3) := by decide +kernel
theorem dX12_worked_127 : decode cX12_worked 127 = .ok (.aload_n 0, 1) := by decide +kernel
theorem dX12_worked_128 : decode cX12_worked 128 = .ok (.getfield 68, 3) := by decide +kernel
theorem dX12_worked_131 : decode cX12_worked 131 = .ok (.iload 4, 2) := by decide +kernel
theorem dX12_worked_133 : decode cX12_worked 133 = .ok (.iconst 1, 1) := by decide +kernel
theorem dX12_worked_134 : decode cX12_worked 134 = .ok (.isub, 1) := by decide +kernel
theorem dX12_worked_135 : decode cX12_worked 135 = .ok (.aload_n 0, 1) := by decide +kernel
theorem dX12_worked_136 : decode cX12_worked 136 = .ok (.getfield 68, 3) := by decide +kernel
theorem dX12_worked_139 : decode cX12_worked 139 = .ok (.iload 4, 2) := by decide +kernel
theorem dX12_worked_141 : decode cX12_worked 141 = .ok (.iconst 1, 1) := by decide +kernel
theorem dX12_worked_142 : decode cX12_worked 142 = .ok (.isub, 1) := by decide +kernel
theorem dX12_worked_143 : decode cX12_worked 143 = .ok (.iaload, 1) := by decide +kernel
theorem dX12_worked_144 : decode cX12_worked 144 = .ok (.ineg, 1) := by decide +kernel
theorem dX12_worked_145 : decode cX12_worked 145 = .ok (.iastore, 1) := by decide +kernel
theorem dX12_worked_146 : decode cX12_worked 146 = .ok (.goto 36, 3) := by decide +kernel
theorem dX12_worked_149 : decode cX12_worked 149 = .ok (.iinc 4 (-1), 3) := by decide +kernel
theorem dX12_worked_152 : decode cX12_worked 152 = .ok (.aload_n 0, 1) := by decide +kernel
theorem dX12_worked_153 : decode cX12_worked 153 = .ok (.getfield 68, 3) := by decide +kernel
theorem dX12_worked_156 : decode cX12_worked 156 = .ok (.iload 4, 2) := by decide +kernel
theorem dX12_worked_158 : decode cX12_worked 158 = .ok (.iconst 1, 1) := by decide +kernel
theorem dX12_worked_159 : decode cX12_worked 159 = .ok (.isub, 1) := by decide +kernel
theorem dX12_worked_160 : decode cX12_worked 160 = .ok (.iload 6, 2) := by decide +kernel
theorem dX12_worked_162 : decode cX12_worked 162 = .ok (.aload_n 0, 1) := by decide +kernel
theorem dX12_worked_163 : decode cX12_worked 163 = .ok (.getfield 68, 3) := by decide +kernel
theorem dX12_worked_166 : decode cX12_worked 166 = .ok (.iload 4, 2) := by decide +kernel
theorem dX12_worked_168 : decode cX12_worked 168 = .ok (.iconst 1, 1) := by decide +kernel
theorem dX12_worked_169 : decode cX12_worked 169 = .ok (.isub, 1) := by decide +kernel
theorem dX12_worked_170 : decode cX12_worked 170 = .ok (.iaload, 1) := by decide +kernel
theorem dX12_worked_171 : decode cX12_worked 171 = .ok (.aload_n 0, 1) := by decide +kernel
theorem dX12_worked_172 : decode cX12_worked 172 = .ok (.getfield 68, 3) := by decide +kernel
theorem dX12_worked_175 : decode cX12_worked 175 = .ok (.iload 4, 2) := by decide +kernel
theorem dX12_worked_177 : decode cX12_worked 177 = .ok (.iaload, 1) := by decide +kernel
theorem dX12_worked_178 : decode cX12_worked 178 = .ok (.invokestatic 236, 3) := by decide +kernel
theorem dX12_worked_181 : decode cX12_worked 181 = .ok (.iastore, 1) := by decide +kernel
theorem dX12_worked_182 : decode cX12_worked 182 = .ok (.iinc 5 1, 3) := by decide +kernel
theorem dX12_worked_185 : decode cX12_worked 185 = .ok (.goto (-173), 3) := by decide +kernel
theorem dX12_worked_188 : decode cX12_worked 188 = .ok (.aload_n 0, 1) := by decide +kernel
theorem dX12_worked_189 : decode cX12_worked 189 = .ok (.getfield 68, 3) := by decide +kernel
theorem dX12_worked_192 : decode cX12_worked 192 = .ok (.iconst 0, 1) := by decide +kernel
theorem dX12_worked_193 : decode cX12_worked 193 = .ok (.iaload, 1) := by decide +kernel
theorem dX12_worked_194 : decode cX12_worked 194 = .ok (.ireturn, 1) := by decide +kernel
theorem dX12_gives_0 : decode cX12_gives 0 = .ok (.iconst 0, 1) := by decide +kernel
theorem dX12_gives_1 : decode cX12_gives 1 = .ok (.istore_n 2, 1) := by decide +kernel
theorem dX12_gives_2 : decode cX12_gives 2 = .ok (.bipush 61, 2) := by decide +kernel
theorem dX12_gives_4 : decode cX12_gives 4 = .ok (.iload_n 1, 1) := by decide +kernel
theorem dX12_gives_5 : decode cX12_gives 5 = .ok (.imul, 1) := by decide +kernel
theorem dX12_gives_6 : decode cX12_gives 6 = .ok (.istore_n 3, 1) := by decide +kernel
theorem dX12_gives_7 : decode cX12_gives 7 = .ok (.iload_n 3, 1) := by decide +kernel
theorem dX12_gives_8 : decode cX12_gives 8 = .ok (.bipush 61, 2) := by decide +kernel
theorem dX12_gives_10 : decode cX12_gives 10 = .ok (.iload_n 1, 1) := by decide +kernel
theorem dX12_gives_11 : decode cX12_gives 11 = .ok (.imul, 1) := by decide +kernel
theorem dX12_gives_12 : decode cX12_gives 12 = .ok (.aload_n 0, 1) := by decide +kernel
theorem dX12_gives_13 : decode cX12_gives 13 = .ok (.getfield 55, 3) := by decide +kernel
theorem dX12_gives_16 : decode cX12_gives 16 = .ok (.iload_n 1, 1) := by decide +kernel
theorem dX12_gives_17 : decode cX12_gives 17 = .ok (.iaload, 1) := by decide +kernel
theorem dX12_gives_18 : decode cX12_gives 18 = .ok (.iadd, 1) := by decide +kernel
theorem dX12_gives_19 : decode cX12_gives 19 = .ok (.if_icmp .ge 59, 3) := by decide +kernel
theorem dX12_gives_22 : decode cX12_gives 22 = .ok (.aload_n 0, 1) := by decide +kernel
theorem dX12_gives_23 : decode cX12_gives 23 = .ok (.getfield 58, 3) := by decide +kernel
theorem dX12_gives_26 : decode cX12_gives 26 = .ok (.iload_n 3, 1) := by decide +kernel
theorem dX12_gives_27 : decode cX12_gives 27 = .ok (.saload, 1) := by decide +kernel
theorem dX12_gives_28 : decode cX12_gives 28 = .ok (.iload_n 2, 1) := by decide +kernel
theorem dX12_gives_29 : decode cX12_gives 29 = .ok (.if_icmp .eq 18, 3) := by decide +kernel
theorem dX12_gives_32 : decode cX12_gives 32 = .ok (.aload_n 0, 1) := by decide +kernel
theorem dX12_gives_33 : decode cX12_gives 33 = .ok (.iload_n 1, 1) := by decide +kernel
theorem dX12_gives_34 : decode cX12_gives 34 = .ok (.iload_n 2, 1) := by decide +kernel
theorem dX12_gives_35 : decode cX12_gives 35 = .ok (.aload_n 0, 1) := by decide +kernel
theorem dX12_gives_36 : decode cX12_gives 36 = .ok (.getfield 58, 3) := by decide +kernel
theorem dX12_gives_39 : decode cX12_gives 39 = .ok (.iload_n 3, 1) := by decide +kernel
theorem dX12_gives_40 : decode cX12_gives 40 = .ok (.saload, 1) := by decide +kernel
theorem dX12_gives_41 : decode cX12_gives 41 = .ok (.invokevirtual 239, 3) := by decide +kernel
theorem dX12_gives_44 : decode cX12_gives 44 = .ok (.ifCond .eq 21, 3) := by decide +kernel
theorem dX12_gives_47 : decode cX12_gives 47 = .ok (.aload_n 0, 1) := by decide +kernel
theorem dX12_gives_48 : decode cX12_gives 48 = .ok (.iload_n 1, 1) := by decide +kernel
theorem dX12_gives_49 : decode cX12_gives 49 = .ok (.aload_n 0, 1) := by decide +kernel
theorem dX12_gives_50 : decode cX12_gives 50 = .ok (.getfield 58, 3) := by decide +kernel
theorem dX12_gives_53 : decode cX12_gives 53 = .ok (.iload_n 3, 1) := by decide +kernel
theorem dX12_gives_54 : decode cX12_gives 54 = .ok (.saload, 1) := by decide +kernel
theorem dX12_gives_55 : decode cX12_gives 55 = .ok (.aload_n 0, 1) := by decide +kernel
theorem dX12_gives_56 : decode cX12_gives 56 = .ok (.getfield 62, 3) := by decide +kernel
theorem dX12_gives_59 : decode cX12_gives 59 = .ok (.iload_n 3, 1) := by decide +kernel
theorem dX12_gives_60 : decode cX12_gives 60 = .ok (.saload, 1) := by decide +kernel
theorem dX12_gives_61 : decode cX12_gives 61 = .ok (.invokevirtual 239, 3) := by decide +kernel
theorem dX12_gives_64 : decode cX12_gives 64 = .ok (.ireturn, 1) := by decide +kernel
theorem dX12_gives_65 : decode cX12_gives 65 = .ok (.aload_n 0, 1) := by decide +kernel
theorem dX12_gives_66 : decode cX12_gives 66 = .ok (.getfield 62, 3) := by decide +kernel
theorem dX12_gives_69 : decode cX12_gives 69 = .ok (.iload_n 3, 1) := by decide +kernel
theorem dX12_gives_70 : decode cX12_gives 70 = .ok (.saload, 1) := by decide +kernel
theorem dX12_gives_71 : decode cX12_gives 71 = .ok (.istore_n 2, 1) := by decide +kernel
theorem dX12_gives_72 : decode cX12_gives 72 = .ok (.iinc 3 1, 3) := by decide +kernel
theorem dX12_gives_75 : decode cX12_gives 75 = .ok (.goto (-68), 3) := by decide +kernel
theorem dX12_gives_78 : decode cX12_gives 78 = .ok (.iconst 0, 1) := by decide +kernel
theorem dX12_gives_79 : decode cX12_gives 79 = .ok (.ireturn, 1) := by decide +kernel
theorem dX12_law_0 : decode cX12_law 0 = .ok (.aload_n 0, 1) := by decide +kernel
theorem dX12_law_1 : decode cX12_law 1 = .ok (.iconst 0, 1) := by decide +kernel
theorem dX12_law_2 : decode cX12_law 2 = .ok (.invokevirtual 242, 3) := by decide +kernel
theorem dX12_law_5 : decode cX12_law 5 = .ok (.istore_n 1, 1) := by decide +kernel
theorem dX12_law_6 : decode cX12_law 6 = .ok (.iload_n 1, 1) := by decide +kernel
theorem dX12_law_7 : decode cX12_law 7 = .ok (.ifCond .lt 8, 3) := by decide +kernel
theorem dX12_law_10 : decode cX12_law 10 = .ok (.bipush (-100), 2) := by decide +kernel
theorem dX12_law_12 : decode cX12_law 12 = .ok (.iload_n 1, 1) := by decide +kernel
theorem dX12_law_13 : decode cX12_law 13 = .ok (.isub, 1) := by decide +kernel
theorem dX12_law_14 : decode cX12_law 14 = .ok (.ireturn, 1) := by decide +kernel
theorem dX12_law_15 : decode cX12_law 15 = .ok (.aload_n 0, 1) := by decide +kernel
theorem dX12_law_16 : decode cX12_law 16 = .ok (.iconst 1, 1) := by decide +kernel
theorem dX12_law_17 : decode cX12_law 17 = .ok (.putfield 245, 3) := by decide +kernel
theorem dX12_law_20 : decode cX12_law 20 = .ok (.iconst 1, 1) := by decide +kernel
theorem dX12_law_21 : decode cX12_law 21 = .ok (.ireturn, 1) := by decide +kernel
theorem dX12_turnBy_0 : decode cX12_turnBy 0 = .ok (.iload_n 3, 1) := by decide +kernel
theorem dX12_turnBy_1 : decode cX12_turnBy 1 = .ok (.ifCond .ne 7, 3) := by decide +kernel
theorem dX12_turnBy_4 : decode cX12_turnBy 4 = .ok (.iconst 1, 1) := by decide +kernel
theorem dX12_turnBy_5 : decode cX12_turnBy 5 = .ok (.goto 4, 3) := by decide +kernel
theorem dX12_turnBy_8 : decode cX12_turnBy 8 = .ok (.iconst 0, 1) := by decide +kernel
theorem dX12_turnBy_9 : decode cX12_turnBy 9 = .ok (.istore 5, 2) := by decide +kernel
theorem dX12_turnBy_11 : decode cX12_turnBy 11 = .ok (.aload_n 0, 1) := by decide +kernel
theorem dX12_turnBy_12 : decode cX12_turnBy 12 = .ok (.getfield 245, 3) := by decide +kernel
theorem dX12_turnBy_15 : decode cX12_turnBy 15 = .ok (.ifCond .eq 63, 3) := by decide +kernel
theorem dX12_turnBy_18 : decode cX12_turnBy 18 = .ok (.aload_n 0, 1) := by decide +kernel
theorem dX12_turnBy_19 : decode cX12_turnBy 19 = .ok (.getfield 65, 3) := by decide +kernel
theorem dX12_turnBy_22 : decode cX12_turnBy 22 = .ok (.iconst 0, 1) := by decide +kernel
theorem dX12_turnBy_23 : decode cX12_turnBy 23 = .ok (.aload_n 0, 1) := by decide +kernel
theorem dX12_turnBy_24 : decode cX12_turnBy 24 = .ok (.getfield 30, 3) := by decide +kernel
theorem dX12_turnBy_27 : decode cX12_turnBy 27 = .ok (.iconst 1, 1) := by decide +kernel
theorem dX12_turnBy_28 : decode cX12_turnBy 28 = .ok (.iaload, 1) := by decide +kernel
theorem dX12_turnBy_29 : decode cX12_turnBy 29 = .ok (.iastore, 1) := by decide +kernel
theorem dX12_turnBy_30 : decode cX12_turnBy 30 = .ok (.aload_n 0, 1) := by decide +kernel
theorem dX12_turnBy_31 : decode cX12_turnBy 31 = .ok (.getfield 65, 3) := by decide +kernel
theorem dX12_turnBy_34 : decode cX12_turnBy 34 = .ok (.iconst 1, 1) := by decide +kernel
theorem dX12_turnBy_35 : decode cX12_turnBy 35 = .ok (.iload_n 3, 1) := by decide +kernel
theorem dX12_turnBy_36 : decode cX12_turnBy 36 = .ok (.iastore, 1) := by decide +kernel
theorem dX12_turnBy_37 : decode cX12_turnBy 37 = .ok (.aload_n 0, 1) := by decide +kernel
theorem dX12_turnBy_38 : decode cX12_turnBy 38 = .ok (.getfield 65, 3) := by decide +kernel
theorem dX12_turnBy_41 : decode cX12_turnBy 41 = .ok (.iconst 2, 1) := by decide +kernel
theorem dX12_turnBy_42 : decode cX12_turnBy 42 = .ok (.iload 4, 2) := by decide +kernel
theorem dX12_turnBy_44 : decode cX12_turnBy 44 = .ok (.iastore, 1) := by decide +kernel
theorem dX12_turnBy_45 : decode cX12_turnBy 45 = .ok (.aload_n 0, 1) := by decide +kernel
theorem dX12_turnBy_46 : decode cX12_turnBy 46 = .ok (.getfield 65, 3) := by decide +kernel
theorem dX12_turnBy_49 : decode cX12_turnBy 49 = .ok (.iconst 3, 1) := by decide +kernel
theorem dX12_turnBy_50 : decode cX12_turnBy 50 = .ok (.iload_n 2, 1) := by decide +kernel
theorem dX12_turnBy_51 : decode cX12_turnBy 51 = .ok (.iastore, 1) := by decide +kernel
theorem dX12_turnBy_52 : decode cX12_turnBy 52 = .ok (.aload_n 0, 1) := by decide +kernel
theorem dX12_turnBy_53 : decode cX12_turnBy 53 = .ok (.getfield 65, 3) := by decide +kernel
theorem dX12_turnBy_56 : decode cX12_turnBy 56 = .ok (.iconst 4, 1) := by decide +kernel
theorem dX12_turnBy_57 : decode cX12_turnBy 57 = .ok (.iload_n 1, 1) := by decide +kernel
theorem dX12_turnBy_58 : decode cX12_turnBy 58 = .ok (.iastore, 1) := by decide +kernel
theorem dX12_turnBy_59 : decode cX12_turnBy 59 = .ok (.aload_n 0, 1) := by decide +kernel
theorem dX12_turnBy_60 : decode cX12_turnBy 60 = .ok (.getfield 65, 3) := by decide +kernel
theorem dX12_turnBy_63 : decode cX12_turnBy 63 = .ok (.iconst 5, 1) := by decide +kernel
theorem dX12_turnBy_64 : decode cX12_turnBy 64 = .ok (.aload_n 0, 1) := by decide +kernel
theorem dX12_turnBy_65 : decode cX12_turnBy 65 = .ok (.getfield 18, 3) := by decide +kernel
theorem dX12_turnBy_68 : decode cX12_turnBy 68 = .ok (.iload_n 1, 1) := by decide +kernel
theorem dX12_turnBy_69 : decode cX12_turnBy 69 = .ok (.iaload, 1) := by decide +kernel
theorem dX12_turnBy_70 : decode cX12_turnBy 70 = .ok (.iastore, 1) := by decide +kernel
theorem dX12_turnBy_71 : decode cX12_turnBy 71 = .ok (.aload_n 0, 1) := by decide +kernel
theorem dX12_turnBy_72 : decode cX12_turnBy 72 = .ok (.iconst 0, 1) := by decide +kernel
theorem dX12_turnBy_73 : decode cX12_turnBy 73 = .ok (.invokevirtual 249, 3) := by decide +kernel
theorem dX12_turnBy_76 : decode cX12_turnBy 76 = .ok (.istore 5, 2) := by decide +kernel
theorem dX12_turnBy_78 : decode cX12_turnBy 78 = .ok (.iload 5, 2) := by decide +kernel
theorem dX12_turnBy_80 : decode cX12_turnBy 80 = .ok (.iconst (-1), 1) := by decide +kernel
theorem dX12_turnBy_81 : decode cX12_turnBy 81 = .ok (.if_icmp .ge 7, 3) := by decide +kernel
theorem dX12_turnBy_84 : decode cX12_turnBy 84 = .ok (.iconst (-1), 1) := by decide +kernel
theorem dX12_turnBy_85 : decode cX12_turnBy 85 = .ok (.goto 15, 3) := by decide +kernel
theorem dX12_turnBy_88 : decode cX12_turnBy 88 = .ok (.iload 5, 2) := by decide +kernel
theorem dX12_turnBy_90 : decode cX12_turnBy 90 = .ok (.iconst 1, 1) := by decide +kernel
theorem dX12_turnBy_91 : decode cX12_turnBy 91 = .ok (.if_icmp .le 7, 3) := by decide +kernel
theorem dX12_turnBy_94 : decode cX12_turnBy 94 = .ok (.iconst 1, 1) := by decide +kernel
theorem dX12_turnBy_95 : decode cX12_turnBy 95 = .ok (.goto 5, 3) := by decide +kernel
theorem dX12_turnBy_98 : decode cX12_turnBy 98 = .ok (.iload 5, 2) := by decide +kernel
theorem dX12_turnBy_100 : decode cX12_turnBy 100 = .ok (.ireturn, 1) := by decide +kernel
theorem dX12_turn_0 : decode cX12_turn 0 = .ok (.aload_n 0, 1) := by decide +kernel
theorem dX12_turn_1 : decode cX12_turn 1 = .ok (.iload_n 1, 1) := by decide +kernel
theorem dX12_turn_2 : decode cX12_turn 2 = .ok (.invokevirtual 135, 3) := by decide +kernel
theorem dX12_turn_5 : decode cX12_turn 5 = .ok (.ifCond .eq 29, 3) := by decide +kernel
theorem dX12_turn_8 : decode cX12_turn 8 = .ok (.aload_n 0, 1) := by decide +kernel
theorem dX12_turn_9 : decode cX12_turn 9 = .ok (.iload_n 1, 1) := by decide +kernel
theorem dX12_turn_10 : decode cX12_turn 10 = .ok (.aload_n 0, 1) := by decide +kernel
theorem dX12_turn_11 : decode cX12_turn 11 = .ok (.getfield 15, 3) := by decide +kernel
theorem dX12_turn_14 : decode cX12_turn 14 = .ok (.iload_n 1, 1) := by decide +kernel
theorem dX12_turn_15 : decode cX12_turn 15 = .ok (.iaload, 1) := by decide +kernel
theorem dX12_turn_16 : decode cX12_turn 16 = .ok (.aload_n 0, 1) := by decide +kernel
theorem dX12_turn_17 : decode cX12_turn 17 = .ok (.getfield 21, 3) := by decide +kernel
theorem dX12_turn_20 : decode cX12_turn 20 = .ok (.iload_n 1, 1) := by decide +kernel
theorem dX12_turn_21 : decode cX12_turn 21 = .ok (.iaload, 1) := by decide +kernel
theorem dX12_turn_22 : decode cX12_turn 22 = .ok (.aload_n 0, 1) := by decide +kernel
theorem dX12_turn_23 : decode cX12_turn 23 = .ok (.getfield 30, 3) := by decide +kernel
theorem dX12_turn_26 : decode cX12_turn 26 = .ok (.iconst 2, 1) := by decide +kernel
theorem dX12_turn_27 : decode cX12_turn 27 = .ok (.iaload, 1) := by decide +kernel
theorem dX12_turn_28 : decode cX12_turn 28 = .ok (.invokevirtual 252, 3) := by decide +kernel
theorem dX12_turn_31 : decode cX12_turn 31 = .ok (.goto 5, 3) := by decide +kernel
theorem dX12_turn_34 : decode cX12_turn 34 = .ok (.ldc 177, 2) := by decide +kernel
theorem dX12_turn_36 : decode cX12_turn 36 = .ok (.ireturn, 1) := by decide +kernel
theorem dX12_alongX_0 : decode cX12_alongX 0 = .ok (.iload_n 0, 1) := by decide +kernel
theorem dX12_alongX_1 : decode cX12_alongX 1 = .ok (.ifCond .le 12, 3) := by decide +kernel
theorem dX12_alongX_4 : decode cX12_alongX 4 = .ok (.iload_n 0, 1) := by decide +kernel
theorem dX12_alongX_5 : decode cX12_alongX 5 = .ok (.iconst 4, 1) := by decide +kernel
theorem dX12_alongX_6 : decode cX12_alongX 6 = .ok (.if_icmp .ge 7, 3) := by decide +kernel
theorem dX12_alongX_9 : decode cX12_alongX 9 = .ok (.iconst 1, 1) := by decide +kernel
theorem dX12_alongX_10 : decode cX12_alongX 10 = .ok (.goto 13, 3) := by decide +kernel
theorem dX12_alongX_13 : decode cX12_alongX 13 = .ok (.iload_n 0, 1) := by decide +kernel
theorem dX12_alongX_14 : decode cX12_alongX 14 = .ok (.iconst 4, 1) := by decide +kernel
theorem dX12_alongX_15 : decode cX12_alongX 15 = .ok (.if_icmp .le 7, 3) := by decide +kernel
theorem dX12_alongX_18 : decode cX12_alongX 18 = .ok (.iconst (-1), 1) := by decide +kernel
theorem dX12_alongX_19 : decode cX12_alongX 19 = .ok (.goto 4, 3) := by decide +kernel
theorem dX12_alongX_22 : decode cX12_alongX 22 = .ok (.iconst 0, 1) := by decide +kernel
theorem dX12_alongX_23 : decode cX12_alongX 23 = .ok (.ireturn, 1) := by decide +kernel
theorem dX12_alongY_0 : decode cX12_alongY 0 = .ok (.iload_n 0, 1) := by decide +kernel
theorem dX12_alongY_1 : decode cX12_alongY 1 = .ok (.bipush 7, 2) := by decide +kernel
theorem dX12_alongY_3 : decode cX12_alongY 3 = .ok (.if_icmp .eq 8, 3) := by decide +kernel
theorem dX12_alongY_6 : decode cX12_alongY 6 = .ok (.iload_n 0, 1) := by decide +kernel
theorem dX12_alongY_7 : decode cX12_alongY 7 = .ok (.iconst 2, 1) := by decide +kernel
theorem dX12_alongY_8 : decode cX12_alongY 8 = .ok (.if_icmp .ge 7, 3) := by decide +kernel
theorem dX12_alongY_11 : decode cX12_alongY 11 = .ok (.iconst (-1), 1) := by decide +kernel
theorem dX12_alongY_12 : decode cX12_alongY 12 = .ok (.goto 19, 3) := by decide +kernel
theorem dX12_alongY_15 : decode cX12_alongY 15 = .ok (.iload_n 0, 1) := by decide +kernel
theorem dX12_alongY_16 : decode cX12_alongY 16 = .ok (.iconst 2, 1) := by decide +kernel
theorem dX12_alongY_17 : decode cX12_alongY 17 = .ok (.if_icmp .le 13, 3) := by decide +kernel
theorem dX12_alongY_20 : decode cX12_alongY 20 = .ok (.iload_n 0, 1) := by decide +kernel
theorem dX12_alongY_21 : decode cX12_alongY 21 = .ok (.bipush 6, 2) := by decide +kernel
theorem dX12_alongY_23 : decode cX12_alongY 23 = .ok (.if_icmp .ge 7, 3) := by decide +kernel
theorem dX12_alongY_26 : decode cX12_alongY 26 = .ok (.iconst 1, 1) := by decide +kernel
theorem dX12_alongY_27 : decode cX12_alongY 27 = .ok (.goto 4, 3) := by decide +kernel
theorem dX12_alongY_30 : decode cX12_alongY 30 = .ok (.iconst 0, 1) := by decide +kernel
theorem dX12_alongY_31 : decode cX12_alongY 31 = .ok (.ireturn, 1) := by decide +kernel
theorem dX12_leaves_0 : decode cX12_leaves 0 = .ok (.iload_n 0, 1) := by decide +kernel
theorem dX12_leaves_1 : decode cX12_leaves 1 = .ok (.bipush 16, 2) := by decide +kernel
theorem dX12_leaves_3 : decode cX12_leaves 3 = .ok (.irem, 1) := by decide +kernel
theorem dX12_leaves_4 : decode cX12_leaves 4 = .ok (.iload_n 1, 1) := by decide +kernel
theorem dX12_leaves_5 : decode cX12_leaves 5 = .ok (.invokestatic 256, 3) := by decide +kernel
theorem dX12_leaves_8 : decode cX12_leaves 8 = .ok (.iadd, 1) := by decide +kernel
theorem dX12_leaves_9 : decode cX12_leaves 9 = .ok (.iconst 0, 1) := by decide +kernel
theorem dX12_leaves_10 : decode cX12_leaves 10 = .ok (.bipush 15, 2) := by decide +kernel
theorem dX12_leaves_12 : decode cX12_leaves 12 = .ok (.invokestatic 128, 3) := by decide +kernel
theorem dX12_leaves_15 : decode cX12_leaves 15 = .ok (.ifCond .eq 21, 3) := by decide +kernel
theorem dX12_leaves_18 : decode cX12_leaves 18 = .ok (.iload_n 0, 1) := by decide +kernel
theorem dX12_leaves_19 : decode cX12_leaves 19 = .ok (.bipush 16, 2) := by decide +kernel
theorem dX12_leaves_21 : decode cX12_leaves 21 = .ok (.idiv, 1) := by decide +kernel
theorem dX12_leaves_22 : decode cX12_leaves 22 = .ok (.iload_n 1, 1) := by decide +kernel
theorem dX12_leaves_23 : decode cX12_leaves 23 = .ok (.invokestatic 259, 3) := by decide +kernel
theorem dX12_leaves_26 : decode cX12_leaves 26 = .ok (.iadd, 1) := by decide +kernel
theorem dX12_leaves_27 : decode cX12_leaves 27 = .ok (.iconst 0, 1) := by decide +kernel
theorem dX12_leaves_28 : decode cX12_leaves 28 = .ok (.bipush 15, 2) := by decide +kernel
theorem dX12_leaves_30 : decode cX12_leaves 30 = .ok (.invokestatic 128, 3) := by decide +kernel
theorem dX12_leaves_33 : decode cX12_leaves 33 = .ok (.ifCond .ne 7, 3) := by decide +kernel
theorem dX12_leaves_36 : decode cX12_leaves 36 = .ok (.iconst 1, 1) := by decide +kernel
theorem dX12_leaves_37 : decode cX12_leaves 37 = .ok (.goto 4, 3) := by decide +kernel
theorem dX12_leaves_40 : decode cX12_leaves 40 = .ok (.iconst 0, 1) := by decide +kernel
theorem dX12_leaves_41 : decode cX12_leaves 41 = .ok (.ireturn, 1) := by decide +kernel
theorem dX12_goStep_0 : decode cX12_goStep 0 = .ok (.aload_n 0, 1) := by decide +kernel
theorem dX12_goStep_1 : decode cX12_goStep 1 = .ok (.getfield 262, 3) := by decide +kernel
theorem dX12_goStep_4 : decode cX12_goStep 4 = .ok (.aload_n 0, 1) := by decide +kernel
theorem dX12_goStep_5 : decode cX12_goStep 5 = .ok (.getfield 265, 3) := by decide +kernel
theorem dX12_goStep_8 : decode cX12_goStep 8 = .ok (.invokestatic 268, 3) := by decide +kernel
theorem dX12_goStep_11 : decode cX12_goStep 11 = .ok (.ifCond .eq 16, 3) := by decide +kernel
theorem dX12_goStep_14 : decode cX12_goStep 14 = .ok (.aload_n 0, 1) := by decide +kernel
theorem dX12_goStep_15 : decode cX12_goStep 15 = .ok (.aload_n 0, 1) := by decide +kernel
theorem dX12_goStep_16 : decode cX12_goStep 16 = .ok (.getfield 265, 3) := by decide +kernel
theorem dX12_goStep_19 : decode cX12_goStep 19 = .ok (.iconst 4, 1) := by decide +kernel
theorem dX12_goStep_20 : decode cX12_goStep 20 = .ok (.iadd, 1) := by decide +kernel
theorem dX12_goStep_21 : decode cX12_goStep 21 = .ok (.bipush 8, 2) := by decide +kernel
theorem dX12_goStep_23 : decode cX12_goStep 23 = .ok (.irem, 1) := by decide +kernel
theorem dX12_goStep_24 : decode cX12_goStep 24 = .ok (.putfield 265, 3) := by decide +kernel
theorem dX12_goStep_27 : decode cX12_goStep 27 = .ok (.aload_n 0, 1) := by decide +kernel
theorem dX12_goStep_28 : decode cX12_goStep 28 = .ok (.getfield 262, 3) := by decide +kernel
theorem dX12_goStep_31 : decode cX12_goStep 31 = .ok (.aload_n 0, 1) := by decide +kernel
theorem dX12_goStep_32 : decode cX12_goStep 32 = .ok (.getfield 265, 3) := by decide +kernel
theorem dX12_goStep_35 : decode cX12_goStep 35 = .ok (.invokestatic 268, 3) := by decide +kernel
theorem dX12_goStep_38 : decode cX12_goStep 38 = .ok (.ifCond .eq 4, 3) := by decide +kernel
theorem dX12_goStep_41 : decode cX12_goStep 41 = .ok (.return_, 1) := by decide +kernel
theorem dX12_goStep_42 : decode cX12_goStep 42 = .ok (.aload_n 0, 1) := by decide +kernel
theorem dX12_goStep_43 : decode cX12_goStep 43 = .ok (.dup, 1) := by decide +kernel
theorem dX12_goStep_44 : decode cX12_goStep 44 = .ok (.getfield 262, 3) := by decide +kernel
theorem dX12_goStep_47 : decode cX12_goStep 47 = .ok (.aload_n 0, 1) := by decide +kernel
theorem dX12_goStep_48 : decode cX12_goStep 48 = .ok (.getfield 265, 3) := by decide +kernel
theorem dX12_goStep_51 : decode cX12_goStep 51 = .ok (.invokestatic 256, 3) := by decide +kernel
theorem dX12_goStep_54 : decode cX12_goStep 54 = .ok (.bipush 16, 2) := by decide +kernel
theorem dX12_goStep_56 : decode cX12_goStep 56 = .ok (.aload_n 0, 1) := by decide +kernel
theorem dX12_goStep_57 : decode cX12_goStep 57 = .ok (.getfield 265, 3) := by decide +kernel
theorem dX12_goStep_60 : decode cX12_goStep 60 = .ok (.invokestatic 259, 3) := by decide +kernel
theorem dX12_goStep_63 : decode cX12_goStep 63 = .ok (.imul, 1) := by decide +kernel
theorem dX12_goStep_64 : decode cX12_goStep 64 = .ok (.iadd, 1) := by decide +kernel
theorem dX12_goStep_65 : decode cX12_goStep 65 = .ok (.iadd, 1) := by decide +kernel
theorem dX12_goStep_66 : decode cX12_goStep 66 = .ok (.putfield 262, 3) := by decide +kernel
theorem dX12_goStep_69 : decode cX12_goStep 69 = .ok (.aload_n 0, 1) := by decide +kernel
theorem dX12_goStep_70 : decode cX12_goStep 70 = .ok (.dup, 1) := by decide +kernel
theorem dX12_goStep_71 : decode cX12_goStep 71 = .ok (.getfield 271, 3) := by decide +kernel
theorem dX12_goStep_74 : decode cX12_goStep 74 = .ok (.iconst 1, 1) := by decide +kernel
theorem dX12_goStep_75 : decode cX12_goStep 75 = .ok (.iadd, 1) := by decide +kernel
theorem dX12_goStep_76 : decode cX12_goStep 76 = .ok (.putfield 271, 3) := by decide +kernel
theorem dX12_goStep_79 : decode cX12_goStep 79 = .ok (.return_, 1) := by decide +kernel
theorem dX12_shoeAt_0 : decode cX12_shoeAt 0 = .ok (.iload_n 0, 1) := by decide +kernel
theorem dX12_shoeAt_1 : decode cX12_shoeAt 1 = .ok (.iload_n 1, 1) := by decide +kernel
theorem dX12_shoeAt_2 : decode cX12_shoeAt 2 = .ok (.if_icmp .le 9, 3) := by decide +kernel
theorem dX12_shoeAt_5 : decode cX12_shoeAt 5 = .ok (.iload_n 0, 1) := by decide +kernel
theorem dX12_shoeAt_6 : decode cX12_shoeAt 6 = .ok (.iload_n 1, 1) := by decide +kernel
theorem dX12_shoeAt_7 : decode cX12_shoeAt 7 = .ok (.isub, 1) := by decide +kernel
theorem dX12_shoeAt_8 : decode cX12_shoeAt 8 = .ok (.goto 4, 3) := by decide +kernel
theorem dX12_shoeAt_11 : decode cX12_shoeAt 11 = .ok (.iconst 0, 1) := by decide +kernel
theorem dX12_shoeAt_12 : decode cX12_shoeAt 12 = .ok (.ireturn, 1) := by decide +kernel
theorem dX12_hourAt_0 : decode cX12_hourAt 0 = .ok (.aload_n 0, 1) := by decide +kernel
theorem dX12_hourAt_1 : decode cX12_hourAt 1 = .ok (.getfield 30, 3) := by decide +kernel
theorem dX12_hourAt_4 : decode cX12_hourAt 4 = .ok (.iconst 2, 1) := by decide +kernel
theorem dX12_hourAt_5 : decode cX12_hourAt 5 = .ok (.iaload, 1) := by decide +kernel
theorem dX12_hourAt_6 : decode cX12_hourAt 6 = .ok (.iload_n 1, 1) := by decide +kernel
theorem dX12_hourAt_7 : decode cX12_hourAt 7 = .ok (.iadd, 1) := by decide +kernel
theorem dX12_hourAt_8 : decode cX12_hourAt 8 = .ok (.bipush 99, 2) := by decide +kernel
theorem dX12_hourAt_10 : decode cX12_hourAt 10 = .ok (.if_icmp .le 8, 3) := by decide +kernel
theorem dX12_hourAt_13 : decode cX12_hourAt 13 = .ok (.bipush 99, 2) := by decide +kernel
theorem dX12_hourAt_15 : decode cX12_hourAt 15 = .ok (.goto 11, 3) := by decide +kernel
theorem dX12_hourAt_18 : decode cX12_hourAt 18 = .ok (.aload_n 0, 1) := by decide +kernel
theorem dX12_hourAt_19 : decode cX12_hourAt 19 = .ok (.getfield 30, 3) := by decide +kernel
theorem dX12_hourAt_22 : decode cX12_hourAt 22 = .ok (.iconst 2, 1) := by decide +kernel
theorem dX12_hourAt_23 : decode cX12_hourAt 23 = .ok (.iaload, 1) := by decide +kernel
theorem dX12_hourAt_24 : decode cX12_hourAt 24 = .ok (.iload_n 1, 1) := by decide +kernel
theorem dX12_hourAt_25 : decode cX12_hourAt 25 = .ok (.iadd, 1) := by decide +kernel
theorem dX12_hourAt_26 : decode cX12_hourAt 26 = .ok (.ireturn, 1) := by decide +kernel
theorem dX12_goHour_0 : decode cX12_goHour 0 = .ok (.aload_n 0, 1) := by decide +kernel
theorem dX12_goHour_1 : decode cX12_goHour 1 = .ok (.aload_n 0, 1) := by decide +kernel
theorem dX12_goHour_2 : decode cX12_goHour 2 = .ok (.getfield 265, 3) := by decide +kernel
theorem dX12_goHour_5 : decode cX12_goHour 5 = .ok (.aload_n 0, 1) := by decide +kernel
theorem dX12_goHour_6 : decode cX12_goHour 6 = .ok (.iload_n 1, 1) := by decide +kernel
theorem dX12_goHour_7 : decode cX12_goHour 7 = .ok (.aload_n 0, 1) := by decide +kernel
theorem dX12_goHour_8 : decode cX12_goHour 8 = .ok (.getfield 265, 3) := by decide +kernel
theorem dX12_goHour_11 : decode cX12_goHour 11 = .ok (.aload_n 0, 1) := by decide +kernel
theorem dX12_goHour_12 : decode cX12_goHour 12 = .ok (.getfield 21, 3) := by decide +kernel
theorem dX12_goHour_15 : decode cX12_goHour 15 = .ok (.iload_n 1, 1) := by decide +kernel
theorem dX12_goHour_16 : decode cX12_goHour 16 = .ok (.iaload, 1) := by decide +kernel
theorem dX12_goHour_17 : decode cX12_goHour 17 = .ok (.iload_n 2, 1) := by decide +kernel
theorem dX12_goHour_18 : decode cX12_goHour 18 = .ok (.invokestatic 274, 3) := by decide +kernel
theorem dX12_goHour_21 : decode cX12_goHour 21 = .ok (.aload_n 0, 1) := by decide +kernel
theorem dX12_goHour_22 : decode cX12_goHour 22 = .ok (.iload_n 2, 1) := by decide +kernel
theorem dX12_goHour_23 : decode cX12_goHour 23 = .ok (.invokevirtual 277, 3) := by decide +kernel
theorem dX12_goHour_26 : decode cX12_goHour 26 = .ok (.invokevirtual 252, 3) := by decide +kernel
theorem dX12_goHour_29 : decode cX12_goHour 29 = .ok (.iadd, 1) := by decide +kernel
theorem dX12_goHour_30 : decode cX12_goHour 30 = .ok (.iload_n 3, 1) := by decide +kernel
theorem dX12_goHour_31 : decode cX12_goHour 31 = .ok (.iadd, 1) := by decide +kernel
theorem dX12_goHour_32 : decode cX12_goHour 32 = .ok (.bipush 8, 2) := by decide +kernel
theorem dX12_goHour_34 : decode cX12_goHour 34 = .ok (.iadd, 1) := by decide +kernel
theorem dX12_goHour_35 : decode cX12_goHour 35 = .ok (.bipush 8, 2) := by decide +kernel
theorem dX12_goHour_37 : decode cX12_goHour 37 = .ok (.irem, 1) := by decide +kernel
theorem dX12_goHour_38 : decode cX12_goHour 38 = .ok (.putfield 265, 3) := by decide +kernel
theorem dX12_goHour_41 : decode cX12_goHour 41 = .ok (.iconst 0, 1) := by decide +kernel
theorem dX12_goHour_42 : decode cX12_goHour 42 = .ok (.istore 4, 2) := by decide +kernel
theorem dX12_goHour_44 : decode cX12_goHour 44 = .ok (.iload 4, 2) := by decide +kernel
theorem dX12_goHour_46 : decode cX12_goHour 46 = .ok (.aload_n 0, 1) := by decide +kernel
theorem dX12_goHour_47 : decode cX12_goHour 47 = .ok (.getfield 18, 3) := by decide +kernel
theorem dX12_goHour_50 : decode cX12_goHour 50 = .ok (.iload_n 1, 1) := by decide +kernel
theorem dX12_goHour_51 : decode cX12_goHour 51 = .ok (.iaload, 1) := by decide +kernel
theorem dX12_goHour_52 : decode cX12_goHour 52 = .ok (.if_icmp .ge 13, 3) := by decide +kernel
theorem dX12_goHour_55 : decode cX12_goHour 55 = .ok (.aload_n 0, 1) := by decide +kernel
theorem dX12_goHour_56 : decode cX12_goHour 56 = .ok (.invokevirtual 280, 3) := by decide +kernel
theorem dX12_goHour_59 : decode cX12_goHour 59 = .ok (.iinc 4 1, 3) := by decide +kernel
theorem dX12_goHour_62 : decode cX12_goHour 62 = .ok (.goto (-18), 3) := by decide +kernel
theorem dX12_goHour_65 : decode cX12_goHour 65 = .ok (.return_, 1) := by decide +kernel
theorem dX12_layNow_0 : decode cX12_layNow 0 = .ok (.aload_n 0, 1) := by decide +kernel
theorem dX12_layNow_1 : decode cX12_layNow 1 = .ok (.aload_n 0, 1) := by decide +kernel
theorem dX12_layNow_2 : decode cX12_layNow 2 = .ok (.getfield 9, 3) := by decide +kernel
theorem dX12_layNow_5 : decode cX12_layNow 5 = .ok (.iload_n 1, 1) := by decide +kernel
theorem dX12_layNow_6 : decode cX12_layNow 6 = .ok (.iaload, 1) := by decide +kernel
theorem dX12_layNow_7 : decode cX12_layNow 7 = .ok (.putfield 262, 3) := by decide +kernel
theorem dX12_layNow_10 : decode cX12_layNow 10 = .ok (.aload_n 0, 1) := by decide +kernel
theorem dX12_layNow_11 : decode cX12_layNow 11 = .ok (.aload_n 0, 1) := by decide +kernel
theorem dX12_layNow_12 : decode cX12_layNow 12 = .ok (.getfield 15, 3) := by decide +kernel
theorem dX12_layNow_15 : decode cX12_layNow 15 = .ok (.iload_n 1, 1) := by decide +kernel
theorem dX12_layNow_16 : decode cX12_layNow 16 = .ok (.iaload, 1) := by decide +kernel
theorem dX12_layNow_17 : decode cX12_layNow 17 = .ok (.putfield 265, 3) := by decide +kernel
theorem dX12_layNow_20 : decode cX12_layNow 20 = .ok (.return_, 1) := by decide +kernel
theorem dX12_goTo_0 : decode cX12_goTo 0 = .ok (.aload_n 0, 1) := by decide +kernel
theorem dX12_goTo_1 : decode cX12_goTo 1 = .ok (.iload_n 1, 1) := by decide +kernel
theorem dX12_goTo_2 : decode cX12_goTo 2 = .ok (.invokevirtual 283, 3) := by decide +kernel
theorem dX12_goTo_5 : decode cX12_goTo 5 = .ok (.iconst 0, 1) := by decide +kernel
theorem dX12_goTo_6 : decode cX12_goTo 6 = .ok (.istore_n 3, 1) := by decide +kernel
theorem dX12_goTo_7 : decode cX12_goTo 7 = .ok (.iload_n 3, 1) := by decide +kernel
theorem dX12_goTo_8 : decode cX12_goTo 8 = .ok (.iload_n 2, 1) := by decide +kernel
theorem dX12_goTo_9 : decode cX12_goTo 9 = .ok (.if_icmp .ge 16, 3) := by decide +kernel
theorem dX12_goTo_12 : decode cX12_goTo 12 = .ok (.aload_n 0, 1) := by decide +kernel
theorem dX12_goTo_13 : decode cX12_goTo 13 = .ok (.iload_n 1, 1) := by decide +kernel
theorem dX12_goTo_14 : decode cX12_goTo 14 = .ok (.iload_n 3, 1) := by decide +kernel
theorem dX12_goTo_15 : decode cX12_goTo 15 = .ok (.iconst 0, 1) := by decide +kernel
theorem dX12_goTo_16 : decode cX12_goTo 16 = .ok (.invokevirtual 287, 3) := by decide +kernel
theorem dX12_goTo_19 : decode cX12_goTo 19 = .ok (.iinc 3 1, 3) := by decide +kernel
theorem dX12_goTo_22 : decode cX12_goTo 22 = .ok (.goto (-15), 3) := by decide +kernel
theorem dX12_goTo_25 : decode cX12_goTo 25 = .ok (.return_, 1) := by decide +kernel
theorem dX12_areHours_0 : decode cX12_areHours 0 = .ok (.iload_n 0, 1) := by decide +kernel
theorem dX12_areHours_1 : decode cX12_areHours 1 = .ok (.iconst 0, 1) := by decide +kernel
theorem dX12_areHours_2 : decode cX12_areHours 2 = .ok (.bipush 60, 2) := by decide +kernel
theorem dX12_areHours_4 : decode cX12_areHours 4 = .ok (.invokestatic 128, 3) := by decide +kernel
theorem dX12_areHours_7 : decode cX12_areHours 7 = .ok (.ireturn, 1) := by decide +kernel
theorem dX12_later_0 : decode cX12_later 0 = .ok (.aload_n 0, 1) := by decide +kernel
theorem dX12_later_1 : decode cX12_later 1 = .ok (.iload_n 1, 1) := by decide +kernel
theorem dX12_later_2 : decode cX12_later 2 = .ok (.invokevirtual 135, 3) := by decide +kernel
theorem dX12_later_5 : decode cX12_later 5 = .ok (.ifCond .eq 19, 3) := by decide +kernel
theorem dX12_later_8 : decode cX12_later 8 = .ok (.iload_n 2, 1) := by decide +kernel
theorem dX12_later_9 : decode cX12_later 9 = .ok (.invokestatic 290, 3) := by decide +kernel
theorem dX12_later_12 : decode cX12_later 12 = .ok (.ifCond .eq 12, 3) := by decide +kernel
theorem dX12_later_15 : decode cX12_later 15 = .ok (.iload_n 3, 1) := by decide +kernel
theorem dX12_later_16 : decode cX12_later 16 = .ok (.iconst 0, 1) := by decide +kernel
theorem dX12_later_17 : decode cX12_later 17 = .ok (.iconst 2, 1) := by decide +kernel
theorem dX12_later_18 : decode cX12_later 18 = .ok (.invokestatic 128, 3) := by decide +kernel
theorem dX12_later_21 : decode cX12_later 21 = .ok (.ifCond .ne 5, 3) := by decide +kernel
theorem dX12_later_24 : decode cX12_later 24 = .ok (.iconst (-1), 1) := by decide +kernel
