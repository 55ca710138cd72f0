theorem dX11_act_0 : decode cX11_act 0 = .ok (.aload_n 0, 1) := by decide +kernel
theorem dX11_act_1 : decode cX11_act 1 = .ok (.getfield 57, 3) := by decide +kernel
theorem dX11_act_4 : decode cX11_act 4 = .ok (.iload_n 1, 1) := by decide +kernel
theorem dX11_act_5 : decode cX11_act 5 = .ok (.iconst 1, 1) := by decide +kernel
theorem dX11_act_6 : decode cX11_act 6 = .ok (.iadd, 1) := by decide +kernel
theorem dX11_act_7 : decode cX11_act 7 = .ok (.iaload, 1) := by decide +kernel
theorem dX11_act_8 : decode cX11_act 8 = .ok (.istore_n 2, 1) := by decide +kernel
theorem dX11_act_9 : decode cX11_act 9 = .ok (.aload_n 0, 1) := by decide +kernel
theorem dX11_act_10 : decode cX11_act 10 = .ok (.getfield 57, 3) := by decide +kernel
theorem dX11_act_13 : decode cX11_act 13 = .ok (.iload_n 1, 1) := by decide +kernel
theorem dX11_act_14 : decode cX11_act 14 = .ok (.iaload, 1) := by decide +kernel
theorem dX11_act_15 : decode cX11_act 15 = .ok (.lookupswitch 141 #[(109, 33), (111, 80), (118, 105)], 33) := by decide +kernel
theorem dX11_act_48 : decode cX11_act 48 = .ok (.iload_n 2, 1) := by decide +kernel
theorem dX11_act_49 : decode cX11_act 49 = .ok (.bipush 90, 2) := by decide +kernel
theorem dX11_act_51 : decode cX11_act 51 = .ok (.if_icmp .le 5, 3) := by decide +kernel
theorem dX11_act_54 : decode cX11_act 54 = .ok (.iconst 0, 1) := by decide +kernel
theorem dX11_act_55 : decode cX11_act 55 = .ok (.ireturn, 1) := by decide +kernel
theorem dX11_act_56 : decode cX11_act 56 = .ok (.iconst 0, 1) := by decide +kernel
theorem dX11_act_57 : decode cX11_act 57 = .ok (.istore_n 3, 1) := by decide +kernel
theorem dX11_act_58 : decode cX11_act 58 = .ok (.iload_n 3, 1) := by decide +kernel
theorem dX11_act_59 : decode cX11_act 59 = .ok (.iload_n 2, 1) := by decide +kernel
theorem dX11_act_60 : decode cX11_act 60 = .ok (.if_icmp .ge 33, 3) := by decide +kernel
theorem dX11_act_63 : decode cX11_act 63 = .ok (.aload_n 0, 1) := by decide +kernel
theorem dX11_act_64 : decode cX11_act 64 = .ok (.aload_n 0, 1) := by decide +kernel
theorem dX11_act_65 : decode cX11_act 65 = .ok (.getfield 9, 3) := by decide +kernel
theorem dX11_act_68 : decode cX11_act 68 = .ok (.invokevirtual 297, 3) := by decide +kernel
theorem dX11_act_71 : decode cX11_act 71 = .ok (.aload_n 0, 1) := by decide +kernel
theorem dX11_act_72 : decode cX11_act 72 = .ok (.dup, 1) := by decide +kernel
theorem dX11_act_73 : decode cX11_act 73 = .ok (.getfield 306, 3) := by decide +kernel
theorem dX11_act_76 : decode cX11_act 76 = .ok (.aload_n 0, 1) := by decide +kernel
theorem dX11_act_77 : decode cX11_act 77 = .ok (.getfield 261, 3) := by decide +kernel
theorem dX11_act_80 : decode cX11_act 80 = .ok (.invokestatic 285, 3) := by decide +kernel
theorem dX11_act_83 : decode cX11_act 83 = .ok (.iadd, 1) := by decide +kernel
theorem dX11_act_84 : decode cX11_act 84 = .ok (.putfield 306, 3) := by decide +kernel
theorem dX11_act_87 : decode cX11_act 87 = .ok (.iinc 3 1, 3) := by decide +kernel
theorem dX11_act_90 : decode cX11_act 90 = .ok (.goto (-32), 3) := by decide +kernel
theorem dX11_act_93 : decode cX11_act 93 = .ok (.iconst 1, 1) := by decide +kernel
theorem dX11_act_94 : decode cX11_act 94 = .ok (.ireturn, 1) := by decide +kernel
theorem dX11_act_95 : decode cX11_act 95 = .ok (.aload_n 0, 1) := by decide +kernel
theorem dX11_act_96 : decode cX11_act 96 = .ok (.aload_n 0, 1) := by decide +kernel
theorem dX11_act_97 : decode cX11_act 97 = .ok (.getfield 9, 3) := by decide +kernel
theorem dX11_act_100 : decode cX11_act 100 = .ok (.iload_n 2, 1) := by decide +kernel
theorem dX11_act_101 : decode cX11_act 101 = .ok (.invokevirtual 268, 3) := by decide +kernel
theorem dX11_act_104 : decode cX11_act 104 = .ok (.ifCond .ge 5, 3) := by decide +kernel
theorem dX11_act_107 : decode cX11_act 107 = .ok (.iconst 0, 1) := by decide +kernel
theorem dX11_act_108 : decode cX11_act 108 = .ok (.ireturn, 1) := by decide +kernel
theorem dX11_act_109 : decode cX11_act 109 = .ok (.aload_n 0, 1) := by decide +kernel
theorem dX11_act_110 : decode cX11_act 110 = .ok (.aload_n 0, 1) := by decide +kernel
theorem dX11_act_111 : decode cX11_act 111 = .ok (.getfield 9, 3) := by decide +kernel
theorem dX11_act_114 : decode cX11_act 114 = .ok (.iload_n 2, 1) := by decide +kernel
theorem dX11_act_115 : decode cX11_act 115 = .ok (.invokevirtual 278, 3) := by decide +kernel
theorem dX11_act_118 : decode cX11_act 118 = .ok (.iconst 1, 1) := by decide +kernel
theorem dX11_act_119 : decode cX11_act 119 = .ok (.ireturn, 1) := by decide +kernel
theorem dX11_act_120 : decode cX11_act 120 = .ok (.aload_n 0, 1) := by decide +kernel
theorem dX11_act_121 : decode cX11_act 121 = .ok (.iload_n 2, 1) := by decide +kernel
theorem dX11_act_122 : decode cX11_act 122 = .ok (.aload_n 0, 1) := by decide +kernel
theorem dX11_act_123 : decode cX11_act 123 = .ok (.getfield 57, 3) := by decide +kernel
theorem dX11_act_126 : decode cX11_act 126 = .ok (.iload_n 1, 1) := by decide +kernel
theorem dX11_act_127 : decode cX11_act 127 = .ok (.iconst 2, 1) := by decide +kernel
theorem dX11_act_128 : decode cX11_act 128 = .ok (.iadd, 1) := by decide +kernel
theorem dX11_act_129 : decode cX11_act 129 = .ok (.iaload, 1) := by decide +kernel
theorem dX11_act_130 : decode cX11_act 130 = .ok (.invokevirtual 290, 3) := by decide +kernel
theorem dX11_act_133 : decode cX11_act 133 = .ok (.ifCond .ne 5, 3) := by decide +kernel
theorem dX11_act_136 : decode cX11_act 136 = .ok (.iconst 0, 1) := by decide +kernel
theorem dX11_act_137 : decode cX11_act 137 = .ok (.ireturn, 1) := by decide +kernel
theorem dX11_act_138 : decode cX11_act 138 = .ok (.aload_n 0, 1) := by decide +kernel
theorem dX11_act_139 : decode cX11_act 139 = .ok (.getfield 9, 3) := by decide +kernel
theorem dX11_act_142 : decode cX11_act 142 = .ok (.iload_n 2, 1) := by decide +kernel
theorem dX11_act_143 : decode cX11_act 143 = .ok (.aload_n 0, 1) := by decide +kernel
theorem dX11_act_144 : decode cX11_act 144 = .ok (.getfield 57, 3) := by decide +kernel
theorem dX11_act_147 : decode cX11_act 147 = .ok (.iload_n 1, 1) := by decide +kernel
theorem dX11_act_148 : decode cX11_act 148 = .ok (.iconst 2, 1) := by decide +kernel
theorem dX11_act_149 : decode cX11_act 149 = .ok (.iadd, 1) := by decide +kernel
theorem dX11_act_150 : decode cX11_act 150 = .ok (.iaload, 1) := by decide +kernel
theorem dX11_act_151 : decode cX11_act 151 = .ok (.invokestatic 293, 3) := by decide +kernel
theorem dX11_act_154 : decode cX11_act 154 = .ok (.iconst 1, 1) := by decide +kernel
theorem dX11_act_155 : decode cX11_act 155 = .ok (.ireturn, 1) := by decide +kernel
theorem dX11_act_156 : decode cX11_act 156 = .ok (.aload_n 0, 1) := by decide +kernel
theorem dX11_act_157 : decode cX11_act 157 = .ok (.getfield 9, 3) := by decide +kernel
theorem dX11_act_160 : decode cX11_act 160 = .ok (.bipush 24, 2) := by decide +kernel
theorem dX11_act_162 : decode cX11_act 162 = .ok (.dup2, 1) := by decide +kernel
theorem dX11_act_163 : decode cX11_act 163 = .ok (.iaload, 1) := by decide +kernel
theorem dX11_act_164 : decode cX11_act 164 = .ok (.iload_n 2, 1) := by decide +kernel
theorem dX11_act_165 : decode cX11_act 165 = .ok (.iadd, 1) := by decide +kernel
theorem dX11_act_166 : decode cX11_act 166 = .ok (.iastore, 1) := by decide +kernel
theorem dX11_act_167 : decode cX11_act 167 = .ok (.iconst 1, 1) := by decide +kernel
theorem dX11_act_168 : decode cX11_act 168 = .ok (.ireturn, 1) := by decide +kernel
theorem dX11_day_0 : decode cX11_day 0 = .ok (.aload_n 0, 1) := by decide +kernel
theorem dX11_day_1 : decode cX11_day 1 = .ok (.iconst 0, 1) := by decide +kernel
theorem dX11_day_2 : decode cX11_day 2 = .ok (.putfield 99, 3) := by decide +kernel
theorem dX11_day_5 : decode cX11_day 5 = .ok (.aload_n 0, 1) := by decide +kernel
theorem dX11_day_6 : decode cX11_day 6 = .ok (.aload_n 0, 1) := by decide +kernel
theorem dX11_day_7 : decode cX11_day 7 = .ok (.getfield 35, 3) := by decide +kernel
theorem dX11_day_10 : decode cX11_day 10 = .ok (.aload_n 0, 1) := by decide +kernel
theorem dX11_day_11 : decode cX11_day 11 = .ok (.getfield 116, 3) := by decide +kernel
theorem dX11_day_14 : decode cX11_day 14 = .ok (.bipush 60, 2) := by decide +kernel
theorem dX11_day_16 : decode cX11_day 16 = .ok (.invokevirtual 164, 3) := by decide +kernel
theorem dX11_day_19 : decode cX11_day 19 = .ok (.aload_n 0, 1) := by decide +kernel
theorem dX11_day_20 : decode cX11_day 20 = .ok (.iconst 0, 1) := by decide +kernel
theorem dX11_day_21 : decode cX11_day 21 = .ok (.putfield 116, 3) := by decide +kernel
theorem dX11_day_24 : decode cX11_day 24 = .ok (.iconst 0, 1) := by decide +kernel
theorem dX11_day_25 : decode cX11_day 25 = .ok (.istore_n 1, 1) := by decide +kernel
theorem dX11_day_26 : decode cX11_day 26 = .ok (.aload_n 0, 1) := by decide +kernel
theorem dX11_day_27 : decode cX11_day 27 = .ok (.getfield 122, 3) := by decide +kernel
theorem dX11_day_30 : decode cX11_day 30 = .ok (.ifCond .le 7, 3) := by decide +kernel
theorem dX11_day_33 : decode cX11_day 33 = .ok (.iconst 1, 1) := by decide +kernel
theorem dX11_day_34 : decode cX11_day 34 = .ok (.goto 4, 3) := by decide +kernel
theorem dX11_day_37 : decode cX11_day 37 = .ok (.iconst 0, 1) := by decide +kernel
theorem dX11_day_38 : decode cX11_day 38 = .ok (.istore_n 2, 1) := by decide +kernel
theorem dX11_day_39 : decode cX11_day 39 = .ok (.iload_n 2, 1) := by decide +kernel
theorem dX11_day_40 : decode cX11_day 40 = .ok (.ifCond .eq 30, 3) := by decide +kernel
theorem dX11_day_43 : decode cX11_day 43 = .ok (.aload_n 0, 1) := by decide +kernel
theorem dX11_day_44 : decode cX11_day 44 = .ok (.invokevirtual 134, 3) := by decide +kernel
theorem dX11_day_47 : decode cX11_day 47 = .ok (.ifCond .eq 23, 3) := by decide +kernel
theorem dX11_day_50 : decode cX11_day 50 = .ok (.aload_n 0, 1) := by decide +kernel
theorem dX11_day_51 : decode cX11_day 51 = .ok (.iconst 3, 1) := by decide +kernel
theorem dX11_day_52 : decode cX11_day 52 = .ok (.iload_n 1, 1) := by decide +kernel
theorem dX11_day_53 : decode cX11_day 53 = .ok (.imul, 1) := by decide +kernel
theorem dX11_day_54 : decode cX11_day 54 = .ok (.invokevirtual 303, 3) := by decide +kernel
theorem dX11_day_57 : decode cX11_day 57 = .ok (.iinc 1 1, 3) := by decide +kernel
theorem dX11_day_60 : decode cX11_day 60 = .ok (.aload_n 0, 1) := by decide +kernel
theorem dX11_day_61 : decode cX11_day 61 = .ok (.bipush 59, 2) := by decide +kernel
theorem dX11_day_63 : decode cX11_day 63 = .ok (.invokevirtual 171, 3) := by decide +kernel
theorem dX11_day_66 : decode cX11_day 66 = .ok (.istore_n 2, 1) := by decide +kernel
theorem dX11_day_67 : decode cX11_day 67 = .ok (.goto (-28), 3) := by decide +kernel
theorem dX11_day_70 : decode cX11_day 70 = .ok (.aload_n 0, 1) := by decide +kernel
theorem dX11_day_71 : decode cX11_day 71 = .ok (.getfield 128, 3) := by decide +kernel
theorem dX11_day_74 : decode cX11_day 74 = .ok (.aload_n 0, 1) := by decide +kernel
theorem dX11_day_75 : decode cX11_day 75 = .ok (.getfield 122, 3) := by decide +kernel
theorem dX11_day_78 : decode cX11_day 78 = .ok (.if_icmp .ge 11, 3) := by decide +kernel
theorem dX11_day_81 : decode cX11_day 81 = .ok (.aload_n 0, 1) := by decide +kernel
theorem dX11_day_82 : decode cX11_day 82 = .ok (.aload_n 0, 1) := by decide +kernel
theorem dX11_day_83 : decode cX11_day 83 = .ok (.getfield 128, 3) := by decide +kernel
theorem dX11_day_86 : decode cX11_day 86 = .ok (.invokevirtual 142, 3) := by decide +kernel
theorem dX11_day_89 : decode cX11_day 89 = .ok (.aload_n 0, 1) := by decide +kernel
theorem dX11_day_90 : decode cX11_day 90 = .ok (.invokevirtual 134, 3) := by decide +kernel
theorem dX11_day_93 : decode cX11_day 93 = .ok (.ifCond .ne 10, 3) := by decide +kernel
theorem dX11_day_96 : decode cX11_day 96 = .ok (.iconst (-1), 1) := by decide +kernel
theorem dX11_day_97 : decode cX11_day 97 = .ok (.aload_n 0, 1) := by decide +kernel
theorem dX11_day_98 : decode cX11_day 98 = .ok (.getfield 131, 3) := by decide +kernel
theorem dX11_day_101 : decode cX11_day 101 = .ok (.isub, 1) := by decide +kernel
theorem dX11_day_102 : decode cX11_day 102 = .ok (.ireturn, 1) := by decide +kernel
theorem dX11_day_103 : decode cX11_day 103 = .ok (.aload_n 0, 1) := by decide +kernel
theorem dX11_day_104 : decode cX11_day 104 = .ok (.invokevirtual 271, 3) := by decide +kernel
theorem dX11_day_107 : decode cX11_day 107 = .ok (.aload_n 0, 1) := by decide +kernel
theorem dX11_day_108 : decode cX11_day 108 = .ok (.getfield 9, 3) := by decide +kernel
theorem dX11_day_111 : decode cX11_day 111 = .ok (.aload_n 0, 1) := by decide +kernel
theorem dX11_day_112 : decode cX11_day 112 = .ok (.getfield 54, 3) := by decide +kernel
theorem dX11_day_115 : decode cX11_day 115 = .ok (.iconst 0, 1) := by decide +kernel
theorem dX11_day_116 : decode cX11_day 116 = .ok (.invokestatic 242, 3) := by decide +kernel
theorem dX11_day_119 : decode cX11_day 119 = .ok (.aload_n 0, 1) := by decide +kernel
theorem dX11_day_120 : decode cX11_day 120 = .ok (.iconst 0, 1) := by decide +kernel
theorem dX11_day_121 : decode cX11_day 121 = .ok (.putfield 306, 3) := by decide +kernel
theorem dX11_day_124 : decode cX11_day 124 = .ok (.iconst 0, 1) := by decide +kernel
theorem dX11_day_125 : decode cX11_day 125 = .ok (.istore_n 3, 1) := by decide +kernel
theorem dX11_day_126 : decode cX11_day 126 = .ok (.iload_n 3, 1) := by decide +kernel
theorem dX11_day_127 : decode cX11_day 127 = .ok (.iload_n 1, 1) := by decide +kernel
theorem dX11_day_128 : decode cX11_day 128 = .ok (.if_icmp .ge 19, 3) := by decide +kernel
theorem dX11_day_131 : decode cX11_day 131 = .ok (.aload_n 0, 1) := by decide +kernel
theorem dX11_day_132 : decode cX11_day 132 = .ok (.iconst 3, 1) := by decide +kernel
theorem dX11_day_133 : decode cX11_day 133 = .ok (.iload_n 3, 1) := by decide +kernel
theorem dX11_day_134 : decode cX11_day 134 = .ok (.imul, 1) := by decide +kernel
theorem dX11_day_135 : decode cX11_day 135 = .ok (.invokevirtual 309, 3) := by decide +kernel
theorem dX11_day_138 : decode cX11_day 138 = .ok (.ifCond .eq 9, 3) := by decide +kernel
theorem dX11_day_141 : decode cX11_day 141 = .ok (.iinc 3 1, 3) := by decide +kernel
theorem dX11_day_144 : decode cX11_day 144 = .ok (.goto (-18), 3) := by decide +kernel
theorem dX11_day_147 : decode cX11_day 147 = .ok (.iload_n 3, 1) := by decide +kernel
theorem dX11_day_148 : decode cX11_day 148 = .ok (.ifCond .le 11, 3) := by decide +kernel
theorem dX11_day_151 : decode cX11_day 151 = .ok (.aload_n 0, 1) := by decide +kernel
theorem dX11_day_152 : decode cX11_day 152 = .ok (.aload_n 0, 1) := by decide +kernel
theorem dX11_day_153 : decode cX11_day 153 = .ok (.getfield 54, 3) := by decide +kernel
theorem dX11_day_156 : decode cX11_day 156 = .ok (.invokevirtual 274, 3) := by decide +kernel
theorem dX11_day_159 : decode cX11_day 159 = .ok (.aload_n 0, 1) := by decide +kernel
theorem dX11_day_160 : decode cX11_day 160 = .ok (.iconst 0, 1) := by decide +kernel
theorem dX11_day_161 : decode cX11_day 161 = .ok (.putfield 103, 3) := by decide +kernel
theorem dX11_day_164 : decode cX11_day 164 = .ok (.aload_n 0, 1) := by decide +kernel
theorem dX11_day_165 : decode cX11_day 165 = .ok (.iload_n 3, 1) := by decide +kernel
theorem dX11_day_166 : decode cX11_day 166 = .ok (.iload_n 1, 1) := by decide +kernel
theorem dX11_day_167 : decode cX11_day 167 = .ok (.if_icmp .ge 7, 3) := by decide +kernel
theorem dX11_day_170 : decode cX11_day 170 = .ok (.iconst 1, 1) := by decide +kernel
theorem dX11_day_171 : decode cX11_day 171 = .ok (.goto 4, 3) := by decide +kernel
theorem dX11_day_174 : decode cX11_day 174 = .ok (.iconst 0, 1) := by decide +kernel
theorem dX11_day_175 : decode cX11_day 175 = .ok (.invokevirtual 300, 3) := by decide +kernel
theorem dX11_day_178 : decode cX11_day 178 = .ok (.aload_n 0, 1) := by decide +kernel
theorem dX11_day_179 : decode cX11_day 179 = .ok (.aload_n 0, 1) := by decide +kernel
theorem dX11_day_180 : decode cX11_day 180 = .ok (.getfield 306, 3) := by decide +kernel
theorem dX11_day_183 : decode cX11_day 183 = .ok (.invokevirtual 300, 3) := by decide +kernel
theorem dX11_day_186 : decode cX11_day 186 = .ok (.iload_n 3, 1) := by decide +kernel
theorem dX11_day_187 : decode cX11_day 187 = .ok (.ireturn, 1) := by decide +kernel
theorem dX11_undo_0 : decode cX11_undo 0 = .ok (.aload_n 0, 1) := by decide +kernel
theorem dX11_undo_1 : decode cX11_undo 1 = .ok (.iconst 0, 1) := by decide +kernel
theorem dX11_undo_2 : decode cX11_undo 2 = .ok (.putfield 99, 3) := by decide +kernel
theorem dX11_undo_5 : decode cX11_undo 5 = .ok (.aload_n 0, 1) := by decide +kernel
theorem dX11_undo_6 : decode cX11_undo 6 = .ok (.getfield 153, 3) := by decide +kernel
theorem dX11_undo_9 : decode cX11_undo 9 = .ok (.ifCond .ne 5, 3) := by decide +kernel
theorem dX11_undo_12 : decode cX11_undo 12 = .ok (.iconst (-1), 1) := by decide +kernel
theorem dX11_undo_13 : decode cX11_undo 13 = .ok (.ireturn, 1) := by decide +kernel
theorem dX11_undo_14 : decode cX11_undo 14 = .ok (.aload_n 0, 1) := by decide +kernel
theorem dX11_undo_15 : decode cX11_undo 15 = .ok (.dup, 1) := by decide +kernel
theorem dX11_undo_16 : decode cX11_undo 16 = .ok (.getfield 153, 3) := by decide +kernel
theorem dX11_undo_19 : decode cX11_undo 19 = .ok (.iconst 1, 1) := by decide +kernel
theorem dX11_undo_20 : decode cX11_undo 20 = .ok (.isub, 1) := by decide +kernel
theorem dX11_undo_21 : decode cX11_undo 21 = .ok (.putfield 153, 3) := by decide +kernel
theorem dX11_undo_24 : decode cX11_undo 24 = .ok (.iconst 0, 1) := by decide +kernel
theorem dX11_undo_25 : decode cX11_undo 25 = .ok (.istore_n 1, 1) := by decide +kernel
theorem dX11_undo_26 : decode cX11_undo 26 = .ok (.iload_n 1, 1) := by decide +kernel
theorem dX11_undo_27 : decode cX11_undo 27 = .ok (.bipush 25, 2) := by decide +kernel
theorem dX11_undo_29 : decode cX11_undo 29 = .ok (.if_icmp .ge 29, 3) := by decide +kernel
theorem dX11_undo_32 : decode cX11_undo 32 = .ok (.aload_n 0, 1) := by decide +kernel
theorem dX11_undo_33 : decode cX11_undo 33 = .ok (.getfield 9, 3) := by decide +kernel
theorem dX11_undo_36 : decode cX11_undo 36 = .ok (.iload_n 1, 1) := by decide +kernel
theorem dX11_undo_37 : decode cX11_undo 37 = .ok (.aload_n 0, 1) := by decide +kernel
theorem dX11_undo_38 : decode cX11_undo 38 = .ok (.getfield 51, 3) := by decide +kernel
theorem dX11_undo_41 : decode cX11_undo 41 = .ok (.bipush 25, 2) := by decide +kernel
theorem dX11_undo_43 : decode cX11_undo 43 = .ok (.aload_n 0, 1) := by decide +kernel
theorem dX11_undo_44 : decode cX11_undo 44 = .ok (.getfield 153, 3) := by decide +kernel
theorem dX11_undo_47 : decode cX11_undo 47 = .ok (.imul, 1) := by decide +kernel
theorem dX11_undo_48 : decode cX11_undo 48 = .ok (.iload_n 1, 1) := by decide +kernel
theorem dX11_undo_49 : decode cX11_undo 49 = .ok (.iadd, 1) := by decide +kernel
theorem dX11_undo_50 : decode cX11_undo 50 = .ok (.iaload, 1) := by decide +kernel
theorem dX11_undo_51 : decode cX11_undo 51 = .ok (.iastore, 1) := by decide +kernel
theorem dX11_undo_52 : decode cX11_undo 52 = .ok (.iinc 1 1, 3) := by decide +kernel
theorem dX11_undo_55 : decode cX11_undo 55 = .ok (.goto (-29), 3) := by decide +kernel
theorem dX11_undo_58 : decode cX11_undo 58 = .ok (.aload_n 0, 1) := by decide +kernel
theorem dX11_undo_59 : decode cX11_undo 59 = .ok (.getfield 153, 3) := by decide +kernel
theorem dX11_undo_62 : decode cX11_undo 62 = .ok (.ireturn, 1) := by decide +kernel
theorem dX11_where_0 : decode cX11_where 0 = .ok (.aload_n 0, 1) := by decide +kernel
theorem dX11_where_1 : decode cX11_where 1 = .ok (.iconst 0, 1) := by decide +kernel
theorem dX11_where_2 : decode cX11_where 2 = .ok (.putfield 99, 3) := by decide +kernel
theorem dX11_where_5 : decode cX11_where 5 = .ok (.iload_n 2, 1) := by decide +kernel
theorem dX11_where_6 : decode cX11_where 6 = .ok (.iconst 0, 1) := by decide +kernel
theorem dX11_where_7 : decode cX11_where 7 = .ok (.sipush 400, 3) := by decide +kernel
theorem dX11_where_10 : decode cX11_where 10 = .ok (.invokestatic 109, 3) := by decide +kernel
theorem dX11_where_13 : decode cX11_where 13 = .ok (.ifCond .ne 6, 3) := by decide +kernel
theorem dX11_where_16 : decode cX11_where 16 = .ok (.bipush (-2), 2) := by decide +kernel
theorem dX11_where_18 : decode cX11_where 18 = .ok (.ireturn, 1) := by decide +kernel
theorem dX11_where_19 : decode cX11_where 19 = .ok (.aload_n 0, 1) := by decide +kernel
theorem dX11_where_20 : decode cX11_where 20 = .ok (.iload_n 1, 1) := by decide +kernel
theorem dX11_where_21 : decode cX11_where 21 = .ok (.invokevirtual 228, 3) := by decide +kernel
theorem dX11_where_24 : decode cX11_where 24 = .ok (.ifCond .ne 6, 3) := by decide +kernel
theorem dX11_where_27 : decode cX11_where 27 = .ok (.bipush (-3), 2) := by decide +kernel
theorem dX11_where_29 : decode cX11_where 29 = .ok (.ireturn, 1) := by decide +kernel
theorem dX11_where_30 : decode cX11_where 30 = .ok (.aload_n 0, 1) := by decide +kernel
theorem dX11_where_31 : decode cX11_where 31 = .ok (.invokevirtual 271, 3) := by decide +kernel
theorem dX11_where_34 : decode cX11_where 34 = .ok (.aload_n 0, 1) := by decide +kernel
theorem dX11_where_35 : decode cX11_where 35 = .ok (.getfield 9, 3) := by decide +kernel
theorem dX11_where_38 : decode cX11_where 38 = .ok (.aload_n 0, 1) := by decide +kernel
theorem dX11_where_39 : decode cX11_where 39 = .ok (.getfield 60, 3) := by decide +kernel
theorem dX11_where_42 : decode cX11_where 42 = .ok (.iconst 0, 1) := by decide +kernel
theorem dX11_where_43 : decode cX11_where 43 = .ok (.invokestatic 242, 3) := by decide +kernel
theorem dX11_where_46 : decode cX11_where 46 = .ok (.iconst 0, 1) := by decide +kernel
theorem dX11_where_47 : decode cX11_where 47 = .ok (.istore_n 3, 1) := by decide +kernel
theorem dX11_where_48 : decode cX11_where 48 = .ok (.iload_n 3, 1) := by decide +kernel
theorem dX11_where_49 : decode cX11_where 49 = .ok (.iload_n 2, 1) := by decide +kernel
theorem dX11_where_50 : decode cX11_where 50 = .ok (.if_icmp .ge 17, 3) := by decide +kernel
theorem dX11_where_53 : decode cX11_where 53 = .ok (.aload_n 0, 1) := by decide +kernel
theorem dX11_where_54 : decode cX11_where 54 = .ok (.aload_n 0, 1) := by decide +kernel
theorem dX11_where_55 : decode cX11_where 55 = .ok (.getfield 60, 3) := by decide +kernel
theorem dX11_where_58 : decode cX11_where 58 = .ok (.invokevirtual 297, 3) := by decide +kernel
theorem dX11_where_61 : decode cX11_where 61 = .ok (.iinc 3 1, 3) := by decide +kernel
theorem dX11_where_64 : decode cX11_where 64 = .ok (.goto (-16), 3) := by decide +kernel
theorem dX11_where_67 : decode cX11_where 67 = .ok (.aload_n 0, 1) := by decide +kernel
theorem dX11_where_68 : decode cX11_where 68 = .ok (.iconst 0, 1) := by decide +kernel
theorem dX11_where_69 : decode cX11_where 69 = .ok (.putfield 103, 3) := by decide +kernel
theorem dX11_where_72 : decode cX11_where 72 = .ok (.aload_n 0, 1) := by decide +kernel
theorem dX11_where_73 : decode cX11_where 73 = .ok (.aload_n 0, 1) := by decide +kernel
theorem dX11_where_74 : decode cX11_where 74 = .ok (.getfield 60, 3) := by decide +kernel
theorem dX11_where_77 : decode cX11_where 77 = .ok (.bipush 6, 2) := by decide +kernel
theorem dX11_where_79 : decode cX11_where 79 = .ok (.iload_n 1, 1) := by decide +kernel
theorem dX11_where_80 : decode cX11_where 80 = .ok (.iadd, 1) := by decide +kernel
theorem dX11_where_81 : decode cX11_where 81 = .ok (.iaload, 1) := by decide +kernel
theorem dX11_where_82 : decode cX11_where 82 = .ok (.invokevirtual 300, 3) := by decide +kernel
theorem dX11_where_85 : decode cX11_where 85 = .ok (.aload_n 0, 1) := by decide +kernel
theorem dX11_where_86 : decode cX11_where 86 = .ok (.aload_n 0, 1) := by decide +kernel
theorem dX11_where_87 : decode cX11_where 87 = .ok (.getfield 60, 3) := by decide +kernel
theorem dX11_where_90 : decode cX11_where 90 = .ok (.bipush 12, 2) := by decide +kernel
theorem dX11_where_92 : decode cX11_where 92 = .ok (.iload_n 1, 1) := by decide +kernel
theorem dX11_where_93 : decode cX11_where 93 = .ok (.iadd, 1) := by decide +kernel
theorem dX11_where_94 : decode cX11_where 94 = .ok (.iaload, 1) := by decide +kernel
theorem dX11_where_95 : decode cX11_where 95 = .ok (.invokevirtual 300, 3) := by decide +kernel
theorem dX11_where_98 : decode cX11_where 98 = .ok (.aload_n 0, 1) := by decide +kernel
theorem dX11_where_99 : decode cX11_where 99 = .ok (.getfield 60, 3) := by decide +kernel
theorem dX11_where_102 : decode cX11_where 102 = .ok (.iload_n 1, 1) := by decide +kernel
theorem dX11_where_103 : decode cX11_where 103 = .ok (.iaload, 1) := by decide +kernel
theorem dX11_where_104 : decode cX11_where 104 = .ok (.ireturn, 1) := by decide +kernel
theorem dX11_goOn_0 : decode cX11_goOn 0 = .ok (.iconst 0, 1) := by decide +kernel
theorem dX11_goOn_1 : decode cX11_goOn 1 = .ok (.istore_n 1, 1) := by decide +kernel
theorem dX11_goOn_2 : decode cX11_goOn 2 = .ok (.iload_n 1, 1) := by decide +kernel
theorem dX11_goOn_3 : decode cX11_goOn 3 = .ok (.sipush 400, 3) := by decide +kernel
theorem dX11_goOn_6 : decode cX11_goOn 6 = .ok (.if_icmp .ge 28, 3) := by decide +kernel
theorem dX11_goOn_9 : decode cX11_goOn 9 = .ok (.aload_n 0, 1) := by decide +kernel
theorem dX11_goOn_10 : decode cX11_goOn 10 = .ok (.aload_n 0, 1) := by decide +kernel
theorem dX11_goOn_11 : decode cX11_goOn 11 = .ok (.getfield 60, 3) := by decide +kernel
theorem dX11_goOn_14 : decode cX11_goOn 14 = .ok (.invokevirtual 282, 3) := by decide +kernel
theorem dX11_goOn_17 : decode cX11_goOn 17 = .ok (.ifCond .eq 17, 3) := by decide +kernel
theorem dX11_goOn_20 : decode cX11_goOn 20 = .ok (.aload_n 0, 1) := by decide +kernel
theorem dX11_goOn_21 : decode cX11_goOn 21 = .ok (.aload_n 0, 1) := by decide +kernel
theorem dX11_goOn_22 : decode cX11_goOn 22 = .ok (.getfield 60, 3) := by decide +kernel
theorem dX11_goOn_25 : decode cX11_goOn 25 = .ok (.invokevirtual 297, 3) := by decide +kernel
theorem dX11_goOn_28 : decode cX11_goOn 28 = .ok (.iinc 1 1, 3) := by decide +kernel
theorem dX11_goOn_31 : decode cX11_goOn 31 = .ok (.goto (-29), 3) := by decide +kernel
theorem dX11_goOn_34 : decode cX11_goOn 34 = .ok (.return_, 1) := by decide +kernel
theorem dX11_stuck_0 : decode cX11_stuck 0 = .ok (.aload_n 0, 1) := by decide +kernel
theorem dX11_stuck_1 : decode cX11_stuck 1 = .ok (.iconst 0, 1) := by decide +kernel
theorem dX11_stuck_2 : decode cX11_stuck 2 = .ok (.putfield 99, 3) := by decide +kernel
theorem dX11_stuck_5 : decode cX11_stuck 5 = .ok (.aload_n 0, 1) := by decide +kernel
theorem dX11_stuck_6 : decode cX11_stuck 6 = .ok (.invokevirtual 271, 3) := by decide +kernel
theorem dX11_stuck_9 : decode cX11_stuck 9 = .ok (.aload_n 0, 1) := by decide +kernel
theorem dX11_stuck_10 : decode cX11_stuck 10 = .ok (.getfield 9, 3) := by decide +kernel
theorem dX11_stuck_13 : decode cX11_stuck 13 = .ok (.aload_n 0, 1) := by decide +kernel
theorem dX11_stuck_14 : decode cX11_stuck 14 = .ok (.getfield 60, 3) := by decide +kernel
theorem dX11_stuck_17 : decode cX11_stuck 17 = .ok (.iconst 0, 1) := by decide +kernel
theorem dX11_stuck_18 : decode cX11_stuck 18 = .ok (.invokestatic 242, 3) := by decide +kernel
theorem dX11_stuck_21 : decode cX11_stuck 21 = .ok (.aload_n 0, 1) := by decide +kernel
theorem dX11_stuck_22 : decode cX11_stuck 22 = .ok (.invokevirtual 312, 3) := by decide +kernel
theorem dX11_stuck_25 : decode cX11_stuck 25 = .ok (.iconst 0, 1) := by decide +kernel
theorem dX11_stuck_26 : decode cX11_stuck 26 = .ok (.istore_n 1, 1) := by decide +kernel
theorem dX11_stuck_27 : decode cX11_stuck 27 = .ok (.iconst 0, 1) := by decide +kernel
theorem dX11_stuck_28 : decode cX11_stuck 28 = .ok (.istore_n 2, 1) := by decide +kernel
theorem dX11_stuck_29 : decode cX11_stuck 29 = .ok (.iload_n 2, 1) := by decide +kernel
theorem dX11_stuck_30 : decode cX11_stuck 30 = .ok (.aload_n 0, 1) := by decide +kernel
theorem dX11_stuck_31 : decode cX11_stuck 31 = .ok (.getfield 113, 3) := by decide +kernel
theorem dX11_stuck_34 : decode cX11_stuck 34 = .ok (.if_icmp .ge 56, 3) := by decide +kernel
theorem dX11_stuck_37 : decode cX11_stuck 37 = .ok (.aload_n 0, 1) := by decide +kernel
theorem dX11_stuck_38 : decode cX11_stuck 38 = .ok (.aload_n 0, 1) := by decide +kernel
theorem dX11_stuck_39 : decode cX11_stuck 39 = .ok (.getfield 9, 3) := by decide +kernel
theorem dX11_stuck_42 : decode cX11_stuck 42 = .ok (.iload_n 2, 1) := by decide +kernel
theorem dX11_stuck_43 : decode cX11_stuck 43 = .ok (.invokevirtual 224, 3) := by decide +kernel
theorem dX11_stuck_46 : decode cX11_stuck 46 = .ok (.ifCond .eq 38, 3) := by decide +kernel
theorem dX11_stuck_49 : decode cX11_stuck 49 = .ok (.aload_n 0, 1) := by decide +kernel
theorem dX11_stuck_50 : decode cX11_stuck 50 = .ok (.getfield 60, 3) := by decide +kernel
theorem dX11_stuck_53 : decode cX11_stuck 53 = .ok (.iload_n 2, 1) := by decide +kernel
theorem dX11_stuck_54 : decode cX11_stuck 54 = .ok (.iaload, 1) := by decide +kernel
theorem dX11_stuck_55 : decode cX11_stuck 55 = .ok (.bipush 9, 2) := by decide +kernel
theorem dX11_stuck_57 : decode cX11_stuck 57 = .ok (.if_icmp .ne 27, 3) := by decide +kernel
theorem dX11_stuck_60 : decode cX11_stuck 60 = .ok (.iload_n 1, 1) := by decide +kernel
theorem dX11_stuck_61 : decode cX11_stuck 61 = .ok (.aload_n 0, 1) := by decide +kernel
theorem dX11_stuck_62 : decode cX11_stuck 62 = .ok (.getfield 60, 3) := by decide +kernel
theorem dX11_stuck_65 : decode cX11_stuck 65 = .ok (.bipush 18, 2) := by decide +kernel
theorem dX11_stuck_67 : decode cX11_stuck 67 = .ok (.iload_n 2, 1) := by decide +kernel
theorem dX11_stuck_68 : decode cX11_stuck 68 = .ok (.iadd, 1) := by decide +kernel
theorem dX11_stuck_69 : decode cX11_stuck 69 = .ok (.iaload, 1) := by decide +kernel
theorem dX11_stuck_70 : decode cX11_stuck 70 = .ok (.iconst 1, 1) := by decide +kernel
theorem dX11_stuck_71 : decode cX11_stuck 71 = .ok (.iadd, 1) := by decide +kernel
theorem dX11_stuck_72 : decode cX11_stuck 72 = .ok (.aload_n 0, 1) := by decide +kernel
theorem dX11_stuck_73 : decode cX11_stuck 73 = .ok (.getfield 9, 3) := by decide +kernel
theorem dX11_stuck_76 : decode cX11_stuck 76 = .ok (.bipush 24, 2) := by decide +kernel
theorem dX11_stuck_78 : decode cX11_stuck 78 = .ok (.iaload, 1) := by decide +kernel
theorem dX11_stuck_79 : decode cX11_stuck 79 = .ok (.isub, 1) := by decide +kernel
theorem dX11_stuck_80 : decode cX11_stuck 80 = .ok (.invokestatic 218, 3) := by decide +kernel
theorem dX11_stuck_83 : decode cX11_stuck 83 = .ok (.istore_n 1, 1) := by decide +kernel
theorem dX11_stuck_84 : decode cX11_stuck 84 = .ok (.iinc 2 1, 3) := by decide +kernel
theorem dX11_stuck_87 : decode cX11_stuck 87 = .ok (.goto (-58), 3) := by decide +kernel
theorem dX11_stuck_90 : decode cX11_stuck 90 = .ok (.aload_n 0, 1) := by decide +kernel
theorem dX11_stuck_91 : decode cX11_stuck 91 = .ok (.iconst 0, 1) := by decide +kernel
theorem dX11_stuck_92 : decode cX11_stuck 92 = .ok (.putfield 103, 3) := by decide +kernel
theorem dX11_stuck_95 : decode cX11_stuck 95 = .ok (.aload_n 0, 1) := by decide +kernel
theorem dX11_stuck_96 : decode cX11_stuck 96 = .ok (.iload_n 1, 1) := by decide +kernel
theorem dX11_stuck_97 : decode cX11_stuck 97 = .ok (.invokevirtual 300, 3) := by decide +kernel
theorem dX11_stuck_100 : decode cX11_stuck 100 = .ok (.aload_n 0, 1) := by decide +kernel
theorem dX11_stuck_101 : decode cX11_stuck 101 = .ok (.aload_n 0, 1) := by decide +kernel
theorem dX11_stuck_102 : decode cX11_stuck 102 = .ok (.getfield 60, 3) := by decide +kernel
theorem dX11_stuck_105 : decode cX11_stuck 105 = .ok (.invokevirtual 282, 3) := by decide +kernel
theorem dX11_stuck_108 : decode cX11_stuck 108 = .ok (.ireturn, 1) := by decide +kernel
theorem dX11_areThrough_0 : decode cX11_areThrough 0 = .ok (.iconst 0, 1) := by decide +kernel
theorem dX11_areThrough_1 : decode cX11_areThrough 1 = .ok (.istore_n 1, 1) := by decide +kernel
theorem dX11_areThrough_2 : decode cX11_areThrough 2 = .ok (.iload_n 1, 1) := by decide +kernel
theorem dX11_areThrough_3 : decode cX11_areThrough 3 = .ok (.aload_n 0, 1) := by decide +kernel
theorem dX11_areThrough_4 : decode cX11_areThrough 4 = .ok (.getfield 315, 3) := by decide +kernel
theorem dX11_areThrough_7 : decode cX11_areThrough 7 = .ok (.if_icmp .ge 27, 3) := by decide +kernel
theorem dX11_areThrough_10 : decode cX11_areThrough 10 = .ok (.aload_n 0, 1) := by decide +kernel
theorem dX11_areThrough_11 : decode cX11_areThrough 11 = .ok (.getfield 60, 3) := by decide +kernel
theorem dX11_areThrough_14 : decode cX11_areThrough 14 = .ok (.aload_n 0, 1) := by decide +kernel
theorem dX11_areThrough_15 : decode cX11_areThrough 15 = .ok (.getfield 63, 3) := by decide +kernel
theorem dX11_areThrough_18 : decode cX11_areThrough 18 = .ok (.iload_n 1, 1) := by decide +kernel
theorem dX11_areThrough_19 : decode cX11_areThrough 19 = .ok (.iaload, 1) := by decide +kernel
theorem dX11_areThrough_20 : decode cX11_areThrough 20 = .ok (.iaload, 1) := by decide +kernel
theorem dX11_areThrough_21 : decode cX11_areThrough 21 = .ok (.bipush 9, 2) := by decide +kernel
theorem dX11_areThrough_23 : decode cX11_areThrough 23 = .ok (.if_icmp .eq 5, 3) := by decide +kernel
theorem dX11_areThrough_26 : decode cX11_areThrough 26 = .ok (.iconst 0, 1) := by decide +kernel
theorem dX11_areThrough_27 : decode cX11_areThrough 27 = .ok (.ireturn, 1) := by decide +kernel
theorem dX11_areThrough_28 : decode cX11_areThrough 28 = .ok (.iinc 1 1, 3) := by decide +kernel
theorem dX11_areThrough_31 : decode cX11_areThrough 31 = .ok (.goto (-29), 3) := by decide +kernel
theorem dX11_areThrough_34 : decode cX11_areThrough 34 = .ok (.iconst 1, 1) := by decide +kernel
theorem dX11_areThrough_35 : decode cX11_areThrough 35 = .ok (.ireturn, 1) := by decide +kernel
theorem dX11_goDay_0 : decode cX11_goDay 0 = .ok (.aload_n 0, 1) := by decide +kernel
theorem dX11_goDay_1 : decode cX11_goDay 1 = .ok (.getfield 9, 3) := by decide +kernel
theorem dX11_goDay_4 : decode cX11_goDay 4 = .ok (.aload_n 0, 1) := by decide +kernel
theorem dX11_goDay_5 : decode cX11_goDay 5 = .ok (.getfield 60, 3) := by decide +kernel
theorem dX11_goDay_8 : decode cX11_goDay 8 = .ok (.iconst 0, 1) := by decide +kernel
theorem dX11_goDay_9 : decode cX11_goDay 9 = .ok (.invokestatic 242, 3) := by decide +kernel
theorem dX11_goDay_12 : decode cX11_goDay 12 = .ok (.iconst 0, 1) := by decide +kernel
theorem dX11_goDay_13 : decode cX11_goDay 13 = .ok (.istore_n 1, 1) := by decide +kernel
theorem dX11_goDay_14 : decode cX11_goDay 14 = .ok (.iconst 0, 1) := by decide +kernel
theorem dX11_goDay_15 : decode cX11_goDay 15 = .ok (.istore_n 2, 1) := by decide +kernel
theorem dX11_goDay_16 : decode cX11_goDay 16 = .ok (.iload_n 2, 1) := by decide +kernel
theorem dX11_goDay_17 : decode cX11_goDay 17 = .ok (.sipush 400, 3) := by decide +kernel
theorem dX11_goDay_20 : decode cX11_goDay 20 = .ok (.if_icmp .ge 81, 3) := by decide +kernel
theorem dX11_goDay_23 : decode cX11_goDay 23 = .ok (.iload_n 1, 1) := by decide +kernel
theorem dX11_goDay_24 : decode cX11_goDay 24 = .ok (.aload_n 0, 1) := by decide +kernel
theorem dX11_goDay_25 : decode cX11_goDay 25 = .ok (.getfield 315, 3) := by decide +kernel
theorem dX11_goDay_28 : decode cX11_goDay 28 = .ok (.if_icmp .ge 40, 3) := by decide +kernel
theorem dX11_goDay_31 : decode cX11_goDay 31 = .ok (.aload_n 0, 1) := by decide +kernel
theorem dX11_goDay_32 : decode cX11_goDay 32 = .ok (.aload_n 0, 1) := by decide +kernel
theorem dX11_goDay_33 : decode cX11_goDay 33 = .ok (.getfield 60, 3) := by decide +kernel
theorem dX11_goDay_36 : decode cX11_goDay 36 = .ok (.aload_n 0, 1) := by decide +kernel
theorem dX11_goDay_37 : decode cX11_goDay 37 = .ok (.getfield 63, 3) := by decide +kernel
theorem dX11_goDay_40 : decode cX11_goDay 40 = .ok (.iload_n 1, 1) := by decide +kernel
theorem dX11_goDay_41 : decode cX11_goDay 41 = .ok (.iaload, 1) := by decide +kernel
theorem dX11_goDay_42 : decode cX11_goDay 42 = .ok (.invokevirtual 268, 3) := by decide +kernel
theorem dX11_goDay_45 : decode cX11_goDay 45 = .ok (.ifCond .ne 23, 3) := by decide +kernel
theorem dX11_goDay_48 : decode cX11_goDay 48 = .ok (.aload_n 0, 1) := by decide +kernel
theorem dX11_goDay_49 : decode cX11_goDay 49 = .ok (.aload_n 0, 1) := by decide +kernel
theorem dX11_goDay_50 : decode cX11_goDay 50 = .ok (.getfield 60, 3) := by decide +kernel
theorem dX11_goDay_53 : decode cX11_goDay 53 = .ok (.aload_n 0, 1) := by decide +kernel
theorem dX11_goDay_54 : decode cX11_goDay 54 = .ok (.getfield 63, 3) := by decide +kernel
theorem dX11_goDay_57 : decode cX11_goDay 57 = .ok (.iload_n 1, 1) := by decide +kernel
theorem dX11_goDay_58 : decode cX11_goDay 58 = .ok (.iinc 1 1, 3) := by decide +kernel
theorem dX11_goDay_61 : decode cX11_goDay 61 = .ok (.iaload, 1) := by decide +kernel
theorem dX11_goDay_62 : decode cX11_goDay 62 = .ok (.invokevirtual 278, 3) := by decide +kernel
theorem dX11_goDay_65 : decode cX11_goDay 65 = .ok (.goto (-42), 3) := by decide +kernel
theorem dX11_goDay_68 : decode cX11_goDay 68 = .ok (.aload_n 0, 1) := by decide +kernel
theorem dX11_goDay_69 : decode cX11_goDay 69 = .ok (.aload_n 0, 1) := by decide +kernel
theorem dX11_goDay_70 : decode cX11_goDay 70 = .ok (.getfield 60, 3) := by decide +kernel
theorem dX11_goDay_73 : decode cX11_goDay 73 = .ok (.invokevirtual 297, 3) := by decide +kernel
theorem dX11_goDay_76 : decode cX11_goDay 76 = .ok (.iload_n 1, 1) := by decide +kernel
theorem dX11_goDay_77 : decode cX11_goDay 77 = .ok (.aload_n 0, 1) := by decide +kernel
theorem dX11_goDay_78 : decode cX11_goDay 78 = .ok (.getfield 315, 3) := by decide +kernel
theorem dX11_goDay_81 : decode cX11_goDay 81 = .ok (.if_icmp .ne 14, 3) := by decide +kernel
theorem dX11_goDay_84 : decode cX11_goDay 84 = .ok (.aload_n 0, 1) := by decide +kernel
theorem dX11_goDay_85 : decode cX11_goDay 85 = .ok (.invokevirtual 318, 3) := by decide +kernel
theorem dX11_goDay_88 : decode cX11_goDay 88 = .ok (.ifCond .eq 7, 3) := by decide +kernel
theorem dX11_goDay_91 : decode cX11_goDay 91 = .ok (.iload_n 2, 1) := by decide +kernel
theorem dX11_goDay_92 : decode cX11_goDay 92 = .ok (.iconst 1, 1) := by decide +kernel
theorem dX11_goDay_93 : decode cX11_goDay 93 = .ok (.iadd, 1) := by decide +kernel
theorem dX11_goDay_94 : decode cX11_goDay 94 = .ok (.ireturn, 1) := by decide +kernel
theorem dX11_goDay_95 : decode cX11_goDay 95 = .ok (.iinc 2 1, 3) := by decide +kernel
theorem dX11_goDay_98 : decode cX11_goDay 98 = .ok (.goto (-82), 3) := by decide +kernel
theorem dX11_goDay_101 : decode cX11_goDay 101 = .ok (.ldc_w 321, 3) := by decide +kernel
theorem dX11_goDay_104 : decode cX11_goDay 104 = .ok (.ireturn, 1) := by decide +kernel
theorem dX11_waitedByOrder_0 : decode cX11_waitedByOrder 0 = .ok (.iconst 0, 1) := by decide +kernel
theorem dX11_waitedByOrder_1 : decode cX11_waitedByOrder 1 = .ok (.istore_n 1, 1) := by decide +kernel
theorem dX11_waitedByOrder_2 : decode cX11_waitedByOrder 2 = .ok (.iconst 0, 1) := by decide +kernel
theorem dX11_waitedByOrder_3 : decode cX11_waitedByOrder 3 = .ok (.istore_n 2, 1) := by decide +kernel
theorem dX11_waitedByOrder_4 : decode cX11_waitedByOrder 4 = .ok (.iload_n 2, 1) := by decide +kernel
theorem dX11_waitedByOrder_5 : decode cX11_waitedByOrder 5 = .ok (.aload_n 0, 1) := by decide +kernel
theorem dX11_waitedByOrder_6 : decode cX11_waitedByOrder 6 = .ok (.getfield 315, 3) := by decide +kernel
theorem dX11_waitedByOrder_9 : decode cX11_waitedByOrder 9 = .ok (.if_icmp .ge 41, 3) := by decide +kernel
theorem dX11_waitedByOrder_12 : decode cX11_waitedByOrder 12 = .ok (.iload_n 1, 1) := by decide +kernel
theorem dX11_waitedByOrder_13 : decode cX11_waitedByOrder 13 = .ok (.aload_n 0, 1) := by decide +kernel
theorem dX11_waitedByOrder_14 : decode cX11_waitedByOrder 14 = .ok (.getfield 60, 3) := by decide +kernel
theorem dX11_waitedByOrder_17 : decode cX11_waitedByOrder 17 = .ok (.bipush 12, 2) := by decide +kernel
theorem dX11_waitedByOrder_19 : decode cX11_waitedByOrder 19 = .ok (.aload_n 0, 1) := by decide +kernel
theorem dX11_waitedByOrder_20 : decode cX11_waitedByOrder 20 = .ok (.getfield 63, 3) := by decide +kernel
theorem dX11_waitedByOrder_23 : decode cX11_waitedByOrder 23 = .ok (.iload_n 2, 1) := by decide +kernel
theorem dX11_waitedByOrder_24 : decode cX11_waitedByOrder 24 = .ok (.iaload, 1) := by decide +kernel
theorem dX11_waitedByOrder_25 : decode cX11_waitedByOrder 25 = .ok (.iadd, 1) := by decide +kernel
theorem dX11_waitedByOrder_26 : decode cX11_waitedByOrder 26 = .ok (.iaload, 1) := by decide +kernel
theorem dX11_waitedByOrder_27 : decode cX11_waitedByOrder 27 = .ok (.aload_n 0, 1) := by decide +kernel
theorem dX11_waitedByOrder_28 : decode cX11_waitedByOrder 28 = .ok (.getfield 9, 3) := by decide +kernel
theorem dX11_waitedByOrder_31 : decode cX11_waitedByOrder 31 = .ok (.bipush 12, 2) := by decide +kernel
theorem dX11_waitedByOrder_33 : decode cX11_waitedByOrder 33 = .ok (.aload_n 0, 1) := by decide +kernel
theorem dX11_waitedByOrder_34 : decode cX11_waitedByOrder 34 = .ok (.getfield 63, 3) := by decide +kernel
theorem dX11_waitedByOrder_37 : decode cX11_waitedByOrder 37 = .ok (.iload_n 2, 1) := by decide +kernel
theorem dX11_waitedByOrder_38 : decode cX11_waitedByOrder 38 = .ok (.iaload, 1) := by decide +kernel
theorem dX11_waitedByOrder_39 : decode cX11_waitedByOrder 39 = .ok (.iadd, 1) := by decide +kernel
theorem dX11_waitedByOrder_40 : decode cX11_waitedByOrder 40 = .ok (.iaload, 1) := by decide +kernel
theorem dX11_waitedByOrder_41 : decode cX11_waitedByOrder 41 = .ok (.isub, 1) := by decide +kernel
theorem dX11_waitedByOrder_42 : decode cX11_waitedByOrder 42 = .ok (.iadd, 1) := by decide +kernel
theorem dX11_waitedByOrder_43 : decode cX11_waitedByOrder 43 = .ok (.istore_n 1, 1) := by decide +kernel
theorem dX11_waitedByOrder_44 : decode cX11_waitedByOrder 44 = .ok (.iinc 2 1, 3) := by decide +kernel
theorem dX11_waitedByOrder_47 : decode cX11_waitedByOrder 47 = .ok (.goto (-43), 3) := by decide +kernel
theorem dX11_waitedByOrder_50 : decode cX11_waitedByOrder 50 = .ok (.iload_n 1, 1) := by decide +kernel
theorem dX11_waitedByOrder_51 : decode cX11_waitedByOrder 51 = .ok (.ireturn, 1) := by decide +kernel
theorem dX11_areOutside_0 : decode cX11_areOutside 0 = .ok (.iconst 0, 1) := by decide +kernel
theorem dX11_areOutside_1 : decode cX11_areOutside 1 = .ok (.istore_n 2, 1) := by decide +kernel
theorem dX11_areOutside_2 : decode cX11_areOutside 2 = .ok (.iload_n 2, 1) := by decide +kernel
theorem dX11_areOutside_3 : decode cX11_areOutside 3 = .ok (.aload_n 0, 1) := by decide +kernel
theorem dX11_areOutside_4 : decode cX11_areOutside 4 = .ok (.getfield 113, 3) := by decide +kernel
theorem dX11_areOutside_7 : decode cX11_areOutside 7 = .ok (.if_icmp .ge 29, 3) := by decide +kernel
theorem dX11_areOutside_10 : decode cX11_areOutside 10 = .ok (.iload_n 1, 1) := by decide +kernel
theorem dX11_areOutside_11 : decode cX11_areOutside 11 = .ok (.iload_n 2, 1) := by decide +kernel
theorem dX11_areOutside_12 : decode cX11_areOutside 12 = .ok (.invokestatic 209, 3) := by decide +kernel
theorem dX11_areOutside_15 : decode cX11_areOutside 15 = .ok (.ifCond .eq 15, 3) := by decide +kernel
theorem dX11_areOutside_18 : decode cX11_areOutside 18 = .ok (.aload_n 0, 1) := by decide +kernel
theorem dX11_areOutside_19 : decode cX11_areOutside 19 = .ok (.getfield 9, 3) := by decide +kernel
theorem dX11_areOutside_22 : decode cX11_areOutside 22 = .ok (.iload_n 2, 1) := by decide +kernel
theorem dX11_areOutside_23 : decode cX11_areOutside 23 = .ok (.iaload, 1) := by decide +kernel
theorem dX11_areOutside_24 : decode cX11_areOutside 24 = .ok (.iconst (-1), 1) := by decide +kernel
theorem dX11_areOutside_25 : decode cX11_areOutside 25 = .ok (.if_icmp .eq 5, 3) := by decide +kernel
theorem dX11_areOutside_28 : decode cX11_areOutside 28 = .ok (.iconst 0, 1) := by decide +kernel
theorem dX11_areOutside_29 : decode cX11_areOutside 29 = .ok (.ireturn, 1) := by decide +kernel
theorem dX11_areOutside_30 : decode cX11_areOutside 30 = .ok (.iinc 2 1, 3) := by decide +kernel
theorem dX11_areOutside_33 : decode cX11_areOutside 33 = .ok (.goto (-31), 3) := by decide +kernel
theorem dX11_areOutside_36 : decode cX11_areOutside 36 = .ok (.iconst 1, 1) := by decide +kernel
theorem dX11_areOutside_37 : decode cX11_areOutside 37 = .ok (.ireturn, 1) := by decide +kernel
theorem dX11_order_0 : decode cX11_order 0 = .ok (.aload_n 0, 1) := by decide +kernel
theorem dX11_order_1 : decode cX11_order 1 = .ok (.iconst 0, 1) := by decide +kernel
theorem dX11_order_2 : decode cX11_order 2 = .ok (.putfield 99, 3) := by decide +kernel
theorem dX11_order_5 : decode cX11_order 5 = .ok (.aload_n 0, 1) := by decide +kernel
theorem dX11_order_6 : decode cX11_order 6 = .ok (.getfield 116, 3) := by decide +kernel
theorem dX11_order_9 : decode cX11_order 9 = .ok (.istore_n 1, 1) := by decide +kernel
theorem dX11_order_10 : decode cX11_order 10 = .ok (.aload_n 0, 1) := by decide +kernel
theorem dX11_order_11 : decode cX11_order 11 = .ok (.iconst 0, 1) := by decide +kernel
theorem dX11_order_12 : decode cX11_order 12 = .ok (.putfield 116, 3) := by decide +kernel
theorem dX11_order_15 : decode cX11_order 15 = .ok (.iconst 0, 1) := by decide +kernel
theorem dX11_order_16 : decode cX11_order 16 = .ok (.istore_n 2, 1) := by decide +kernel
theorem dX11_order_17 : decode cX11_order 17 = .ok (.iconst 0, 1) := by decide +kernel
theorem dX11_order_18 : decode cX11_order 18 = .ok (.istore_n 3, 1) := by decide +kernel
theorem dX11_order_19 : decode cX11_order 19 = .ok (.iload_n 3, 1) := by decide +kernel
theorem dX11_order_20 : decode cX11_order 20 = .ok (.iload_n 1, 1) := by decide +kernel
theorem dX11_order_21 : decode cX11_order 21 = .ok (.if_icmp .ge 78, 3) := by decide +kernel
theorem dX11_order_24 : decode cX11_order 24 = .ok (.aload_n 0, 1) := by decide +kernel
theorem dX11_order_25 : decode cX11_order 25 = .ok (.getfield 35, 3) := by decide +kernel
theorem dX11_order_28 : decode cX11_order 28 = .ok (.iload_n 3, 1) := by decide +kernel
theorem dX11_order_29 : decode cX11_order 29 = .ok (.baload, 1) := by decide +kernel
theorem dX11_order_30 : decode cX11_order 30 = .ok (.bipush 97, 2) := by decide +kernel
theorem dX11_order_32 : decode cX11_order 32 = .ok (.bipush 97, 2) := by decide +kernel
theorem dX11_order_34 : decode cX11_order 34 = .ok (.aload_n 0, 1) := by decide +kernel
theorem dX11_order_35 : decode cX11_order 35 = .ok (.getfield 113, 3) := by decide +kernel
theorem dX11_order_38 : decode cX11_order 38 = .ok (.iadd, 1) := by decide +kernel
theorem dX11_order_39 : decode cX11_order 39 = .ok (.iconst 1, 1) := by decide +kernel
theorem dX11_order_40 : decode cX11_order 40 = .ok (.isub, 1) := by decide +kernel
theorem dX11_order_41 : decode cX11_order 41 = .ok (.invokestatic 109, 3) := by decide +kernel
theorem dX11_order_44 : decode cX11_order 44 = .ok (.ifCond .eq 19, 3) := by decide +kernel
theorem dX11_order_47 : decode cX11_order 47 = .ok (.iload_n 2, 1) := by decide +kernel
theorem dX11_order_48 : decode cX11_order 48 = .ok (.aload_n 0, 1) := by decide +kernel
theorem dX11_order_49 : decode cX11_order 49 = .ok (.getfield 35, 3) := by decide +kernel
theorem dX11_order_52 : decode cX11_order 52 = .ok (.iload_n 3, 1) := by decide +kernel
theorem dX11_order_53 : decode cX11_order 53 = .ok (.baload, 1) := by decide +kernel
theorem dX11_order_54 : decode cX11_order 54 = .ok (.bipush 97, 2) := by decide +kernel
theorem dX11_order_56 : decode cX11_order 56 = .ok (.isub, 1) := by decide +kernel
theorem dX11_order_57 : decode cX11_order 57 = .ok (.invokestatic 209, 3) := by decide +kernel
theorem dX11_order_60 : decode cX11_order 60 = .ok (.ifCond .eq 7, 3) := by decide +kernel
theorem dX11_order_63 : decode cX11_order 63 = .ok (.iconst (-1), 1) := by decide +kernel
theorem dX11_order_64 : decode cX11_order 64 = .ok (.iload_n 3, 1) := by decide +kernel
theorem dX11_order_65 : decode cX11_order 65 = .ok (.isub, 1) := by decide +kernel
theorem dX11_order_66 : decode cX11_order 66 = .ok (.ireturn, 1) := by decide +kernel
theorem dX11_order_67 : decode cX11_order 67 = .ok (.aload_n 0, 1) := by decide +kernel
theorem dX11_order_68 : decode cX11_order 68 = .ok (.getfield 63, 3) := by decide +kernel
theorem dX11_order_71 : decode cX11_order 71 = .ok (.iload_n 3, 1) := by decide +kernel
theorem dX11_order_72 : decode cX11_order 72 = .ok (.aload_n 0, 1) := by decide +kernel
theorem dX11_order_73 : decode cX11_order 73 = .ok (.getfield 35, 3) := by decide +kernel
theorem dX11_order_76 : decode cX11_order 76 = .ok (.iload_n 3, 1) := by decide +kernel
theorem dX11_order_77 : decode cX11_order 77 = .ok (.baload, 1) := by decide +kernel
theorem dX11_order_78 : decode cX11_order 78 = .ok (.bipush 97, 2) := by decide +kernel
theorem dX11_order_80 : decode cX11_order 80 = .ok (.isub, 1) := by decide +kernel
theorem dX11_order_81 : decode cX11_order 81 = .ok (.iastore, 1) := by decide +kernel
theorem dX11_order_82 : decode cX11_order 82 = .ok (.iload_n 2, 1) := by decide +kernel
theorem dX11_order_83 : decode cX11_order 83 = .ok (.iconst 1, 1) := by decide +kernel
theorem dX11_order_84 : decode cX11_order 84 = .ok (.aload_n 0, 1) := by decide +kernel
theorem dX11_order_85 : decode cX11_order 85 = .ok (.getfield 63, 3) := by decide +kernel
theorem dX11_order_88 : decode cX11_order 88 = .ok (.iload_n 3, 1) := by decide +kernel
theorem dX11_order_89 : decode cX11_order 89 = .ok (.iaload, 1) := by decide +kernel
theorem dX11_order_90 : decode cX11_order 90 = .ok (.ishl, 1) := by decide +kernel
theorem dX11_order_91 : decode cX11_order 91 = .ok (.ior, 1) := by decide +kernel
theorem dX11_order_92 : decode cX11_order 92 = .ok (.istore_n 2, 1) := by decide +kernel
theorem dX11_order_93 : decode cX11_order 93 = .ok (.iinc 3 1, 3) := by decide +kernel
theorem dX11_order_96 : decode cX11_order 96 = .ok (.goto (-77), 3) := by decide +kernel
theorem dX11_order_99 : decode cX11_order 99 = .ok (.iload_n 1, 1) := by decide +kernel
theorem dX11_order_100 : decode cX11_order 100 = .ok (.ifCond .ne 5, 3) := by decide +kernel
theorem dX11_order_103 : decode cX11_order 103 = .ok (.iconst (-1), 1) := by decide +kernel
theorem dX11_order_104 : decode cX11_order 104 = .ok (.ireturn, 1) := by decide +kernel
theorem dX11_order_105 : decode cX11_order 105 = .ok (.aload_n 0, 1) := by decide +kernel
theorem dX11_order_106 : decode cX11_order 106 = .ok (.iload_n 1, 1) := by decide +kernel
theorem dX11_order_107 : decode cX11_order 107 = .ok (.putfield 315, 3) := by decide +kernel
theorem dX11_order_110 : decode cX11_order 110 = .ok (.aload_n 0, 1) := by decide +kernel
theorem dX11_order_111 : decode cX11_order 111 = .ok (.iload_n 2, 1) := by decide +kernel
theorem dX11_order_112 : decode cX11_order 112 = .ok (.invokevirtual 322, 3) := by decide +kernel
theorem dX11_order_115 : decode cX11_order 115 = .ok (.ifCond .ne 6, 3) := by decide +kernel
theorem dX11_order_118 : decode cX11_order 118 = .ok (.bipush (-100), 2) := by decide +kernel
theorem dX11_order_120 : decode cX11_order 120 = .ok (.ireturn, 1) := by decide +kernel
theorem dX11_order_121 : decode cX11_order 121 = .ok (.aload_n 0, 1) := by decide +kernel
theorem dX11_order_122 : decode cX11_order 122 = .ok (.invokevirtual 271, 3) := by decide +kernel
theorem dX11_order_125 : decode cX11_order 125 = .ok (.aload_n 0, 1) := by decide +kernel
theorem dX11_order_126 : decode cX11_order 126 = .ok (.invokevirtual 325, 3) := by decide +kernel
theorem dX11_order_129 : decode cX11_order 129 = .ok (.istore_n 3, 1) := by decide +kernel
theorem dX11_order_130 : decode cX11_order 130 = .ok (.iload_n 3, 1) := by decide +kernel
theorem dX11_order_131 : decode cX11_order 131 = .ok (.ldc_w 321, 3) := by decide +kernel
theorem dX11_order_134 : decode cX11_order 134 = .ok (.if_icmp .ne 7, 3) := by decide +kernel
theorem dX11_order_137 : decode cX11_order 137 = .ok (.sipush (-200), 3) := by decide +kernel
theorem dX11_order_140 : decode cX11_order 140 = .ok (.ireturn, 1) := by decide +kernel
theorem dX11_order_141 : decode cX11_order 141 = .ok (.aload_n 0, 1) := by decide +kernel
theorem dX11_order_142 : decode cX11_order 142 = .ok (.iconst 0, 1) := by decide +kernel
theorem dX11_order_143 : decode cX11_order 143 = .ok (.putfield 103, 3) := by decide +kernel
theorem dX11_order_146 : decode cX11_order 146 = .ok (.iconst 0, 1) := by decide +kernel
theorem dX11_order_147 : decode cX11_order 147 = .ok (.istore 4, 2) := by decide +kernel
theorem dX11_order_149 : decode cX11_order 149 = .ok (.iload 4, 2) := by decide +kernel
theorem dX11_order_151 : decode cX11_order 151 = .ok (.iload_n 1, 1) := by decide +kernel
theorem dX11_order_152 : decode cX11_order 152 = .ok (.if_icmp .ge 38, 3) := by decide +kernel
theorem dX11_order_155 : decode cX11_order 155 = .ok (.aload_n 0, 1) := by decide +kernel
theorem dX11_order_156 : decode cX11_order 156 = .ok (.aload_n 0, 1) := by decide +kernel
theorem dX11_order_157 : decode cX11_order 157 = .ok (.getfield 60, 3) := by decide +kernel
theorem dX11_order_160 : decode cX11_order 160 = .ok (.bipush 18, 2) := by decide +kernel
theorem dX11_order_162 : decode cX11_order 162 = .ok (.aload_n 0, 1) := by decide +kernel
theorem dX11_order_163 : decode cX11_order 163 = .ok (.getfield 63, 3) := by decide +kernel
theorem dX11_order_166 : decode cX11_order 166 = .ok (.iload 4, 2) := by decide +kernel
theorem dX11_order_168 : decode cX11_order 168 = .ok (.iaload, 1) := by decide +kernel
theorem dX11_order_169 : decode cX11_order 169 = .ok (.iadd, 1) := by decide +kernel
theorem dX11_order_170 : decode cX11_order 170 = .ok (.iaload, 1) := by decide +kernel
theorem dX11_order_171 : decode cX11_order 171 = .ok (.iconst 1, 1) := by decide +kernel
theorem dX11_order_172 : decode cX11_order 172 = .ok (.iadd, 1) := by decide +kernel
theorem dX11_order_173 : decode cX11_order 173 = .ok (.aload_n 0, 1) := by decide +kernel
theorem dX11_order_174 : decode cX11_order 174 = .ok (.getfield 9, 3) := by decide +kernel
theorem dX11_order_177 : decode cX11_order 177 = .ok (.bipush 24, 2) := by decide +kernel
theorem dX11_order_179 : decode cX11_order 179 = .ok (.iaload, 1) := by decide +kernel
theorem dX11_order_180 : decode cX11_order 180 = .ok (.isub, 1) := by decide +kernel
theorem dX11_order_181 : decode cX11_order 181 = .ok (.invokevirtual 300, 3) := by decide +kernel
theorem dX11_order_184 : decode cX11_order 184 = .ok (.iinc 4 1, 3) := by decide +kernel
theorem dX11_order_187 : decode cX11_order 187 = .ok (.goto (-38), 3) := by decide +kernel
theorem dX11_order_190 : decode cX11_order 190 = .ok (.aload_n 0, 1) := by decide +kernel
theorem dX11_order_191 : decode cX11_order 191 = .ok (.aload_n 0, 1) := by decide +kernel
theorem dX11_order_192 : decode cX11_order 192 = .ok (.invokevirtual 328, 3) := by decide +kernel
theorem dX11_order_195 : decode cX11_order 195 = .ok (.invokevirtual 300, 3) := by decide +kernel
theorem dX11_order_198 : decode cX11_order 198 = .ok (.iload_n 3, 1) := by decide +kernel
theorem dX11_order_199 : decode cX11_order 199 = .ok (.ireturn, 1) := by decide +kernel
theorem dX11_canOrder_0 : decode cX11_canOrder 0 = .ok (.iload_n 1, 1) := by decide +kernel
theorem dX11_canOrder_1 : decode cX11_canOrder 1 = .ok (.iconst 1, 1) := by decide +kernel
theorem dX11_canOrder_2 : decode cX11_canOrder 2 = .ok (.aload_n 0, 1) := by decide +kernel
theorem dX11_canOrder_3 : decode cX11_canOrder 3 = .ok (.invokevirtual 331, 3) := by decide +kernel
theorem dX11_canOrder_6 : decode cX11_canOrder 6 = .ok (.invokestatic 109, 3) := by decide +kernel
theorem dX11_canOrder_9 : decode cX11_canOrder 9 = .ok (.ifCond .eq 15, 3) := by decide +kernel
theorem dX11_canOrder_12 : decode cX11_canOrder 12 = .ok (.aload_n 0, 1) := by decide +kernel
theorem dX11_canOrder_13 : decode cX11_canOrder 13 = .ok (.iload_n 1, 1) := by decide +kernel
theorem dX11_canOrder_14 : decode cX11_canOrder 14 = .ok (.invokevirtual 322, 3) := by decide +kernel
theorem dX11_canOrder_17 : decode cX11_canOrder 17 = .ok (.ifCond .eq 7, 3) := by decide +kernel
theorem dX11_canOrder_20 : decode cX11_canOrder 20 = .ok (.iconst 1, 1) := by decide +kernel
theorem dX11_canOrder_21 : decode cX11_canOrder 21 = .ok (.goto 4, 3) := by decide +kernel
theorem dX11_canOrder_24 : decode cX11_canOrder 24 = .ok (.iconst 0, 1) := by decide +kernel
theorem dX11_canOrder_25 : decode cX11_canOrder 25 = .ok (.ireturn, 1) := by decide +kernel
theorem dX11_firstOrder_0 : decode cX11_firstOrder 0 = .ok (.aload_n 0, 1) := by decide +kernel
theorem dX11_firstOrder_1 : decode cX11_firstOrder 1 = .ok (.iconst 0, 1) := by decide +kernel
theorem dX11_firstOrder_2 : decode cX11_firstOrder 2 = .ok (.putfield 315, 3) := by decide +kernel
theorem dX11_firstOrder_5 : decode cX11_firstOrder 5 = .ok (.iconst 0, 1) := by decide +kernel
theorem dX11_firstOrder_6 : decode cX11_firstOrder 6 = .ok (.istore_n 2, 1) := by decide +kernel
theorem dX11_firstOrder_7 : decode cX11_firstOrder 7 = .ok (.iload_n 2, 1) := by decide +kernel
theorem dX11_firstOrder_8 : decode cX11_firstOrder 8 = .ok (.aload_n 0, 1) := by decide +kernel
theorem dX11_firstOrder_9 : decode cX11_firstOrder 9 = .ok (.getfield 113, 3) := by decide +kernel
theorem dX11_firstOrder_12 : decode cX11_firstOrder 12 = .ok (.if_icmp .ge 40, 3) := by decide +kernel
theorem dX11_firstOrder_15 : decode cX11_firstOrder 15 = .ok (.iload_n 1, 1) := by decide +kernel
theorem dX11_firstOrder_16 : decode cX11_firstOrder 16 = .ok (.iload_n 2, 1) := by decide +kernel
theorem dX11_firstOrder_17 : decode cX11_firstOrder 17 = .ok (.invokestatic 209, 3) := by decide +kernel
theorem dX11_firstOrder_20 : decode cX11_firstOrder 20 = .ok (.ifCond .ne 6, 3) := by decide +kernel
theorem dX11_firstOrder_23 : decode cX11_firstOrder 23 = .ok (.goto 23, 3) := by decide +kernel
theorem dX11_firstOrder_26 : decode cX11_firstOrder 26 = .ok (.aload_n 0, 1) := by decide +kernel
theorem dX11_firstOrder_27 : decode cX11_firstOrder 27 = .ok (.getfield 63, 3) := by decide +kernel
theorem dX11_firstOrder_30 : decode cX11_firstOrder 30 = .ok (.aload_n 0, 1) := by decide +kernel
theorem dX11_firstOrder_31 : decode cX11_firstOrder 31 = .ok (.getfield 315, 3) := by decide +kernel
theorem dX11_firstOrder_34 : decode cX11_firstOrder 34 = .ok (.iload_n 2, 1) := by decide +kernel
theorem dX11_firstOrder_35 : decode cX11_firstOrder 35 = .ok (.iastore, 1) := by decide +kernel
theorem dX11_firstOrder_36 : decode cX11_firstOrder 36 = .ok (.aload_n 0, 1) := by decide +kernel
theorem dX11_firstOrder_37 : decode cX11_firstOrder 37 = .ok (.dup, 1) := by decide +kernel
theorem dX11_firstOrder_38 : decode cX11_firstOrder 38 = .ok (.getfield 315, 3) := by decide +kernel
theorem dX11_firstOrder_41 : decode cX11_firstOrder 41 = .ok (.iconst 1, 1) := by decide +kernel
theorem dX11_firstOrder_42 : decode cX11_firstOrder 42 = .ok (.iadd, 1) := by decide +kernel
theorem dX11_firstOrder_43 : decode cX11_firstOrder 43 = .ok (.putfield 315, 3) := by decide +kernel
theorem dX11_firstOrder_46 : decode cX11_firstOrder 46 = .ok (.iinc 2 1, 3) := by decide +kernel
theorem dX11_firstOrder_49 : decode cX11_firstOrder 49 = .ok (.goto (-42), 3) := by decide +kernel
theorem dX11_firstOrder_52 : decode cX11_firstOrder 52 = .ok (.return_, 1) := by decide +kernel
theorem dX11_swapOrder_0 : decode cX11_swapOrder 0 = .ok (.aload_n 0, 1) := by decide +kernel
theorem dX11_swapOrder_1 : decode cX11_swapOrder 1 = .ok (.getfield 63, 3) := by decide +kernel
theorem dX11_swapOrder_4 : decode cX11_swapOrder 4 = .ok (.iload_n 1, 1) := by decide +kernel
theorem dX11_swapOrder_5 : decode cX11_swapOrder 5 = .ok (.iaload, 1) := by decide +kernel
theorem dX11_swapOrder_6 : decode cX11_swapOrder 6 = .ok (.istore_n 3, 1) := by decide +kernel
theorem dX11_swapOrder_7 : decode cX11_swapOrder 7 = .ok (.aload_n 0, 1) := by decide +kernel
theorem dX11_swapOrder_8 : decode cX11_swapOrder 8 = .ok (.getfield 63, 3) := by decide +kernel
theorem dX11_swapOrder_11 : decode cX11_swapOrder 11 = .ok (.iload_n 1, 1) := by decide +kernel
theorem dX11_swapOrder_12 : decode cX11_swapOrder 12 = .ok (.aload_n 0, 1) := by decide +kernel
theorem dX11_swapOrder_13 : decode cX11_swapOrder 13 = .ok (.getfield 63, 3) := by decide +kernel
theorem dX11_swapOrder_16 : decode cX11_swapOrder 16 = .ok (.iload_n 2, 1) := by decide +kernel
theorem dX11_swapOrder_17 : decode cX11_swapOrder 17 = .ok (.iaload, 1) := by decide +kernel
theorem dX11_swapOrder_18 : decode cX11_swapOrder 18 = .ok (.iastore, 1) := by decide +kernel
theorem dX11_swapOrder_19 : decode cX11_swapOrder 19 = .ok (.aload_n 0, 1) := by decide +kernel
theorem dX11_swapOrder_20 : decode cX11_swapOrder 20 = .ok (.getfield 63, 3) := by decide +kernel
theorem dX11_swapOrder_23 : decode cX11_swapOrder 23 = .ok (.iload_n 2, 1) := by decide +kernel
theorem dX11_swapOrder_24 : decode cX11_swapOrder 24 = .ok (.iload_n 3, 1) := by decide +kernel
theorem dX11_swapOrder_25 : decode cX11_swapOrder 25 = .ok (.iastore, 1) := by decide +kernel
theorem dX11_swapOrder_26 : decode cX11_swapOrder 26 = .ok (.return_, 1) := by decide +kernel
theorem dX11_nextOrder_0 : decode cX11_nextOrder 0 = .ok (.aload_n 0, 1) := by decide +kernel
theorem dX11_nextOrder_1 : decode cX11_nextOrder 1 = .ok (.getfield 315, 3) := by decide +kernel
theorem dX11_nextOrder_4 : decode cX11_nextOrder 4 = .ok (.iconst 2, 1) := by decide +kernel
theorem dX11_nextOrder_5 : decode cX11_nextOrder 5 = .ok (.isub, 1) := by decide +kernel
theorem dX11_nextOrder_6 : decode cX11_nextOrder 6 = .ok (.istore_n 1, 1) := by decide +kernel
theorem dX11_nextOrder_7 : decode cX11_nextOrder 7 = .ok (.iload_n 1, 1) := by decide +kernel
theorem dX11_nextOrder_8 : decode cX11_nextOrder 8 = .ok (.ifCond .lt 26, 3) := by decide +kernel
theorem dX11_nextOrder_11 : decode cX11_nextOrder 11 = .ok (.aload_n 0, 1) := by decide +kernel
theorem dX11_nextOrder_12 : decode cX11_nextOrder 12 = .ok (.getfield 63, 3) := by decide +kernel
theorem dX11_nextOrder_15 : decode cX11_nextOrder 15 = .ok (.iload_n 1, 1) := by decide +kernel
theorem dX11_nextOrder_16 : decode cX11_nextOrder 16 = .ok (.iaload, 1) := by decide +kernel
theorem dX11_nextOrder_17 : decode cX11_nextOrder 17 = .ok (.aload_n 0, 1) := by decide +kernel
theorem dX11_nextOrder_18 : decode cX11_nextOrder 18 = .ok (.getfield 63, 3) := by decide +kernel
theorem dX11_nextOrder_21 : decode cX11_nextOrder 21 = .ok (.iload_n 1, 1) := by decide +kernel
theorem dX11_nextOrder_22 : decode cX11_nextOrder 22 = .ok (.iconst 1, 1) := by decide +kernel
theorem dX11_nextOrder_23 : decode cX11_nextOrder 23 = .ok (.iadd, 1) := by decide +kernel
theorem dX11_nextOrder_24 : decode cX11_nextOrder 24 = .ok (.iaload, 1) := by decide +kernel
theorem dX11_nextOrder_25 : decode cX11_nextOrder 25 = .ok (.if_icmp .le 9, 3) := by decide +kernel
theorem dX11_nextOrder_28 : decode cX11_nextOrder 28 = .ok (.iinc 1 (-1), 3) := by decide +kernel
theorem dX11_nextOrder_31 : decode cX11_nextOrder 31 = .ok (.goto (-24), 3) := by decide +kernel
theorem dX11_nextOrder_34 : decode cX11_nextOrder 34 = .ok (.iload_n 1, 1) := by decide +kernel
theorem dX11_nextOrder_35 : decode cX11_nextOrder 35 = .ok (.ifCond .ge 5, 3) := by decide +kernel
theorem dX11_nextOrder_38 : decode cX11_nextOrder 38 = .ok (.iconst 0, 1) := by decide +kernel
theorem dX11_nextOrder_39 : decode cX11_nextOrder 39 = .ok (.ireturn, 1) := by decide +kernel
theorem dX11_nextOrder_40 : decode cX11_nextOrder 40 = .ok (.aload_n 0, 1) := by decide +kernel
theorem dX11_nextOrder_41 : decode cX11_nextOrder 41 = .ok (.getfield 315, 3) := by decide +kernel
theorem dX11_nextOrder_44 : decode cX11_nextOrder 44 = .ok (.iconst 1, 1) := by decide +kernel
theorem dX11_nextOrder_45 : decode cX11_nextOrder 45 = .ok (.isub, 1) := by decide +kernel
theorem dX11_nextOrder_46 : decode cX11_nextOrder 46 = .ok (.istore_n 2, 1) := by decide +kernel
theorem dX11_nextOrder_47 : decode cX11_nextOrder 47 = .ok (.aload_n 0, 1) := by decide +kernel
theorem dX11_nextOrder_48 : decode cX11_nextOrder 48 = .ok (.getfield 63, 3) := by decide +kernel
theorem dX11_nextOrder_51 : decode cX11_nextOrder 51 = .ok (.iload_n 2, 1) := by decide +kernel
theorem dX11_nextOrder_52 : decode cX11_nextOrder 52 = .ok (.iaload, 1) := by decide +kernel
theorem dX11_nextOrder_53 : decode cX11_nextOrder 53 = .ok (.aload_n 0, 1) := by decide +kernel
theorem dX11_nextOrder_54 : decode cX11_nextOrder 54 = .ok (.getfield 63, 3) := by decide +kernel
theorem dX11_nextOrder_57 : decode cX11_nextOrder 57 = .ok (.iload_n 1, 1) := by decide +kernel
theorem dX11_nextOrder_58 : decode cX11_nextOrder 58 = .ok (.iaload, 1) := by decide +kernel
theorem dX11_nextOrder_59 : decode cX11_nextOrder 59 = .ok (.if_icmp .ge 9, 3) := by decide +kernel
theorem dX11_nextOrder_62 : decode cX11_nextOrder 62 = .ok (.iinc 2 (-1), 3) := by decide +kernel
theorem dX11_nextOrder_65 : decode cX11_nextOrder 65 = .ok (.goto (-18), 3) := by decide +kernel
theorem dX11_nextOrder_68 : decode cX11_nextOrder 68 = .ok (.aload_n 0, 1) := by decide +kernel
theorem dX11_nextOrder_69 : decode cX11_nextOrder 69 = .ok (.iload_n 1, 1) := by decide +kernel
theorem dX11_nextOrder_70 : decode cX11_nextOrder 70 = .ok (.iload_n 2, 1) := by decide +kernel
theorem dX11_nextOrder_71 : decode cX11_nextOrder 71 = .ok (.invokevirtual 334, 3) := by decide +kernel
theorem dX11_nextOrder_74 : decode cX11_nextOrder 74 = .ok (.iload_n 1, 1) := by decide +kernel
theorem dX11_nextOrder_75 : decode cX11_nextOrder 75 = .ok (.iconst 1, 1) := by decide +kernel
theorem dX11_nextOrder_76 : decode cX11_nextOrder 76 = .ok (.iadd, 1) := by decide +kernel
theorem dX11_nextOrder_77 : decode cX11_nextOrder 77 = .ok (.istore_n 3, 1) := by decide +kernel
theorem dX11_nextOrder_78 : decode cX11_nextOrder 78 = .ok (.aload_n 0, 1) := by decide +kernel
theorem dX11_nextOrder_79 : decode cX11_nextOrder 79 = .ok (.getfield 315, 3) := by decide +kernel
theorem dX11_nextOrder_82 : decode cX11_nextOrder 82 = .ok (.iconst 1, 1) := by decide +kernel
theorem dX11_nextOrder_83 : decode cX11_nextOrder 83 = .ok (.isub, 1) := by decide +kernel
theorem dX11_nextOrder_84 : decode cX11_nextOrder 84 = .ok (.istore 4, 2) := by decide +kernel
theorem dX11_nextOrder_86 : decode cX11_nextOrder 86 = .ok (.iload_n 3, 1) := by decide +kernel
theorem dX11_nextOrder_87 : decode cX11_nextOrder 87 = .ok (.iload 4, 2) := by decide +kernel
theorem dX11_nextOrder_89 : decode cX11_nextOrder 89 = .ok (.if_icmp .ge 19, 3) := by decide +kernel
theorem dX11_nextOrder_92 : decode cX11_nextOrder 92 = .ok (.aload_n 0, 1) := by decide +kernel
theorem dX11_nextOrder_93 : decode cX11_nextOrder 93 = .ok (.iload_n 3, 1) := by decide +kernel
theorem dX11_nextOrder_94 : decode cX11_nextOrder 94 = .ok (.iload 4, 2) := by decide +kernel
theorem dX11_nextOrder_96 : decode cX11_nextOrder 96 = .ok (.invokevirtual 334, 3) := by decide +kernel
theorem dX11_nextOrder_99 : decode cX11_nextOrder 99 = .ok (.iinc 3 1, 3) := by decide +kernel
theorem dX11_nextOrder_102 : decode cX11_nextOrder 102 = .ok (.iinc 4 (-1), 3) := by decide +kernel
theorem dX11_nextOrder_105 : decode cX11_nextOrder 105 = .ok (.goto (-19), 3) := by decide +kernel
theorem dX11_nextOrder_108 : decode cX11_nextOrder 108 = .ok (.iconst 1, 1) := by decide +kernel
theorem dX11_nextOrder_109 : decode cX11_nextOrder 109 = .ok (.ireturn, 1) := by decide +kernel
theorem dX11_findBest_0 : decode cX11_findBest 0 = .ok (.aload_n 0, 1) := by decide +kernel
theorem dX11_findBest_1 : decode cX11_findBest 1 = .ok (.ldc_w 321, 3) := by decide +kernel
theorem dX11_findBest_4 : decode cX11_findBest 4 = .ok (.putfield 338, 3) := by decide +kernel
theorem dX11_findBest_7 : decode cX11_findBest 7 = .ok (.aload_n 0, 1) := by decide +kernel
theorem dX11_findBest_8 : decode cX11_findBest 8 = .ok (.ldc_w 321, 3) := by decide +kernel
theorem dX11_findBest_11 : decode cX11_findBest 11 = .ok (.putfield 341, 3) := by decide +kernel
theorem dX11_findBest_14 : decode cX11_findBest 14 = .ok (.aload_n 0, 1) := by decide +kernel
theorem dX11_findBest_15 : decode cX11_findBest 15 = .ok (.iload_n 1, 1) := by decide +kernel
theorem dX11_findBest_16 : decode cX11_findBest 16 = .ok (.invokevirtual 344, 3) := by decide +kernel
theorem dX11_findBest_19 : decode cX11_findBest 19 = .ok (.iconst 1, 1) := by decide +kernel
theorem dX11_findBest_20 : decode cX11_findBest 20 = .ok (.istore_n 3, 1) := by decide +kernel
theorem dX11_findBest_21 : decode cX11_findBest 21 = .ok (.iload_n 3, 1) := by decide +kernel
theorem dX11_findBest_22 : decode cX11_findBest 22 = .ok (.ifCond .eq 153, 3) := by decide +kernel
theorem dX11_findBest_25 : decode cX11_findBest 25 = .ok (.aload_n 0, 1) := by decide +kernel
theorem dX11_findBest_26 : decode cX11_findBest 26 = .ok (.invokevirtual 325, 3) := by decide +kernel
theorem dX11_findBest_29 : decode cX11_findBest 29 = .ok (.istore 4, 2) := by decide +kernel
theorem dX11_findBest_31 : decode cX11_findBest 31 = .ok (.aload_n 0, 1) := by decide +kernel
theorem dX11_findBest_32 : decode cX11_findBest 32 = .ok (.invokevirtual 328, 3) := by decide +kernel
theorem dX11_findBest_35 : decode cX11_findBest 35 = .ok (.istore 5, 2) := by decide +kernel
theorem dX11_findBest_37 : decode cX11_findBest 37 = .ok (.iload_n 2, 1) := by decide +kernel
theorem dX11_findBest_38 : decode cX11_findBest 38 = .ok (.ifCond .eq 38, 3) := by decide +kernel
theorem dX11_findBest_41 : decode cX11_findBest 41 = .ok (.iload 4, 2) := by decide +kernel
theorem dX11_findBest_43 : decode cX11_findBest 43 = .ok (.aload_n 0, 1) := by decide +kernel
theorem dX11_findBest_44 : decode cX11_findBest 44 = .ok (.getfield 338, 3) := by decide +kernel
theorem dX11_findBest_47 : decode cX11_findBest 47 = .ok (.if_icmp .lt 21, 3) := by decide +kernel
theorem dX11_findBest_50 : decode cX11_findBest 50 = .ok (.iload 4, 2) := by decide +kernel
theorem dX11_findBest_52 : decode cX11_findBest 52 = .ok (.aload_n 0, 1) := by decide +kernel
theorem dX11_findBest_53 : decode cX11_findBest 53 = .ok (.getfield 338, 3) := by decide +kernel
theorem dX11_findBest_56 : decode cX11_findBest 56 = .ok (.if_icmp .ne 16, 3) := by decide +kernel
theorem dX11_findBest_59 : decode cX11_findBest 59 = .ok (.iload 5, 2) := by decide +kernel
theorem dX11_findBest_61 : decode cX11_findBest 61 = .ok (.aload_n 0, 1) := by decide +kernel
theorem dX11_findBest_62 : decode cX11_findBest 62 = .ok (.getfield 341, 3) := by decide +kernel
theorem dX11_findBest_65 : decode cX11_findBest 65 = .ok (.if_icmp .ge 7, 3) := by decide +kernel
theorem dX11_findBest_68 : decode cX11_findBest 68 = .ok (.iconst 1, 1) := by decide +kernel
theorem dX11_findBest_69 : decode cX11_findBest 69 = .ok (.goto 39, 3) := by decide +kernel
theorem dX11_findBest_72 : decode cX11_findBest 72 = .ok (.iconst 0, 1) := by decide +kernel
theorem dX11_findBest_73 : decode cX11_findBest 73 = .ok (.goto 35, 3) := by decide +kernel
theorem dX11_findBest_76 : decode cX11_findBest 76 = .ok (.iload 5, 2) := by decide +kernel
theorem dX11_findBest_78 : decode cX11_findBest 78 = .ok (.aload_n 0, 1) := by decide +kernel
theorem dX11_findBest_79 : decode cX11_findBest 79 = .ok (.getfield 341, 3) := by decide +kernel
theorem dX11_findBest_82 : decode cX11_findBest 82 = .ok (.if_icmp .lt 21, 3) := by decide +kernel
theorem dX11_findBest_85 : decode cX11_findBest 85 = .ok (.iload 5, 2) := by decide +kernel
theorem dX11_findBest_87 : decode cX11_findBest 87 = .ok (.aload_n 0, 1) := by decide +kernel
theorem dX11_findBest_88 : decode cX11_findBest 88 = .ok (.getfield 341, 3) := by decide +kernel
theorem dX11_findBest_91 : decode cX11_findBest 91 = .ok (.if_icmp .ne 16, 3) := by decide +kernel
theorem dX11_findBest_94 : decode cX11_findBest 94 = .ok (.iload 4, 2) := by decide +kernel
theorem dX11_findBest_96 : decode cX11_findBest 96 = .ok (.aload_n 0, 1) := by decide +kernel
theorem dX11_findBest_97 : decode cX11_findBest 97 = .ok (.getfield 338, 3) := by decide +kernel
theorem dX11_findBest_100 : decode cX11_findBest 100 = .ok (.if_icmp .ge 7, 3) := by decide +kernel
theorem dX11_findBest_103 : decode cX11_findBest 103 = .ok (.iconst 1, 1) := by decide +kernel
theorem dX11_findBest_104 : decode cX11_findBest 104 = .ok (.goto 4, 3) := by decide +kernel
theorem dX11_findBest_107 : decode cX11_findBest 107 = .ok (.iconst 0, 1) := by decide +kernel
theorem dX11_findBest_108 : decode cX11_findBest 108 = .ok (.istore 6, 2) := by decide +kernel
theorem dX11_findBest_110 : decode cX11_findBest 110 = .ok (.iload 4, 2) := by decide +kernel
theorem dX11_findBest_112 : decode cX11_findBest 112 = .ok (.ldc_w 321, 3) := by decide +kernel
theorem dX11_findBest_115 : decode cX11_findBest 115 = .ok (.if_icmp .ge 52, 3) := by decide +kernel
theorem dX11_findBest_118 : decode cX11_findBest 118 = .ok (.iload 6, 2) := by decide +kernel
theorem dX11_findBest_120 : decode cX11_findBest 120 = .ok (.ifCond .eq 47, 3) := by decide +kernel
theorem dX11_findBest_123 : decode cX11_findBest 123 = .ok (.aload_n 0, 1) := by decide +kernel
theorem dX11_findBest_124 : decode cX11_findBest 124 = .ok (.iload 4, 2) := by decide +kernel
theorem dX11_findBest_126 : decode cX11_findBest 126 = .ok (.putfield 338, 3) := by decide +kernel
theorem dX11_findBest_129 : decode cX11_findBest 129 = .ok (.aload_n 0, 1) := by decide +kernel
theorem dX11_findBest_130 : decode cX11_findBest 130 = .ok (.iload 5, 2) := by decide +kernel
theorem dX11_findBest_132 : decode cX11_findBest 132 = .ok (.putfield 341, 3) := by decide +kernel
theorem dX11_findBest_135 : decode cX11_findBest 135 = .ok (.iconst 0, 1) := by decide +kernel
theorem dX11_findBest_136 : decode cX11_findBest 136 = .ok (.istore 7, 2) := by decide +kernel
theorem dX11_findBest_138 : decode cX11_findBest 138 = .ok (.iload 7, 2) := by decide +kernel
theorem dX11_findBest_140 : decode cX11_findBest 140 = .ok (.aload_n 0, 1) := by decide +kernel
theorem dX11_findBest_141 : decode cX11_findBest 141 = .ok (.getfield 315, 3) := by decide +kernel
theorem dX11_findBest_144 : decode cX11_findBest 144 = .ok (.if_icmp .ge 23, 3) := by decide +kernel
theorem dX11_findBest_147 : decode cX11_findBest 147 = .ok (.aload_n 0, 1) := by decide +kernel
theorem dX11_findBest_148 : decode cX11_findBest 148 = .ok (.getfield 66, 3) := by decide +kernel
theorem dX11_findBest_151 : decode cX11_findBest 151 = .ok (.iload 7, 2) := by decide +kernel
theorem dX11_findBest_153 : decode cX11_findBest 153 = .ok (.aload_n 0, 1) := by decide +kernel
theorem dX11_findBest_154 : decode cX11_findBest 154 = .ok (.getfield 63, 3) := by decide +kernel
theorem dX11_findBest_157 : decode cX11_findBest 157 = .ok (.iload 7, 2) := by decide +kernel
theorem dX11_findBest_159 : decode cX11_findBest 159 = .ok (.iaload, 1) := by decide +kernel
theorem dX11_findBest_160 : decode cX11_findBest 160 = .ok (.iastore, 1) := by decide +kernel
theorem dX11_findBest_161 : decode cX11_findBest 161 = .ok (.iinc 7 1, 3) := by decide +kernel
theorem dX11_findBest_164 : decode cX11_findBest 164 = .ok (.goto (-26), 3) := by decide +kernel
theorem dX11_findBest_167 : decode cX11_findBest 167 = .ok (.aload_n 0, 1) := by decide +kernel
theorem dX11_findBest_168 : decode cX11_findBest 168 = .ok (.invokevirtual 347, 3) := by decide +kernel
theorem dX11_findBest_171 : decode cX11_findBest 171 = .ok (.istore_n 3, 1) := by decide +kernel
theorem dX11_findBest_172 : decode cX11_findBest 172 = .ok (.goto (-151), 3) := by decide +kernel
theorem dX11_findBest_175 : decode cX11_findBest 175 = .ok (.return_, 1) := by decide +kernel
theorem dX11_best_0 : decode cX11_best 0 = .ok (.aload_n 0, 1) := by decide +kernel
theorem dX11_best_1 : decode cX11_best 1 = .ok (.iconst 0, 1) := by decide +kernel
theorem dX11_best_2 : decode cX11_best 2 = .ok (.putfield 99, 3) := by decide +kernel
theorem dX11_best_5 : decode cX11_best 5 = .ok (.aload_n 0, 1) := by decide +kernel
theorem dX11_best_6 : decode cX11_best 6 = .ok (.iload_n 1, 1) := by decide +kernel
theorem dX11_best_7 : decode cX11_best 7 = .ok (.invokevirtual 350, 3) := by decide +kernel
theorem dX11_best_10 : decode cX11_best 10 = .ok (.ifCond .ne 5, 3) := by decide +kernel
theorem dX11_best_13 : decode cX11_best 13 = .ok (.iconst (-1), 1) := by decide +kernel
theorem dX11_best_14 : decode cX11_best 14 = .ok (.ireturn, 1) := by decide +kernel
theorem dX11_best_15 : decode cX11_best 15 = .ok (.aload_n 0, 1) := by decide +kernel
theorem dX11_best_16 : decode cX11_best 16 = .ok (.invokevirtual 271, 3) := by decide +kernel
theorem dX11_best_19 : decode cX11_best 19 = .ok (.aload_n 0, 1) := by decide +kernel
theorem dX11_best_20 : decode cX11_best 20 = .ok (.iload_n 1, 1) := by decide +kernel
theorem dX11_best_21 : decode cX11_best 21 = .ok (.iconst 1, 1) := by decide +kernel
theorem dX11_best_22 : decode cX11_best 22 = .ok (.invokevirtual 353, 3) := by decide +kernel
theorem dX11_best_25 : decode cX11_best 25 = .ok (.aload_n 0, 1) := by decide +kernel
theorem dX11_best_26 : decode cX11_best 26 = .ok (.getfield 338, 3) := by decide +kernel
theorem dX11_best_29 : decode cX11_best 29 = .ok (.ldc_w 321, 3) := by decide +kernel
theorem dX11_best_32 : decode cX11_best 32 = .ok (.if_icmp .ne 6, 3) := by decide +kernel
theorem dX11_best_35 : decode cX11_best 35 = .ok (.bipush (-2), 2) := by decide +kernel
theorem dX11_best_37 : decode cX11_best 37 = .ok (.ireturn, 1) := by decide +kernel
theorem dX11_best_38 : decode cX11_best 38 = .ok (.aload_n 0, 1) := by decide +kernel
theorem dX11_best_39 : decode cX11_best 39 = .ok (.iconst 0, 1) := by decide +kernel
theorem dX11_best_40 : decode cX11_best 40 = .ok (.putfield 103, 3) := by decide +kernel
theorem dX11_best_43 : decode cX11_best 43 = .ok (.iconst 0, 1) := by decide +kernel
theorem dX11_best_44 : decode cX11_best 44 = .ok (.istore_n 2, 1) := by decide +kernel
theorem dX11_best_45 : decode cX11_best 45 = .ok (.iload_n 2, 1) := by decide +kernel
theorem dX11_best_46 : decode cX11_best 46 = .ok (.aload_n 0, 1) := by decide +kernel
theorem dX11_best_47 : decode cX11_best 47 = .ok (.getfield 315, 3) := by decide +kernel
theorem dX11_best_50 : decode cX11_best 50 = .ok (.if_icmp .ge 19, 3) := by decide +kernel
theorem dX11_best_53 : decode cX11_best 53 = .ok (.aload_n 0, 1) := by decide +kernel
theorem dX11_best_54 : decode cX11_best 54 = .ok (.aload_n 0, 1) := by decide +kernel
theorem dX11_best_55 : decode cX11_best 55 = .ok (.getfield 66, 3) := by decide +kernel
theorem dX11_best_58 : decode cX11_best 58 = .ok (.iload_n 2, 1) := by decide +kernel
theorem dX11_best_59 : decode cX11_best 59 = .ok (.iaload, 1) := by decide +kernel
theorem dX11_best_60 : decode cX11_best 60 = .ok (.invokevirtual 300, 3) := by decide +kernel
theorem dX11_best_63 : decode cX11_best 63 = .ok (.iinc 2 1, 3) := by decide +kernel
theorem dX11_best_66 : decode cX11_best 66 = .ok (.goto (-21), 3) := by decide +kernel
theorem dX11_best_69 : decode cX11_best 69 = .ok (.aload_n 0, 1) := by decide +kernel
theorem dX11_best_70 : decode cX11_best 70 = .ok (.getfield 338, 3) := by decide +kernel
theorem dX11_best_73 : decode cX11_best 73 = .ok (.ireturn, 1) := by decide +kernel
theorem dX11_calm_0 : decode cX11_calm 0 = .ok (.aload_n 0, 1) := by decide +kernel
theorem dX11_calm_1 : decode cX11_calm 1 = .ok (.iconst 0, 1) := by decide +kernel
theorem dX11_calm_2 : decode cX11_calm 2 = .ok (.putfield 99, 3) := by decide +kernel
theorem dX11_calm_5 : decode cX11_calm 5 = .ok (.aload_n 0, 1) := by decide +kernel
theorem dX11_calm_6 : decode cX11_calm 6 = .ok (.iload_n 1, 1) := by decide +kernel
theorem dX11_calm_7 : decode cX11_calm 7 = .ok (.invokevirtual 350, 3) := by decide +kernel
theorem dX11_calm_10 : decode cX11_calm 10 = .ok (.ifCond .ne 5, 3) := by decide +kernel
theorem dX11_calm_13 : decode cX11_calm 13 = .ok (.iconst (-1), 1) := by decide +kernel
theorem dX11_calm_14 : decode cX11_calm 14 = .ok (.ireturn, 1) := by decide +kernel
theorem dX11_calm_15 : decode cX11_calm 15 = .ok (.aload_n 0, 1) := by decide +kernel
theorem dX11_calm_16 : decode cX11_calm 16 = .ok (.invokevirtual 271, 3) := by decide +kernel
theorem dX11_calm_19 : decode cX11_calm 19 = .ok (.aload_n 0, 1) := by decide +kernel
theorem dX11_calm_20 : decode cX11_calm 20 = .ok (.iload_n 1, 1) := by decide +kernel
theorem dX11_calm_21 : decode cX11_calm 21 = .ok (.iconst 0, 1) := by decide +kernel
theorem dX11_calm_22 : decode cX11_calm 22 = .ok (.invokevirtual 353, 3) := by decide +kernel
theorem dX11_calm_25 : decode cX11_calm 25 = .ok (.aload_n 0, 1) := by decide +kernel
theorem dX11_calm_26 : decode cX11_calm 26 = .ok (.getfield 338, 3) := by decide +kernel
theorem dX11_calm_29 : decode cX11_calm 29 = .ok (.ldc_w 321, 3) := by decide +kernel
theorem dX11_calm_32 : decode cX11_calm 32 = .ok (.if_icmp .ne 6, 3) := by decide +kernel
theorem dX11_calm_35 : decode cX11_calm 35 = .ok (.bipush (-2), 2) := by decide +kernel
theorem dX11_calm_37 : decode cX11_calm 37 = .ok (.ireturn, 1) := by decide +kernel
theorem dX11_calm_38 : decode cX11_calm 38 = .ok (.aload_n 0, 1) := by decide +kernel
theorem dX11_calm_39 : decode cX11_calm 39 = .ok (.iconst 0, 1) := by decide +kernel
theorem dX11_calm_40 : decode cX11_calm 40 = .ok (.putfield 103, 3) := by decide +kernel
theorem dX11_calm_43 : decode cX11_calm 43 = .ok (.aload_n 0, 1) := by decide +kernel
theorem dX11_calm_44 : decode cX11_calm 44 = .ok (.aload_n 0, 1) := by decide +kernel
theorem dX11_calm_45 : decode cX11_calm 45 = .ok (.getfield 338, 3) := by decide +kernel
theorem dX11_calm_48 : decode cX11_calm 48 = .ok (.invokevirtual 300, 3) := by decide +kernel
theorem dX11_calm_51 : decode cX11_calm 51 = .ok (.iconst 0, 1) := by decide +kernel
theorem dX11_calm_52 : decode cX11_calm 52 = .ok (.istore_n 2, 1) := by decide +kernel
theorem dX11_calm_53 : decode cX11_calm 53 = .ok (.iload_n 2, 1) := by decide +kernel
theorem dX11_calm_54 : decode cX11_calm 54 = .ok (.aload_n 0, 1) := by decide +kernel
theorem dX11_calm_55 : decode cX11_calm 55 = .ok (.getfield 315, 3) := by decide +kernel
theorem dX11_calm_58 : decode cX11_calm 58 = .ok (.if_icmp .ge 19, 3) := by decide +kernel
theorem dX11_calm_61 : decode cX11_calm 61 = .ok (.aload_n 0, 1) := by decide +kernel
theorem dX11_calm_62 : decode cX11_calm 62 = .ok (.aload_n 0, 1) := by decide +kernel
theorem dX11_calm_63 : decode cX11_calm 63 = .ok (.getfield 66, 3) := by decide +kernel
theorem dX11_calm_66 : decode cX11_calm 66 = .ok (.iload_n 2, 1) := by decide +kernel
theorem dX11_calm_67 : decode cX11_calm 67 = .ok (.iaload, 1) := by decide +kernel
theorem dX11_calm_68 : decode cX11_calm 68 = .ok (.invokevirtual 300, 3) := by decide +kernel
theorem dX11_calm_71 : decode cX11_calm 71 = .ok (.iinc 2 1, 3) := by decide +kernel
theorem dX11_calm_74 : decode cX11_calm 74 = .ok (.goto (-21), 3) := by decide +kernel
theorem dX11_calm_77 : decode cX11_calm 77 = .ok (.aload_n 0, 1) := by decide +kernel
theorem dX11_calm_78 : decode cX11_calm 78 = .ok (.getfield 341, 3) := by decide +kernel
theorem dX11_calm_81 : decode cX11_calm 81 = .ok (.ireturn, 1) := by decide +kernel
theorem dX11_many_0 : decode cX11_many 0 = .ok (.aload_n 0, 1) := by decide +kernel
theorem dX11_many_1 : decode cX11_many 1 = .ok (.iconst 0, 1) := by decide +kernel
theorem dX11_many_2 : decode cX11_many 2 = .ok (.putfield 99, 3) := by decide +kernel
theorem dX11_many_5 : decode cX11_many 5 = .ok (.aload_n 0, 1) := by decide +kernel
theorem dX11_many_6 : decode cX11_many 6 = .ok (.iload_n 1, 1) := by decide +kernel
theorem dX11_many_7 : decode cX11_many 7 = .ok (.invokevirtual 350, 3) := by decide +kernel
theorem dX11_many_10 : decode cX11_many 10 = .ok (.ifCond .eq 14, 3) := by decide +kernel
theorem dX11_many_13 : decode cX11_many 13 = .ok (.iload_n 2, 1) := by decide +kernel
theorem dX11_many_14 : decode cX11_many 14 = .ok (.iconst 1, 1) := by decide +kernel
theorem dX11_many_15 : decode cX11_many 15 = .ok (.sipush 400, 3) := by decide +kernel
theorem dX11_many_18 : decode cX11_many 18 = .ok (.invokestatic 109, 3) := by decide +kernel
theorem dX11_many_21 : decode cX11_many 21 = .ok (.ifCond .ne 5, 3) := by decide +kernel
theorem dX11_many_24 : decode cX11_many 24 = .ok (.iconst (-1), 1) := by decide +kernel
theorem dX11_many_25 : decode cX11_many 25 = .ok (.ireturn, 1) := by decide +kernel
theorem dX11_many_26 : decode cX11_many 26 = .ok (.aload_n 0, 1) := by decide +kernel
theorem dX11_many_27 : decode cX11_many 27 = .ok (.invokevirtual 271, 3) := by decide +kernel
theorem dX11_many_30 : decode cX11_many 30 = .ok (.iconst 0, 1) := by decide +kernel
theorem dX11_many_31 : decode cX11_many 31 = .ok (.istore_n 3, 1) := by decide +kernel
theorem dX11_many_32 : decode cX11_many 32 = .ok (.iconst 0, 1) := by decide +kernel
theorem dX11_many_33 : decode cX11_many 33 = .ok (.istore 4, 2) := by decide +kernel
theorem dX11_many_35 : decode cX11_many 35 = .ok (.aload_n 0, 1) := by decide +kernel
theorem dX11_many_36 : decode cX11_many 36 = .ok (.iload_n 1, 1) := by decide +kernel
theorem dX11_many_37 : decode cX11_many 37 = .ok (.invokevirtual 344, 3) := by decide +kernel
theorem dX11_many_40 : decode cX11_many 40 = .ok (.iconst 1, 1) := by decide +kernel
theorem dX11_many_41 : decode cX11_many 41 = .ok (.istore 5, 2) := by decide +kernel
theorem dX11_many_43 : decode cX11_many 43 = .ok (.iload 5, 2) := by decide +kernel
theorem dX11_many_45 : decode cX11_many 45 = .ok (.ifCond .eq 50, 3) := by decide +kernel
theorem dX11_many_48 : decode cX11_many 48 = .ok (.aload_n 0, 1) := by decide +kernel
theorem dX11_many_49 : decode cX11_many 49 = .ok (.invokevirtual 325, 3) := by decide +kernel
theorem dX11_many_52 : decode cX11_many 52 = .ok (.istore 6, 2) := by decide +kernel
theorem dX11_many_54 : decode cX11_many 54 = .ok (.iload_n 3, 1) := by decide +kernel
theorem dX11_many_55 : decode cX11_many 55 = .ok (.iload 6, 2) := by decide +kernel
theorem dX11_many_57 : decode cX11_many 57 = .ok (.iload_n 2, 1) := by decide +kernel
theorem dX11_many_58 : decode cX11_many 58 = .ok (.if_icmp .gt 7, 3) := by decide +kernel
theorem dX11_many_61 : decode cX11_many 61 = .ok (.iconst 1, 1) := by decide +kernel
theorem dX11_many_62 : decode cX11_many 62 = .ok (.goto 4, 3) := by decide +kernel
theorem dX11_many_65 : decode cX11_many 65 = .ok (.iconst 0, 1) := by decide +kernel
theorem dX11_many_66 : decode cX11_many 66 = .ok (.iadd, 1) := by decide +kernel
theorem dX11_many_67 : decode cX11_many 67 = .ok (.istore_n 3, 1) := by decide +kernel
theorem dX11_many_68 : decode cX11_many 68 = .ok (.iload 4, 2) := by decide +kernel
theorem dX11_many_70 : decode cX11_many 70 = .ok (.iload 6, 2) := by decide +kernel
theorem dX11_many_72 : decode cX11_many 72 = .ok (.ldc_w 321, 3) := by decide +kernel
theorem dX11_many_75 : decode cX11_many 75 = .ok (.if_icmp .ne 7, 3) := by decide +kernel
theorem dX11_many_78 : decode cX11_many 78 = .ok (.iconst 1, 1) := by decide +kernel
theorem dX11_many_79 : decode cX11_many 79 = .ok (.goto 4, 3) := by decide +kernel
theorem dX11_many_82 : decode cX11_many 82 = .ok (.iconst 0, 1) := by decide +kernel
theorem dX11_many_83 : decode cX11_many 83 = .ok (.iadd, 1) := by decide +kernel
theorem dX11_many_84 : decode cX11_many 84 = .ok (.istore 4, 2) := by decide +kernel
theorem dX11_many_86 : decode cX11_many 86 = .ok (.aload_n 0, 1) := by decide +kernel
theorem dX11_many_87 : decode cX11_many 87 = .ok (.invokevirtual 347, 3) := by decide +kernel
theorem dX11_many_90 : decode cX11_many 90 = .ok (.istore 5, 2) := by decide +kernel
theorem dX11_many_92 : decode cX11_many 92 = .ok (.goto (-49), 3) := by decide +kernel
theorem dX11_many_95 : decode cX11_many 95 = .ok (.aload_n 0, 1) := by decide +kernel
theorem dX11_many_96 : decode cX11_many 96 = .ok (.iconst 0, 1) := by decide +kernel
theorem dX11_many_97 : decode cX11_many 97 = .ok (.putfield 103, 3) := by decide +kernel
theorem dX11_many_100 : decode cX11_many 100 = .ok (.aload_n 0, 1) := by decide +kernel
theorem dX11_many_101 : decode cX11_many 101 = .ok (.iload 4, 2) := by decide +kernel
theorem dX11_many_103 : decode cX11_many 103 = .ok (.invokevirtual 300, 3) := by decide +kernel
theorem dX11_many_106 : decode cX11_many 106 = .ok (.iload_n 3, 1) := by decide +kernel
theorem dX11_many_107 : decode cX11_many 107 = .ok (.ireturn, 1) := by decide +kernel
theorem dX11_areTwo_0 : decode cX11_areTwo 0 = .ok (.aload_n 0, 1) := by decide +kernel
theorem dX11_areTwo_1 : decode cX11_areTwo 1 = .ok (.iload_n 1, 1) := by decide +kernel
theorem dX11_areTwo_2 : decode cX11_areTwo 2 = .ok (.invokevirtual 228, 3) := by decide +kernel
theorem dX11_areTwo_5 : decode cX11_areTwo 5 = .ok (.ifCond .eq 20, 3) := by decide +kernel
theorem dX11_areTwo_8 : decode cX11_areTwo 8 = .ok (.aload_n 0, 1) := by decide +kernel
theorem dX11_areTwo_9 : decode cX11_areTwo 9 = .ok (.iload_n 2, 1) := by decide +kernel
theorem dX11_areTwo_10 : decode cX11_areTwo 10 = .ok (.invokevirtual 228, 3) := by decide +kernel
theorem dX11_areTwo_13 : decode cX11_areTwo 13 = .ok (.ifCond .eq 12, 3) := by decide +kernel
theorem dX11_areTwo_16 : decode cX11_areTwo 16 = .ok (.iload_n 1, 1) := by decide +kernel
theorem dX11_areTwo_17 : decode cX11_areTwo 17 = .ok (.iload_n 2, 1) := by decide +kernel
theorem dX11_areTwo_18 : decode cX11_areTwo 18 = .ok (.if_icmp .eq 7, 3) := by decide +kernel
theorem dX11_areTwo_21 : decode cX11_areTwo 21 = .ok (.iconst 1, 1) := by decide +kernel
theorem dX11_areTwo_22 : decode cX11_areTwo 22 = .ok (.goto 4, 3) := by decide +kernel
theorem dX11_areTwo_25 : decode cX11_areTwo 25 = .ok (.iconst 0, 1) := by decide +kernel
theorem dX11_areTwo_26 : decode cX11_areTwo 26 = .ok (.ireturn, 1) := by decide +kernel
theorem dX11_allStays_0 : decode cX11_allStays 0 = .ok (.iconst 0, 1) := by decide +kernel
theorem dX11_allStays_1 : decode cX11_allStays 1 = .ok (.istore_n 2, 1) := by decide +kernel
theorem dX11_allStays_2 : decode cX11_allStays 2 = .ok (.iconst 0, 1) := by decide +kernel
theorem dX11_allStays_3 : decode cX11_allStays 3 = .ok (.istore_n 3, 1) := by decide +kernel
theorem dX11_allStays_4 : decode cX11_allStays 4 = .ok (.iload_n 3, 1) := by decide +kernel
theorem dX11_allStays_5 : decode cX11_allStays 5 = .ok (.aload_n 0, 1) := by decide +kernel
theorem dX11_allStays_6 : decode cX11_allStays 6 = .ok (.getfield 106, 3) := by decide +kernel
theorem dX11_allStays_9 : decode cX11_allStays 9 = .ok (.if_icmp .ge 23, 3) := by decide +kernel
theorem dX11_allStays_12 : decode cX11_allStays 12 = .ok (.iload_n 2, 1) := by decide +kernel
theorem dX11_allStays_13 : decode cX11_allStays 13 = .ok (.aload_n 0, 1) := by decide +kernel
theorem dX11_allStays_14 : decode cX11_allStays 14 = .ok (.getfield 48, 3) := by decide +kernel
theorem dX11_allStays_17 : decode cX11_allStays 17 = .ok (.bipush 6, 2) := by decide +kernel
theorem dX11_allStays_19 : decode cX11_allStays 19 = .ok (.iload_n 1, 1) := by decide +kernel
theorem dX11_allStays_20 : decode cX11_allStays 20 = .ok (.imul, 1) := by decide +kernel
theorem dX11_allStays_21 : decode cX11_allStays 21 = .ok (.iload_n 3, 1) := by decide +kernel
theorem dX11_allStays_22 : decode cX11_allStays 22 = .ok (.iadd, 1) := by decide +kernel
theorem dX11_allStays_23 : decode cX11_allStays 23 = .ok (.iaload, 1) := by decide +kernel
theorem dX11_allStays_24 : decode cX11_allStays 24 = .ok (.iadd, 1) := by decide +kernel
theorem dX11_allStays_25 : decode cX11_allStays 25 = .ok (.istore_n 2, 1) := by decide +kernel
theorem dX11_allStays_26 : decode cX11_allStays 26 = .ok (.iinc 3 1, 3) := by decide +kernel
theorem dX11_allStays_29 : decode cX11_allStays 29 = .ok (.goto (-25), 3) := by decide +kernel
theorem dX11_allStays_32 : decode cX11_allStays 32 = .ok (.iload_n 2, 1) := by decide +kernel
theorem dX11_allStays_33 : decode cX11_allStays 33 = .ok (.ireturn, 1) := by decide +kernel
section NXG
variable {l : Launch} {D : va_G} {cy : Nat → ClassId} {ad : Nat → Nat} {dT : Nat} {X : Mm}
def f_X11_act_58  : Nat → Int32 → Int32 → Mem → Option (Int32 × Mem)
  | 0, _, _, _ => none
  | n + 1, x2, x3, M =>
    if x3 < x2 then
      bd (f_X11_goMinute 175 M) fun _ M8 =>
      bd (f_J6_bitCount_0f7a4 (M8 174 32) M8) fun r10 M11 =>
      ml (up M11 174 34 ((M8 174 34) + r10)) fun M13 =>
      vl (x3 + 1) fun v14 =>
      f_X11_act_58 n x2 v14 M13
    else
      some (1, M)
set_option maxRecDepth 100000 in
theorem w_X11_act_58 {R : Int32} {M' : Mem}  : ∀ (n : Nat) (x2 x3 : Int32) (M : Mem), f_X11_act_58 n x2 x3 M = some (R, M') → RunF l D cy ad none YX11_act 5 0 0 (some (.int R)) (lay X M') 0 0 58 [(0, .ref 174), (2, .int x2), (3, .int x3)] [] (lay X M) := by
  intro n
  induction n with
  | zero => intro x2 x3 M hF; exact absurd hF (by unfold f_X11_act_58; exact fun h => nomatch h)
  | succ n ih =>
    intro x2 x3 M hF
    unfold f_X11_act_58 at hF
    refine g_iload_n (Y := YX11_act) (pc := 58) 2 dX11_act_58 rfl ?_
    refine g_iload_n (Y := YX11_act) (pc := 59) 1 dX11_act_59 rfl ?_
    refine g_icmp_ge (Y := YX11_act) (pc := 60) (tgt := 93) dX11_act_60 rfl (fun c6 => ?_) (fun c6 => ?_)
    · replace hF := if_f c6 hF
      refine g_iconst (Y := YX11_act) (pc := 93) dX11_act_93 kI_1 ?_
      exact s_zret (Y := YX11_act) (pc := 94) dX11_act_94 rfl (Or.inr rfl) hF
    · replace hF := if_t c6 hF
      refine g_aload_n (Y := YX11_act) (pc := 63) 0 dX11_act_63 rfl ?_
      refine g_aload_n (Y := YX11_act) (pc := 64) 0 dX11_act_64 rfl ?_
      refine u_getR (Y := YX11_act) (pc := 65) (j := 175) dX11_act_65 fl_X11_9 k_174 rf_174_0 ?_
      obtain ⟨r7, M8, e9, hF⟩ := bd_some hF
      refine s_callVv (Y := YX11_act) (pc := 68) (as := [.ref 175]) (st := []) (r_X11_goMinute k_175 e9) miX11_goMinute lk_X11_297 dX11_act_68 k_174 rfl (Nat.le_of_ble_eq_true rfl) (Nat.le_of_ble_eq_true rfl) rfl ?_
      clear e9
      refine g_aload_n (Y := YX11_act) (pc := 71) 0 dX11_act_71 rfl ?_
      refine g_dup (Y := YX11_act) (pc := 72) dX11_act_72 rfl ?_
      refine u_getI (Y := YX11_act) (pc := 73) dX11_act_73 fl_X11_306 k_174 ?_
      refine g_aload_n (Y := YX11_act) (pc := 76) 0 dX11_act_76 rfl ?_
      refine u_getI (Y := YX11_act) (pc := 77) dX11_act_77 fl_X11_261 k_174 ?_
      obtain ⟨r10, M11, e12, hF⟩ := bd_some hF
      refine s_callSi (Y := YX11_act) (pc := 80) (as := [.int (M8 174 32)]) (st := [.int (M8 174 34), .ref 174]) (r_J6_bitCount_0f7a4  e12) msJ6_bitCount_0f7a4 lk_X11_285 dX11_act_80 rfl (Nat.le_of_ble_eq_true rfl) (Nat.le_of_ble_eq_true rfl) rfl ?_
      clear e12
      refine g_iadd (Y := YX11_act) (pc := 83) dX11_act_83 ?_
      refine u_putI (Y := YX11_act) (pc := 84) dX11_act_84 fl_X11_306  k_174 ?_
      refine g_nmM (fun M13 e => ?_)
      replace hF := ml_to e hF; clear e
      refine s_iinc (Y := YX11_act) (pc := 87) (j := 2) (L' := fun y => [(3, .int y), (0, .ref 174), (2, .int x2)]) dX11_act_87 kI_1 rfl (Nat.le_of_ble_eq_true rfl) (fun _ => rfl) (fun v14 e => ?_)
      replace hF := vl_to e hF; clear e
      refine g_goto (Y := YX11_act) (pc := 90) (tgt := 58) dX11_act_90 rfl ?_
      refine g_loc [1, 2, 0] rfl ?_
      exact ih _ _ _ hF
def f_X11_act_0  (x1 : Int32) (M : Mem) : Option (Int32 × Mem) :=
  gd (0 ≤ (x1 + 1) ∧ (x1 + 1).toNatClampNeg < 240) <|
  vl ((M 190 (x1 + 1).toNatClampNeg)) fun v2 =>
  gd (0 ≤ x1 ∧ x1.toNatClampNeg < 240) <|
  if (M 190 x1.toNatClampNeg) = 109 then
    if 90 < v2 then
      some (0, M)
    else
      f_X11_act_58 FU v2 0 M
  else
    if (M 190 x1.toNatClampNeg) = 111 then
      bd (f_X11_refusesOff 175 v2 M) fun r16 M17 =>
      if r16 < 0 then
        some (0, M17)
      else
        bd (f_X11_goOff 175 v2 M17) fun _ M21 =>
        some (1, M21)
    else
      if (M 190 x1.toNatClampNeg) = 118 then
        gd (0 ≤ (x1 + 2) ∧ (x1 + 2).toNatClampNeg < 240) <|
        bd (f_X11_canOver v2 (M 190 (x1 + 2).toNatClampNeg) M) fun r25 M26 =>
        if r25 = 0 then
          some (0, M26)
        else
          gd (0 ≤ (x1 + 2) ∧ (x1 + 2).toNatClampNeg < 240) <|
          bd (f_X11_goOver 175 v2 (M26 190 (x1 + 2).toNatClampNeg) M26) fun _ M31 =>
          some (1, M31)
      else
        gd (0 ≤ (24 : Int32) ∧ (24 : Int32).toNatClampNeg < 25) <|
        gd (0 ≤ (24 : Int32) ∧ (24 : Int32).toNatClampNeg < 25) <|
        ml (up M 175 (24 : Int32).toNatClampNeg ((M 175 (24 : Int32).toNatClampNeg) + v2)) fun M35 =>
        some (1, M35)
set_option maxRecDepth 100000 in
theorem w_X11_act_0 {R : Int32} {M' : Mem}  (x1 : Int32) (M : Mem) (hF : f_X11_act_0 x1 M = some (R, M')) : RunF l D cy ad none YX11_act 5 0 0 (some (.int R)) (lay X M') 0 0 0 [(0, .ref 174), (1, .int x1)] [] (lay X M) := by
  unfold f_X11_act_0 at hF
  refine g_aload_n (Y := YX11_act) (pc := 0) 0 dX11_act_0 rfl ?_
  refine u_getR (Y := YX11_act) (pc := 1) (j := 190) dX11_act_1 fl_X11_57 k_174 rf_174_33 ?_
  refine g_iload_n (Y := YX11_act) (pc := 4) 1 dX11_act_4 rfl ?_
  refine g_iconst (Y := YX11_act) (pc := 5) dX11_act_5 kI_1 ?_
  refine g_iadd (Y := YX11_act) (pc := 6) dX11_act_6 ?_
  obtain ⟨g1, hF⟩ := gd_some hF
  refine s_iald (Y := YX11_act) (pc := 7) dX11_act_7 k_190 n_190 g1 ?_
  refine g_nm (fun v2 e => ?_)
  replace hF := vl_to e hF; clear e
  refine g_istore_n (Y := YX11_act) (pc := 8) (L' := [(2, .int v2), (0, .ref 174), (1, .int x1)]) dX11_act_8 (Nat.le_of_ble_eq_true rfl) rfl ?_
  refine g_aload_n (Y := YX11_act) (pc := 9) 1 dX11_act_9 rfl ?_
  refine u_getR (Y := YX11_act) (pc := 10) (j := 190) dX11_act_10 fl_X11_57 k_174 rf_174_33 ?_
  refine g_iload_n (Y := YX11_act) (pc := 13) 2 dX11_act_13 rfl ?_
  obtain ⟨g3, hF⟩ := gd_some hF
  refine s_iald (Y := YX11_act) (pc := 14) dX11_act_14 k_190 n_190 g3 ?_
  by_cases c4 : (M 190 x1.toNatClampNeg) = 109
  · replace hF := if_t c4 hF
    refine g_lookup (Y := YX11_act) (pc := 15) (tgt := 48) dX11_act_15 (by decide) (off := 33) (by rw [c4]; decide) (by decide) ?_
    refine g_iload_n (Y := YX11_act) (pc := 48) 0 dX11_act_48 rfl ?_
    refine g_bipush (Y := YX11_act) (pc := 49) dX11_act_49 kB_90 ?_
    refine g_icmp_le (Y := YX11_act) (pc := 51) (tgt := 56) dX11_act_51 rfl (fun c5 => ?_) (fun c5 => ?_)
    · replace hF := if_f c5 hF
      refine g_iconst (Y := YX11_act) (pc := 56) dX11_act_56 kI_0 ?_
      refine g_istore_n (Y := YX11_act) (pc := 57) (L' := [(3, .int 0), (2, .int v2), (0, .ref 174), (1, .int x1)]) dX11_act_57 (Nat.le_of_ble_eq_true rfl) rfl ?_
      refine g_loc [2, 1, 0] rfl ?_
      exact w_X11_act_58  _ _ _ _ hF
    · replace hF := if_t c5 hF
      refine g_iconst (Y := YX11_act) (pc := 54) dX11_act_54 kI_0 ?_
      exact s_zret (Y := YX11_act) (pc := 55) dX11_act_55 rfl (Or.inl rfl) hF
  replace hF := if_f c4 hF
  by_cases c15 : (M 190 x1.toNatClampNeg) = 111
  · replace hF := if_t c15 hF
    refine g_lookup (Y := YX11_act) (pc := 15) (tgt := 95) dX11_act_15 (by decide) (off := 80) (by rw [c15]; decide) (by decide) ?_
    refine g_aload_n (Y := YX11_act) (pc := 95) 1 dX11_act_95 rfl ?_
    refine g_aload_n (Y := YX11_act) (pc := 96) 1 dX11_act_96 rfl ?_
    refine u_getR (Y := YX11_act) (pc := 97) (j := 175) dX11_act_97 fl_X11_9 k_174 rf_174_0 ?_
    refine g_iload_n (Y := YX11_act) (pc := 100) 0 dX11_act_100 rfl ?_
    obtain ⟨r16, M17, e18, hF⟩ := bd_some hF
    refine s_callVi (Y := YX11_act) (pc := 101) (as := [.ref 175, .int v2]) (st := []) (r_X11_refusesOff k_175 e18) miX11_refusesOff lk_X11_268 dX11_act_101 k_174 rfl (Nat.le_of_ble_eq_true rfl) (Nat.le_of_ble_eq_true rfl) rfl ?_
    clear e18
    refine g_if_ge (Y := YX11_act) (pc := 104) (tgt := 109) dX11_act_104 rfl (fun c19 => ?_) (fun c19 => ?_)
    · replace hF := if_f c19 hF
      refine g_aload_n (Y := YX11_act) (pc := 109) 1 dX11_act_109 rfl ?_
      refine g_aload_n (Y := YX11_act) (pc := 110) 1 dX11_act_110 rfl ?_
      refine u_getR (Y := YX11_act) (pc := 111) (j := 175) dX11_act_111 fl_X11_9 k_174 rf_174_0 ?_
      refine g_iload_n (Y := YX11_act) (pc := 114) 0 dX11_act_114 rfl ?_
      obtain ⟨r20, M21, e22, hF⟩ := bd_some hF
      refine s_callVv (Y := YX11_act) (pc := 115) (as := [.ref 175, .int v2]) (st := []) (r_X11_goOff k_175 e22) miX11_goOff lk_X11_278 dX11_act_115 k_174 rfl (Nat.le_of_ble_eq_true rfl) (Nat.le_of_ble_eq_true rfl) rfl ?_
      clear e22
      refine g_iconst (Y := YX11_act) (pc := 118) dX11_act_118 kI_1 ?_
      exact s_zret (Y := YX11_act) (pc := 119) dX11_act_119 rfl (Or.inr rfl) hF
    · replace hF := if_t c19 hF
      refine g_iconst (Y := YX11_act) (pc := 107) dX11_act_107 kI_0 ?_
      exact s_zret (Y := YX11_act) (pc := 108) dX11_act_108 rfl (Or.inl rfl) hF
  replace hF := if_f c15 hF
  by_cases c23 : (M 190 x1.toNatClampNeg) = 118
  · replace hF := if_t c23 hF
    refine g_lookup (Y := YX11_act) (pc := 15) (tgt := 120) dX11_act_15 (by decide) (off := 105) (by rw [c23]; decide) (by decide) ?_
    refine g_aload_n (Y := YX11_act) (pc := 120) 1 dX11_act_120 rfl ?_
    refine g_iload_n (Y := YX11_act) (pc := 121) 0 dX11_act_121 rfl ?_
    refine g_aload_n (Y := YX11_act) (pc := 122) 1 dX11_act_122 rfl ?_
    refine u_getR (Y := YX11_act) (pc := 123) (j := 190) dX11_act_123 fl_X11_57 k_174 rf_174_33 ?_
    refine g_iload_n (Y := YX11_act) (pc := 126) 2 dX11_act_126 rfl ?_
    refine g_iconst (Y := YX11_act) (pc := 127) dX11_act_127 kI_2 ?_
    refine g_iadd (Y := YX11_act) (pc := 128) dX11_act_128 ?_
    obtain ⟨g24, hF⟩ := gd_some hF
    refine s_iald (Y := YX11_act) (pc := 129) dX11_act_129 k_190 n_190 g24 ?_
    obtain ⟨r25, M26, e27, hF⟩ := bd_some hF
    refine s_callVi (Y := YX11_act) (pc := 130) (as := [.int v2, .int (M 190 (x1 + 2).toNatClampNeg)]) (st := []) (r_X11_canOver  e27) miX11_canOver lk_X11_290 dX11_act_130 k_174 rfl (Nat.le_of_ble_eq_true rfl) (Nat.le_of_ble_eq_true rfl) rfl ?_
    clear e27
    refine g_if_ne (Y := YX11_act) (pc := 133) (tgt := 138) dX11_act_133 rfl (fun c28 => ?_) (fun c28 => ?_)
    · replace hF := if_f c28 hF
      refine g_aload_n (Y := YX11_act) (pc := 138) 1 dX11_act_138 rfl ?_
      refine u_getR (Y := YX11_act) (pc := 139) (j := 175) dX11_act_139 fl_X11_9 k_174 rf_174_0 ?_
      refine g_iload_n (Y := YX11_act) (pc := 142) 0 dX11_act_142 rfl ?_
      refine g_aload_n (Y := YX11_act) (pc := 143) 1 dX11_act_143 rfl ?_
      refine u_getR (Y := YX11_act) (pc := 144) (j := 190) dX11_act_144 fl_X11_57 k_174 rf_174_33 ?_
      refine g_iload_n (Y := YX11_act) (pc := 147) 2 dX11_act_147 rfl ?_
      refine g_iconst (Y := YX11_act) (pc := 148) dX11_act_148 kI_2 ?_
      refine g_iadd (Y := YX11_act) (pc := 149) dX11_act_149 ?_
      obtain ⟨g29, hF⟩ := gd_some hF
      refine s_iald (Y := YX11_act) (pc := 150) dX11_act_150 k_190 n_190 g29 ?_
      obtain ⟨r30, M31, e32, hF⟩ := bd_some hF
      refine s_callSv (Y := YX11_act) (pc := 151) (as := [.ref 175, .int v2, .int (M26 190 (x1 + 2).toNatClampNeg)]) (st := []) (r_X11_goOver k_175 e32) msX11_goOver lk_X11_293 dX11_act_151 rfl (Nat.le_of_ble_eq_true rfl) (Nat.le_of_ble_eq_true rfl) rfl ?_
      clear e32
      refine g_iconst (Y := YX11_act) (pc := 154) dX11_act_154 kI_1 ?_
      exact s_zret (Y := YX11_act) (pc := 155) dX11_act_155 rfl (Or.inr rfl) hF
    · replace hF := if_t c28 hF
      refine g_iconst (Y := YX11_act) (pc := 136) dX11_act_136 kI_0 ?_
      exact s_zret (Y := YX11_act) (pc := 137) dX11_act_137 rfl (Or.inl rfl) hF
  replace hF := if_f c23 hF
  refine g_lookup (Y := YX11_act) (pc := 15) (tgt := 156) dX11_act_15 (by decide) (off := 141) (lk_out ⟨ne_ti c4 (by decide), ne_ti c15 (by decide), ne_ti c23 (by decide), trivial⟩) (by decide) ?_
  refine g_aload_n (Y := YX11_act) (pc := 156) 1 dX11_act_156 rfl ?_
  refine u_getR (Y := YX11_act) (pc := 157) (j := 175) dX11_act_157 fl_X11_9 k_174 rf_174_0 ?_
  refine g_bipush (Y := YX11_act) (pc := 160) dX11_act_160 kB_24 ?_
  refine g_dup2 (Y := YX11_act) (pc := 162) dX11_act_162 rfl rfl ?_
  obtain ⟨g33, hF⟩ := gd_some hF
  refine s_iald (Y := YX11_act) (pc := 163) dX11_act_163 k_175 n_175 g33 ?_
  refine g_iload_n (Y := YX11_act) (pc := 164) 0 dX11_act_164 rfl ?_
  refine g_iadd (Y := YX11_act) (pc := 165) dX11_act_165 ?_
  obtain ⟨g34, hF⟩ := gd_some hF
  refine s_iast (Y := YX11_act) (pc := 166) dX11_act_166 k_175 n_175 g34 ?_
  refine g_nmM (fun M35 e => ?_)
  replace hF := ml_to e hF; clear e
  refine g_iconst (Y := YX11_act) (pc := 167) dX11_act_167 kI_1 ?_
  exact s_zret (Y := YX11_act) (pc := 168) dX11_act_168 rfl (Or.inr rfl) hF
def f_X11_act (x1 : Int32) (M : Mem) : Option (Int32 × Mem) := f_X11_act_0 x1 M
theorem r_X11_act {x1 R : Int32} {M M' : Mem}  (hF : f_X11_act x1 M = some (R, M')) : RunS l D cy ad YX11_act 5 [.ref 174, .int x1] X M (some (.int R)) M' := Run.of 1 (miX11_act).1 (Nat.le_of_ble_eq_true rfl) (w_X11_act_0  _ _ hF)
def f_X11_day_175  (x3 : Int32) (t0 : Int32) (M : Mem) : Option (Int32 × Mem) :=
  bd (f_X11_tell t0 M) fun _ M25 =>
  bd (f_X11_tell (M25 174 34) M25) fun _ M28 =>
  some (x3, M28)
set_option maxRecDepth 100000 in
theorem w_X11_day_175 {R : Int32} {M' : Mem}  (x3 t0 : Int32) (M : Mem) (hF : f_X11_day_175 x3 t0 M = some (R, M')) : RunF l D cy ad none YX11_day 406 0 0 (some (.int R)) (lay X M') 0 0 175 [(0, .ref 174), (3, .int x3)] [.int t0, .ref 174] (lay X M) := by
  unfold f_X11_day_175 at hF
  obtain ⟨r24, M25, e26, hF⟩ := bd_some hF
  refine s_callVv (Y := YX11_day) (pc := 175) (as := [.int t0]) (st := []) (r_X11_tell  e26) miX11_tell lk_X11_300 dX11_day_175 k_174 rfl (Nat.le_of_ble_eq_true rfl) (Nat.le_of_ble_eq_true rfl) rfl ?_
  clear e26
  refine g_aload_n (Y := YX11_day) (pc := 178) 0 dX11_day_178 rfl ?_
  refine g_aload_n (Y := YX11_day) (pc := 179) 0 dX11_day_179 rfl ?_
  refine u_getI (Y := YX11_day) (pc := 180) dX11_day_180 fl_X11_306 k_174 ?_
  obtain ⟨r27, M28, e29, hF⟩ := bd_some hF
  refine s_callVv (Y := YX11_day) (pc := 183) (as := [.int (M25 174 34)]) (st := []) (r_X11_tell  e29) miX11_tell lk_X11_300 dX11_day_183 k_174 rfl (Nat.le_of_ble_eq_true rfl) (Nat.le_of_ble_eq_true rfl) rfl ?_
  clear e29
  refine g_iload_n (Y := YX11_day) (pc := 186) 1 dX11_day_186 rfl ?_
  exact s_iret (Y := YX11_day) (pc := 187) dX11_day_187 rfl hF
def f_X11_day_159  (x1 : Int32) (x3 : Int32) (M : Mem) : Option (Int32 × Mem) :=
  ml (up M 174 13 0) fun M22 =>
  if x3 < x1 then
    f_X11_day_175 x3 1 M22
  else
    f_X11_day_175 x3 0 M22
set_option maxRecDepth 100000 in
theorem w_X11_day_159 {R : Int32} {M' : Mem}  (x1 x3 : Int32) (M : Mem) (hF : f_X11_day_159 x1 x3 M = some (R, M')) : RunF l D cy ad none YX11_day 406 0 0 (some (.int R)) (lay X M') 0 0 159 [(0, .ref 174), (1, .int x1), (3, .int x3)] [] (lay X M) := by
  unfold f_X11_day_159 at hF
  refine g_aload_n (Y := YX11_day) (pc := 159) 0 dX11_day_159 rfl ?_
  refine g_iconst (Y := YX11_day) (pc := 160) dX11_day_160 kI_0 ?_
  refine u_putI (Y := YX11_day) (pc := 161) dX11_day_161 fl_X11_103  k_174 ?_
  refine g_nmM (fun M22 e => ?_)
  replace hF := ml_to e hF; clear e
  refine g_aload_n (Y := YX11_day) (pc := 164) 0 dX11_day_164 rfl ?_
  refine g_iload_n (Y := YX11_day) (pc := 165) 2 dX11_day_165 rfl ?_
  refine g_iload_n (Y := YX11_day) (pc := 166) 1 dX11_day_166 rfl ?_
  refine g_icmp_ge (Y := YX11_day) (pc := 167) (tgt := 174) dX11_day_167 rfl (fun c23 => ?_) (fun c23 => ?_)
  · replace hF := if_f c23 hF
    refine g_iconst (Y := YX11_day) (pc := 174) dX11_day_174 kI_0 ?_
    refine g_loc [0, 2] rfl ?_
    exact w_X11_day_175  _ _ _ hF
  · replace hF := if_t c23 hF
    refine g_iconst (Y := YX11_day) (pc := 170) dX11_day_170 kI_1 ?_
    refine g_goto (Y := YX11_day) (pc := 171) (tgt := 175) dX11_day_171 rfl ?_
    refine g_loc [0, 2] rfl ?_
    exact w_X11_day_175  _ _ _ hF
def f_X11_day_147  (x1 : Int32) (x3 : Int32) (M : Mem) : Option (Int32 × Mem) :=
  if 0 < x3 then
    bd (f_X11_remember 189 M) fun _ M31 =>
    f_X11_day_159 x1 x3 M31
  else
    f_X11_day_159 x1 x3 M
set_option maxRecDepth 100000 in
theorem w_X11_day_147 {R : Int32} {M' : Mem}  (x1 x3 : Int32) (M : Mem) (hF : f_X11_day_147 x1 x3 M = some (R, M')) : RunF l D cy ad none YX11_day 406 0 0 (some (.int R)) (lay X M') 0 0 147 [(0, .ref 174), (1, .int x1), (3, .int x3)] [] (lay X M) := by
  unfold f_X11_day_147 at hF
  refine g_iload_n (Y := YX11_day) (pc := 147) 2 dX11_day_147 rfl ?_
  refine g_if_le (Y := YX11_day) (pc := 148) (tgt := 159) dX11_day_148 rfl (fun c21 => ?_) (fun c21 => ?_)
  · replace hF := if_f c21 hF
    exact w_X11_day_159  _ _ _ hF
  · replace hF := if_t c21 hF
    refine g_aload_n (Y := YX11_day) (pc := 151) 0 dX11_day_151 rfl ?_
    refine g_aload_n (Y := YX11_day) (pc := 152) 0 dX11_day_152 rfl ?_
    refine u_getR (Y := YX11_day) (pc := 153) (j := 189) dX11_day_153 fl_X11_54 k_174 rf_174_29 ?_
    obtain ⟨r30, M31, e32, hF⟩ := bd_some hF
    refine s_callVv (Y := YX11_day) (pc := 156) (as := [.ref 189]) (st := []) (r_X11_remember k_189 e32) miX11_remember lk_X11_274 dX11_day_156 k_174 rfl (Nat.le_of_ble_eq_true rfl) (Nat.le_of_ble_eq_true rfl) rfl ?_
    clear e32
    exact w_X11_day_159  _ _ _ hF
def f_X11_day_126  : Nat → Int32 → Int32 → Mem → Option (Int32 × Mem)
  | 0, _, _, _ => none
  | n + 1, x1, x3, M =>
    if x3 < x1 then
      bd (f_X11_act (3 * x3) M) fun r33 M34 =>
      if r33 = 0 then
        f_X11_day_147 x1 x3 M34
      else
        vl (x3 + 1) fun v37 =>
        f_X11_day_126 n x1 v37 M34
    else
      f_X11_day_147 x1 x3 M
set_option maxRecDepth 100000 in
theorem w_X11_day_126 {R : Int32} {M' : Mem}  : ∀ (n : Nat) (x1 x3 : Int32) (M : Mem), f_X11_day_126 n x1 x3 M = some (R, M') → RunF l D cy ad none YX11_day 406 0 0 (some (.int R)) (lay X M') 0 0 126 [(0, .ref 174), (1, .int x1), (3, .int x3)] [] (lay X M) := by
  intro n
  induction n with
  | zero => intro x1 x3 M hF; exact absurd hF (by unfold f_X11_day_126; exact fun h => nomatch h)
  | succ n ih =>
    intro x1 x3 M hF
    unfold f_X11_day_126 at hF
    refine g_iload_n (Y := YX11_day) (pc := 126) 2 dX11_day_126 rfl ?_
    refine g_iload_n (Y := YX11_day) (pc := 127) 1 dX11_day_127 rfl ?_
    refine g_icmp_ge (Y := YX11_day) (pc := 128) (tgt := 147) dX11_day_128 rfl (fun c20 => ?_) (fun c20 => ?_)
    · replace hF := if_f c20 hF
      exact w_X11_day_147  _ _ _ hF
    · replace hF := if_t c20 hF
      refine g_aload_n (Y := YX11_day) (pc := 131) 0 dX11_day_131 rfl ?_
      refine g_iconst (Y := YX11_day) (pc := 132) dX11_day_132 kI_3 ?_
      refine g_iload_n (Y := YX11_day) (pc := 133) 2 dX11_day_133 rfl ?_
      refine g_imul (Y := YX11_day) (pc := 134) dX11_day_134 ?_
      obtain ⟨r33, M34, e35, hF⟩ := bd_some hF
      refine s_callVi (Y := YX11_day) (pc := 135) (as := [.int (3 * x3)]) (st := []) (r_X11_act  e35) miX11_act lk_X11_309 dX11_day_135 k_174 rfl (Nat.le_of_ble_eq_true rfl) (Nat.le_of_ble_eq_true rfl) rfl ?_
      clear e35
      refine g_if_eq (Y := YX11_day) (pc := 138) (tgt := 147) dX11_day_138 rfl (fun c36 => ?_) (fun c36 => ?_)
      · replace hF := if_t c36 hF
        exact w_X11_day_147  _ _ _ hF
      · replace hF := if_f c36 hF
        refine s_iinc (Y := YX11_day) (pc := 141) (j := 2) (L' := fun y => [(3, .int y), (0, .ref 174), (1, .int x1)]) dX11_day_141 kI_1 rfl (Nat.le_of_ble_eq_true rfl) (fun _ => rfl) (fun v37 e => ?_)
        replace hF := vl_to e hF; clear e
        refine g_goto (Y := YX11_day) (pc := 144) (tgt := 126) dX11_day_144 rfl ?_
        refine g_loc [1, 2, 0] rfl ?_
        exact ih _ _ _ hF
def f_X11_day_89  (x1 : Int32) (M : Mem) : Option (Int32 × Mem) :=
  bd (f_X11_fine M) fun r9 M10 =>
  if r9 = 0 then
    some (((-1) - (M10 174 19)), M10)
  else
    bd (f_X11_layStays M10) fun _ M14 =>
    bd (f_X11_lay 175 189 0 M14) fun _ M17 =>
    ml (up M17 174 34 0) fun M19 =>
    f_X11_day_126 FU x1 0 M19
set_option maxRecDepth 100000 in
theorem w_X11_day_89 {R : Int32} {M' : Mem}  (x1 : Int32) (M : Mem) (hF : f_X11_day_89 x1 M = some (R, M')) : RunF l D cy ad none YX11_day 406 0 0 (some (.int R)) (lay X M') 0 0 89 [(0, .ref 174), (1, .int x1)] [] (lay X M) := by
  unfold f_X11_day_89 at hF
  refine g_aload_n (Y := YX11_day) (pc := 89) 0 dX11_day_89 rfl ?_
  obtain ⟨r9, M10, e11, hF⟩ := bd_some hF
  refine s_callVi (Y := YX11_day) (pc := 90) (as := []) (st := []) (r_X11_fine  e11) miX11_fine lk_X11_134 dX11_day_90 k_174 rfl (Nat.le_of_ble_eq_true rfl) (Nat.le_of_ble_eq_true rfl) rfl ?_
  clear e11
  refine g_if_ne (Y := YX11_day) (pc := 93) (tgt := 103) dX11_day_93 rfl (fun c12 => ?_) (fun c12 => ?_)
  · replace hF := if_f c12 hF
    refine g_aload_n (Y := YX11_day) (pc := 103) 0 dX11_day_103 rfl ?_
    obtain ⟨r13, M14, e15, hF⟩ := bd_some hF
    refine s_callVv (Y := YX11_day) (pc := 104) (as := []) (st := []) (r_X11_layStays  e15) miX11_layStays lk_X11_271 dX11_day_104 k_174 rfl (Nat.le_of_ble_eq_true rfl) (Nat.le_of_ble_eq_true rfl) rfl ?_
    clear e15
    refine g_aload_n (Y := YX11_day) (pc := 107) 0 dX11_day_107 rfl ?_
    refine u_getR (Y := YX11_day) (pc := 108) (j := 175) dX11_day_108 fl_X11_9 k_174 rf_174_0 ?_
    refine g_aload_n (Y := YX11_day) (pc := 111) 0 dX11_day_111 rfl ?_
    refine u_getR (Y := YX11_day) (pc := 112) (j := 189) dX11_day_112 fl_X11_54 k_174 rf_174_29 ?_
    refine g_iconst (Y := YX11_day) (pc := 115) dX11_day_115 kI_0 ?_
    obtain ⟨r16, M17, e18, hF⟩ := bd_some hF
    refine s_callSv (Y := YX11_day) (pc := 116) (as := [.ref 175, .ref 189, .int 0]) (st := []) (r_X11_lay k_175 k_189 e18) msX11_lay lk_X11_242 dX11_day_116 rfl (Nat.le_of_ble_eq_true rfl) (Nat.le_of_ble_eq_true rfl) rfl ?_
    clear e18
    refine g_aload_n (Y := YX11_day) (pc := 119) 0 dX11_day_119 rfl ?_
    refine g_iconst (Y := YX11_day) (pc := 120) dX11_day_120 kI_0 ?_
    refine u_putI (Y := YX11_day) (pc := 121) dX11_day_121 fl_X11_306  k_174 ?_
    refine g_nmM (fun M19 e => ?_)
    replace hF := ml_to e hF; clear e
    refine g_iconst (Y := YX11_day) (pc := 124) dX11_day_124 kI_0 ?_
    refine g_istore_n (Y := YX11_day) (pc := 125) (L' := [(3, .int 0), (0, .ref 174), (1, .int x1)]) dX11_day_125 (Nat.le_of_ble_eq_true rfl) rfl ?_
    refine g_loc [1, 2, 0] rfl ?_
    exact w_X11_day_126  _ _ _ _ hF
  · replace hF := if_t c12 hF
    refine g_iconst (Y := YX11_day) (pc := 96) dX11_day_96 kI_m1 ?_
    refine g_aload_n (Y := YX11_day) (pc := 97) 0 dX11_day_97 rfl ?_
    refine u_getI (Y := YX11_day) (pc := 98) dX11_day_98 fl_X11_131 k_174 ?_
    refine g_isub (Y := YX11_day) (pc := 101) dX11_day_101 ?_
    exact s_iret (Y := YX11_day) (pc := 102) dX11_day_102 rfl hF
def f_X11_day_70  (x1 : Int32) (M : Mem) : Option (Int32 × Mem) :=
  if (M 174 18) < (M 174 16) then
    bd (f_X11_fault (M 174 18) M) fun _ M39 =>
    f_X11_day_89 x1 M39
  else
    f_X11_day_89 x1 M
set_option maxRecDepth 100000 in
theorem w_X11_day_70 {R : Int32} {M' : Mem}  (x1 : Int32) (M : Mem) (hF : f_X11_day_70 x1 M = some (R, M')) : RunF l D cy ad none YX11_day 406 0 0 (some (.int R)) (lay X M') 0 0 70 [(0, .ref 174), (1, .int x1)] [] (lay X M) := by
  unfold f_X11_day_70 at hF
  refine g_aload_n (Y := YX11_day) (pc := 70) 0 dX11_day_70 rfl ?_
  refine u_getI (Y := YX11_day) (pc := 71) dX11_day_71 fl_X11_128 k_174 ?_
  refine g_aload_n (Y := YX11_day) (pc := 74) 0 dX11_day_74 rfl ?_
  refine u_getI (Y := YX11_day) (pc := 75) dX11_day_75 fl_X11_122 k_174 ?_
  refine g_icmp_ge (Y := YX11_day) (pc := 78) (tgt := 89) dX11_day_78 rfl (fun c8 => ?_) (fun c8 => ?_)
  · replace hF := if_f c8 hF
    exact w_X11_day_89  _ _ hF
  · replace hF := if_t c8 hF
    refine g_aload_n (Y := YX11_day) (pc := 81) 0 dX11_day_81 rfl ?_
    refine g_aload_n (Y := YX11_day) (pc := 82) 0 dX11_day_82 rfl ?_
    refine u_getI (Y := YX11_day) (pc := 83) dX11_day_83 fl_X11_128 k_174 ?_
    obtain ⟨r38, M39, e40, hF⟩ := bd_some hF
    refine s_callVv (Y := YX11_day) (pc := 86) (as := [.int (M 174 18)]) (st := []) (r_X11_fault  e40) miX11_fault lk_X11_142 dX11_day_86 k_174 rfl (Nat.le_of_ble_eq_true rfl) (Nat.le_of_ble_eq_true rfl) rfl ?_
    clear e40
    exact w_X11_day_89  _ _ hF
def f_X11_day_39  : Nat → Int32 → Int32 → Mem → Option (Int32 × Mem)
  | 0, _, _, _ => none
  | n + 1, x1, x2, M =>
    if x2 = 0 then
      f_X11_day_70 x1 M
    else
      bd (f_X11_fine M) fun r41 M42 =>
      if r41 = 0 then
        f_X11_day_70 x1 M42
      else
        bd (f_X11_readAct (3 * x1) M42) fun _ M46 =>
        vl (x1 + 1) fun v48 =>
        bd (f_X11_passes 59 M46) fun r49 M50 =>
        f_X11_day_39 n v48 r49 M50
set_option maxRecDepth 100000 in
theorem w_X11_day_39 {R : Int32} {M' : Mem}  : ∀ (n : Nat) (x1 x2 : Int32) (M : Mem), f_X11_day_39 n x1 x2 M = some (R, M') → RunF l D cy ad none YX11_day 406 0 0 (some (.int R)) (lay X M') 0 0 39 [(0, .ref 174), (1, .int x1), (2, .int x2)] [] (lay X M) := by
  intro n
  induction n with
  | zero => intro x1 x2 M hF; exact absurd hF (by unfold f_X11_day_39; exact fun h => nomatch h)
  | succ n ih =>
    intro x1 x2 M hF
    unfold f_X11_day_39 at hF
    refine g_iload_n (Y := YX11_day) (pc := 39) 2 dX11_day_39 rfl ?_
    refine g_if_eq (Y := YX11_day) (pc := 40) (tgt := 70) dX11_day_40 rfl (fun c7 => ?_) (fun c7 => ?_)
    · replace hF := if_t c7 hF
      refine g_loc [0, 1] rfl ?_
      exact w_X11_day_70  _ _ hF
    · replace hF := if_f c7 hF
      refine g_aload_n (Y := YX11_day) (pc := 43) 0 dX11_day_43 rfl ?_
      obtain ⟨r41, M42, e43, hF⟩ := bd_some hF
      refine s_callVi (Y := YX11_day) (pc := 44) (as := []) (st := []) (r_X11_fine  e43) miX11_fine lk_X11_134 dX11_day_44 k_174 rfl (Nat.le_of_ble_eq_true rfl) (Nat.le_of_ble_eq_true rfl) rfl ?_
      clear e43
      refine g_if_eq (Y := YX11_day) (pc := 47) (tgt := 70) dX11_day_47 rfl (fun c44 => ?_) (fun c44 => ?_)
      · replace hF := if_t c44 hF
        refine g_loc [0, 1] rfl ?_
        exact w_X11_day_70  _ _ hF
      · replace hF := if_f c44 hF
        refine g_aload_n (Y := YX11_day) (pc := 50) 0 dX11_day_50 rfl ?_
        refine g_iconst (Y := YX11_day) (pc := 51) dX11_day_51 kI_3 ?_
        refine g_iload_n (Y := YX11_day) (pc := 52) 1 dX11_day_52 rfl ?_
        refine g_imul (Y := YX11_day) (pc := 53) dX11_day_53 ?_
        obtain ⟨r45, M46, e47, hF⟩ := bd_some hF
        refine s_callVv (Y := YX11_day) (pc := 54) (as := [.int (3 * x1)]) (st := []) (r_X11_readAct  e47) miX11_readAct lk_X11_303 dX11_day_54 k_174 rfl (Nat.le_of_ble_eq_true rfl) (Nat.le_of_ble_eq_true rfl) rfl ?_
        clear e47
        refine s_iinc (Y := YX11_day) (pc := 57) (j := 1) (L' := fun y => [(1, .int y), (0, .ref 174), (2, .int x2)]) dX11_day_57 kI_1 rfl (Nat.le_of_ble_eq_true rfl) (fun _ => rfl) (fun v48 e => ?_)
        replace hF := vl_to e hF; clear e
        refine g_aload_n (Y := YX11_day) (pc := 60) 1 dX11_day_60 rfl ?_
        refine g_bipush (Y := YX11_day) (pc := 61) dX11_day_61 kB_59 ?_
        obtain ⟨r49, M50, e51, hF⟩ := bd_some hF
        refine s_callVi (Y := YX11_day) (pc := 63) (as := [.int 59]) (st := []) (r_X11_passes  e51) miX11_passes lk_X11_171 dX11_day_63 k_174 rfl (Nat.le_of_ble_eq_true rfl) (Nat.le_of_ble_eq_true rfl) rfl ?_
        clear e51
        refine g_istore_n (Y := YX11_day) (pc := 66) (L' := [(2, .int r49), (1, .int v48), (0, .ref 174)]) dX11_day_66 (Nat.le_of_ble_eq_true rfl) rfl ?_
        refine g_goto (Y := YX11_day) (pc := 67) (tgt := 39) dX11_day_67 rfl ?_
        refine g_loc [2, 1, 0] rfl ?_
        exact ih _ _ _ hF
def f_X11_day_38  (x1 : Int32) (t0 : Int32) (M : Mem) : Option (Int32 × Mem) :=
  f_X11_day_39 FU x1 t0 M
set_option maxRecDepth 100000 in
theorem w_X11_day_38 {R : Int32} {M' : Mem}  (x1 t0 : Int32) (M : Mem) (hF : f_X11_day_38 x1 t0 M = some (R, M')) : RunF l D cy ad none YX11_day 406 0 0 (some (.int R)) (lay X M') 0 0 38 [(0, .ref 174), (1, .int x1)] [.int t0] (lay X M) := by
  unfold f_X11_day_38 at hF
  refine g_istore_n (Y := YX11_day) (pc := 38) (L' := [(2, .int t0), (0, .ref 174), (1, .int x1)]) dX11_day_38 (Nat.le_of_ble_eq_true rfl) rfl ?_
  refine g_loc [1, 2, 0] rfl ?_
  exact w_X11_day_39  _ _ _ _ hF
def f_X11_day_0  (M : Mem) : Option (Int32 × Mem) :=
  ml (up M 174 14 0) fun M1 =>
  bd (f_X11_begin 183 (M1 174 11) 60 M1) fun _ M3 =>
  ml (up M3 174 11 0) fun M5 =>
  if 0 < (M5 174 16) then
    f_X11_day_38 0 1 M5
  else
    f_X11_day_38 0 0 M5
set_option maxRecDepth 100000 in
theorem w_X11_day_0 {R : Int32} {M' : Mem}  (M : Mem) (hF : f_X11_day_0  M = some (R, M')) : RunF l D cy ad none YX11_day 406 0 0 (some (.int R)) (lay X M') 0 0 0 [(0, .ref 174)] [] (lay X M) := by
  unfold f_X11_day_0 at hF
  refine g_aload_n (Y := YX11_day) (pc := 0) 0 dX11_day_0 rfl ?_
  refine g_iconst (Y := YX11_day) (pc := 1) dX11_day_1 kI_0 ?_
  refine u_putI (Y := YX11_day) (pc := 2) dX11_day_2 fl_X11_99  k_174 ?_
  refine g_nmM (fun M1 e => ?_)
  replace hF := ml_to e hF; clear e
  refine g_aload_n (Y := YX11_day) (pc := 5) 0 dX11_day_5 rfl ?_
  refine g_aload_n (Y := YX11_day) (pc := 6) 0 dX11_day_6 rfl ?_
  refine u_getR (Y := YX11_day) (pc := 7) (j := 183) dX11_day_7 fl_X11_35 k_174 rf_174_10 ?_
  refine g_aload_n (Y := YX11_day) (pc := 10) 0 dX11_day_10 rfl ?_
  refine u_getI (Y := YX11_day) (pc := 11) dX11_day_11 fl_X11_116 k_174 ?_
  refine g_bipush (Y := YX11_day) (pc := 14) dX11_day_14 kB_60 ?_
  obtain ⟨r2, M3, e4, hF⟩ := bd_some hF
  refine s_callVv (Y := YX11_day) (pc := 16) (as := [.ref 183, .int (M1 174 11), .int 60]) (st := []) (r_X11_begin (Or.inl rfl) e4) miX11_begin lk_X11_164 dX11_day_16 k_174 rfl (Nat.le_of_ble_eq_true rfl) (Nat.le_of_ble_eq_true rfl) rfl ?_
  clear e4
  refine g_aload_n (Y := YX11_day) (pc := 19) 0 dX11_day_19 rfl ?_
  refine g_iconst (Y := YX11_day) (pc := 20) dX11_day_20 kI_0 ?_
  refine u_putI (Y := YX11_day) (pc := 21) dX11_day_21 fl_X11_116  k_174 ?_
  refine g_nmM (fun M5 e => ?_)
  replace hF := ml_to e hF; clear e
  refine g_iconst (Y := YX11_day) (pc := 24) dX11_day_24 kI_0 ?_
  refine g_istore_n (Y := YX11_day) (pc := 25) (L' := [(1, .int 0), (0, .ref 174)]) dX11_day_25 (Nat.le_of_ble_eq_true rfl) rfl ?_
  refine g_aload_n (Y := YX11_day) (pc := 26) 1 dX11_day_26 rfl ?_
  refine u_getI (Y := YX11_day) (pc := 27) dX11_day_27 fl_X11_122 k_174 ?_
  refine g_if_le (Y := YX11_day) (pc := 30) (tgt := 37) dX11_day_30 rfl (fun c6 => ?_) (fun c6 => ?_)
  · replace hF := if_f c6 hF
    refine g_iconst (Y := YX11_day) (pc := 37) dX11_day_37 kI_0 ?_
    refine g_loc [1, 0] rfl ?_
    exact w_X11_day_38  _ _ _ hF
  · replace hF := if_t c6 hF
    refine g_iconst (Y := YX11_day) (pc := 33) dX11_day_33 kI_1 ?_
    refine g_goto (Y := YX11_day) (pc := 34) (tgt := 38) dX11_day_34 rfl ?_
    refine g_loc [1, 0] rfl ?_
    exact w_X11_day_38  _ _ _ hF
def f_X11_day (M : Mem) : Option (Int32 × Mem) := f_X11_day_0 M
theorem r_X11_day {R : Int32} {M M' : Mem}  (hF : f_X11_day  M = some (R, M')) : RunS l D cy ad YX11_day 406 [.ref 174] X M (some (.int R)) M' := Run.of 0 (miX11_day).1 (Nat.le_of_ble_eq_true rfl) (w_X11_day_0  _ hF)
def f_X11_undo_26  : Nat → Int32 → Mem → Option (Int32 × Mem)
  | 0, _, _ => none
  | n + 1, x1, M =>
    if x1 < 25 then
      gd (0 ≤ ((25 * (M 174 28)) + x1) ∧ ((25 * (M 174 28)) + x1).toNatClampNeg < 300) <|
      vl ((M 188 ((25 * (M 174 28)) + x1).toNatClampNeg)) fun v6 =>
      gd (0 ≤ x1 ∧ x1.toNatClampNeg < 25) <|
      ml (up M 175 x1.toNatClampNeg v6) fun M8 =>
      vl (x1 + 1) fun v9 =>
      f_X11_undo_26 n v9 M8
    else
      some ((M 174 28), M)
set_option maxRecDepth 100000 in
theorem w_X11_undo_26 {R : Int32} {M' : Mem}  : ∀ (n : Nat) (x1 : Int32) (M : Mem), f_X11_undo_26 n x1 M = some (R, M') → RunF l D cy ad none YX11_undo 0 0 0 (some (.int R)) (lay X M') 0 0 26 [(0, .ref 174), (1, .int x1)] [] (lay X M) := by
  intro n
  induction n with
  | zero => intro x1 M hF; exact absurd hF (by unfold f_X11_undo_26; exact fun h => nomatch h)
  | succ n ih =>
    intro x1 M hF
    unfold f_X11_undo_26 at hF
    refine g_iload_n (Y := YX11_undo) (pc := 26) 1 dX11_undo_26 rfl ?_
    refine g_bipush (Y := YX11_undo) (pc := 27) dX11_undo_27 kB_25 ?_
    refine g_icmp_ge (Y := YX11_undo) (pc := 29) (tgt := 58) dX11_undo_29 rfl (fun c4 => ?_) (fun c4 => ?_)
    · replace hF := if_f c4 hF
      refine g_aload_n (Y := YX11_undo) (pc := 58) 0 dX11_undo_58 rfl ?_
      refine u_getI (Y := YX11_undo) (pc := 59) dX11_undo_59 fl_X11_153 k_174 ?_
      exact s_iret (Y := YX11_undo) (pc := 62) dX11_undo_62 rfl hF
    · replace hF := if_t c4 hF
      refine g_aload_n (Y := YX11_undo) (pc := 32) 0 dX11_undo_32 rfl ?_
      refine u_getR (Y := YX11_undo) (pc := 33) (j := 175) dX11_undo_33 fl_X11_9 k_174 rf_174_0 ?_
      refine g_iload_n (Y := YX11_undo) (pc := 36) 1 dX11_undo_36 rfl ?_
      refine g_aload_n (Y := YX11_undo) (pc := 37) 0 dX11_undo_37 rfl ?_
      refine u_getR (Y := YX11_undo) (pc := 38) (j := 188) dX11_undo_38 fl_X11_51 k_174 rf_174_27 ?_
      refine g_bipush (Y := YX11_undo) (pc := 41) dX11_undo_41 kB_25 ?_
      refine g_aload_n (Y := YX11_undo) (pc := 43) 0 dX11_undo_43 rfl ?_
      refine u_getI (Y := YX11_undo) (pc := 44) dX11_undo_44 fl_X11_153 k_174 ?_
      refine g_imul (Y := YX11_undo) (pc := 47) dX11_undo_47 ?_
      refine g_iload_n (Y := YX11_undo) (pc := 48) 1 dX11_undo_48 rfl ?_
      refine g_iadd (Y := YX11_undo) (pc := 49) dX11_undo_49 ?_
      obtain ⟨g5, hF⟩ := gd_some hF
      refine s_iald (Y := YX11_undo) (pc := 50) dX11_undo_50 k_188 n_188 g5 ?_
      refine g_nm (fun v6 e => ?_)
      replace hF := vl_to e hF; clear e
      obtain ⟨g7, hF⟩ := gd_some hF
      refine s_iast (Y := YX11_undo) (pc := 51) dX11_undo_51 k_175 n_175 g7 ?_
      refine g_nmM (fun M8 e => ?_)
      replace hF := ml_to e hF; clear e
      refine s_iinc (Y := YX11_undo) (pc := 52) (j := 1) (L' := fun y => [(1, .int y), (0, .ref 174)]) dX11_undo_52 kI_1 rfl (Nat.le_of_ble_eq_true rfl) (fun _ => rfl) (fun v9 e => ?_)
      replace hF := vl_to e hF; clear e
      refine g_goto (Y := YX11_undo) (pc := 55) (tgt := 26) dX11_undo_55 rfl ?_
      refine g_loc [1, 0] rfl ?_
      exact ih _ _ hF
def f_X11_undo_0  (M : Mem) : Option (Int32 × Mem) :=
  ml (up M 174 14 0) fun M1 =>
  if (M1 174 28) = 0 then
    some ((-1), M1)
  else
    ml (up M1 174 28 ((M1 174 28) - 1)) fun M3 =>
    f_X11_undo_26 FU 0 M3
set_option maxRecDepth 100000 in
theorem w_X11_undo_0 {R : Int32} {M' : Mem}  (M : Mem) (hF : f_X11_undo_0  M = some (R, M')) : RunF l D cy ad none YX11_undo 0 0 0 (some (.int R)) (lay X M') 0 0 0 [(0, .ref 174)] [] (lay X M) := by
  unfold f_X11_undo_0 at hF
  refine g_aload_n (Y := YX11_undo) (pc := 0) 0 dX11_undo_0 rfl ?_
  refine g_iconst (Y := YX11_undo) (pc := 1) dX11_undo_1 kI_0 ?_
  refine u_putI (Y := YX11_undo) (pc := 2) dX11_undo_2 fl_X11_99  k_174 ?_
  refine g_nmM (fun M1 e => ?_)
  replace hF := ml_to e hF; clear e
  refine g_aload_n (Y := YX11_undo) (pc := 5) 0 dX11_undo_5 rfl ?_
  refine u_getI (Y := YX11_undo) (pc := 6) dX11_undo_6 fl_X11_153 k_174 ?_
  refine g_if_ne (Y := YX11_undo) (pc := 9) (tgt := 14) dX11_undo_9 rfl (fun c2 => ?_) (fun c2 => ?_)
  · replace hF := if_f c2 hF
    refine g_aload_n (Y := YX11_undo) (pc := 14) 0 dX11_undo_14 rfl ?_
    refine g_dup (Y := YX11_undo) (pc := 15) dX11_undo_15 rfl ?_
    refine u_getI (Y := YX11_undo) (pc := 16) dX11_undo_16 fl_X11_153 k_174 ?_
    refine g_iconst (Y := YX11_undo) (pc := 19) dX11_undo_19 kI_1 ?_
    refine g_isub (Y := YX11_undo) (pc := 20) dX11_undo_20 ?_
    refine u_putI (Y := YX11_undo) (pc := 21) dX11_undo_21 fl_X11_153  k_174 ?_
    refine g_nmM (fun M3 e => ?_)
    replace hF := ml_to e hF; clear e
    refine g_iconst (Y := YX11_undo) (pc := 24) dX11_undo_24 kI_0 ?_
    refine g_istore_n (Y := YX11_undo) (pc := 25) (L' := [(1, .int 0), (0, .ref 174)]) dX11_undo_25 (Nat.le_of_ble_eq_true rfl) rfl ?_
    refine g_loc [1, 0] rfl ?_
    exact w_X11_undo_26  _ _ _ hF
  · replace hF := if_t c2 hF
    refine g_iconst (Y := YX11_undo) (pc := 12) dX11_undo_12 kI_m1 ?_
    exact s_iret (Y := YX11_undo) (pc := 13) dX11_undo_13 rfl hF
def f_X11_undo (M : Mem) : Option (Int32 × Mem) := f_X11_undo_0 M
theorem r_X11_undo {R : Int32} {M M' : Mem}  (hF : f_X11_undo  M = some (R, M')) : RunS l D cy ad YX11_undo 0 [.ref 174] X M (some (.int R)) M' := Run.of 0 (miX11_undo).1 (Nat.le_of_ble_eq_true rfl) (w_X11_undo_0  _ hF)
def f_X11_where_48  : Nat → Int32 → Int32 → Int32 → Mem → Option (Int32 × Mem)
  | 0, _, _, _, _ => none
  | n + 1, x1, x2, x3, M =>
    if x3 < x2 then
      bd (f_X11_goMinute 191 M) fun _ M28 =>
      vl (x3 + 1) fun v30 =>
      f_X11_where_48 n x1 x2 v30 M28
    else
      ml (up M 174 13 0) fun M17 =>
      gd (0 ≤ (6 + x1) ∧ (6 + x1).toNatClampNeg < 25) <|
      bd (f_X11_tell (M17 191 (6 + x1).toNatClampNeg) M17) fun _ M20 =>
      gd (0 ≤ (12 + x1) ∧ (12 + x1).toNatClampNeg < 25) <|
      bd (f_X11_tell (M20 191 (12 + x1).toNatClampNeg) M20) fun _ M24 =>
      gd (0 ≤ x1 ∧ x1.toNatClampNeg < 25) <|
      some ((M24 191 x1.toNatClampNeg), M24)
set_option maxRecDepth 100000 in
theorem w_X11_where_48 {R : Int32} {M' : Mem}  : ∀ (n : Nat) (x1 x2 x3 : Int32) (M : Mem), f_X11_where_48 n x1 x2 x3 M = some (R, M') → RunF l D cy ad none YX11_where 406 0 0 (some (.int R)) (lay X M') 0 0 48 [(0, .ref 174), (1, .int x1), (2, .int x2), (3, .int x3)] [] (lay X M) := by
  intro n
  induction n with
  | zero => intro x1 x2 x3 M hF; exact absurd hF (by unfold f_X11_where_48; exact fun h => nomatch h)
  | succ n ih =>
    intro x1 x2 x3 M hF
    unfold f_X11_where_48 at hF
    refine g_iload_n (Y := YX11_where) (pc := 48) 3 dX11_where_48 rfl ?_
    refine g_iload_n (Y := YX11_where) (pc := 49) 2 dX11_where_49 rfl ?_
    refine g_icmp_ge (Y := YX11_where) (pc := 50) (tgt := 67) dX11_where_50 rfl (fun c16 => ?_) (fun c16 => ?_)
    · replace hF := if_f c16 hF
      refine g_aload_n (Y := YX11_where) (pc := 67) 0 dX11_where_67 rfl ?_
      refine g_iconst (Y := YX11_where) (pc := 68) dX11_where_68 kI_0 ?_
      refine u_putI (Y := YX11_where) (pc := 69) dX11_where_69 fl_X11_103  k_174 ?_
      refine g_nmM (fun M17 e => ?_)
      replace hF := ml_to e hF; clear e
      refine g_aload_n (Y := YX11_where) (pc := 72) 0 dX11_where_72 rfl ?_
      refine g_aload_n (Y := YX11_where) (pc := 73) 0 dX11_where_73 rfl ?_
      refine u_getR (Y := YX11_where) (pc := 74) (j := 191) dX11_where_74 fl_X11_60 k_174 rf_174_35 ?_
      refine g_bipush (Y := YX11_where) (pc := 77) dX11_where_77 kB_6 ?_
      refine g_iload_n (Y := YX11_where) (pc := 79) 1 dX11_where_79 rfl ?_
      refine g_iadd (Y := YX11_where) (pc := 80) dX11_where_80 ?_
      obtain ⟨g18, hF⟩ := gd_some hF
      refine s_iald (Y := YX11_where) (pc := 81) dX11_where_81 k_191 n_191 g18 ?_
      obtain ⟨r19, M20, e21, hF⟩ := bd_some hF
      refine s_callVv (Y := YX11_where) (pc := 82) (as := [.int (M17 191 (6 + x1).toNatClampNeg)]) (st := []) (r_X11_tell  e21) miX11_tell lk_X11_300 dX11_where_82 k_174 rfl (Nat.le_of_ble_eq_true rfl) (Nat.le_of_ble_eq_true rfl) rfl ?_
      clear e21
      refine g_aload_n (Y := YX11_where) (pc := 85) 0 dX11_where_85 rfl ?_
      refine g_aload_n (Y := YX11_where) (pc := 86) 0 dX11_where_86 rfl ?_
      refine u_getR (Y := YX11_where) (pc := 87) (j := 191) dX11_where_87 fl_X11_60 k_174 rf_174_35 ?_
      refine g_bipush (Y := YX11_where) (pc := 90) dX11_where_90 kB_12 ?_
      refine g_iload_n (Y := YX11_where) (pc := 92) 1 dX11_where_92 rfl ?_
      refine g_iadd (Y := YX11_where) (pc := 93) dX11_where_93 ?_
      obtain ⟨g22, hF⟩ := gd_some hF
      refine s_iald (Y := YX11_where) (pc := 94) dX11_where_94 k_191 n_191 g22 ?_
      obtain ⟨r23, M24, e25, hF⟩ := bd_some hF
      refine s_callVv (Y := YX11_where) (pc := 95) (as := [.int (M20 191 (12 + x1).toNatClampNeg)]) (st := []) (r_X11_tell  e25) miX11_tell lk_X11_300 dX11_where_95 k_174 rfl (Nat.le_of_ble_eq_true rfl) (Nat.le_of_ble_eq_true rfl) rfl ?_
      clear e25
      refine g_aload_n (Y := YX11_where) (pc := 98) 0 dX11_where_98 rfl ?_
      refine u_getR (Y := YX11_where) (pc := 99) (j := 191) dX11_where_99 fl_X11_60 k_174 rf_174_35 ?_
      refine g_iload_n (Y := YX11_where) (pc := 102) 1 dX11_where_102 rfl ?_
      obtain ⟨g26, hF⟩ := gd_some hF
      refine s_iald (Y := YX11_where) (pc := 103) dX11_where_103 k_191 n_191 g26 ?_
      exact s_iret (Y := YX11_where) (pc := 104) dX11_where_104 rfl hF
    · replace hF := if_t c16 hF
      refine g_aload_n (Y := YX11_where) (pc := 53) 0 dX11_where_53 rfl ?_
      refine g_aload_n (Y := YX11_where) (pc := 54) 0 dX11_where_54 rfl ?_
      refine u_getR (Y := YX11_where) (pc := 55) (j := 191) dX11_where_55 fl_X11_60 k_174 rf_174_35 ?_
      obtain ⟨r27, M28, e29, hF⟩ := bd_some hF
      refine s_callVv (Y := YX11_where) (pc := 58) (as := [.ref 191]) (st := []) (r_X11_goMinute k_191 e29) miX11_goMinute lk_X11_297 dX11_where_58 k_174 rfl (Nat.le_of_ble_eq_true rfl) (Nat.le_of_ble_eq_true rfl) rfl ?_
      clear e29
      refine s_iinc (Y := YX11_where) (pc := 61) (j := 3) (L' := fun y => [(3, .int y), (0, .ref 174), (1, .int x1), (2, .int x2)]) dX11_where_61 kI_1 rfl (Nat.le_of_ble_eq_true rfl) (fun _ => rfl) (fun v30 e => ?_)
      replace hF := vl_to e hF; clear e
      refine g_goto (Y := YX11_where) (pc := 64) (tgt := 48) dX11_where_64 rfl ?_
      refine g_loc [1, 2, 3, 0] rfl ?_
      exact ih _ _ _ _ hF
def f_X11_where_0  (x1 : Int32) (x2 : Int32) (M : Mem) : Option (Int32 × Mem) :=
  ml (up M 174 14 0) fun M1 =>
  bd (f_X11_in x2 0 400 M1) fun r2 M3 =>
  if r2 = 0 then
    some ((-2), M3)
  else
    bd (f_X11_isGroup x1 M3) fun r6 M7 =>
    if r6 = 0 then
      some ((-3), M7)
    else
      bd (f_X11_layStays M7) fun _ M11 =>
      bd (f_X11_lay 175 191 0 M11) fun _ M14 =>
      f_X11_where_48 FU x1 x2 0 M14
set_option maxRecDepth 100000 in
theorem w_X11_where_0 {R : Int32} {M' : Mem}  (x1 x2 : Int32) (M : Mem) (hF : f_X11_where_0 x1 x2 M = some (R, M')) : RunF l D cy ad none YX11_where 406 0 0 (some (.int R)) (lay X M') 0 0 0 [(0, .ref 174), (1, .int x1), (2, .int x2)] [] (lay X M) := by
  unfold f_X11_where_0 at hF
  refine g_aload_n (Y := YX11_where) (pc := 0) 0 dX11_where_0 rfl ?_
  refine g_iconst (Y := YX11_where) (pc := 1) dX11_where_1 kI_0 ?_
  refine u_putI (Y := YX11_where) (pc := 2) dX11_where_2 fl_X11_99  k_174 ?_
  refine g_nmM (fun M1 e => ?_)
  replace hF := ml_to e hF; clear e
  refine g_iload_n (Y := YX11_where) (pc := 5) 2 dX11_where_5 rfl ?_
  refine g_iconst (Y := YX11_where) (pc := 6) dX11_where_6 kI_0 ?_
  refine g_sipush (Y := YX11_where) (pc := 7) dX11_where_7 kS_400 ?_
  obtain ⟨r2, M3, e4, hF⟩ := bd_some hF
  refine s_callSi (Y := YX11_where) (pc := 10) (as := [.int x2, .int 0, .int 400]) (st := []) (r_X11_in  e4) msX11_in lk_X11_109 dX11_where_10 rfl (Nat.le_of_ble_eq_true rfl) (Nat.le_of_ble_eq_true rfl) rfl ?_
  clear e4
  refine g_if_ne (Y := YX11_where) (pc := 13) (tgt := 19) dX11_where_13 rfl (fun c5 => ?_) (fun c5 => ?_)
  · replace hF := if_f c5 hF
    refine g_aload_n (Y := YX11_where) (pc := 19) 0 dX11_where_19 rfl ?_
    refine g_iload_n (Y := YX11_where) (pc := 20) 1 dX11_where_20 rfl ?_
    obtain ⟨r6, M7, e8, hF⟩ := bd_some hF
    refine s_callVi (Y := YX11_where) (pc := 21) (as := [.int x1]) (st := []) (r_X11_isGroup  e8) miX11_isGroup lk_X11_228 dX11_where_21 k_174 rfl (Nat.le_of_ble_eq_true rfl) (Nat.le_of_ble_eq_true rfl) rfl ?_
    clear e8
    refine g_if_ne (Y := YX11_where) (pc := 24) (tgt := 30) dX11_where_24 rfl (fun c9 => ?_) (fun c9 => ?_)
    · replace hF := if_f c9 hF
      refine g_aload_n (Y := YX11_where) (pc := 30) 0 dX11_where_30 rfl ?_
      obtain ⟨r10, M11, e12, hF⟩ := bd_some hF
      refine s_callVv (Y := YX11_where) (pc := 31) (as := []) (st := []) (r_X11_layStays  e12) miX11_layStays lk_X11_271 dX11_where_31 k_174 rfl (Nat.le_of_ble_eq_true rfl) (Nat.le_of_ble_eq_true rfl) rfl ?_
      clear e12
      refine g_aload_n (Y := YX11_where) (pc := 34) 0 dX11_where_34 rfl ?_
      refine u_getR (Y := YX11_where) (pc := 35) (j := 175) dX11_where_35 fl_X11_9 k_174 rf_174_0 ?_
      refine g_aload_n (Y := YX11_where) (pc := 38) 0 dX11_where_38 rfl ?_
      refine u_getR (Y := YX11_where) (pc := 39) (j := 191) dX11_where_39 fl_X11_60 k_174 rf_174_35 ?_
      refine g_iconst (Y := YX11_where) (pc := 42) dX11_where_42 kI_0 ?_
      obtain ⟨r13, M14, e15, hF⟩ := bd_some hF
      refine s_callSv (Y := YX11_where) (pc := 43) (as := [.ref 175, .ref 191, .int 0]) (st := []) (r_X11_lay k_175 k_191 e15) msX11_lay lk_X11_242 dX11_where_43 rfl (Nat.le_of_ble_eq_true rfl) (Nat.le_of_ble_eq_true rfl) rfl ?_
      clear e15
      refine g_iconst (Y := YX11_where) (pc := 46) dX11_where_46 kI_0 ?_
      refine g_istore_n (Y := YX11_where) (pc := 47) (L' := [(3, .int 0), (0, .ref 174), (1, .int x1), (2, .int x2)]) dX11_where_47 (Nat.le_of_ble_eq_true rfl) rfl ?_
      refine g_loc [1, 2, 3, 0] rfl ?_
      exact w_X11_where_48  _ _ _ _ _ hF
    · replace hF := if_t c9 hF
      refine g_bipush (Y := YX11_where) (pc := 27) dX11_where_27 kB_m3 ?_
      exact s_iret (Y := YX11_where) (pc := 29) dX11_where_29 rfl hF
  · replace hF := if_t c5 hF
    refine g_bipush (Y := YX11_where) (pc := 16) dX11_where_16 kB_m2 ?_
    exact s_iret (Y := YX11_where) (pc := 18) dX11_where_18 rfl hF
def f_X11_where (x1 : Int32) (x2 : Int32) (M : Mem) : Option (Int32 × Mem) := f_X11_where_0 x1 x2 M
theorem r_X11_where {x1 x2 R : Int32} {M M' : Mem}  (hF : f_X11_where x1 x2 M = some (R, M')) : RunS l D cy ad YX11_where 406 [.ref 174, .int x1, .int x2] X M (some (.int R)) M' := Run.of 2 (miX11_where).1 (Nat.le_of_ble_eq_true rfl) (w_X11_where_0  _ _ _ hF)
def f_X11_goOn_34  (M : Mem) : Option (Int32 × Mem) :=
  some (0, M)
set_option maxRecDepth 100000 in
theorem w_X11_goOn_34 {R : Int32} {M' : Mem}  (M : Mem) (hF : f_X11_goOn_34  M = some (R, M')) : RunF l D cy ad none YX11_goOn 5 0 0 none (lay X M') 0 0 34 [] [] (lay X M) := by
  unfold f_X11_goOn_34 at hF
  exact s_vret (Y := YX11_goOn) (pc := 34) dX11_goOn_34 rfl hF
def f_X11_goOn_2  : Nat → Int32 → Mem → Option (Int32 × Mem)
  | 0, _, _ => none
  | n + 1, x1, M =>
    if x1 < 400 then
      bd (f_X11_inside 191 M) fun r2 M3 =>
      if r2 = 0 then
        f_X11_goOn_34 M3
      else
        bd (f_X11_goMinute 191 M3) fun _ M7 =>
        vl (x1 + 1) fun v9 =>
        f_X11_goOn_2 n v9 M7
    else
      f_X11_goOn_34 M
set_option maxRecDepth 100000 in
theorem w_X11_goOn_2 {R : Int32} {M' : Mem}  : ∀ (n : Nat) (x1 : Int32) (M : Mem), f_X11_goOn_2 n x1 M = some (R, M') → RunF l D cy ad none YX11_goOn 5 0 0 none (lay X M') 0 0 2 [(0, .ref 174), (1, .int x1)] [] (lay X M) := by
  intro n
  induction n with
  | zero => intro x1 M hF; exact absurd hF (by unfold f_X11_goOn_2; exact fun h => nomatch h)
  | succ n ih =>
    intro x1 M hF
    unfold f_X11_goOn_2 at hF
    refine g_iload_n (Y := YX11_goOn) (pc := 2) 1 dX11_goOn_2 rfl ?_
    refine g_sipush (Y := YX11_goOn) (pc := 3) dX11_goOn_3 kS_400 ?_
    refine g_icmp_ge (Y := YX11_goOn) (pc := 6) (tgt := 34) dX11_goOn_6 rfl (fun c1 => ?_) (fun c1 => ?_)
    · replace hF := if_f c1 hF
      refine g_loc [] rfl ?_
      exact w_X11_goOn_34  _ hF
    · replace hF := if_t c1 hF
      refine g_aload_n (Y := YX11_goOn) (pc := 9) 0 dX11_goOn_9 rfl ?_
      refine g_aload_n (Y := YX11_goOn) (pc := 10) 0 dX11_goOn_10 rfl ?_
      refine u_getR (Y := YX11_goOn) (pc := 11) (j := 191) dX11_goOn_11 fl_X11_60 k_174 rf_174_35 ?_
      obtain ⟨r2, M3, e4, hF⟩ := bd_some hF
      refine s_callVi (Y := YX11_goOn) (pc := 14) (as := [.ref 191]) (st := []) (r_X11_inside k_191 e4) miX11_inside lk_X11_282 dX11_goOn_14 k_174 rfl (Nat.le_of_ble_eq_true rfl) (Nat.le_of_ble_eq_true rfl) rfl ?_
      clear e4
      refine g_if_eq (Y := YX11_goOn) (pc := 17) (tgt := 34) dX11_goOn_17 rfl (fun c5 => ?_) (fun c5 => ?_)
      · replace hF := if_t c5 hF
        refine g_loc [] rfl ?_
        exact w_X11_goOn_34  _ hF
      · replace hF := if_f c5 hF
        refine g_aload_n (Y := YX11_goOn) (pc := 20) 0 dX11_goOn_20 rfl ?_
        refine g_aload_n (Y := YX11_goOn) (pc := 21) 0 dX11_goOn_21 rfl ?_
        refine u_getR (Y := YX11_goOn) (pc := 22) (j := 191) dX11_goOn_22 fl_X11_60 k_174 rf_174_35 ?_
        obtain ⟨r6, M7, e8, hF⟩ := bd_some hF
        refine s_callVv (Y := YX11_goOn) (pc := 25) (as := [.ref 191]) (st := []) (r_X11_goMinute k_191 e8) miX11_goMinute lk_X11_297 dX11_goOn_25 k_174 rfl (Nat.le_of_ble_eq_true rfl) (Nat.le_of_ble_eq_true rfl) rfl ?_
        clear e8
        refine s_iinc (Y := YX11_goOn) (pc := 28) (j := 1) (L' := fun y => [(1, .int y), (0, .ref 174)]) dX11_goOn_28 kI_1 rfl (Nat.le_of_ble_eq_true rfl) (fun _ => rfl) (fun v9 e => ?_)
        replace hF := vl_to e hF; clear e
        refine g_goto (Y := YX11_goOn) (pc := 31) (tgt := 2) dX11_goOn_31 rfl ?_
        refine g_loc [1, 0] rfl ?_
        exact ih _ _ hF
def f_X11_goOn_0  (M : Mem) : Option (Int32 × Mem) :=
  f_X11_goOn_2 FU 0 M
set_option maxRecDepth 100000 in
theorem w_X11_goOn_0 {R : Int32} {M' : Mem}  (M : Mem) (hF : f_X11_goOn_0  M = some (R, M')) : RunF l D cy ad none YX11_goOn 5 0 0 none (lay X M') 0 0 0 [(0, .ref 174)] [] (lay X M) := by
  unfold f_X11_goOn_0 at hF
  refine g_iconst (Y := YX11_goOn) (pc := 0) dX11_goOn_0 kI_0 ?_
  refine g_istore_n (Y := YX11_goOn) (pc := 1) (L' := [(1, .int 0), (0, .ref 174)]) dX11_goOn_1 (Nat.le_of_ble_eq_true rfl) rfl ?_
  refine g_loc [1, 0] rfl ?_
  exact w_X11_goOn_2  _ _ _ hF
def f_X11_goOn (M : Mem) : Option (Int32 × Mem) := f_X11_goOn_0 M
theorem r_X11_goOn {R : Int32} {M M' : Mem}  (hF : f_X11_goOn  M = some (R, M')) : RunS l D cy ad YX11_goOn 5 [.ref 174] X M none M' := Run.of 0 (miX11_goOn).1 (Nat.le_of_ble_eq_true rfl) (w_X11_goOn_0  _ hF)
def f_X11_stuck_84 (K29 : Int32 → Int32 → Mem → Option (Int32 × Mem)) (x1 : Int32) (x2 : Int32) (M : Mem) : Option (Int32 × Mem) :=
  vl (x2 + 1) fun v23 =>
  K29 x1 v23 M
set_option maxRecDepth 100000 in
theorem w_X11_stuck_84 {R : Int32} {M' : Mem} {K29 : Int32 → Int32 → Mem → Option (Int32 × Mem)} (hK29 : ∀ (x1 x2 : Int32) (M : Mem), K29 x1 x2 M = some (R, M') → RunF l D cy ad none YX11_stuck 406 0 0 (some (.int R)) (lay X M') 0 0 29 [(0, .ref 174), (1, .int x1), (2, .int x2)] [] (lay X M)) (x1 x2 : Int32) (M : Mem) (hF : f_X11_stuck_84 K29 x1 x2 M = some (R, M')) : RunF l D cy ad none YX11_stuck 406 0 0 (some (.int R)) (lay X M') 0 0 84 [(0, .ref 174), (1, .int x1), (2, .int x2)] [] (lay X M) := by
  unfold f_X11_stuck_84 at hF
  refine s_iinc (Y := YX11_stuck) (pc := 84) (j := 2) (L' := fun y => [(2, .int y), (0, .ref 174), (1, .int x1)]) dX11_stuck_84 kI_1 rfl (Nat.le_of_ble_eq_true rfl) (fun _ => rfl) (fun v23 e => ?_)
  replace hF := vl_to e hF; clear e
  refine g_goto (Y := YX11_stuck) (pc := 87) (tgt := 29) dX11_stuck_87 rfl ?_
  refine g_loc [1, 2, 0] rfl ?_
  exact hK29 _ _ _ hF
def f_X11_stuck_29  : Nat → Int32 → Int32 → Mem → Option (Int32 × Mem)
  | 0, _, _, _ => none
  | n + 1, x1, x2, M =>
    if x2 < (M 174 3) then
      bd (f_X11_isInside 175 x2 M) fun r19 M20 =>
      if r19 = 0 then
        f_X11_stuck_84 (f_X11_stuck_29 n) x1 x2 M20
      else
        gd (0 ≤ x2 ∧ x2.toNatClampNeg < 25) <|
        if (M20 191 x2.toNatClampNeg) = 9 then
          gd (0 ≤ (18 + x2) ∧ (18 + x2).toNatClampNeg < 25) <|
          gd (0 ≤ (24 : Int32) ∧ (24 : Int32).toNatClampNeg < 25) <|
          vl ((((M20 191 (18 + x2).toNatClampNeg) + 1) - (M20 175 (24 : Int32).toNatClampNeg))) fun v28 =>
          vl ((if x1 < v28 then v28 else x1)) fun v29 =>
          f_X11_stuck_84 (f_X11_stuck_29 n) v29 x2 M20
        else
          f_X11_stuck_84 (f_X11_stuck_29 n) x1 x2 M20
    else
      ml (up M 174 13 0) fun M12 =>
      bd (f_X11_tell x1 M12) fun _ M14 =>
      bd (f_X11_inside 191 M14) fun r16 M17 =>
      some (r16, M17)
set_option maxRecDepth 100000 in
theorem w_X11_stuck_29 {R : Int32} {M' : Mem}  : ∀ (n : Nat) (x1 x2 : Int32) (M : Mem), f_X11_stuck_29 n x1 x2 M = some (R, M') → RunF l D cy ad none YX11_stuck 406 0 0 (some (.int R)) (lay X M') 0 0 29 [(0, .ref 174), (1, .int x1), (2, .int x2)] [] (lay X M) := by
  intro n
  induction n with
  | zero => intro x1 x2 M hF; exact absurd hF (by unfold f_X11_stuck_29; exact fun h => nomatch h)
  | succ n ih =>
    intro x1 x2 M hF
    unfold f_X11_stuck_29 at hF
    refine g_iload_n (Y := YX11_stuck) (pc := 29) 2 dX11_stuck_29 rfl ?_
    refine g_aload_n (Y := YX11_stuck) (pc := 30) 0 dX11_stuck_30 rfl ?_
    refine u_getI (Y := YX11_stuck) (pc := 31) dX11_stuck_31 fl_X11_113 k_174 ?_
    refine g_icmp_ge (Y := YX11_stuck) (pc := 34) (tgt := 90) dX11_stuck_34 rfl (fun c11 => ?_) (fun c11 => ?_)
    · replace hF := if_f c11 hF
      refine g_aload_n (Y := YX11_stuck) (pc := 90) 0 dX11_stuck_90 rfl ?_
      refine g_iconst (Y := YX11_stuck) (pc := 91) dX11_stuck_91 kI_0 ?_
      refine u_putI (Y := YX11_stuck) (pc := 92) dX11_stuck_92 fl_X11_103  k_174 ?_
      refine g_nmM (fun M12 e => ?_)
      replace hF := ml_to e hF; clear e
      refine g_aload_n (Y := YX11_stuck) (pc := 95) 0 dX11_stuck_95 rfl ?_
      refine g_iload_n (Y := YX11_stuck) (pc := 96) 1 dX11_stuck_96 rfl ?_
      obtain ⟨r13, M14, e15, hF⟩ := bd_some hF
      refine s_callVv (Y := YX11_stuck) (pc := 97) (as := [.int x1]) (st := []) (r_X11_tell  e15) miX11_tell lk_X11_300 dX11_stuck_97 k_174 rfl (Nat.le_of_ble_eq_true rfl) (Nat.le_of_ble_eq_true rfl) rfl ?_
      clear e15
      refine g_aload_n (Y := YX11_stuck) (pc := 100) 0 dX11_stuck_100 rfl ?_
      refine g_aload_n (Y := YX11_stuck) (pc := 101) 0 dX11_stuck_101 rfl ?_
      refine u_getR (Y := YX11_stuck) (pc := 102) (j := 191) dX11_stuck_102 fl_X11_60 k_174 rf_174_35 ?_
      obtain ⟨r16, M17, e18, hF⟩ := bd_some hF
      refine s_callVi (Y := YX11_stuck) (pc := 105) (as := [.ref 191]) (st := []) (r_X11_inside k_191 e18) miX11_inside lk_X11_282 dX11_stuck_105 k_174 rfl (Nat.le_of_ble_eq_true rfl) (Nat.le_of_ble_eq_true rfl) rfl ?_
      clear e18
      exact s_iret (Y := YX11_stuck) (pc := 108) dX11_stuck_108 rfl hF
    · replace hF := if_t c11 hF
      refine g_aload_n (Y := YX11_stuck) (pc := 37) 0 dX11_stuck_37 rfl ?_
      refine g_aload_n (Y := YX11_stuck) (pc := 38) 0 dX11_stuck_38 rfl ?_
      refine u_getR (Y := YX11_stuck) (pc := 39) (j := 175) dX11_stuck_39 fl_X11_9 k_174 rf_174_0 ?_
      refine g_iload_n (Y := YX11_stuck) (pc := 42) 2 dX11_stuck_42 rfl ?_
      obtain ⟨r19, M20, e21, hF⟩ := bd_some hF
      refine s_callVi (Y := YX11_stuck) (pc := 43) (as := [.ref 175, .int x2]) (st := []) (r_X11_isInside k_175 e21) miX11_isInside lk_X11_224 dX11_stuck_43 k_174 rfl (Nat.le_of_ble_eq_true rfl) (Nat.le_of_ble_eq_true rfl) rfl ?_
      clear e21
      refine g_if_eq (Y := YX11_stuck) (pc := 46) (tgt := 84) dX11_stuck_46 rfl (fun c22 => ?_) (fun c22 => ?_)
      · replace hF := if_t c22 hF
        exact w_X11_stuck_84 ih _ _ _ hF
      · replace hF := if_f c22 hF
        refine g_aload_n (Y := YX11_stuck) (pc := 49) 0 dX11_stuck_49 rfl ?_
        refine u_getR (Y := YX11_stuck) (pc := 50) (j := 191) dX11_stuck_50 fl_X11_60 k_174 rf_174_35 ?_
        refine g_iload_n (Y := YX11_stuck) (pc := 53) 2 dX11_stuck_53 rfl ?_
        obtain ⟨g24, hF⟩ := gd_some hF
        refine s_iald (Y := YX11_stuck) (pc := 54) dX11_stuck_54 k_191 n_191 g24 ?_
        refine g_bipush (Y := YX11_stuck) (pc := 55) dX11_stuck_55 kB_9 ?_
        refine g_icmp_ne (Y := YX11_stuck) (pc := 57) (tgt := 84) dX11_stuck_57 rfl (fun c25 => ?_) (fun c25 => ?_)
        · replace hF := if_f c25 hF
          exact w_X11_stuck_84 ih _ _ _ hF
        · replace hF := if_t c25 hF
          refine g_iload_n (Y := YX11_stuck) (pc := 60) 1 dX11_stuck_60 rfl ?_
          refine g_aload_n (Y := YX11_stuck) (pc := 61) 0 dX11_stuck_61 rfl ?_
          refine u_getR (Y := YX11_stuck) (pc := 62) (j := 191) dX11_stuck_62 fl_X11_60 k_174 rf_174_35 ?_
          refine g_bipush (Y := YX11_stuck) (pc := 65) dX11_stuck_65 kB_18 ?_
          refine g_iload_n (Y := YX11_stuck) (pc := 67) 2 dX11_stuck_67 rfl ?_
          refine g_iadd (Y := YX11_stuck) (pc := 68) dX11_stuck_68 ?_
          obtain ⟨g26, hF⟩ := gd_some hF
          refine s_iald (Y := YX11_stuck) (pc := 69) dX11_stuck_69 k_191 n_191 g26 ?_
          refine g_iconst (Y := YX11_stuck) (pc := 70) dX11_stuck_70 kI_1 ?_
          refine g_iadd (Y := YX11_stuck) (pc := 71) dX11_stuck_71 ?_
          refine g_aload_n (Y := YX11_stuck) (pc := 72) 0 dX11_stuck_72 rfl ?_
          refine u_getR (Y := YX11_stuck) (pc := 73) (j := 175) dX11_stuck_73 fl_X11_9 k_174 rf_174_0 ?_
          refine g_bipush (Y := YX11_stuck) (pc := 76) dX11_stuck_76 kB_24 ?_
          obtain ⟨g27, hF⟩ := gd_some hF
          refine s_iald (Y := YX11_stuck) (pc := 78) dX11_stuck_78 k_175 n_175 g27 ?_
          refine g_isub (Y := YX11_stuck) (pc := 79) dX11_stuck_79 ?_
          refine g_nm (fun v28 e => ?_)
          replace hF := vl_to e hF; clear e
          refine s_max (Y := YX11_stuck) (pc := 80) dX11_stuck_80 lk_X11_218 w_max (Nat.le_of_ble_eq_true rfl) (Nat.le_of_ble_eq_true rfl) ?_
          refine g_nm (fun v29 e => ?_)
          replace hF := vl_to e hF; clear e
          refine g_istore_n (Y := YX11_stuck) (pc := 83) (L' := [(1, .int v29), (0, .ref 174), (2, .int x2)]) dX11_stuck_83 (Nat.le_of_ble_eq_true rfl) rfl ?_
          refine g_loc [1, 0, 2] rfl ?_
          exact w_X11_stuck_84 ih _ _ _ hF
def f_X11_stuck_0  (M : Mem) : Option (Int32 × Mem) :=
  ml (up M 174 14 0) fun M1 =>
  bd (f_X11_layStays M1) fun _ M3 =>
  bd (f_X11_lay 175 191 0 M3) fun _ M6 =>
  bd (f_X11_goOn M6) fun _ M9 =>
  f_X11_stuck_29 FU 0 0 M9
set_option maxRecDepth 100000 in
theorem w_X11_stuck_0 {R : Int32} {M' : Mem}  (M : Mem) (hF : f_X11_stuck_0  M = some (R, M')) : RunF l D cy ad none YX11_stuck 406 0 0 (some (.int R)) (lay X M') 0 0 0 [(0, .ref 174)] [] (lay X M) := by
  unfold f_X11_stuck_0 at hF
  refine g_aload_n (Y := YX11_stuck) (pc := 0) 0 dX11_stuck_0 rfl ?_
  refine g_iconst (Y := YX11_stuck) (pc := 1) dX11_stuck_1 kI_0 ?_
  refine u_putI (Y := YX11_stuck) (pc := 2) dX11_stuck_2 fl_X11_99  k_174 ?_
  refine g_nmM (fun M1 e => ?_)
  replace hF := ml_to e hF; clear e
  refine g_aload_n (Y := YX11_stuck) (pc := 5) 0 dX11_stuck_5 rfl ?_
  obtain ⟨r2, M3, e4, hF⟩ := bd_some hF
  refine s_callVv (Y := YX11_stuck) (pc := 6) (as := []) (st := []) (r_X11_layStays  e4) miX11_layStays lk_X11_271 dX11_stuck_6 k_174 rfl (Nat.le_of_ble_eq_true rfl) (Nat.le_of_ble_eq_true rfl) rfl ?_
  clear e4
  refine g_aload_n (Y := YX11_stuck) (pc := 9) 0 dX11_stuck_9 rfl ?_
  refine u_getR (Y := YX11_stuck) (pc := 10) (j := 175) dX11_stuck_10 fl_X11_9 k_174 rf_174_0 ?_
  refine g_aload_n (Y := YX11_stuck) (pc := 13) 0 dX11_stuck_13 rfl ?_
  refine u_getR (Y := YX11_stuck) (pc := 14) (j := 191) dX11_stuck_14 fl_X11_60 k_174 rf_174_35 ?_
  refine g_iconst (Y := YX11_stuck) (pc := 17) dX11_stuck_17 kI_0 ?_
  obtain ⟨r5, M6, e7, hF⟩ := bd_some hF
  refine s_callSv (Y := YX11_stuck) (pc := 18) (as := [.ref 175, .ref 191, .int 0]) (st := []) (r_X11_lay k_175 k_191 e7) msX11_lay lk_X11_242 dX11_stuck_18 rfl (Nat.le_of_ble_eq_true rfl) (Nat.le_of_ble_eq_true rfl) rfl ?_
  clear e7
  refine g_aload_n (Y := YX11_stuck) (pc := 21) 0 dX11_stuck_21 rfl ?_
  obtain ⟨r8, M9, e10, hF⟩ := bd_some hF
  refine s_callVv (Y := YX11_stuck) (pc := 22) (as := []) (st := []) (r_X11_goOn  e10) miX11_goOn lk_X11_312 dX11_stuck_22 k_174 rfl (Nat.le_of_ble_eq_true rfl) (Nat.le_of_ble_eq_true rfl) rfl ?_
  clear e10
  refine g_iconst (Y := YX11_stuck) (pc := 25) dX11_stuck_25 kI_0 ?_
  refine g_istore_n (Y := YX11_stuck) (pc := 26) (L' := [(1, .int 0), (0, .ref 174)]) dX11_stuck_26 (Nat.le_of_ble_eq_true rfl) rfl ?_
  refine g_iconst (Y := YX11_stuck) (pc := 27) dX11_stuck_27 kI_0 ?_
  refine g_istore_n (Y := YX11_stuck) (pc := 28) (L' := [(2, .int 0), (1, .int 0), (0, .ref 174)]) dX11_stuck_28 (Nat.le_of_ble_eq_true rfl) rfl ?_
  refine g_loc [2, 1, 0] rfl ?_
  exact w_X11_stuck_29  _ _ _ _ hF
def f_X11_stuck (M : Mem) : Option (Int32 × Mem) := f_X11_stuck_0 M
theorem r_X11_stuck {R : Int32} {M M' : Mem}  (hF : f_X11_stuck  M = some (R, M')) : RunS l D cy ad YX11_stuck 406 [.ref 174] X M (some (.int R)) M' := Run.of 0 (miX11_stuck).1 (Nat.le_of_ble_eq_true rfl) (w_X11_stuck_0  _ hF)
def f_X11_areThrough_2  : Nat → Int32 → Mem → Option (Int32 × Mem)
  | 0, _, _ => none
  | n + 1, x1, M =>
    if x1 < (M 174 37) then
      gd (0 ≤ x1 ∧ x1.toNatClampNeg < 6) <|
      gd (0 ≤ (M 192 x1.toNatClampNeg) ∧ (M 192 x1.toNatClampNeg).toNatClampNeg < 25) <|
      vl ((M 191 (M 192 x1.toNatClampNeg).toNatClampNeg)) fun v4 =>
      if v4 = 9 then
        vl (x1 + 1) fun v6 =>
        f_X11_areThrough_2 n v6 M
      else
        some (0, M)
    else
      some (1, M)
set_option maxRecDepth 100000 in
theorem w_X11_areThrough_2 {R : Int32} {M' : Mem}  : ∀ (n : Nat) (x1 : Int32) (M : Mem), f_X11_areThrough_2 n x1 M = some (R, M') → RunF l D cy ad none YX11_areThrough 0 0 0 (some (.int R)) (lay X M') 0 0 2 [(0, .ref 174), (1, .int x1)] [] (lay X M) := by
  intro n
  induction n with
  | zero => intro x1 M hF; exact absurd hF (by unfold f_X11_areThrough_2; exact fun h => nomatch h)
  | succ n ih =>
    intro x1 M hF
    unfold f_X11_areThrough_2 at hF
    refine g_iload_n (Y := YX11_areThrough) (pc := 2) 1 dX11_areThrough_2 rfl ?_
    refine g_aload_n (Y := YX11_areThrough) (pc := 3) 0 dX11_areThrough_3 rfl ?_
    refine u_getI (Y := YX11_areThrough) (pc := 4) dX11_areThrough_4 fl_X11_315 k_174 ?_
    refine g_icmp_ge (Y := YX11_areThrough) (pc := 7) (tgt := 34) dX11_areThrough_7 rfl (fun c1 => ?_) (fun c1 => ?_)
    · replace hF := if_f c1 hF
      refine g_iconst (Y := YX11_areThrough) (pc := 34) dX11_areThrough_34 kI_1 ?_
      exact s_zret (Y := YX11_areThrough) (pc := 35) dX11_areThrough_35 rfl (Or.inr rfl) hF
    · replace hF := if_t c1 hF
      refine g_aload_n (Y := YX11_areThrough) (pc := 10) 0 dX11_areThrough_10 rfl ?_
      refine u_getR (Y := YX11_areThrough) (pc := 11) (j := 191) dX11_areThrough_11 fl_X11_60 k_174 rf_174_35 ?_
      refine g_aload_n (Y := YX11_areThrough) (pc := 14) 0 dX11_areThrough_14 rfl ?_
      refine u_getR (Y := YX11_areThrough) (pc := 15) (j := 192) dX11_areThrough_15 fl_X11_63 k_174 rf_174_36 ?_
      refine g_iload_n (Y := YX11_areThrough) (pc := 18) 1 dX11_areThrough_18 rfl ?_
      obtain ⟨g2, hF⟩ := gd_some hF
      refine s_iald (Y := YX11_areThrough) (pc := 19) dX11_areThrough_19 k_192 n_192 g2 ?_
      obtain ⟨g3, hF⟩ := gd_some hF
      refine s_iald (Y := YX11_areThrough) (pc := 20) dX11_areThrough_20 k_191 n_191 g3 ?_
      refine g_nm (fun v4 e => ?_)
      replace hF := vl_to e hF; clear e
      refine g_bipush (Y := YX11_areThrough) (pc := 21) dX11_areThrough_21 kB_9 ?_
      refine g_icmp_eq (Y := YX11_areThrough) (pc := 23) (tgt := 28) dX11_areThrough_23 rfl (fun c5 => ?_) (fun c5 => ?_)
      · replace hF := if_t c5 hF
        refine s_iinc (Y := YX11_areThrough) (pc := 28) (j := 1) (L' := fun y => [(1, .int y), (0, .ref 174)]) dX11_areThrough_28 kI_1 rfl (Nat.le_of_ble_eq_true rfl) (fun _ => rfl) (fun v6 e => ?_)
        replace hF := vl_to e hF; clear e
        refine g_goto (Y := YX11_areThrough) (pc := 31) (tgt := 2) dX11_areThrough_31 rfl ?_
        refine g_loc [1, 0] rfl ?_
        exact ih _ _ hF
      · replace hF := if_f c5 hF
        refine g_iconst (Y := YX11_areThrough) (pc := 26) dX11_areThrough_26 kI_0 ?_
        exact s_zret (Y := YX11_areThrough) (pc := 27) dX11_areThrough_27 rfl (Or.inl rfl) hF
def f_X11_areThrough_0  (M : Mem) : Option (Int32 × Mem) :=
  f_X11_areThrough_2 FU 0 M
set_option maxRecDepth 100000 in
theorem w_X11_areThrough_0 {R : Int32} {M' : Mem}  (M : Mem) (hF : f_X11_areThrough_0  M = some (R, M')) : RunF l D cy ad none YX11_areThrough 0 0 0 (some (.int R)) (lay X M') 0 0 0 [(0, .ref 174)] [] (lay X M) := by
  unfold f_X11_areThrough_0 at hF
  refine g_iconst (Y := YX11_areThrough) (pc := 0) dX11_areThrough_0 kI_0 ?_
  refine g_istore_n (Y := YX11_areThrough) (pc := 1) (L' := [(1, .int 0), (0, .ref 174)]) dX11_areThrough_1 (Nat.le_of_ble_eq_true rfl) rfl ?_
  refine g_loc [1, 0] rfl ?_
  exact w_X11_areThrough_2  _ _ _ hF
def f_X11_areThrough (M : Mem) : Option (Int32 × Mem) := f_X11_areThrough_0 M
theorem r_X11_areThrough {R : Int32} {M M' : Mem}  (hF : f_X11_areThrough  M = some (R, M')) : RunS l D cy ad YX11_areThrough 0 [.ref 174] X M (some (.int R)) M' := Run.of 0 (miX11_areThrough).1 (Nat.le_of_ble_eq_true rfl) (w_X11_areThrough_0  _ hF)
def f_X11_goDay_95 (K16 : Int32 → Int32 → Mem → Option (Int32 × Mem)) (x1 : Int32) (x2 : Int32) (M : Mem) : Option (Int32 × Mem) :=
  vl (x2 + 1) fun v10 =>
  K16 x1 v10 M
set_option maxRecDepth 100000 in
theorem w_X11_goDay_95 {R : Int32} {M' : Mem} {K16 : Int32 → Int32 → Mem → Option (Int32 × Mem)} (hK16 : ∀ (x1 x2 : Int32) (M : Mem), K16 x1 x2 M = some (R, M') → RunF l D cy ad none YX11_goDay 5 0 0 (some (.int R)) (lay X M') 0 0 16 [(0, .ref 174), (1, .int x1), (2, .int x2)] [] (lay X M)) (x1 x2 : Int32) (M : Mem) (hF : f_X11_goDay_95 K16 x1 x2 M = some (R, M')) : RunF l D cy ad none YX11_goDay 5 0 0 (some (.int R)) (lay X M') 0 0 95 [(0, .ref 174), (1, .int x1), (2, .int x2)] [] (lay X M) := by
  unfold f_X11_goDay_95 at hF
  refine s_iinc (Y := YX11_goDay) (pc := 95) (j := 2) (L' := fun y => [(2, .int y), (0, .ref 174), (1, .int x1)]) dX11_goDay_95 kI_1 rfl (Nat.le_of_ble_eq_true rfl) (fun _ => rfl) (fun v10 e => ?_)
  replace hF := vl_to e hF; clear e
  refine g_goto (Y := YX11_goDay) (pc := 98) (tgt := 16) dX11_goDay_98 rfl ?_
  refine g_loc [1, 2, 0] rfl ?_
  exact hK16 _ _ _ hF
def f_X11_goDay_68 (K16 : Int32 → Int32 → Mem → Option (Int32 × Mem)) (x1 : Int32) (x2 : Int32) (M : Mem) : Option (Int32 × Mem) :=
  bd (f_X11_goMinute 191 M) fun _ M7 =>
  if x1 = (M7 174 37) then
    bd (f_X11_areThrough M7) fun r11 M12 =>
    if r11 = 0 then
      f_X11_goDay_95 K16 x1 x2 M12
    else
      some ((x2 + 1), M12)
  else
    f_X11_goDay_95 K16 x1 x2 M7
set_option maxRecDepth 100000 in
theorem w_X11_goDay_68 {R : Int32} {M' : Mem} {K16 : Int32 → Int32 → Mem → Option (Int32 × Mem)} (hK16 : ∀ (x1 x2 : Int32) (M : Mem), K16 x1 x2 M = some (R, M') → RunF l D cy ad none YX11_goDay 5 0 0 (some (.int R)) (lay X M') 0 0 16 [(0, .ref 174), (1, .int x1), (2, .int x2)] [] (lay X M)) (x1 x2 : Int32) (M : Mem) (hF : f_X11_goDay_68 K16 x1 x2 M = some (R, M')) : RunF l D cy ad none YX11_goDay 5 0 0 (some (.int R)) (lay X M') 0 0 68 [(0, .ref 174), (1, .int x1), (2, .int x2)] [] (lay X M) := by
  unfold f_X11_goDay_68 at hF
  refine g_aload_n (Y := YX11_goDay) (pc := 68) 0 dX11_goDay_68 rfl ?_
  refine g_aload_n (Y := YX11_goDay) (pc := 69) 0 dX11_goDay_69 rfl ?_
  refine u_getR (Y := YX11_goDay) (pc := 70) (j := 191) dX11_goDay_70 fl_X11_60 k_174 rf_174_35 ?_
  obtain ⟨r6, M7, e8, hF⟩ := bd_some hF
  refine s_callVv (Y := YX11_goDay) (pc := 73) (as := [.ref 191]) (st := []) (r_X11_goMinute k_191 e8) miX11_goMinute lk_X11_297 dX11_goDay_73 k_174 rfl (Nat.le_of_ble_eq_true rfl) (Nat.le_of_ble_eq_true rfl) rfl ?_
  clear e8
  refine g_iload_n (Y := YX11_goDay) (pc := 76) 1 dX11_goDay_76 rfl ?_
  refine g_aload_n (Y := YX11_goDay) (pc := 77) 0 dX11_goDay_77 rfl ?_
  refine u_getI (Y := YX11_goDay) (pc := 78) dX11_goDay_78 fl_X11_315 k_174 ?_
  refine g_icmp_ne (Y := YX11_goDay) (pc := 81) (tgt := 95) dX11_goDay_81 rfl (fun c9 => ?_) (fun c9 => ?_)
  · replace hF := if_f c9 hF
    exact w_X11_goDay_95 hK16 _ _ _ hF
  · replace hF := if_t c9 hF
    refine g_aload_n (Y := YX11_goDay) (pc := 84) 0 dX11_goDay_84 rfl ?_
    obtain ⟨r11, M12, e13, hF⟩ := bd_some hF
    refine s_callVi (Y := YX11_goDay) (pc := 85) (as := []) (st := []) (r_X11_areThrough  e13) miX11_areThrough lk_X11_318 dX11_goDay_85 k_174 rfl (Nat.le_of_ble_eq_true rfl) (Nat.le_of_ble_eq_true rfl) rfl ?_
    clear e13
    refine g_if_eq (Y := YX11_goDay) (pc := 88) (tgt := 95) dX11_goDay_88 rfl (fun c14 => ?_) (fun c14 => ?_)
    · replace hF := if_t c14 hF
      exact w_X11_goDay_95 hK16 _ _ _ hF
    · replace hF := if_f c14 hF
      refine g_iload_n (Y := YX11_goDay) (pc := 91) 2 dX11_goDay_91 rfl ?_
      refine g_iconst (Y := YX11_goDay) (pc := 92) dX11_goDay_92 kI_1 ?_
      refine g_iadd (Y := YX11_goDay) (pc := 93) dX11_goDay_93 ?_
      exact s_iret (Y := YX11_goDay) (pc := 94) dX11_goDay_94 rfl hF
def f_X11_goDay_23 (K16 : Int32 → Int32 → Mem → Option (Int32 × Mem)) : Nat → Int32 → Int32 → Mem → Option (Int32 × Mem)
  | 0, _, _, _ => none
  | n + 1, x1, x2, M =>
    if x1 < (M 174 37) then
      gd (0 ≤ x1 ∧ x1.toNatClampNeg < 6) <|
      bd (f_X11_refusesOff 191 (M 192 x1.toNatClampNeg) M) fun r16 M17 =>
      if r16 = 0 then
        vl (x1 + 1) fun v20 =>
        gd (0 ≤ x1 ∧ x1.toNatClampNeg < 6) <|
        bd (f_X11_goOff 191 (M17 192 x1.toNatClampNeg) M17) fun _ M23 =>
        f_X11_goDay_23 K16 n v20 x2 M23
      else
        f_X11_goDay_68 K16 x1 x2 M17
    else
      f_X11_goDay_68 K16 x1 x2 M
set_option maxRecDepth 100000 in
theorem w_X11_goDay_23 {R : Int32} {M' : Mem} {K16 : Int32 → Int32 → Mem → Option (Int32 × Mem)} (hK16 : ∀ (x1 x2 : Int32) (M : Mem), K16 x1 x2 M = some (R, M') → RunF l D cy ad none YX11_goDay 5 0 0 (some (.int R)) (lay X M') 0 0 16 [(0, .ref 174), (1, .int x1), (2, .int x2)] [] (lay X M)) : ∀ (n : Nat) (x1 x2 : Int32) (M : Mem), f_X11_goDay_23 K16 n x1 x2 M = some (R, M') → RunF l D cy ad none YX11_goDay 5 0 0 (some (.int R)) (lay X M') 0 0 23 [(0, .ref 174), (1, .int x1), (2, .int x2)] [] (lay X M) := by
  intro n
  induction n with
  | zero => intro x1 x2 M hF; exact absurd hF (by unfold f_X11_goDay_23; exact fun h => nomatch h)
  | succ n ih =>
    intro x1 x2 M hF
    unfold f_X11_goDay_23 at hF
    refine g_iload_n (Y := YX11_goDay) (pc := 23) 1 dX11_goDay_23 rfl ?_
    refine g_aload_n (Y := YX11_goDay) (pc := 24) 0 dX11_goDay_24 rfl ?_
    refine u_getI (Y := YX11_goDay) (pc := 25) dX11_goDay_25 fl_X11_315 k_174 ?_
    refine g_icmp_ge (Y := YX11_goDay) (pc := 28) (tgt := 68) dX11_goDay_28 rfl (fun c5 => ?_) (fun c5 => ?_)
    · replace hF := if_f c5 hF
      exact w_X11_goDay_68 hK16 _ _ _ hF
    · replace hF := if_t c5 hF
      refine g_aload_n (Y := YX11_goDay) (pc := 31) 0 dX11_goDay_31 rfl ?_
      refine g_aload_n (Y := YX11_goDay) (pc := 32) 0 dX11_goDay_32 rfl ?_
      refine u_getR (Y := YX11_goDay) (pc := 33) (j := 191) dX11_goDay_33 fl_X11_60 k_174 rf_174_35 ?_
      refine g_aload_n (Y := YX11_goDay) (pc := 36) 0 dX11_goDay_36 rfl ?_
      refine u_getR (Y := YX11_goDay) (pc := 37) (j := 192) dX11_goDay_37 fl_X11_63 k_174 rf_174_36 ?_
      refine g_iload_n (Y := YX11_goDay) (pc := 40) 1 dX11_goDay_40 rfl ?_
      obtain ⟨g15, hF⟩ := gd_some hF
      refine s_iald (Y := YX11_goDay) (pc := 41) dX11_goDay_41 k_192 n_192 g15 ?_
      obtain ⟨r16, M17, e18, hF⟩ := bd_some hF
      refine s_callVi (Y := YX11_goDay) (pc := 42) (as := [.ref 191, .int (M 192 x1.toNatClampNeg)]) (st := []) (r_X11_refusesOff k_191 e18) miX11_refusesOff lk_X11_268 dX11_goDay_42 k_174 rfl (Nat.le_of_ble_eq_true rfl) (Nat.le_of_ble_eq_true rfl) rfl ?_
      clear e18
      refine g_if_ne (Y := YX11_goDay) (pc := 45) (tgt := 68) dX11_goDay_45 rfl (fun c19 => ?_) (fun c19 => ?_)
      · replace hF := if_f c19 hF
        exact w_X11_goDay_68 hK16 _ _ _ hF
      · replace hF := if_t c19 hF
        refine g_aload_n (Y := YX11_goDay) (pc := 48) 0 dX11_goDay_48 rfl ?_
        refine g_aload_n (Y := YX11_goDay) (pc := 49) 0 dX11_goDay_49 rfl ?_
        refine u_getR (Y := YX11_goDay) (pc := 50) (j := 191) dX11_goDay_50 fl_X11_60 k_174 rf_174_35 ?_
        refine g_aload_n (Y := YX11_goDay) (pc := 53) 0 dX11_goDay_53 rfl ?_
        refine u_getR (Y := YX11_goDay) (pc := 54) (j := 192) dX11_goDay_54 fl_X11_63 k_174 rf_174_36 ?_
        refine g_iload_n (Y := YX11_goDay) (pc := 57) 1 dX11_goDay_57 rfl ?_
        refine s_iinc (Y := YX11_goDay) (pc := 58) (j := 1) (L' := fun y => [(1, .int y), (0, .ref 174), (2, .int x2)]) dX11_goDay_58 kI_1 rfl (Nat.le_of_ble_eq_true rfl) (fun _ => rfl) (fun v20 e => ?_)
        replace hF := vl_to e hF; clear e
        obtain ⟨g21, hF⟩ := gd_some hF
        refine s_iald (Y := YX11_goDay) (pc := 61) dX11_goDay_61 k_192 n_192 g21 ?_
        obtain ⟨r22, M23, e24, hF⟩ := bd_some hF
        refine s_callVv (Y := YX11_goDay) (pc := 62) (as := [.ref 191, .int (M17 192 x1.toNatClampNeg)]) (st := []) (r_X11_goOff k_191 e24) miX11_goOff lk_X11_278 dX11_goDay_62 k_174 rfl (Nat.le_of_ble_eq_true rfl) (Nat.le_of_ble_eq_true rfl) rfl ?_
        clear e24
        refine g_goto (Y := YX11_goDay) (pc := 65) (tgt := 23) dX11_goDay_65 rfl ?_
        refine g_loc [1, 0, 2] rfl ?_
        exact ih _ _ _ hF
def f_X11_goDay_16  : Nat → Int32 → Int32 → Mem → Option (Int32 × Mem)
  | 0, _, _, _ => none
  | n + 1, x1, x2, M =>
    if x2 < 400 then
      f_X11_goDay_23 (f_X11_goDay_16 n) FU x1 x2 M
    else
      some (1000000, M)
set_option maxRecDepth 100000 in
theorem w_X11_goDay_16 {R : Int32} {M' : Mem}  : ∀ (n : Nat) (x1 x2 : Int32) (M : Mem), f_X11_goDay_16 n x1 x2 M = some (R, M') → RunF l D cy ad none YX11_goDay 5 0 0 (some (.int R)) (lay X M') 0 0 16 [(0, .ref 174), (1, .int x1), (2, .int x2)] [] (lay X M) := by
  intro n
  induction n with
  | zero => intro x1 x2 M hF; exact absurd hF (by unfold f_X11_goDay_16; exact fun h => nomatch h)
  | succ n ih =>
    intro x1 x2 M hF
    unfold f_X11_goDay_16 at hF
    refine g_iload_n (Y := YX11_goDay) (pc := 16) 2 dX11_goDay_16 rfl ?_
    refine g_sipush (Y := YX11_goDay) (pc := 17) dX11_goDay_17 kS_400 ?_
    refine g_icmp_ge (Y := YX11_goDay) (pc := 20) (tgt := 101) dX11_goDay_20 rfl (fun c4 => ?_) (fun c4 => ?_)
    · replace hF := if_f c4 hF
      refine g_ldcw (Y := YX11_goDay) (pc := 101) dX11_goDay_101 cw_X11_321 ?_
      exact s_iret (Y := YX11_goDay) (pc := 104) dX11_goDay_104 rfl hF
    · replace hF := if_t c4 hF
      exact w_X11_goDay_23 ih _ _ _ _ hF
def f_X11_goDay_0  (M : Mem) : Option (Int32 × Mem) :=
  bd (f_X11_lay 175 191 0 M) fun _ M2 =>
  f_X11_goDay_16 FU 0 0 M2
set_option maxRecDepth 100000 in
theorem w_X11_goDay_0 {R : Int32} {M' : Mem}  (M : Mem) (hF : f_X11_goDay_0  M = some (R, M')) : RunF l D cy ad none YX11_goDay 5 0 0 (some (.int R)) (lay X M') 0 0 0 [(0, .ref 174)] [] (lay X M) := by
  unfold f_X11_goDay_0 at hF
  refine g_aload_n (Y := YX11_goDay) (pc := 0) 0 dX11_goDay_0 rfl ?_
  refine u_getR (Y := YX11_goDay) (pc := 1) (j := 175) dX11_goDay_1 fl_X11_9 k_174 rf_174_0 ?_
  refine g_aload_n (Y := YX11_goDay) (pc := 4) 0 dX11_goDay_4 rfl ?_
  refine u_getR (Y := YX11_goDay) (pc := 5) (j := 191) dX11_goDay_5 fl_X11_60 k_174 rf_174_35 ?_
  refine g_iconst (Y := YX11_goDay) (pc := 8) dX11_goDay_8 kI_0 ?_
  obtain ⟨r1, M2, e3, hF⟩ := bd_some hF
  refine s_callSv (Y := YX11_goDay) (pc := 9) (as := [.ref 175, .ref 191, .int 0]) (st := []) (r_X11_lay k_175 k_191 e3) msX11_lay lk_X11_242 dX11_goDay_9 rfl (Nat.le_of_ble_eq_true rfl) (Nat.le_of_ble_eq_true rfl) rfl ?_
  clear e3
  refine g_iconst (Y := YX11_goDay) (pc := 12) dX11_goDay_12 kI_0 ?_
  refine g_istore_n (Y := YX11_goDay) (pc := 13) (L' := [(1, .int 0), (0, .ref 174)]) dX11_goDay_13 (Nat.le_of_ble_eq_true rfl) rfl ?_
  refine g_iconst (Y := YX11_goDay) (pc := 14) dX11_goDay_14 kI_0 ?_
  refine g_istore_n (Y := YX11_goDay) (pc := 15) (L' := [(2, .int 0), (1, .int 0), (0, .ref 174)]) dX11_goDay_15 (Nat.le_of_ble_eq_true rfl) rfl ?_
  refine g_loc [2, 1, 0] rfl ?_
  exact w_X11_goDay_16  _ _ _ _ hF
def f_X11_goDay (M : Mem) : Option (Int32 × Mem) := f_X11_goDay_0 M
theorem r_X11_goDay {R : Int32} {M M' : Mem}  (hF : f_X11_goDay  M = some (R, M')) : RunS l D cy ad YX11_goDay 5 [.ref 174] X M (some (.int R)) M' := Run.of 0 (miX11_goDay).1 (Nat.le_of_ble_eq_true rfl) (w_X11_goDay_0  _ hF)
def f_X11_waitedByOrder_4  : Nat → Int32 → Int32 → Mem → Option (Int32 × Mem)
  | 0, _, _, _ => none
  | n + 1, x1, x2, M =>
    if x2 < (M 174 37) then
      gd (0 ≤ x2 ∧ x2.toNatClampNeg < 6) <|
      gd (0 ≤ (12 + (M 192 x2.toNatClampNeg)) ∧ (12 + (M 192 x2.toNatClampNeg)).toNatClampNeg < 25) <|
      vl ((M 191 (12 + (M 192 x2.toNatClampNeg)).toNatClampNeg)) fun v4 =>
      gd (0 ≤ x2 ∧ x2.toNatClampNeg < 6) <|
      gd (0 ≤ (12 + (M 192 x2.toNatClampNeg)) ∧ (12 + (M 192 x2.toNatClampNeg)).toNatClampNeg < 25) <|
      vl ((M 175 (12 + (M 192 x2.toNatClampNeg)).toNatClampNeg)) fun v7 =>
      vl ((x1 + (v4 - v7))) fun v8 =>
      vl (x2 + 1) fun v9 =>
      f_X11_waitedByOrder_4 n v8 v9 M
    else
      some (x1, M)
set_option maxRecDepth 100000 in
theorem w_X11_waitedByOrder_4 {R : Int32} {M' : Mem}  : ∀ (n : Nat) (x1 x2 : Int32) (M : Mem), f_X11_waitedByOrder_4 n x1 x2 M = some (R, M') → RunF l D cy ad none YX11_waitedByOrder 0 0 0 (some (.int R)) (lay X M') 0 0 4 [(0, .ref 174), (1, .int x1), (2, .int x2)] [] (lay X M) := by
  intro n
  induction n with
  | zero => intro x1 x2 M hF; exact absurd hF (by unfold f_X11_waitedByOrder_4; exact fun h => nomatch h)
  | succ n ih =>
    intro x1 x2 M hF
    unfold f_X11_waitedByOrder_4 at hF
    refine g_iload_n (Y := YX11_waitedByOrder) (pc := 4) 2 dX11_waitedByOrder_4 rfl ?_
    refine g_aload_n (Y := YX11_waitedByOrder) (pc := 5) 0 dX11_waitedByOrder_5 rfl ?_
    refine u_getI (Y := YX11_waitedByOrder) (pc := 6) dX11_waitedByOrder_6 fl_X11_315 k_174 ?_
    refine g_icmp_ge (Y := YX11_waitedByOrder) (pc := 9) (tgt := 50) dX11_waitedByOrder_9 rfl (fun c1 => ?_) (fun c1 => ?_)
    · replace hF := if_f c1 hF
      refine g_iload_n (Y := YX11_waitedByOrder) (pc := 50) 1 dX11_waitedByOrder_50 rfl ?_
      exact s_iret (Y := YX11_waitedByOrder) (pc := 51) dX11_waitedByOrder_51 rfl hF
    · replace hF := if_t c1 hF
      refine g_iload_n (Y := YX11_waitedByOrder) (pc := 12) 1 dX11_waitedByOrder_12 rfl ?_
      refine g_aload_n (Y := YX11_waitedByOrder) (pc := 13) 0 dX11_waitedByOrder_13 rfl ?_
      refine u_getR (Y := YX11_waitedByOrder) (pc := 14) (j := 191) dX11_waitedByOrder_14 fl_X11_60 k_174 rf_174_35 ?_
      refine g_bipush (Y := YX11_waitedByOrder) (pc := 17) dX11_waitedByOrder_17 kB_12 ?_
      refine g_aload_n (Y := YX11_waitedByOrder) (pc := 19) 0 dX11_waitedByOrder_19 rfl ?_
      refine u_getR (Y := YX11_waitedByOrder) (pc := 20) (j := 192) dX11_waitedByOrder_20 fl_X11_63 k_174 rf_174_36 ?_
      refine g_iload_n (Y := YX11_waitedByOrder) (pc := 23) 2 dX11_waitedByOrder_23 rfl ?_
      obtain ⟨g2, hF⟩ := gd_some hF
      refine s_iald (Y := YX11_waitedByOrder) (pc := 24) dX11_waitedByOrder_24 k_192 n_192 g2 ?_
      refine g_iadd (Y := YX11_waitedByOrder) (pc := 25) dX11_waitedByOrder_25 ?_
      obtain ⟨g3, hF⟩ := gd_some hF
      refine s_iald (Y := YX11_waitedByOrder) (pc := 26) dX11_waitedByOrder_26 k_191 n_191 g3 ?_
      refine g_nm (fun v4 e => ?_)
      replace hF := vl_to e hF; clear e
      refine g_aload_n (Y := YX11_waitedByOrder) (pc := 27) 0 dX11_waitedByOrder_27 rfl ?_
      refine u_getR (Y := YX11_waitedByOrder) (pc := 28) (j := 175) dX11_waitedByOrder_28 fl_X11_9 k_174 rf_174_0 ?_
      refine g_bipush (Y := YX11_waitedByOrder) (pc := 31) dX11_waitedByOrder_31 kB_12 ?_
      refine g_aload_n (Y := YX11_waitedByOrder) (pc := 33) 0 dX11_waitedByOrder_33 rfl ?_
      refine u_getR (Y := YX11_waitedByOrder) (pc := 34) (j := 192) dX11_waitedByOrder_34 fl_X11_63 k_174 rf_174_36 ?_
      refine g_iload_n (Y := YX11_waitedByOrder) (pc := 37) 2 dX11_waitedByOrder_37 rfl ?_
      obtain ⟨g5, hF⟩ := gd_some hF
      refine s_iald (Y := YX11_waitedByOrder) (pc := 38) dX11_waitedByOrder_38 k_192 n_192 g5 ?_
      refine g_iadd (Y := YX11_waitedByOrder) (pc := 39) dX11_waitedByOrder_39 ?_
      obtain ⟨g6, hF⟩ := gd_some hF
      refine s_iald (Y := YX11_waitedByOrder) (pc := 40) dX11_waitedByOrder_40 k_175 n_175 g6 ?_
      refine g_nm (fun v7 e => ?_)
      replace hF := vl_to e hF; clear e
      refine g_isub (Y := YX11_waitedByOrder) (pc := 41) dX11_waitedByOrder_41 ?_
      refine g_iadd (Y := YX11_waitedByOrder) (pc := 42) dX11_waitedByOrder_42 ?_
      refine g_nm (fun v8 e => ?_)
      replace hF := vl_to e hF; clear e
      refine g_istore_n (Y := YX11_waitedByOrder) (pc := 43) (L' := [(1, .int v8), (0, .ref 174), (2, .int x2)]) dX11_waitedByOrder_43 (Nat.le_of_ble_eq_true rfl) rfl ?_
      refine s_iinc (Y := YX11_waitedByOrder) (pc := 44) (j := 2) (L' := fun y => [(2, .int y), (1, .int v8), (0, .ref 174)]) dX11_waitedByOrder_44 kI_1 rfl (Nat.le_of_ble_eq_true rfl) (fun _ => rfl) (fun v9 e => ?_)
      replace hF := vl_to e hF; clear e
      refine g_goto (Y := YX11_waitedByOrder) (pc := 47) (tgt := 4) dX11_waitedByOrder_47 rfl ?_
      refine g_loc [2, 1, 0] rfl ?_
      exact ih _ _ _ hF
def f_X11_waitedByOrder_0  (M : Mem) : Option (Int32 × Mem) :=
  f_X11_waitedByOrder_4 FU 0 0 M
set_option maxRecDepth 100000 in
theorem w_X11_waitedByOrder_0 {R : Int32} {M' : Mem}  (M : Mem) (hF : f_X11_waitedByOrder_0  M = some (R, M')) : RunF l D cy ad none YX11_waitedByOrder 0 0 0 (some (.int R)) (lay X M') 0 0 0 [(0, .ref 174)] [] (lay X M) := by
  unfold f_X11_waitedByOrder_0 at hF
  refine g_iconst (Y := YX11_waitedByOrder) (pc := 0) dX11_waitedByOrder_0 kI_0 ?_
  refine g_istore_n (Y := YX11_waitedByOrder) (pc := 1) (L' := [(1, .int 0), (0, .ref 174)]) dX11_waitedByOrder_1 (Nat.le_of_ble_eq_true rfl) rfl ?_
  refine g_iconst (Y := YX11_waitedByOrder) (pc := 2) dX11_waitedByOrder_2 kI_0 ?_
  refine g_istore_n (Y := YX11_waitedByOrder) (pc := 3) (L' := [(2, .int 0), (1, .int 0), (0, .ref 174)]) dX11_waitedByOrder_3 (Nat.le_of_ble_eq_true rfl) rfl ?_
  refine g_loc [2, 1, 0] rfl ?_
  exact w_X11_waitedByOrder_4  _ _ _ _ hF
def f_X11_waitedByOrder (M : Mem) : Option (Int32 × Mem) := f_X11_waitedByOrder_0 M
theorem r_X11_waitedByOrder {R : Int32} {M M' : Mem}  (hF : f_X11_waitedByOrder  M = some (R, M')) : RunS l D cy ad YX11_waitedByOrder 0 [.ref 174] X M (some (.int R)) M' := Run.of 0 (miX11_waitedByOrder).1 (Nat.le_of_ble_eq_true rfl) (w_X11_waitedByOrder_0  _ hF)
def f_X11_areOutside_30 (K2 : Int32 → Int32 → Mem → Option (Int32 × Mem)) (x1 : Int32) (x2 : Int32) (M : Mem) : Option (Int32 × Mem) :=
  vl (x2 + 1) fun v6 =>
  K2 x1 v6 M
set_option maxRecDepth 100000 in
theorem w_X11_areOutside_30 {R : Int32} {M' : Mem} {K2 : Int32 → Int32 → Mem → Option (Int32 × Mem)} (hK2 : ∀ (x1 x2 : Int32) (M : Mem), K2 x1 x2 M = some (R, M') → RunF l D cy ad none YX11_areOutside 1 0 0 (some (.int R)) (lay X M') 0 0 2 [(0, .ref 174), (1, .int x1), (2, .int x2)] [] (lay X M)) (x1 x2 : Int32) (M : Mem) (hF : f_X11_areOutside_30 K2 x1 x2 M = some (R, M')) : RunF l D cy ad none YX11_areOutside 1 0 0 (some (.int R)) (lay X M') 0 0 30 [(0, .ref 174), (1, .int x1), (2, .int x2)] [] (lay X M) := by
  unfold f_X11_areOutside_30 at hF
  refine s_iinc (Y := YX11_areOutside) (pc := 30) (j := 2) (L' := fun y => [(2, .int y), (0, .ref 174), (1, .int x1)]) dX11_areOutside_30 kI_1 rfl (Nat.le_of_ble_eq_true rfl) (fun _ => rfl) (fun v6 e => ?_)
  replace hF := vl_to e hF; clear e
  refine g_goto (Y := YX11_areOutside) (pc := 33) (tgt := 2) dX11_areOutside_33 rfl ?_
  refine g_loc [1, 2, 0] rfl ?_
  exact hK2 _ _ _ hF
def f_X11_areOutside_2  : Nat → Int32 → Int32 → Mem → Option (Int32 × Mem)
  | 0, _, _, _ => none
  | n + 1, x1, x2, M =>
    if x2 < (M 174 3) then
      bd (f_X11_has x1 x2 M) fun r2 M3 =>
      if r2 = 0 then
        f_X11_areOutside_30 (f_X11_areOutside_2 n) x1 x2 M3
      else
        gd (0 ≤ x2 ∧ x2.toNatClampNeg < 25) <|
        if (M3 175 x2.toNatClampNeg) = (-1) then
          f_X11_areOutside_30 (f_X11_areOutside_2 n) x1 x2 M3
        else
          some (0, M3)
    else
      some (1, M)
set_option maxRecDepth 100000 in
theorem w_X11_areOutside_2 {R : Int32} {M' : Mem}  : ∀ (n : Nat) (x1 x2 : Int32) (M : Mem), f_X11_areOutside_2 n x1 x2 M = some (R, M') → RunF l D cy ad none YX11_areOutside 1 0 0 (some (.int R)) (lay X M') 0 0 2 [(0, .ref 174), (1, .int x1), (2, .int x2)] [] (lay X M) := by
  intro n
  induction n with
  | zero => intro x1 x2 M hF; exact absurd hF (by unfold f_X11_areOutside_2; exact fun h => nomatch h)
  | succ n ih =>
    intro x1 x2 M hF
    unfold f_X11_areOutside_2 at hF
    refine g_iload_n (Y := YX11_areOutside) (pc := 2) 2 dX11_areOutside_2 rfl ?_
    refine g_aload_n (Y := YX11_areOutside) (pc := 3) 0 dX11_areOutside_3 rfl ?_
    refine u_getI (Y := YX11_areOutside) (pc := 4) dX11_areOutside_4 fl_X11_113 k_174 ?_
    refine g_icmp_ge (Y := YX11_areOutside) (pc := 7) (tgt := 36) dX11_areOutside_7 rfl (fun c1 => ?_) (fun c1 => ?_)
    · replace hF := if_f c1 hF
      refine g_iconst (Y := YX11_areOutside) (pc := 36) dX11_areOutside_36 kI_1 ?_
      exact s_zret (Y := YX11_areOutside) (pc := 37) dX11_areOutside_37 rfl (Or.inr rfl) hF
    · replace hF := if_t c1 hF
      refine g_iload_n (Y := YX11_areOutside) (pc := 10) 1 dX11_areOutside_10 rfl ?_
      refine g_iload_n (Y := YX11_areOutside) (pc := 11) 2 dX11_areOutside_11 rfl ?_
      obtain ⟨r2, M3, e4, hF⟩ := bd_some hF
      refine s_callSi (Y := YX11_areOutside) (pc := 12) (as := [.int x1, .int x2]) (st := []) (r_X11_has  e4) msX11_has lk_X11_209 dX11_areOutside_12 rfl (Nat.le_of_ble_eq_true rfl) (Nat.le_of_ble_eq_true rfl) rfl ?_
      clear e4
      refine g_if_eq (Y := YX11_areOutside) (pc := 15) (tgt := 30) dX11_areOutside_15 rfl (fun c5 => ?_) (fun c5 => ?_)
      · replace hF := if_t c5 hF
        exact w_X11_areOutside_30 ih _ _ _ hF
      · replace hF := if_f c5 hF
        refine g_aload_n (Y := YX11_areOutside) (pc := 18) 0 dX11_areOutside_18 rfl ?_
        refine u_getR (Y := YX11_areOutside) (pc := 19) (j := 175) dX11_areOutside_19 fl_X11_9 k_174 rf_174_0 ?_
        refine g_iload_n (Y := YX11_areOutside) (pc := 22) 2 dX11_areOutside_22 rfl ?_
        obtain ⟨g7, hF⟩ := gd_some hF
        refine s_iald (Y := YX11_areOutside) (pc := 23) dX11_areOutside_23 k_175 n_175 g7 ?_
        refine g_iconst (Y := YX11_areOutside) (pc := 24) dX11_areOutside_24 kI_m1 ?_
        refine g_icmp_eq (Y := YX11_areOutside) (pc := 25) (tgt := 30) dX11_areOutside_25 rfl (fun c8 => ?_) (fun c8 => ?_)
        · replace hF := if_t c8 hF
          exact w_X11_areOutside_30 ih _ _ _ hF
        · replace hF := if_f c8 hF
          refine g_iconst (Y := YX11_areOutside) (pc := 28) dX11_areOutside_28 kI_0 ?_
          exact s_zret (Y := YX11_areOutside) (pc := 29) dX11_areOutside_29 rfl (Or.inl rfl) hF
def f_X11_areOutside_0  (x1 : Int32) (M : Mem) : Option (Int32 × Mem) :=
  f_X11_areOutside_2 FU x1 0 M
set_option maxRecDepth 100000 in
theorem w_X11_areOutside_0 {R : Int32} {M' : Mem}  (x1 : Int32) (M : Mem) (hF : f_X11_areOutside_0 x1 M = some (R, M')) : RunF l D cy ad none YX11_areOutside 1 0 0 (some (.int R)) (lay X M') 0 0 0 [(0, .ref 174), (1, .int x1)] [] (lay X M) := by
  unfold f_X11_areOutside_0 at hF
  refine g_iconst (Y := YX11_areOutside) (pc := 0) dX11_areOutside_0 kI_0 ?_
  refine g_istore_n (Y := YX11_areOutside) (pc := 1) (L' := [(2, .int 0), (0, .ref 174), (1, .int x1)]) dX11_areOutside_1 (Nat.le_of_ble_eq_true rfl) rfl ?_
  refine g_loc [1, 2, 0] rfl ?_
  exact w_X11_areOutside_2  _ _ _ _ hF
def f_X11_areOutside (x1 : Int32) (M : Mem) : Option (Int32 × Mem) := f_X11_areOutside_0 x1 M
theorem r_X11_areOutside {x1 R : Int32} {M M' : Mem}  (hF : f_X11_areOutside x1 M = some (R, M')) : RunS l D cy ad YX11_areOutside 1 [.ref 174, .int x1] X M (some (.int R)) M' := Run.of 1 (miX11_areOutside).1 (Nat.le_of_ble_eq_true rfl) (w_X11_areOutside_0  _ _ hF)
def f_X11_order_149  : Nat → Int32 → Int32 → Int32 → Mem → Option (Int32 × Mem)
  | 0, _, _, _, _ => none
  | n + 1, x1, x3, x4, M =>
    if x4 < x1 then
      gd (0 ≤ x4 ∧ x4.toNatClampNeg < 6) <|
      gd (0 ≤ (18 + (M 192 x4.toNatClampNeg)) ∧ (18 + (M 192 x4.toNatClampNeg)).toNatClampNeg < 25) <|
      vl ((M 191 (18 + (M 192 x4.toNatClampNeg)).toNatClampNeg)) fun v28 =>
      gd (0 ≤ (24 : Int32) ∧ (24 : Int32).toNatClampNeg < 25) <|
      vl (((v28 + 1) - (M 175 (24 : Int32).toNatClampNeg))) fun v30 =>
      bd (f_X11_tell v30 M) fun _ M32 =>
      vl (x4 + 1) fun v34 =>
      f_X11_order_149 n x1 x3 v34 M32
    else
      bd (f_X11_waitedByOrder M) fun r20 M21 =>
      bd (f_X11_tell r20 M21) fun _ M24 =>
      some (x3, M24)
set_option maxRecDepth 100000 in
theorem w_X11_order_149 {R : Int32} {M' : Mem}  : ∀ (n : Nat) (x1 x3 x4 : Int32) (M : Mem), f_X11_order_149 n x1 x3 x4 M = some (R, M') → RunF l D cy ad none YX11_order 406 0 0 (some (.int R)) (lay X M') 0 0 149 [(0, .ref 174), (1, .int x1), (3, .int x3), (4, .int x4)] [] (lay X M) := by
  intro n
  induction n with
  | zero => intro x1 x3 x4 M hF; exact absurd hF (by unfold f_X11_order_149; exact fun h => nomatch h)
  | succ n ih =>
    intro x1 x3 x4 M hF
    unfold f_X11_order_149 at hF
    refine g_iload (Y := YX11_order) (pc := 149) 3 dX11_order_149 rfl ?_
    refine g_iload_n (Y := YX11_order) (pc := 151) 1 dX11_order_151 rfl ?_
    refine g_icmp_ge (Y := YX11_order) (pc := 152) (tgt := 190) dX11_order_152 rfl (fun c19 => ?_) (fun c19 => ?_)
    · replace hF := if_f c19 hF
      refine g_aload_n (Y := YX11_order) (pc := 190) 0 dX11_order_190 rfl ?_
      refine g_aload_n (Y := YX11_order) (pc := 191) 0 dX11_order_191 rfl ?_
      obtain ⟨r20, M21, e22, hF⟩ := bd_some hF
      refine s_callVi (Y := YX11_order) (pc := 192) (as := []) (st := [.ref 174]) (r_X11_waitedByOrder  e22) miX11_waitedByOrder lk_X11_328 dX11_order_192 k_174 rfl (Nat.le_of_ble_eq_true rfl) (Nat.le_of_ble_eq_true rfl) rfl ?_
      clear e22
      obtain ⟨r23, M24, e25, hF⟩ := bd_some hF
      refine s_callVv (Y := YX11_order) (pc := 195) (as := [.int r20]) (st := []) (r_X11_tell  e25) miX11_tell lk_X11_300 dX11_order_195 k_174 rfl (Nat.le_of_ble_eq_true rfl) (Nat.le_of_ble_eq_true rfl) rfl ?_
      clear e25
      refine g_iload_n (Y := YX11_order) (pc := 198) 2 dX11_order_198 rfl ?_
      exact s_iret (Y := YX11_order) (pc := 199) dX11_order_199 rfl hF
    · replace hF := if_t c19 hF
      refine g_aload_n (Y := YX11_order) (pc := 155) 0 dX11_order_155 rfl ?_
      refine g_aload_n (Y := YX11_order) (pc := 156) 0 dX11_order_156 rfl ?_
      refine u_getR (Y := YX11_order) (pc := 157) (j := 191) dX11_order_157 fl_X11_60 k_174 rf_174_35 ?_
      refine g_bipush (Y := YX11_order) (pc := 160) dX11_order_160 kB_18 ?_
      refine g_aload_n (Y := YX11_order) (pc := 162) 0 dX11_order_162 rfl ?_
      refine u_getR (Y := YX11_order) (pc := 163) (j := 192) dX11_order_163 fl_X11_63 k_174 rf_174_36 ?_
      refine g_iload (Y := YX11_order) (pc := 166) 3 dX11_order_166 rfl ?_
      obtain ⟨g26, hF⟩ := gd_some hF
      refine s_iald (Y := YX11_order) (pc := 168) dX11_order_168 k_192 n_192 g26 ?_
      refine g_iadd (Y := YX11_order) (pc := 169) dX11_order_169 ?_
      obtain ⟨g27, hF⟩ := gd_some hF
      refine s_iald (Y := YX11_order) (pc := 170) dX11_order_170 k_191 n_191 g27 ?_
      refine g_nm (fun v28 e => ?_)
      replace hF := vl_to e hF; clear e
      refine g_iconst (Y := YX11_order) (pc := 171) dX11_order_171 kI_1 ?_
      refine g_iadd (Y := YX11_order) (pc := 172) dX11_order_172 ?_
      refine g_aload_n (Y := YX11_order) (pc := 173) 0 dX11_order_173 rfl ?_
      refine u_getR (Y := YX11_order) (pc := 174) (j := 175) dX11_order_174 fl_X11_9 k_174 rf_174_0 ?_
      refine g_bipush (Y := YX11_order) (pc := 177) dX11_order_177 kB_24 ?_
      obtain ⟨g29, hF⟩ := gd_some hF
      refine s_iald (Y := YX11_order) (pc := 179) dX11_order_179 k_175 n_175 g29 ?_
      refine g_isub (Y := YX11_order) (pc := 180) dX11_order_180 ?_
      refine g_nm (fun v30 e => ?_)
      replace hF := vl_to e hF; clear e
      obtain ⟨r31, M32, e33, hF⟩ := bd_some hF
      refine s_callVv (Y := YX11_order) (pc := 181) (as := [.int v30]) (st := []) (r_X11_tell  e33) miX11_tell lk_X11_300 dX11_order_181 k_174 rfl (Nat.le_of_ble_eq_true rfl) (Nat.le_of_ble_eq_true rfl) rfl ?_
      clear e33
      refine s_iinc (Y := YX11_order) (pc := 184) (j := 3) (L' := fun y => [(4, .int y), (0, .ref 174), (1, .int x1), (3, .int x3)]) dX11_order_184 kI_1 rfl (Nat.le_of_ble_eq_true rfl) (fun _ => rfl) (fun v34 e => ?_)
      replace hF := vl_to e hF; clear e
      refine g_goto (Y := YX11_order) (pc := 187) (tgt := 149) dX11_order_187 rfl ?_
      refine g_loc [1, 2, 3, 0] rfl ?_
      exact ih _ _ _ _ hF
def f_X11_order_63  (x3 : Int32) (M : Mem) : Option (Int32 × Mem) :=
  some (((-1) - x3), M)
set_option maxRecDepth 100000 in
theorem w_X11_order_63 {R : Int32} {M' : Mem}  (x3 : Int32) (M : Mem) (hF : f_X11_order_63 x3 M = some (R, M')) : RunF l D cy ad none YX11_order 406 0 0 (some (.int R)) (lay X M') 0 0 63 [(3, .int x3)] [] (lay X M) := by
  unfold f_X11_order_63 at hF
  refine g_iconst (Y := YX11_order) (pc := 63) dX11_order_63 kI_m1 ?_
  refine g_iload_n (Y := YX11_order) (pc := 64) 0 dX11_order_64 rfl ?_
  refine g_isub (Y := YX11_order) (pc := 65) dX11_order_65 ?_
  exact s_iret (Y := YX11_order) (pc := 66) dX11_order_66 rfl hF
def f_X11_order_19  : Nat → Int32 → Int32 → Int32 → Mem → Option (Int32 × Mem)
  | 0, _, _, _, _ => none
  | n + 1, x1, x2, x3, M =>
    if x3 < x1 then
      gd (0 ≤ x3 ∧ x3.toNatClampNeg < 80) <|
      bd (f_X11_in (M 183 x3.toNatClampNeg) 97 ((97 + (M 174 3)) - 1) M) fun r36 M37 =>
      if r36 = 0 then
        f_X11_order_63 x3 M37
      else
        gd (0 ≤ x3 ∧ x3.toNatClampNeg < 80) <|
        bd (f_X11_has x2 ((M37 183 x3.toNatClampNeg) - 97) M37) fun r41 M42 =>
        if r41 = 0 then
          gd (0 ≤ x3 ∧ x3.toNatClampNeg < 80) <|
          gd (0 ≤ x3 ∧ x3.toNatClampNeg < 6) <|
          ml (up M42 192 x3.toNatClampNeg ((M42 183 x3.toNatClampNeg) - 97)) fun M47 =>
          gd (0 ≤ x3 ∧ x3.toNatClampNeg < 6) <|
          vl ((x2 ||| (1 <<< ((M47 192 x3.toNatClampNeg) &&& 31)))) fun v49 =>
          vl (x3 + 1) fun v50 =>
          f_X11_order_19 n x1 v49 v50 M47
        else
          f_X11_order_63 x3 M42
    else
      if x1 = 0 then
        some ((-1), M)
      else
        ml (up M 174 37 x1) fun M6 =>
        bd (f_X11_areOutside x2 M6) fun r7 M8 =>
        if r7 = 0 then
          some ((-100), M8)
        else
          bd (f_X11_layStays M8) fun _ M12 =>
          bd (f_X11_goDay M12) fun r14 M15 =>
          if r14 = 1000000 then
            some ((-200), M15)
          else
            ml (up M15 174 13 0) fun M18 =>
            f_X11_order_149 FU x1 r14 0 M18
set_option maxRecDepth 100000 in
theorem w_X11_order_19 {R : Int32} {M' : Mem}  : ∀ (n : Nat) (x1 x2 x3 : Int32) (M : Mem), f_X11_order_19 n x1 x2 x3 M = some (R, M') → RunF l D cy ad none YX11_order 406 0 0 (some (.int R)) (lay X M') 0 0 19 [(0, .ref 174), (1, .int x1), (2, .int x2), (3, .int x3)] [] (lay X M) := by
  intro n
  induction n with
  | zero => intro x1 x2 x3 M hF; exact absurd hF (by unfold f_X11_order_19; exact fun h => nomatch h)
  | succ n ih =>
    intro x1 x2 x3 M hF
    unfold f_X11_order_19 at hF
    refine g_iload_n (Y := YX11_order) (pc := 19) 3 dX11_order_19 rfl ?_
    refine g_iload_n (Y := YX11_order) (pc := 20) 1 dX11_order_20 rfl ?_
    refine g_icmp_ge (Y := YX11_order) (pc := 21) (tgt := 99) dX11_order_21 rfl (fun c4 => ?_) (fun c4 => ?_)
    · replace hF := if_f c4 hF
      refine g_iload_n (Y := YX11_order) (pc := 99) 1 dX11_order_99 rfl ?_
      refine g_if_ne (Y := YX11_order) (pc := 100) (tgt := 105) dX11_order_100 rfl (fun c5 => ?_) (fun c5 => ?_)
      · replace hF := if_f c5 hF
        refine g_aload_n (Y := YX11_order) (pc := 105) 0 dX11_order_105 rfl ?_
        refine g_iload_n (Y := YX11_order) (pc := 106) 1 dX11_order_106 rfl ?_
        refine u_putI (Y := YX11_order) (pc := 107) dX11_order_107 fl_X11_315  k_174 ?_
        refine g_nmM (fun M6 e => ?_)
        replace hF := ml_to e hF; clear e
        refine g_aload_n (Y := YX11_order) (pc := 110) 0 dX11_order_110 rfl ?_
        refine g_iload_n (Y := YX11_order) (pc := 111) 2 dX11_order_111 rfl ?_
        obtain ⟨r7, M8, e9, hF⟩ := bd_some hF
        refine s_callVi (Y := YX11_order) (pc := 112) (as := [.int x2]) (st := []) (r_X11_areOutside  e9) miX11_areOutside lk_X11_322 dX11_order_112 k_174 rfl (Nat.le_of_ble_eq_true rfl) (Nat.le_of_ble_eq_true rfl) rfl ?_
        clear e9
        refine g_if_ne (Y := YX11_order) (pc := 115) (tgt := 121) dX11_order_115 rfl (fun c10 => ?_) (fun c10 => ?_)
        · replace hF := if_f c10 hF
          refine g_aload_n (Y := YX11_order) (pc := 121) 0 dX11_order_121 rfl ?_
          obtain ⟨r11, M12, e13, hF⟩ := bd_some hF
          refine s_callVv (Y := YX11_order) (pc := 122) (as := []) (st := []) (r_X11_layStays  e13) miX11_layStays lk_X11_271 dX11_order_122 k_174 rfl (Nat.le_of_ble_eq_true rfl) (Nat.le_of_ble_eq_true rfl) rfl ?_
          clear e13
          refine g_aload_n (Y := YX11_order) (pc := 125) 0 dX11_order_125 rfl ?_
          obtain ⟨r14, M15, e16, hF⟩ := bd_some hF
          refine s_callVi (Y := YX11_order) (pc := 126) (as := []) (st := []) (r_X11_goDay  e16) miX11_goDay lk_X11_325 dX11_order_126 k_174 rfl (Nat.le_of_ble_eq_true rfl) (Nat.le_of_ble_eq_true rfl) rfl ?_
          clear e16
          refine g_istore_n (Y := YX11_order) (pc := 129) (L' := [(3, .int r14), (0, .ref 174), (1, .int x1), (2, .int x2)]) dX11_order_129 (Nat.le_of_ble_eq_true rfl) rfl ?_
          refine g_iload_n (Y := YX11_order) (pc := 130) 0 dX11_order_130 rfl ?_
          refine g_ldcw (Y := YX11_order) (pc := 131) dX11_order_131 cw_X11_321 ?_
          refine g_icmp_ne (Y := YX11_order) (pc := 134) (tgt := 141) dX11_order_134 rfl (fun c17 => ?_) (fun c17 => ?_)
          · replace hF := if_f c17 hF
            refine g_aload_n (Y := YX11_order) (pc := 141) 1 dX11_order_141 rfl ?_
            refine g_iconst (Y := YX11_order) (pc := 142) dX11_order_142 kI_0 ?_
            refine u_putI (Y := YX11_order) (pc := 143) dX11_order_143 fl_X11_103  k_174 ?_
            refine g_nmM (fun M18 e => ?_)
            replace hF := ml_to e hF; clear e
            refine g_iconst (Y := YX11_order) (pc := 146) dX11_order_146 kI_0 ?_
            refine g_istore (Y := YX11_order) (pc := 147) (L' := [(4, .int 0), (3, .int r14), (0, .ref 174), (1, .int x1), (2, .int x2)]) dX11_order_147 (Nat.le_of_ble_eq_true rfl) rfl ?_
            refine g_loc [2, 3, 1, 0] rfl ?_
            exact w_X11_order_149  _ _ _ _ _ hF
          · replace hF := if_t c17 hF
            refine g_sipush (Y := YX11_order) (pc := 137) dX11_order_137 kS_m200 ?_
            exact s_iret (Y := YX11_order) (pc := 140) dX11_order_140 rfl hF
        · replace hF := if_t c10 hF
          refine g_bipush (Y := YX11_order) (pc := 118) dX11_order_118 kB_m100 ?_
          exact s_iret (Y := YX11_order) (pc := 120) dX11_order_120 rfl hF
      · replace hF := if_t c5 hF
        refine g_iconst (Y := YX11_order) (pc := 103) dX11_order_103 kI_m1 ?_
        exact s_iret (Y := YX11_order) (pc := 104) dX11_order_104 rfl hF
    · replace hF := if_t c4 hF
      refine g_aload_n (Y := YX11_order) (pc := 24) 0 dX11_order_24 rfl ?_
      refine u_getR (Y := YX11_order) (pc := 25) (j := 183) dX11_order_25 fl_X11_35 k_174 rf_174_10 ?_
      refine g_iload_n (Y := YX11_order) (pc := 28) 3 dX11_order_28 rfl ?_
      obtain ⟨g35, hF⟩ := gd_some hF
      refine s_bald (Y := YX11_order) (pc := 29) dX11_order_29 k_183 n_183 g35 ?_
      refine g_bipush (Y := YX11_order) (pc := 30) dX11_order_30 kB_97 ?_
      refine g_bipush (Y := YX11_order) (pc := 32) dX11_order_32 kB_97 ?_
      refine g_aload_n (Y := YX11_order) (pc := 34) 0 dX11_order_34 rfl ?_
      refine u_getI (Y := YX11_order) (pc := 35) dX11_order_35 fl_X11_113 k_174 ?_
      refine g_iadd (Y := YX11_order) (pc := 38) dX11_order_38 ?_
      refine g_iconst (Y := YX11_order) (pc := 39) dX11_order_39 kI_1 ?_
      refine g_isub (Y := YX11_order) (pc := 40) dX11_order_40 ?_
      obtain ⟨r36, M37, e38, hF⟩ := bd_some hF
      refine s_callSi (Y := YX11_order) (pc := 41) (as := [.int (M 183 x3.toNatClampNeg), .int 97, .int ((97 + (M 174 3)) - 1)]) (st := []) (r_X11_in  e38) msX11_in lk_X11_109 dX11_order_41 rfl (Nat.le_of_ble_eq_true rfl) (Nat.le_of_ble_eq_true rfl) rfl ?_
      clear e38
      refine g_if_eq (Y := YX11_order) (pc := 44) (tgt := 63) dX11_order_44 rfl (fun c39 => ?_) (fun c39 => ?_)
      · replace hF := if_t c39 hF
        refine g_loc [3] rfl ?_
        exact w_X11_order_63  _ _ hF
      · replace hF := if_f c39 hF
        refine g_iload_n (Y := YX11_order) (pc := 47) 2 dX11_order_47 rfl ?_
        refine g_aload_n (Y := YX11_order) (pc := 48) 0 dX11_order_48 rfl ?_
        refine u_getR (Y := YX11_order) (pc := 49) (j := 183) dX11_order_49 fl_X11_35 k_174 rf_174_10 ?_
        refine g_iload_n (Y := YX11_order) (pc := 52) 3 dX11_order_52 rfl ?_
        obtain ⟨g40, hF⟩ := gd_some hF
        refine s_bald (Y := YX11_order) (pc := 53) dX11_order_53 k_183 n_183 g40 ?_
        refine g_bipush (Y := YX11_order) (pc := 54) dX11_order_54 kB_97 ?_
        refine g_isub (Y := YX11_order) (pc := 56) dX11_order_56 ?_
        obtain ⟨r41, M42, e43, hF⟩ := bd_some hF
        refine s_callSi (Y := YX11_order) (pc := 57) (as := [.int x2, .int ((M37 183 x3.toNatClampNeg) - 97)]) (st := []) (r_X11_has  e43) msX11_has lk_X11_209 dX11_order_57 rfl (Nat.le_of_ble_eq_true rfl) (Nat.le_of_ble_eq_true rfl) rfl ?_
        clear e43
        refine g_if_eq (Y := YX11_order) (pc := 60) (tgt := 67) dX11_order_60 rfl (fun c44 => ?_) (fun c44 => ?_)
        · replace hF := if_t c44 hF
          refine g_aload_n (Y := YX11_order) (pc := 67) 0 dX11_order_67 rfl ?_
          refine u_getR (Y := YX11_order) (pc := 68) (j := 192) dX11_order_68 fl_X11_63 k_174 rf_174_36 ?_
          refine g_iload_n (Y := YX11_order) (pc := 71) 3 dX11_order_71 rfl ?_
          refine g_aload_n (Y := YX11_order) (pc := 72) 0 dX11_order_72 rfl ?_
          refine u_getR (Y := YX11_order) (pc := 73) (j := 183) dX11_order_73 fl_X11_35 k_174 rf_174_10 ?_
          refine g_iload_n (Y := YX11_order) (pc := 76) 3 dX11_order_76 rfl ?_
          obtain ⟨g45, hF⟩ := gd_some hF
          refine s_bald (Y := YX11_order) (pc := 77) dX11_order_77 k_183 n_183 g45 ?_
          refine g_bipush (Y := YX11_order) (pc := 78) dX11_order_78 kB_97 ?_
          refine g_isub (Y := YX11_order) (pc := 80) dX11_order_80 ?_
          obtain ⟨g46, hF⟩ := gd_some hF
          refine s_iast (Y := YX11_order) (pc := 81) dX11_order_81 k_192 n_192 g46 ?_
          refine g_nmM (fun M47 e => ?_)
          replace hF := ml_to e hF; clear e
          refine g_iload_n (Y := YX11_order) (pc := 82) 2 dX11_order_82 rfl ?_
          refine g_iconst (Y := YX11_order) (pc := 83) dX11_order_83 kI_1 ?_
          refine g_aload_n (Y := YX11_order) (pc := 84) 0 dX11_order_84 rfl ?_
          refine u_getR (Y := YX11_order) (pc := 85) (j := 192) dX11_order_85 fl_X11_63 k_174 rf_174_36 ?_
          refine g_iload_n (Y := YX11_order) (pc := 88) 3 dX11_order_88 rfl ?_
          obtain ⟨g48, hF⟩ := gd_some hF
          refine s_iald (Y := YX11_order) (pc := 89) dX11_order_89 k_192 n_192 g48 ?_
          refine g_ishl (Y := YX11_order) (pc := 90) dX11_order_90 ?_
          refine g_ior (Y := YX11_order) (pc := 91) dX11_order_91 ?_
          refine g_nm (fun v49 e => ?_)
          replace hF := vl_to e hF; clear e
          refine g_istore_n (Y := YX11_order) (pc := 92) (L' := [(2, .int v49), (0, .ref 174), (1, .int x1), (3, .int x3)]) dX11_order_92 (Nat.le_of_ble_eq_true rfl) rfl ?_
          refine s_iinc (Y := YX11_order) (pc := 93) (j := 3) (L' := fun y => [(3, .int y), (2, .int v49), (0, .ref 174), (1, .int x1)]) dX11_order_93 kI_1 rfl (Nat.le_of_ble_eq_true rfl) (fun _ => rfl) (fun v50 e => ?_)
          replace hF := vl_to e hF; clear e
          refine g_goto (Y := YX11_order) (pc := 96) (tgt := 19) dX11_order_96 rfl ?_
          refine g_loc [2, 3, 1, 0] rfl ?_
          exact ih _ _ _ _ hF
        · replace hF := if_f c44 hF
          refine g_loc [3] rfl ?_
          exact w_X11_order_63  _ _ hF
def f_X11_order_0  (M : Mem) : Option (Int32 × Mem) :=
  ml (up M 174 14 0) fun M1 =>
  vl ((M1 174 11)) fun v2 =>
  ml (up M1 174 11 0) fun M3 =>
  f_X11_order_19 FU v2 0 0 M3
set_option maxRecDepth 100000 in
theorem w_X11_order_0 {R : Int32} {M' : Mem}  (M : Mem) (hF : f_X11_order_0  M = some (R, M')) : RunF l D cy ad none YX11_order 406 0 0 (some (.int R)) (lay X M') 0 0 0 [(0, .ref 174)] [] (lay X M) := by
  unfold f_X11_order_0 at hF
  refine g_aload_n (Y := YX11_order) (pc := 0) 0 dX11_order_0 rfl ?_
  refine g_iconst (Y := YX11_order) (pc := 1) dX11_order_1 kI_0 ?_
  refine u_putI (Y := YX11_order) (pc := 2) dX11_order_2 fl_X11_99  k_174 ?_
  refine g_nmM (fun M1 e => ?_)
  replace hF := ml_to e hF; clear e
  refine g_aload_n (Y := YX11_order) (pc := 5) 0 dX11_order_5 rfl ?_
  refine u_getI (Y := YX11_order) (pc := 6) dX11_order_6 fl_X11_116 k_174 ?_
  refine g_nm (fun v2 e => ?_)
  replace hF := vl_to e hF; clear e
  refine g_istore_n (Y := YX11_order) (pc := 9) (L' := [(1, .int v2), (0, .ref 174)]) dX11_order_9 (Nat.le_of_ble_eq_true rfl) rfl ?_
  refine g_aload_n (Y := YX11_order) (pc := 10) 1 dX11_order_10 rfl ?_
  refine g_iconst (Y := YX11_order) (pc := 11) dX11_order_11 kI_0 ?_
  refine u_putI (Y := YX11_order) (pc := 12) dX11_order_12 fl_X11_116  k_174 ?_
  refine g_nmM (fun M3 e => ?_)
  replace hF := ml_to e hF; clear e
  refine g_iconst (Y := YX11_order) (pc := 15) dX11_order_15 kI_0 ?_
  refine g_istore_n (Y := YX11_order) (pc := 16) (L' := [(2, .int 0), (1, .int v2), (0, .ref 174)]) dX11_order_16 (Nat.le_of_ble_eq_true rfl) rfl ?_
  refine g_iconst (Y := YX11_order) (pc := 17) dX11_order_17 kI_0 ?_
  refine g_istore_n (Y := YX11_order) (pc := 18) (L' := [(3, .int 0), (2, .int 0), (1, .int v2), (0, .ref 174)]) dX11_order_18 (Nat.le_of_ble_eq_true rfl) rfl ?_
  refine g_loc [3, 2, 1, 0] rfl ?_
  exact w_X11_order_19  _ _ _ _ _ hF
def f_X11_order (M : Mem) : Option (Int32 × Mem) := f_X11_order_0 M
theorem r_X11_order {R : Int32} {M M' : Mem}  (hF : f_X11_order  M = some (R, M')) : RunS l D cy ad YX11_order 406 [.ref 174] X M (some (.int R)) M' := Run.of 0 (miX11_order).1 (Nat.le_of_ble_eq_true rfl) (w_X11_order_0  _ hF)
def f_X11_canOrder_25  (t0 : Int32) (M : Mem) : Option (Int32 × Mem) :=
  gd (t0 = 0 ∨ t0 = 1) <|
  some (t0, M)
set_option maxRecDepth 100000 in
theorem w_X11_canOrder_25 {R : Int32} {M' : Mem}  (t0 : Int32) (M : Mem) (hF : f_X11_canOrder_25 t0 M = some (R, M')) : RunF l D cy ad none YX11_canOrder 2 0 0 (some (.int R)) (lay X M') 0 0 25 [] [.int t0] (lay X M) := by
  unfold f_X11_canOrder_25 at hF
  obtain ⟨g8, hF⟩ := gd_some hF
  exact s_zret (Y := YX11_canOrder) (pc := 25) dX11_canOrder_25 rfl g8 hF
def f_X11_canOrder_24  (M : Mem) : Option (Int32 × Mem) :=
  f_X11_canOrder_25 0 M
set_option maxRecDepth 100000 in
theorem w_X11_canOrder_24 {R : Int32} {M' : Mem}  (M : Mem) (hF : f_X11_canOrder_24  M = some (R, M')) : RunF l D cy ad none YX11_canOrder 2 0 0 (some (.int R)) (lay X M') 0 0 24 [] [] (lay X M) := by
  unfold f_X11_canOrder_24 at hF
  refine g_iconst (Y := YX11_canOrder) (pc := 24) dX11_canOrder_24 kI_0 ?_
  exact w_X11_canOrder_25  _ _ hF
def f_X11_canOrder_0  (x1 : Int32) (M : Mem) : Option (Int32 × Mem) :=
  bd (f_X11_everybody M) fun r1 M2 =>
  bd (f_X11_in x1 1 r1 M2) fun r4 M5 =>
  if r4 = 0 then
    f_X11_canOrder_24 M5
  else
    bd (f_X11_areOutside x1 M5) fun r9 M10 =>
    if r9 = 0 then
      f_X11_canOrder_24 M10
    else
      f_X11_canOrder_25 1 M10
set_option maxRecDepth 100000 in
theorem w_X11_canOrder_0 {R : Int32} {M' : Mem}  (x1 : Int32) (M : Mem) (hF : f_X11_canOrder_0 x1 M = some (R, M')) : RunF l D cy ad none YX11_canOrder 2 0 0 (some (.int R)) (lay X M') 0 0 0 [(0, .ref 174), (1, .int x1)] [] (lay X M) := by
  unfold f_X11_canOrder_0 at hF
  refine g_iload_n (Y := YX11_canOrder) (pc := 0) 1 dX11_canOrder_0 rfl ?_
  refine g_iconst (Y := YX11_canOrder) (pc := 1) dX11_canOrder_1 kI_1 ?_
  refine g_aload_n (Y := YX11_canOrder) (pc := 2) 0 dX11_canOrder_2 rfl ?_
  obtain ⟨r1, M2, e3, hF⟩ := bd_some hF
  refine s_callVi (Y := YX11_canOrder) (pc := 3) (as := []) (st := [.int 1, .int x1]) (r_X11_everybody  e3) miX11_everybody lk_X11_331 dX11_canOrder_3 k_174 rfl (Nat.le_of_ble_eq_true rfl) (Nat.le_of_ble_eq_true rfl) rfl ?_
  clear e3
  obtain ⟨r4, M5, e6, hF⟩ := bd_some hF
  refine s_callSi (Y := YX11_canOrder) (pc := 6) (as := [.int x1, .int 1, .int r1]) (st := []) (r_X11_in  e6) msX11_in lk_X11_109 dX11_canOrder_6 rfl (Nat.le_of_ble_eq_true rfl) (Nat.le_of_ble_eq_true rfl) rfl ?_
  clear e6
  refine g_if_eq (Y := YX11_canOrder) (pc := 9) (tgt := 24) dX11_canOrder_9 rfl (fun c7 => ?_) (fun c7 => ?_)
  · replace hF := if_t c7 hF
    refine g_loc [] rfl ?_
    exact w_X11_canOrder_24  _ hF
  · replace hF := if_f c7 hF
    refine g_aload_n (Y := YX11_canOrder) (pc := 12) 0 dX11_canOrder_12 rfl ?_
    refine g_iload_n (Y := YX11_canOrder) (pc := 13) 1 dX11_canOrder_13 rfl ?_
    obtain ⟨r9, M10, e11, hF⟩ := bd_some hF
    refine s_callVi (Y := YX11_canOrder) (pc := 14) (as := [.int x1]) (st := []) (r_X11_areOutside  e11) miX11_areOutside lk_X11_322 dX11_canOrder_14 k_174 rfl (Nat.le_of_ble_eq_true rfl) (Nat.le_of_ble_eq_true rfl) rfl ?_
    clear e11
    refine g_if_eq (Y := YX11_canOrder) (pc := 17) (tgt := 24) dX11_canOrder_17 rfl (fun c12 => ?_) (fun c12 => ?_)
    · replace hF := if_t c12 hF
      refine g_loc [] rfl ?_
      exact w_X11_canOrder_24  _ hF
    · replace hF := if_f c12 hF
      refine g_iconst (Y := YX11_canOrder) (pc := 20) dX11_canOrder_20 kI_1 ?_
      refine g_goto (Y := YX11_canOrder) (pc := 21) (tgt := 25) dX11_canOrder_21 rfl ?_
      refine g_loc [] rfl ?_
      exact w_X11_canOrder_25  _ _ hF
def f_X11_canOrder (x1 : Int32) (M : Mem) : Option (Int32 × Mem) := f_X11_canOrder_0 x1 M
theorem r_X11_canOrder {x1 R : Int32} {M M' : Mem}  (hF : f_X11_canOrder x1 M = some (R, M')) : RunS l D cy ad YX11_canOrder 2 [.ref 174, .int x1] X M (some (.int R)) M' := Run.of 1 (miX11_canOrder).1 (Nat.le_of_ble_eq_true rfl) (w_X11_canOrder_0  _ _ hF)
def f_X11_firstOrder_46 (K7 : Int32 → Int32 → Mem → Option (Int32 × Mem)) (x1 : Int32) (x2 : Int32) (M : Mem) : Option (Int32 × Mem) :=
  vl (x2 + 1) fun v10 =>
  K7 x1 v10 M
set_option maxRecDepth 100000 in
theorem w_X11_firstOrder_46 {R : Int32} {M' : Mem} {K7 : Int32 → Int32 → Mem → Option (Int32 × Mem)} (hK7 : ∀ (x1 x2 : Int32) (M : Mem), K7 x1 x2 M = some (R, M') → RunF l D cy ad none YX11_firstOrder 1 0 0 none (lay X M') 0 0 7 [(0, .ref 174), (1, .int x1), (2, .int x2)] [] (lay X M)) (x1 x2 : Int32) (M : Mem) (hF : f_X11_firstOrder_46 K7 x1 x2 M = some (R, M')) : RunF l D cy ad none YX11_firstOrder 1 0 0 none (lay X M') 0 0 46 [(0, .ref 174), (1, .int x1), (2, .int x2)] [] (lay X M) := by
  unfold f_X11_firstOrder_46 at hF
  refine s_iinc (Y := YX11_firstOrder) (pc := 46) (j := 2) (L' := fun y => [(2, .int y), (0, .ref 174), (1, .int x1)]) dX11_firstOrder_46 kI_1 rfl (Nat.le_of_ble_eq_true rfl) (fun _ => rfl) (fun v10 e => ?_)
  replace hF := vl_to e hF; clear e
  refine g_goto (Y := YX11_firstOrder) (pc := 49) (tgt := 7) dX11_firstOrder_49 rfl ?_
  refine g_loc [1, 2, 0] rfl ?_
  exact hK7 _ _ _ hF
def f_X11_firstOrder_7  : Nat → Int32 → Int32 → Mem → Option (Int32 × Mem)
  | 0, _, _, _ => none
  | n + 1, x1, x2, M =>
    if x2 < (M 174 3) then
      bd (f_X11_has x1 x2 M) fun r3 M4 =>
      if r3 = 0 then
        f_X11_firstOrder_46 (f_X11_firstOrder_7 n) x1 x2 M4
      else
        gd (0 ≤ (M4 174 37) ∧ (M4 174 37).toNatClampNeg < 6) <|
        ml (up M4 192 (M4 174 37).toNatClampNeg x2) fun M8 =>
        ml (up M8 174 37 ((M8 174 37) + 1)) fun M9 =>
        f_X11_firstOrder_46 (f_X11_firstOrder_7 n) x1 x2 M9
    else
      some (0, M)
set_option maxRecDepth 100000 in
theorem w_X11_firstOrder_7 {R : Int32} {M' : Mem}  : ∀ (n : Nat) (x1 x2 : Int32) (M : Mem), f_X11_firstOrder_7 n x1 x2 M = some (R, M') → RunF l D cy ad none YX11_firstOrder 1 0 0 none (lay X M') 0 0 7 [(0, .ref 174), (1, .int x1), (2, .int x2)] [] (lay X M) := by
  intro n
  induction n with
  | zero => intro x1 x2 M hF; exact absurd hF (by unfold f_X11_firstOrder_7; exact fun h => nomatch h)
  | succ n ih =>
    intro x1 x2 M hF
    unfold f_X11_firstOrder_7 at hF
    refine g_iload_n (Y := YX11_firstOrder) (pc := 7) 2 dX11_firstOrder_7 rfl ?_
    refine g_aload_n (Y := YX11_firstOrder) (pc := 8) 0 dX11_firstOrder_8 rfl ?_
    refine u_getI (Y := YX11_firstOrder) (pc := 9) dX11_firstOrder_9 fl_X11_113 k_174 ?_
    refine g_icmp_ge (Y := YX11_firstOrder) (pc := 12) (tgt := 52) dX11_firstOrder_12 rfl (fun c2 => ?_) (fun c2 => ?_)
    · replace hF := if_f c2 hF
      exact s_vret (Y := YX11_firstOrder) (pc := 52) dX11_firstOrder_52 rfl hF
    · replace hF := if_t c2 hF
      refine g_iload_n (Y := YX11_firstOrder) (pc := 15) 1 dX11_firstOrder_15 rfl ?_
      refine g_iload_n (Y := YX11_firstOrder) (pc := 16) 2 dX11_firstOrder_16 rfl ?_
      obtain ⟨r3, M4, e5, hF⟩ := bd_some hF
      refine s_callSi (Y := YX11_firstOrder) (pc := 17) (as := [.int x1, .int x2]) (st := []) (r_X11_has  e5) msX11_has lk_X11_209 dX11_firstOrder_17 rfl (Nat.le_of_ble_eq_true rfl) (Nat.le_of_ble_eq_true rfl) rfl ?_
      clear e5
      refine g_if_ne (Y := YX11_firstOrder) (pc := 20) (tgt := 26) dX11_firstOrder_20 rfl (fun c6 => ?_) (fun c6 => ?_)
      · replace hF := if_f c6 hF
        refine g_aload_n (Y := YX11_firstOrder) (pc := 26) 0 dX11_firstOrder_26 rfl ?_
        refine u_getR (Y := YX11_firstOrder) (pc := 27) (j := 192) dX11_firstOrder_27 fl_X11_63 k_174 rf_174_36 ?_
        refine g_aload_n (Y := YX11_firstOrder) (pc := 30) 0 dX11_firstOrder_30 rfl ?_
        refine u_getI (Y := YX11_firstOrder) (pc := 31) dX11_firstOrder_31 fl_X11_315 k_174 ?_
        refine g_iload_n (Y := YX11_firstOrder) (pc := 34) 2 dX11_firstOrder_34 rfl ?_
        obtain ⟨g7, hF⟩ := gd_some hF
        refine s_iast (Y := YX11_firstOrder) (pc := 35) dX11_firstOrder_35 k_192 n_192 g7 ?_
        refine g_nmM (fun M8 e => ?_)
        replace hF := ml_to e hF; clear e
        refine g_aload_n (Y := YX11_firstOrder) (pc := 36) 0 dX11_firstOrder_36 rfl ?_
        refine g_dup (Y := YX11_firstOrder) (pc := 37) dX11_firstOrder_37 rfl ?_
        refine u_getI (Y := YX11_firstOrder) (pc := 38) dX11_firstOrder_38 fl_X11_315 k_174 ?_
        refine g_iconst (Y := YX11_firstOrder) (pc := 41) dX11_firstOrder_41 kI_1 ?_
        refine g_iadd (Y := YX11_firstOrder) (pc := 42) dX11_firstOrder_42 ?_
        refine u_putI (Y := YX11_firstOrder) (pc := 43) dX11_firstOrder_43 fl_X11_315  k_174 ?_
        refine g_nmM (fun M9 e => ?_)
        replace hF := ml_to e hF; clear e
        exact w_X11_firstOrder_46 ih _ _ _ hF
      · replace hF := if_t c6 hF
        refine g_goto (Y := YX11_firstOrder) (pc := 23) (tgt := 46) dX11_firstOrder_23 rfl ?_
        exact w_X11_firstOrder_46 ih _ _ _ hF
def f_X11_firstOrder_0  (x1 : Int32) (M : Mem) : Option (Int32 × Mem) :=
  ml (up M 174 37 0) fun M1 =>
  f_X11_firstOrder_7 FU x1 0 M1
set_option maxRecDepth 100000 in
theorem w_X11_firstOrder_0 {R : Int32} {M' : Mem}  (x1 : Int32) (M : Mem) (hF : f_X11_firstOrder_0 x1 M = some (R, M')) : RunF l D cy ad none YX11_firstOrder 1 0 0 none (lay X M') 0 0 0 [(0, .ref 174), (1, .int x1)] [] (lay X M) := by
  unfold f_X11_firstOrder_0 at hF
  refine g_aload_n (Y := YX11_firstOrder) (pc := 0) 0 dX11_firstOrder_0 rfl ?_
  refine g_iconst (Y := YX11_firstOrder) (pc := 1) dX11_firstOrder_1 kI_0 ?_
  refine u_putI (Y := YX11_firstOrder) (pc := 2) dX11_firstOrder_2 fl_X11_315  k_174 ?_
  refine g_nmM (fun M1 e => ?_)
  replace hF := ml_to e hF; clear e
  refine g_iconst (Y := YX11_firstOrder) (pc := 5) dX11_firstOrder_5 kI_0 ?_
  refine g_istore_n (Y := YX11_firstOrder) (pc := 6) (L' := [(2, .int 0), (0, .ref 174), (1, .int x1)]) dX11_firstOrder_6 (Nat.le_of_ble_eq_true rfl) rfl ?_
  refine g_loc [1, 2, 0] rfl ?_
  exact w_X11_firstOrder_7  _ _ _ _ hF
def f_X11_firstOrder (x1 : Int32) (M : Mem) : Option (Int32 × Mem) := f_X11_firstOrder_0 x1 M
theorem r_X11_firstOrder {x1 R : Int32} {M M' : Mem}  (hF : f_X11_firstOrder x1 M = some (R, M')) : RunS l D cy ad YX11_firstOrder 1 [.ref 174, .int x1] X M none M' := Run.of 1 (miX11_firstOrder).1 (Nat.le_of_ble_eq_true rfl) (w_X11_firstOrder_0  _ _ hF)
def f_X11_swapOrder_0  (x1 : Int32) (x2 : Int32) (M : Mem) : Option (Int32 × Mem) :=
  gd (0 ≤ x1 ∧ x1.toNatClampNeg < 6) <|
  vl ((M 192 x1.toNatClampNeg)) fun v2 =>
  gd (0 ≤ x2 ∧ x2.toNatClampNeg < 6) <|
  gd (0 ≤ x1 ∧ x1.toNatClampNeg < 6) <|
  ml (up M 192 x1.toNatClampNeg (M 192 x2.toNatClampNeg)) fun M5 =>
  gd (0 ≤ x2 ∧ x2.toNatClampNeg < 6) <|
  ml (up M5 192 x2.toNatClampNeg v2) fun M7 =>
  some (0, M7)
set_option maxRecDepth 100000 in
theorem w_X11_swapOrder_0 {R : Int32} {M' : Mem}  (x1 x2 : Int32) (M : Mem) (hF : f_X11_swapOrder_0 x1 x2 M = some (R, M')) : RunF l D cy ad none YX11_swapOrder 0 0 0 none (lay X M') 0 0 0 [(0, .ref 174), (1, .int x1), (2, .int x2)] [] (lay X M) := by
  unfold f_X11_swapOrder_0 at hF
  refine g_aload_n (Y := YX11_swapOrder) (pc := 0) 0 dX11_swapOrder_0 rfl ?_
  refine u_getR (Y := YX11_swapOrder) (pc := 1) (j := 192) dX11_swapOrder_1 fl_X11_63 k_174 rf_174_36 ?_
  refine g_iload_n (Y := YX11_swapOrder) (pc := 4) 1 dX11_swapOrder_4 rfl ?_
  obtain ⟨g1, hF⟩ := gd_some hF
  refine s_iald (Y := YX11_swapOrder) (pc := 5) dX11_swapOrder_5 k_192 n_192 g1 ?_
  refine g_nm (fun v2 e => ?_)
  replace hF := vl_to e hF; clear e
  refine g_istore_n (Y := YX11_swapOrder) (pc := 6) (L' := [(3, .int v2), (0, .ref 174), (1, .int x1), (2, .int x2)]) dX11_swapOrder_6 (Nat.le_of_ble_eq_true rfl) rfl ?_
  refine g_aload_n (Y := YX11_swapOrder) (pc := 7) 1 dX11_swapOrder_7 rfl ?_
  refine u_getR (Y := YX11_swapOrder) (pc := 8) (j := 192) dX11_swapOrder_8 fl_X11_63 k_174 rf_174_36 ?_
  refine g_iload_n (Y := YX11_swapOrder) (pc := 11) 2 dX11_swapOrder_11 rfl ?_
  refine g_aload_n (Y := YX11_swapOrder) (pc := 12) 1 dX11_swapOrder_12 rfl ?_
  refine u_getR (Y := YX11_swapOrder) (pc := 13) (j := 192) dX11_swapOrder_13 fl_X11_63 k_174 rf_174_36 ?_
  refine g_iload_n (Y := YX11_swapOrder) (pc := 16) 3 dX11_swapOrder_16 rfl ?_
  obtain ⟨g3, hF⟩ := gd_some hF
  refine s_iald (Y := YX11_swapOrder) (pc := 17) dX11_swapOrder_17 k_192 n_192 g3 ?_
  obtain ⟨g4, hF⟩ := gd_some hF
  refine s_iast (Y := YX11_swapOrder) (pc := 18) dX11_swapOrder_18 k_192 n_192 g4 ?_
  refine g_nmM (fun M5 e => ?_)
  replace hF := ml_to e hF; clear e
  refine g_aload_n (Y := YX11_swapOrder) (pc := 19) 1 dX11_swapOrder_19 rfl ?_
  refine u_getR (Y := YX11_swapOrder) (pc := 20) (j := 192) dX11_swapOrder_20 fl_X11_63 k_174 rf_174_36 ?_
  refine g_iload_n (Y := YX11_swapOrder) (pc := 23) 3 dX11_swapOrder_23 rfl ?_
  refine g_iload_n (Y := YX11_swapOrder) (pc := 24) 0 dX11_swapOrder_24 rfl ?_
  obtain ⟨g6, hF⟩ := gd_some hF
  refine s_iast (Y := YX11_swapOrder) (pc := 25) dX11_swapOrder_25 k_192 n_192 g6 ?_
  refine g_nmM (fun M7 e => ?_)
  replace hF := ml_to e hF; clear e
  exact s_vret (Y := YX11_swapOrder) (pc := 26) dX11_swapOrder_26 rfl hF
def f_X11_swapOrder (x1 : Int32) (x2 : Int32) (M : Mem) : Option (Int32 × Mem) := f_X11_swapOrder_0 x1 x2 M
theorem r_X11_swapOrder {x1 x2 R : Int32} {M M' : Mem}  (hF : f_X11_swapOrder x1 x2 M = some (R, M')) : RunS l D cy ad YX11_swapOrder 0 [.ref 174, .int x1, .int x2] X M none M' := Run.of 2 (miX11_swapOrder).1 (Nat.le_of_ble_eq_true rfl) (w_X11_swapOrder_0  _ _ _ hF)
def f_X11_nextOrder_86  : Nat → Int32 → Int32 → Mem → Option (Int32 × Mem)
  | 0, _, _, _ => none
  | n + 1, x3, x4, M =>
    if x3 < x4 then
      bd (f_X11_swapOrder x3 x4 M) fun _ M15 =>
      vl (x3 + 1) fun v17 =>
      vl (x4 + (-1)) fun v18 =>
      f_X11_nextOrder_86 n v17 v18 M15
    else
      some (1, M)
set_option maxRecDepth 100000 in
theorem w_X11_nextOrder_86 {R : Int32} {M' : Mem}  : ∀ (n : Nat) (x3 x4 : Int32) (M : Mem), f_X11_nextOrder_86 n x3 x4 M = some (R, M') → RunF l D cy ad none YX11_nextOrder 1 0 0 (some (.int R)) (lay X M') 0 0 86 [(0, .ref 174), (3, .int x3), (4, .int x4)] [] (lay X M) := by
  intro n
  induction n with
  | zero => intro x3 x4 M hF; exact absurd hF (by unfold f_X11_nextOrder_86; exact fun h => nomatch h)
  | succ n ih =>
    intro x3 x4 M hF
    unfold f_X11_nextOrder_86 at hF
    refine g_iload_n (Y := YX11_nextOrder) (pc := 86) 1 dX11_nextOrder_86 rfl ?_
    refine g_iload (Y := YX11_nextOrder) (pc := 87) 2 dX11_nextOrder_87 rfl ?_
    refine g_icmp_ge (Y := YX11_nextOrder) (pc := 89) (tgt := 108) dX11_nextOrder_89 rfl (fun c13 => ?_) (fun c13 => ?_)
    · replace hF := if_f c13 hF
      refine g_iconst (Y := YX11_nextOrder) (pc := 108) dX11_nextOrder_108 kI_1 ?_
      exact s_zret (Y := YX11_nextOrder) (pc := 109) dX11_nextOrder_109 rfl (Or.inr rfl) hF
    · replace hF := if_t c13 hF
      refine g_aload_n (Y := YX11_nextOrder) (pc := 92) 0 dX11_nextOrder_92 rfl ?_
      refine g_iload_n (Y := YX11_nextOrder) (pc := 93) 1 dX11_nextOrder_93 rfl ?_
      refine g_iload (Y := YX11_nextOrder) (pc := 94) 2 dX11_nextOrder_94 rfl ?_
      obtain ⟨r14, M15, e16, hF⟩ := bd_some hF
      refine s_callVv (Y := YX11_nextOrder) (pc := 96) (as := [.int x3, .int x4]) (st := []) (r_X11_swapOrder  e16) miX11_swapOrder lk_X11_334 dX11_nextOrder_96 k_174 rfl (Nat.le_of_ble_eq_true rfl) (Nat.le_of_ble_eq_true rfl) rfl ?_
      clear e16
      refine s_iinc (Y := YX11_nextOrder) (pc := 99) (j := 1) (L' := fun y => [(3, .int y), (0, .ref 174), (4, .int x4)]) dX11_nextOrder_99 kI_1 rfl (Nat.le_of_ble_eq_true rfl) (fun _ => rfl) (fun v17 e => ?_)
      replace hF := vl_to e hF; clear e
      refine s_iinc (Y := YX11_nextOrder) (pc := 102) (j := 2) (L' := fun y => [(4, .int y), (3, .int v17), (0, .ref 174)]) dX11_nextOrder_102 kI_m1 rfl (Nat.le_of_ble_eq_true rfl) (fun _ => rfl) (fun v18 e => ?_)
      replace hF := vl_to e hF; clear e
      refine g_goto (Y := YX11_nextOrder) (pc := 105) (tgt := 86) dX11_nextOrder_105 rfl ?_
      refine g_loc [2, 1, 0] rfl ?_
      exact ih _ _ _ hF
def f_X11_nextOrder_47  : Nat → Int32 → Int32 → Mem → Option (Int32 × Mem)
  | 0, _, _, _ => none
  | n + 1, x1, x2, M =>
    gd (0 ≤ x2 ∧ x2.toNatClampNeg < 6) <|
    gd (0 ≤ x1 ∧ x1.toNatClampNeg < 6) <|
    if (M 192 x2.toNatClampNeg) < (M 192 x1.toNatClampNeg) then
      vl (x2 + (-1)) fun v19 =>
      f_X11_nextOrder_47 n x1 v19 M
    else
      bd (f_X11_swapOrder x1 x2 M) fun _ M9 =>
      vl ((x1 + 1)) fun v11 =>
      vl (((M9 174 37) - 1)) fun v12 =>
      f_X11_nextOrder_86 FU v11 v12 M9
set_option maxRecDepth 100000 in
theorem w_X11_nextOrder_47 {R : Int32} {M' : Mem}  : ∀ (n : Nat) (x1 x2 : Int32) (M : Mem), f_X11_nextOrder_47 n x1 x2 M = some (R, M') → RunF l D cy ad none YX11_nextOrder 1 0 0 (some (.int R)) (lay X M') 0 0 47 [(0, .ref 174), (1, .int x1), (2, .int x2)] [] (lay X M) := by
  intro n
  induction n with
  | zero => intro x1 x2 M hF; exact absurd hF (by unfold f_X11_nextOrder_47; exact fun h => nomatch h)
  | succ n ih =>
    intro x1 x2 M hF
    unfold f_X11_nextOrder_47 at hF
    refine g_aload_n (Y := YX11_nextOrder) (pc := 47) 0 dX11_nextOrder_47 rfl ?_
    refine u_getR (Y := YX11_nextOrder) (pc := 48) (j := 192) dX11_nextOrder_48 fl_X11_63 k_174 rf_174_36 ?_
    refine g_iload_n (Y := YX11_nextOrder) (pc := 51) 2 dX11_nextOrder_51 rfl ?_
    obtain ⟨g5, hF⟩ := gd_some hF
    refine s_iald (Y := YX11_nextOrder) (pc := 52) dX11_nextOrder_52 k_192 n_192 g5 ?_
    refine g_aload_n (Y := YX11_nextOrder) (pc := 53) 0 dX11_nextOrder_53 rfl ?_
    refine u_getR (Y := YX11_nextOrder) (pc := 54) (j := 192) dX11_nextOrder_54 fl_X11_63 k_174 rf_174_36 ?_
    refine g_iload_n (Y := YX11_nextOrder) (pc := 57) 1 dX11_nextOrder_57 rfl ?_
    obtain ⟨g6, hF⟩ := gd_some hF
    refine s_iald (Y := YX11_nextOrder) (pc := 58) dX11_nextOrder_58 k_192 n_192 g6 ?_
    refine g_icmp_ge (Y := YX11_nextOrder) (pc := 59) (tgt := 68) dX11_nextOrder_59 rfl (fun c7 => ?_) (fun c7 => ?_)
    · replace hF := if_f c7 hF
      refine g_aload_n (Y := YX11_nextOrder) (pc := 68) 0 dX11_nextOrder_68 rfl ?_
      refine g_iload_n (Y := YX11_nextOrder) (pc := 69) 1 dX11_nextOrder_69 rfl ?_
      refine g_iload_n (Y := YX11_nextOrder) (pc := 70) 2 dX11_nextOrder_70 rfl ?_
      obtain ⟨r8, M9, e10, hF⟩ := bd_some hF
      refine s_callVv (Y := YX11_nextOrder) (pc := 71) (as := [.int x1, .int x2]) (st := []) (r_X11_swapOrder  e10) miX11_swapOrder lk_X11_334 dX11_nextOrder_71 k_174 rfl (Nat.le_of_ble_eq_true rfl) (Nat.le_of_ble_eq_true rfl) rfl ?_
      clear e10
      refine g_iload_n (Y := YX11_nextOrder) (pc := 74) 1 dX11_nextOrder_74 rfl ?_
      refine g_iconst (Y := YX11_nextOrder) (pc := 75) dX11_nextOrder_75 kI_1 ?_
      refine g_iadd (Y := YX11_nextOrder) (pc := 76) dX11_nextOrder_76 ?_
      refine g_nm (fun v11 e => ?_)
      replace hF := vl_to e hF; clear e
      refine g_istore_n (Y := YX11_nextOrder) (pc := 77) (L' := [(3, .int v11), (0, .ref 174), (1, .int x1), (2, .int x2)]) dX11_nextOrder_77 (Nat.le_of_ble_eq_true rfl) rfl ?_
      refine g_aload_n (Y := YX11_nextOrder) (pc := 78) 1 dX11_nextOrder_78 rfl ?_
      refine u_getI (Y := YX11_nextOrder) (pc := 79) dX11_nextOrder_79 fl_X11_315 k_174 ?_
      refine g_iconst (Y := YX11_nextOrder) (pc := 82) dX11_nextOrder_82 kI_1 ?_
      refine g_isub (Y := YX11_nextOrder) (pc := 83) dX11_nextOrder_83 ?_
      refine g_nm (fun v12 e => ?_)
      replace hF := vl_to e hF; clear e
      refine g_istore (Y := YX11_nextOrder) (pc := 84) (L' := [(4, .int v12), (3, .int v11), (0, .ref 174), (1, .int x1), (2, .int x2)]) dX11_nextOrder_84 (Nat.le_of_ble_eq_true rfl) rfl ?_
      refine g_loc [2, 1, 0] rfl ?_
      exact w_X11_nextOrder_86  _ _ _ _ hF
    · replace hF := if_t c7 hF
      refine s_iinc (Y := YX11_nextOrder) (pc := 62) (j := 2) (L' := fun y => [(2, .int y), (0, .ref 174), (1, .int x1)]) dX11_nextOrder_62 kI_m1 rfl (Nat.le_of_ble_eq_true rfl) (fun _ => rfl) (fun v19 e => ?_)
      replace hF := vl_to e hF; clear e
      refine g_goto (Y := YX11_nextOrder) (pc := 65) (tgt := 47) dX11_nextOrder_65 rfl ?_
      refine g_loc [1, 2, 0] rfl ?_
      exact ih _ _ _ hF
def f_X11_nextOrder_34  (x1 : Int32) (M : Mem) : Option (Int32 × Mem) :=
  if x1 < 0 then
    some (0, M)
  else
    vl (((M 174 37) - 1)) fun v4 =>
    f_X11_nextOrder_47 FU x1 v4 M
set_option maxRecDepth 100000 in
theorem w_X11_nextOrder_34 {R : Int32} {M' : Mem}  (x1 : Int32) (M : Mem) (hF : f_X11_nextOrder_34 x1 M = some (R, M')) : RunF l D cy ad none YX11_nextOrder 1 0 0 (some (.int R)) (lay X M') 0 0 34 [(0, .ref 174), (1, .int x1)] [] (lay X M) := by
  unfold f_X11_nextOrder_34 at hF
  refine g_iload_n (Y := YX11_nextOrder) (pc := 34) 1 dX11_nextOrder_34 rfl ?_
  refine g_if_ge (Y := YX11_nextOrder) (pc := 35) (tgt := 40) dX11_nextOrder_35 rfl (fun c3 => ?_) (fun c3 => ?_)
  · replace hF := if_f c3 hF
    refine g_aload_n (Y := YX11_nextOrder) (pc := 40) 0 dX11_nextOrder_40 rfl ?_
    refine u_getI (Y := YX11_nextOrder) (pc := 41) dX11_nextOrder_41 fl_X11_315 k_174 ?_
    refine g_iconst (Y := YX11_nextOrder) (pc := 44) dX11_nextOrder_44 kI_1 ?_
    refine g_isub (Y := YX11_nextOrder) (pc := 45) dX11_nextOrder_45 ?_
    refine g_nm (fun v4 e => ?_)
    replace hF := vl_to e hF; clear e
    refine g_istore_n (Y := YX11_nextOrder) (pc := 46) (L' := [(2, .int v4), (0, .ref 174), (1, .int x1)]) dX11_nextOrder_46 (Nat.le_of_ble_eq_true rfl) rfl ?_
    refine g_loc [1, 2, 0] rfl ?_
    exact w_X11_nextOrder_47  _ _ _ _ hF
  · replace hF := if_t c3 hF
    refine g_iconst (Y := YX11_nextOrder) (pc := 38) dX11_nextOrder_38 kI_0 ?_
    exact s_zret (Y := YX11_nextOrder) (pc := 39) dX11_nextOrder_39 rfl (Or.inl rfl) hF
def f_X11_nextOrder_7  : Nat → Int32 → Mem → Option (Int32 × Mem)
  | 0, _, _ => none
  | n + 1, x1, M =>
    if x1 < 0 then
      f_X11_nextOrder_34 x1 M
    else
      gd (0 ≤ x1 ∧ x1.toNatClampNeg < 6) <|
      gd (0 ≤ (x1 + 1) ∧ (x1 + 1).toNatClampNeg < 6) <|
      if (M 192 (x1 + 1).toNatClampNeg) < (M 192 x1.toNatClampNeg) then
        vl (x1 + (-1)) fun v23 =>
        f_X11_nextOrder_7 n v23 M
      else
        f_X11_nextOrder_34 x1 M
set_option maxRecDepth 100000 in
theorem w_X11_nextOrder_7 {R : Int32} {M' : Mem}  : ∀ (n : Nat) (x1 : Int32) (M : Mem), f_X11_nextOrder_7 n x1 M = some (R, M') → RunF l D cy ad none YX11_nextOrder 1 0 0 (some (.int R)) (lay X M') 0 0 7 [(0, .ref 174), (1, .int x1)] [] (lay X M) := by
  intro n
  induction n with
  | zero => intro x1 M hF; exact absurd hF (by unfold f_X11_nextOrder_7; exact fun h => nomatch h)
  | succ n ih =>
    intro x1 M hF
    unfold f_X11_nextOrder_7 at hF
    refine g_iload_n (Y := YX11_nextOrder) (pc := 7) 1 dX11_nextOrder_7 rfl ?_
    refine g_if_lt (Y := YX11_nextOrder) (pc := 8) (tgt := 34) dX11_nextOrder_8 rfl (fun c2 => ?_) (fun c2 => ?_)
    · replace hF := if_t c2 hF
      exact w_X11_nextOrder_34  _ _ hF
    · replace hF := if_f c2 hF
      refine g_aload_n (Y := YX11_nextOrder) (pc := 11) 0 dX11_nextOrder_11 rfl ?_
      refine u_getR (Y := YX11_nextOrder) (pc := 12) (j := 192) dX11_nextOrder_12 fl_X11_63 k_174 rf_174_36 ?_
      refine g_iload_n (Y := YX11_nextOrder) (pc := 15) 1 dX11_nextOrder_15 rfl ?_
      obtain ⟨g20, hF⟩ := gd_some hF
      refine s_iald (Y := YX11_nextOrder) (pc := 16) dX11_nextOrder_16 k_192 n_192 g20 ?_
      refine g_aload_n (Y := YX11_nextOrder) (pc := 17) 0 dX11_nextOrder_17 rfl ?_
      refine u_getR (Y := YX11_nextOrder) (pc := 18) (j := 192) dX11_nextOrder_18 fl_X11_63 k_174 rf_174_36 ?_
      refine g_iload_n (Y := YX11_nextOrder) (pc := 21) 1 dX11_nextOrder_21 rfl ?_
      refine g_iconst (Y := YX11_nextOrder) (pc := 22) dX11_nextOrder_22 kI_1 ?_
      refine g_iadd (Y := YX11_nextOrder) (pc := 23) dX11_nextOrder_23 ?_
      obtain ⟨g21, hF⟩ := gd_some hF
      refine s_iald (Y := YX11_nextOrder) (pc := 24) dX11_nextOrder_24 k_192 n_192 g21 ?_
      refine g_icmp_le (Y := YX11_nextOrder) (pc := 25) (tgt := 34) dX11_nextOrder_25 rfl (fun c22 => ?_) (fun c22 => ?_)
      · replace hF := if_f c22 hF
        exact w_X11_nextOrder_34  _ _ hF
      · replace hF := if_t c22 hF
        refine s_iinc (Y := YX11_nextOrder) (pc := 28) (j := 1) (L' := fun y => [(1, .int y), (0, .ref 174)]) dX11_nextOrder_28 kI_m1 rfl (Nat.le_of_ble_eq_true rfl) (fun _ => rfl) (fun v23 e => ?_)
        replace hF := vl_to e hF; clear e
        refine g_goto (Y := YX11_nextOrder) (pc := 31) (tgt := 7) dX11_nextOrder_31 rfl ?_
        refine g_loc [1, 0] rfl ?_
        exact ih _ _ hF
def f_X11_nextOrder_0  (M : Mem) : Option (Int32 × Mem) :=
  vl (((M 174 37) - 2)) fun v1 =>
  f_X11_nextOrder_7 FU v1 M
set_option maxRecDepth 100000 in
theorem w_X11_nextOrder_0 {R : Int32} {M' : Mem}  (M : Mem) (hF : f_X11_nextOrder_0  M = some (R, M')) : RunF l D cy ad none YX11_nextOrder 1 0 0 (some (.int R)) (lay X M') 0 0 0 [(0, .ref 174)] [] (lay X M) := by
  unfold f_X11_nextOrder_0 at hF
  refine g_aload_n (Y := YX11_nextOrder) (pc := 0) 0 dX11_nextOrder_0 rfl ?_
  refine u_getI (Y := YX11_nextOrder) (pc := 1) dX11_nextOrder_1 fl_X11_315 k_174 ?_
  refine g_iconst (Y := YX11_nextOrder) (pc := 4) dX11_nextOrder_4 kI_2 ?_
  refine g_isub (Y := YX11_nextOrder) (pc := 5) dX11_nextOrder_5 ?_
  refine g_nm (fun v1 e => ?_)
  replace hF := vl_to e hF; clear e
  refine g_istore_n (Y := YX11_nextOrder) (pc := 6) (L' := [(1, .int v1), (0, .ref 174)]) dX11_nextOrder_6 (Nat.le_of_ble_eq_true rfl) rfl ?_
  refine g_loc [1, 0] rfl ?_
  exact w_X11_nextOrder_7  _ _ _ hF
def f_X11_nextOrder (M : Mem) : Option (Int32 × Mem) := f_X11_nextOrder_0 M
theorem r_X11_nextOrder {R : Int32} {M M' : Mem}  (hF : f_X11_nextOrder  M = some (R, M')) : RunS l D cy ad YX11_nextOrder 1 [.ref 174] X M (some (.int R)) M' := Run.of 0 (miX11_nextOrder).1 (Nat.le_of_ble_eq_true rfl) (w_X11_nextOrder_0  _ hF)
def f_X11_findBest_167 (K21 : Int32 → Int32 → Mem → Option (Int32 × Mem)) (x2 : Int32) (M : Mem) : Option (Int32 × Mem) :=
  bd (f_X11_nextOrder M) fun r16 M17 =>
  K21 x2 r16 M17
set_option maxRecDepth 100000 in
theorem w_X11_findBest_167 {R : Int32} {M' : Mem} {K21 : Int32 → Int32 → Mem → Option (Int32 × Mem)} (hK21 : ∀ (x2 x3 : Int32) (M : Mem), K21 x2 x3 M = some (R, M') → RunF l D cy ad none YX11_findBest 6 0 0 none (lay X M') 0 0 21 [(0, .ref 174), (2, .int x2), (3, .int x3)] [] (lay X M)) (x2 : Int32) (M : Mem) (hF : f_X11_findBest_167 K21 x2 M = some (R, M')) : RunF l D cy ad none YX11_findBest 6 0 0 none (lay X M') 0 0 167 [(0, .ref 174), (2, .int x2)] [] (lay X M) := by
  unfold f_X11_findBest_167 at hF
  refine g_aload_n (Y := YX11_findBest) (pc := 167) 0 dX11_findBest_167 rfl ?_
  obtain ⟨r16, M17, e18, hF⟩ := bd_some hF
  refine s_callVi (Y := YX11_findBest) (pc := 168) (as := []) (st := []) (r_X11_nextOrder  e18) miX11_nextOrder lk_X11_347 dX11_findBest_168 k_174 rfl (Nat.le_of_ble_eq_true rfl) (Nat.le_of_ble_eq_true rfl) rfl ?_
  clear e18
  refine g_istore_n (Y := YX11_findBest) (pc := 171) (L' := [(3, .int r16), (0, .ref 174), (2, .int x2)]) dX11_findBest_171 (Nat.le_of_ble_eq_true rfl) rfl ?_
  refine g_goto (Y := YX11_findBest) (pc := 172) (tgt := 21) dX11_findBest_172 rfl ?_
  refine g_loc [1, 2, 0] rfl ?_
  exact hK21 _ _ _ hF
def f_X11_findBest_138 (K21 : Int32 → Int32 → Mem → Option (Int32 × Mem)) : Nat → Int32 → Int32 → Mem → Option (Int32 × Mem)
  | 0, _, _, _ => none
  | n + 1, x2, x7, M =>
    if x7 < (M 174 37) then
      gd (0 ≤ x7 ∧ x7.toNatClampNeg < 6) <|
      gd (0 ≤ x7 ∧ x7.toNatClampNeg < 6) <|
      ml (up M 193 x7.toNatClampNeg (M 192 x7.toNatClampNeg)) fun M25 =>
      vl (x7 + 1) fun v26 =>
      f_X11_findBest_138 K21 n x2 v26 M25
    else
      f_X11_findBest_167 K21 x2 M
set_option maxRecDepth 100000 in
theorem w_X11_findBest_138 {R : Int32} {M' : Mem} {K21 : Int32 → Int32 → Mem → Option (Int32 × Mem)} (hK21 : ∀ (x2 x3 : Int32) (M : Mem), K21 x2 x3 M = some (R, M') → RunF l D cy ad none YX11_findBest 6 0 0 none (lay X M') 0 0 21 [(0, .ref 174), (2, .int x2), (3, .int x3)] [] (lay X M)) : ∀ (n : Nat) (x2 x7 : Int32) (M : Mem), f_X11_findBest_138 K21 n x2 x7 M = some (R, M') → RunF l D cy ad none YX11_findBest 6 0 0 none (lay X M') 0 0 138 [(0, .ref 174), (2, .int x2), (7, .int x7)] [] (lay X M) := by
  intro n
  induction n with
  | zero => intro x2 x7 M hF; exact absurd hF (by unfold f_X11_findBest_138; exact fun h => nomatch h)
  | succ n ih =>
    intro x2 x7 M hF
    unfold f_X11_findBest_138 at hF
    refine g_iload (Y := YX11_findBest) (pc := 138) 2 dX11_findBest_138 rfl ?_
    refine g_aload_n (Y := YX11_findBest) (pc := 140) 0 dX11_findBest_140 rfl ?_
    refine u_getI (Y := YX11_findBest) (pc := 141) dX11_findBest_141 fl_X11_315 k_174 ?_
    refine g_icmp_ge (Y := YX11_findBest) (pc := 144) (tgt := 167) dX11_findBest_144 rfl (fun c22 => ?_) (fun c22 => ?_)
    · replace hF := if_f c22 hF
      refine g_loc [0, 1] rfl ?_
      exact w_X11_findBest_167 hK21 _ _ hF
    · replace hF := if_t c22 hF
      refine g_aload_n (Y := YX11_findBest) (pc := 147) 0 dX11_findBest_147 rfl ?_
      refine u_getR (Y := YX11_findBest) (pc := 148) (j := 193) dX11_findBest_148 fl_X11_66 k_174 rf_174_38 ?_
      refine g_iload (Y := YX11_findBest) (pc := 151) 2 dX11_findBest_151 rfl ?_
      refine g_aload_n (Y := YX11_findBest) (pc := 153) 0 dX11_findBest_153 rfl ?_
      refine u_getR (Y := YX11_findBest) (pc := 154) (j := 192) dX11_findBest_154 fl_X11_63 k_174 rf_174_36 ?_
      refine g_iload (Y := YX11_findBest) (pc := 157) 2 dX11_findBest_157 rfl ?_
      obtain ⟨g23, hF⟩ := gd_some hF
      refine s_iald (Y := YX11_findBest) (pc := 159) dX11_findBest_159 k_192 n_192 g23 ?_
      obtain ⟨g24, hF⟩ := gd_some hF
      refine s_iast (Y := YX11_findBest) (pc := 160) dX11_findBest_160 k_193 n_193 g24 ?_
      refine g_nmM (fun M25 e => ?_)
      replace hF := ml_to e hF; clear e
      refine s_iinc (Y := YX11_findBest) (pc := 161) (j := 2) (L' := fun y => [(7, .int y), (0, .ref 174), (2, .int x2)]) dX11_findBest_161 kI_1 rfl (Nat.le_of_ble_eq_true rfl) (fun _ => rfl) (fun v26 e => ?_)
      replace hF := vl_to e hF; clear e
      refine g_goto (Y := YX11_findBest) (pc := 164) (tgt := 138) dX11_findBest_164 rfl ?_
      refine g_loc [1, 2, 0] rfl ?_
      exact ih _ _ _ hF
def f_X11_findBest_108 (K21 : Int32 → Int32 → Mem → Option (Int32 × Mem)) (x2 : Int32) (x4 : Int32) (x5 : Int32) (t0 : Int32) (M : Mem) : Option (Int32 × Mem) :=
  if x4 < 1000000 then
    if t0 = 0 then
      f_X11_findBest_167 K21 x2 M
    else
      ml (up M 174 39 x4) fun M20 =>
      ml (up M20 174 40 x5) fun M21 =>
      f_X11_findBest_138 K21 FU x2 0 M21
  else
    f_X11_findBest_167 K21 x2 M
set_option maxRecDepth 100000 in
theorem w_X11_findBest_108 {R : Int32} {M' : Mem} {K21 : Int32 → Int32 → Mem → Option (Int32 × Mem)} (hK21 : ∀ (x2 x3 : Int32) (M : Mem), K21 x2 x3 M = some (R, M') → RunF l D cy ad none YX11_findBest 6 0 0 none (lay X M') 0 0 21 [(0, .ref 174), (2, .int x2), (3, .int x3)] [] (lay X M)) (x2 x4 x5 t0 : Int32) (M : Mem) (hF : f_X11_findBest_108 K21 x2 x4 x5 t0 M = some (R, M')) : RunF l D cy ad none YX11_findBest 6 0 0 none (lay X M') 0 0 108 [(0, .ref 174), (2, .int x2), (4, .int x4), (5, .int x5)] [.int t0] (lay X M) := by
  unfold f_X11_findBest_108 at hF
  refine g_istore (Y := YX11_findBest) (pc := 108) (L' := [(6, .int t0), (0, .ref 174), (2, .int x2), (4, .int x4), (5, .int x5)]) dX11_findBest_108 (Nat.le_of_ble_eq_true rfl) rfl ?_
  refine g_iload (Y := YX11_findBest) (pc := 110) 3 dX11_findBest_110 rfl ?_
  refine g_ldcw (Y := YX11_findBest) (pc := 112) dX11_findBest_112 cw_X11_321 ?_
  refine g_icmp_ge (Y := YX11_findBest) (pc := 115) (tgt := 167) dX11_findBest_115 rfl (fun c15 => ?_) (fun c15 => ?_)
  · replace hF := if_f c15 hF
    refine g_loc [1, 2] rfl ?_
    exact w_X11_findBest_167 hK21 _ _ hF
  · replace hF := if_t c15 hF
    refine g_iload (Y := YX11_findBest) (pc := 118) 0 dX11_findBest_118 rfl ?_
    refine g_if_eq (Y := YX11_findBest) (pc := 120) (tgt := 167) dX11_findBest_120 rfl (fun c19 => ?_) (fun c19 => ?_)
    · replace hF := if_t c19 hF
      refine g_loc [1, 2] rfl ?_
      exact w_X11_findBest_167 hK21 _ _ hF
    · replace hF := if_f c19 hF
      refine g_aload_n (Y := YX11_findBest) (pc := 123) 1 dX11_findBest_123 rfl ?_
      refine g_iload (Y := YX11_findBest) (pc := 124) 3 dX11_findBest_124 rfl ?_
      refine u_putI (Y := YX11_findBest) (pc := 126) dX11_findBest_126 fl_X11_338  k_174 ?_
      refine g_nmM (fun M20 e => ?_)
      replace hF := ml_to e hF; clear e
      refine g_aload_n (Y := YX11_findBest) (pc := 129) 1 dX11_findBest_129 rfl ?_
      refine g_iload (Y := YX11_findBest) (pc := 130) 4 dX11_findBest_130 rfl ?_
      refine u_putI (Y := YX11_findBest) (pc := 132) dX11_findBest_132 fl_X11_341  k_174 ?_
      refine g_nmM (fun M21 e => ?_)
      replace hF := ml_to e hF; clear e
      refine g_iconst (Y := YX11_findBest) (pc := 135) dX11_findBest_135 kI_0 ?_
      refine g_istore (Y := YX11_findBest) (pc := 136) (L' := [(7, .int 0), (6, .int t0), (0, .ref 174), (2, .int x2), (4, .int x4), (5, .int x5)]) dX11_findBest_136 (Nat.le_of_ble_eq_true rfl) rfl ?_
      refine g_loc [2, 3, 0] rfl ?_
      exact w_X11_findBest_138 hK21 _ _ _ _ hF
def f_X11_findBest_103 (K21 : Int32 → Int32 → Mem → Option (Int32 × Mem)) (x2 : Int32) (x4 : Int32) (x5 : Int32) (M : Mem) : Option (Int32 × Mem) :=
  f_X11_findBest_108 K21 x2 x4 x5 1 M
set_option maxRecDepth 100000 in
theorem w_X11_findBest_103 {R : Int32} {M' : Mem} {K21 : Int32 → Int32 → Mem → Option (Int32 × Mem)} (hK21 : ∀ (x2 x3 : Int32) (M : Mem), K21 x2 x3 M = some (R, M') → RunF l D cy ad none YX11_findBest 6 0 0 none (lay X M') 0 0 21 [(0, .ref 174), (2, .int x2), (3, .int x3)] [] (lay X M)) (x2 x4 x5 : Int32) (M : Mem) (hF : f_X11_findBest_103 K21 x2 x4 x5 M = some (R, M')) : RunF l D cy ad none YX11_findBest 6 0 0 none (lay X M') 0 0 103 [(0, .ref 174), (2, .int x2), (4, .int x4), (5, .int x5)] [] (lay X M) := by
  unfold f_X11_findBest_103 at hF
  refine g_iconst (Y := YX11_findBest) (pc := 103) dX11_findBest_103 kI_1 ?_
  refine g_goto (Y := YX11_findBest) (pc := 104) (tgt := 108) dX11_findBest_104 rfl ?_
  exact w_X11_findBest_108 hK21 _ _ _ _ _ hF
def f_X11_findBest_107 (K21 : Int32 → Int32 → Mem → Option (Int32 × Mem)) (x2 : Int32) (x4 : Int32) (x5 : Int32) (M : Mem) : Option (Int32 × Mem) :=
  f_X11_findBest_108 K21 x2 x4 x5 0 M
set_option maxRecDepth 100000 in
theorem w_X11_findBest_107 {R : Int32} {M' : Mem} {K21 : Int32 → Int32 → Mem → Option (Int32 × Mem)} (hK21 : ∀ (x2 x3 : Int32) (M : Mem), K21 x2 x3 M = some (R, M') → RunF l D cy ad none YX11_findBest 6 0 0 none (lay X M') 0 0 21 [(0, .ref 174), (2, .int x2), (3, .int x3)] [] (lay X M)) (x2 x4 x5 : Int32) (M : Mem) (hF : f_X11_findBest_107 K21 x2 x4 x5 M = some (R, M')) : RunF l D cy ad none YX11_findBest 6 0 0 none (lay X M') 0 0 107 [(0, .ref 174), (2, .int x2), (4, .int x4), (5, .int x5)] [] (lay X M) := by
  unfold f_X11_findBest_107 at hF
  refine g_iconst (Y := YX11_findBest) (pc := 107) dX11_findBest_107 kI_0 ?_
  exact w_X11_findBest_108 hK21 _ _ _ _ _ hF
def f_X11_findBest_68 (K21 : Int32 → Int32 → Mem → Option (Int32 × Mem)) (x2 : Int32) (x4 : Int32) (x5 : Int32) (M : Mem) : Option (Int32 × Mem) :=
  f_X11_findBest_108 K21 x2 x4 x5 1 M
set_option maxRecDepth 100000 in
theorem w_X11_findBest_68 {R : Int32} {M' : Mem} {K21 : Int32 → Int32 → Mem → Option (Int32 × Mem)} (hK21 : ∀ (x2 x3 : Int32) (M : Mem), K21 x2 x3 M = some (R, M') → RunF l D cy ad none YX11_findBest 6 0 0 none (lay X M') 0 0 21 [(0, .ref 174), (2, .int x2), (3, .int x3)] [] (lay X M)) (x2 x4 x5 : Int32) (M : Mem) (hF : f_X11_findBest_68 K21 x2 x4 x5 M = some (R, M')) : RunF l D cy ad none YX11_findBest 6 0 0 none (lay X M') 0 0 68 [(0, .ref 174), (2, .int x2), (4, .int x4), (5, .int x5)] [] (lay X M) := by
  unfold f_X11_findBest_68 at hF
  refine g_iconst (Y := YX11_findBest) (pc := 68) dX11_findBest_68 kI_1 ?_
  refine g_goto (Y := YX11_findBest) (pc := 69) (tgt := 108) dX11_findBest_69 rfl ?_
  exact w_X11_findBest_108 hK21 _ _ _ _ _ hF
def f_X11_findBest_72 (K21 : Int32 → Int32 → Mem → Option (Int32 × Mem)) (x2 : Int32) (x4 : Int32) (x5 : Int32) (M : Mem) : Option (Int32 × Mem) :=
  f_X11_findBest_108 K21 x2 x4 x5 0 M
set_option maxRecDepth 100000 in
theorem w_X11_findBest_72 {R : Int32} {M' : Mem} {K21 : Int32 → Int32 → Mem → Option (Int32 × Mem)} (hK21 : ∀ (x2 x3 : Int32) (M : Mem), K21 x2 x3 M = some (R, M') → RunF l D cy ad none YX11_findBest 6 0 0 none (lay X M') 0 0 21 [(0, .ref 174), (2, .int x2), (3, .int x3)] [] (lay X M)) (x2 x4 x5 : Int32) (M : Mem) (hF : f_X11_findBest_72 K21 x2 x4 x5 M = some (R, M')) : RunF l D cy ad none YX11_findBest 6 0 0 none (lay X M') 0 0 72 [(0, .ref 174), (2, .int x2), (4, .int x4), (5, .int x5)] [] (lay X M) := by
  unfold f_X11_findBest_72 at hF
  refine g_iconst (Y := YX11_findBest) (pc := 72) dX11_findBest_72 kI_0 ?_
  refine g_goto (Y := YX11_findBest) (pc := 73) (tgt := 108) dX11_findBest_73 rfl ?_
  exact w_X11_findBest_108 hK21 _ _ _ _ _ hF
def f_X11_findBest_21  : Nat → Int32 → Int32 → Mem → Option (Int32 × Mem)
  | 0, _, _, _ => none
  | n + 1, x2, x3, M =>
    if x3 = 0 then
      some (0, M)
    else
      bd (f_X11_goDay M) fun r7 M8 =>
      bd (f_X11_waitedByOrder M8) fun r10 M11 =>
      if x2 = 0 then
        if r10 < (M11 174 40) then
          f_X11_findBest_103 (f_X11_findBest_21 n) x2 r7 r10 M11
        else
          if r10 = (M11 174 40) then
            if r7 < (M11 174 39) then
              f_X11_findBest_103 (f_X11_findBest_21 n) x2 r7 r10 M11
            else
              f_X11_findBest_107 (f_X11_findBest_21 n) x2 r7 r10 M11
          else
            f_X11_findBest_107 (f_X11_findBest_21 n) x2 r7 r10 M11
      else
        if r7 < (M11 174 39) then
          f_X11_findBest_68 (f_X11_findBest_21 n) x2 r7 r10 M11
        else
          if r7 = (M11 174 39) then
            if r10 < (M11 174 40) then
              f_X11_findBest_68 (f_X11_findBest_21 n) x2 r7 r10 M11
            else
              f_X11_findBest_72 (f_X11_findBest_21 n) x2 r7 r10 M11
          else
            f_X11_findBest_72 (f_X11_findBest_21 n) x2 r7 r10 M11
set_option maxRecDepth 100000 in
theorem w_X11_findBest_21 {R : Int32} {M' : Mem}  : ∀ (n : Nat) (x2 x3 : Int32) (M : Mem), f_X11_findBest_21 n x2 x3 M = some (R, M') → RunF l D cy ad none YX11_findBest 6 0 0 none (lay X M') 0 0 21 [(0, .ref 174), (2, .int x2), (3, .int x3)] [] (lay X M) := by
  intro n
  induction n with
  | zero => intro x2 x3 M hF; exact absurd hF (by unfold f_X11_findBest_21; exact fun h => nomatch h)
  | succ n ih =>
    intro x2 x3 M hF
    unfold f_X11_findBest_21 at hF
    refine g_iload_n (Y := YX11_findBest) (pc := 21) 2 dX11_findBest_21 rfl ?_
    refine g_if_eq (Y := YX11_findBest) (pc := 22) (tgt := 175) dX11_findBest_22 rfl (fun c6 => ?_) (fun c6 => ?_)
    · replace hF := if_t c6 hF
      exact s_vret (Y := YX11_findBest) (pc := 175) dX11_findBest_175 rfl hF
    · replace hF := if_f c6 hF
      refine g_aload_n (Y := YX11_findBest) (pc := 25) 0 dX11_findBest_25 rfl ?_
      obtain ⟨r7, M8, e9, hF⟩ := bd_some hF
      refine s_callVi (Y := YX11_findBest) (pc := 26) (as := []) (st := []) (r_X11_goDay  e9) miX11_goDay lk_X11_325 dX11_findBest_26 k_174 rfl (Nat.le_of_ble_eq_true rfl) (Nat.le_of_ble_eq_true rfl) rfl ?_
      clear e9
      refine g_istore (Y := YX11_findBest) (pc := 29) (L' := [(4, .int r7), (0, .ref 174), (2, .int x2), (3, .int x3)]) dX11_findBest_29 (Nat.le_of_ble_eq_true rfl) rfl ?_
      refine g_aload_n (Y := YX11_findBest) (pc := 31) 1 dX11_findBest_31 rfl ?_
      obtain ⟨r10, M11, e12, hF⟩ := bd_some hF
      refine s_callVi (Y := YX11_findBest) (pc := 32) (as := []) (st := []) (r_X11_waitedByOrder  e12) miX11_waitedByOrder lk_X11_328 dX11_findBest_32 k_174 rfl (Nat.le_of_ble_eq_true rfl) (Nat.le_of_ble_eq_true rfl) rfl ?_
      clear e12
      refine g_istore (Y := YX11_findBest) (pc := 35) (L' := [(5, .int r10), (4, .int r7), (0, .ref 174), (2, .int x2), (3, .int x3)]) dX11_findBest_35 (Nat.le_of_ble_eq_true rfl) rfl ?_
      refine g_iload_n (Y := YX11_findBest) (pc := 37) 3 dX11_findBest_37 rfl ?_
      refine g_if_eq (Y := YX11_findBest) (pc := 38) (tgt := 76) dX11_findBest_38 rfl (fun c13 => ?_) (fun c13 => ?_)
      · replace hF := if_t c13 hF
        refine g_iload (Y := YX11_findBest) (pc := 76) 0 dX11_findBest_76 rfl ?_
        refine g_aload_n (Y := YX11_findBest) (pc := 78) 2 dX11_findBest_78 rfl ?_
        refine u_getI (Y := YX11_findBest) (pc := 79) dX11_findBest_79 fl_X11_341 k_174 ?_
        refine g_icmp_lt (Y := YX11_findBest) (pc := 82) (tgt := 103) dX11_findBest_82 rfl (fun c14 => ?_) (fun c14 => ?_)
        · replace hF := if_t c14 hF
          refine g_loc [2, 3, 1, 0] rfl ?_
          exact w_X11_findBest_103 ih _ _ _ _ hF
        · replace hF := if_f c14 hF
          refine g_iload (Y := YX11_findBest) (pc := 85) 0 dX11_findBest_85 rfl ?_
          refine g_aload_n (Y := YX11_findBest) (pc := 87) 2 dX11_findBest_87 rfl ?_
          refine u_getI (Y := YX11_findBest) (pc := 88) dX11_findBest_88 fl_X11_341 k_174 ?_
          refine g_icmp_ne (Y := YX11_findBest) (pc := 91) (tgt := 107) dX11_findBest_91 rfl (fun c27 => ?_) (fun c27 => ?_)
          · replace hF := if_f c27 hF
            refine g_loc [2, 3, 1, 0] rfl ?_
            exact w_X11_findBest_107 ih _ _ _ _ hF
          · replace hF := if_t c27 hF
            refine g_iload (Y := YX11_findBest) (pc := 94) 1 dX11_findBest_94 rfl ?_
            refine g_aload_n (Y := YX11_findBest) (pc := 96) 2 dX11_findBest_96 rfl ?_
            refine u_getI (Y := YX11_findBest) (pc := 97) dX11_findBest_97 fl_X11_338 k_174 ?_
            refine g_icmp_ge (Y := YX11_findBest) (pc := 100) (tgt := 107) dX11_findBest_100 rfl (fun c28 => ?_) (fun c28 => ?_)
            · replace hF := if_f c28 hF
              refine g_loc [2, 3, 1, 0] rfl ?_
              exact w_X11_findBest_107 ih _ _ _ _ hF
            · replace hF := if_t c28 hF
              refine g_loc [2, 3, 1, 0] rfl ?_
              exact w_X11_findBest_103 ih _ _ _ _ hF
      · replace hF := if_f c13 hF
        refine g_iload (Y := YX11_findBest) (pc := 41) 1 dX11_findBest_41 rfl ?_
        refine g_aload_n (Y := YX11_findBest) (pc := 43) 2 dX11_findBest_43 rfl ?_
        refine u_getI (Y := YX11_findBest) (pc := 44) dX11_findBest_44 fl_X11_338 k_174 ?_
        refine g_icmp_lt (Y := YX11_findBest) (pc := 47) (tgt := 68) dX11_findBest_47 rfl (fun c29 => ?_) (fun c29 => ?_)
        · replace hF := if_t c29 hF
          refine g_loc [2, 3, 1, 0] rfl ?_
          exact w_X11_findBest_68 ih _ _ _ _ hF
        · replace hF := if_f c29 hF
          refine g_iload (Y := YX11_findBest) (pc := 50) 1 dX11_findBest_50 rfl ?_
          refine g_aload_n (Y := YX11_findBest) (pc := 52) 2 dX11_findBest_52 rfl ?_
          refine u_getI (Y := YX11_findBest) (pc := 53) dX11_findBest_53 fl_X11_338 k_174 ?_
          refine g_icmp_ne (Y := YX11_findBest) (pc := 56) (tgt := 72) dX11_findBest_56 rfl (fun c30 => ?_) (fun c30 => ?_)
          · replace hF := if_f c30 hF
            refine g_loc [2, 3, 1, 0] rfl ?_
            exact w_X11_findBest_72 ih _ _ _ _ hF
          · replace hF := if_t c30 hF
            refine g_iload (Y := YX11_findBest) (pc := 59) 0 dX11_findBest_59 rfl ?_
            refine g_aload_n (Y := YX11_findBest) (pc := 61) 2 dX11_findBest_61 rfl ?_
            refine u_getI (Y := YX11_findBest) (pc := 62) dX11_findBest_62 fl_X11_341 k_174 ?_
            refine g_icmp_ge (Y := YX11_findBest) (pc := 65) (tgt := 72) dX11_findBest_65 rfl (fun c31 => ?_) (fun c31 => ?_)
            · replace hF := if_f c31 hF
              refine g_loc [2, 3, 1, 0] rfl ?_
              exact w_X11_findBest_72 ih _ _ _ _ hF
            · replace hF := if_t c31 hF
              refine g_loc [2, 3, 1, 0] rfl ?_
              exact w_X11_findBest_68 ih _ _ _ _ hF
def f_X11_findBest_0  (x1 : Int32) (x2 : Int32) (M : Mem) : Option (Int32 × Mem) :=
  ml (up M 174 39 1000000) fun M1 =>
  ml (up M1 174 40 1000000) fun M2 =>
  bd (f_X11_firstOrder x1 M2) fun _ M4 =>
  f_X11_findBest_21 FU x2 1 M4
set_option maxRecDepth 100000 in
theorem w_X11_findBest_0 {R : Int32} {M' : Mem}  (x1 x2 : Int32) (M : Mem) (hF : f_X11_findBest_0 x1 x2 M = some (R, M')) : RunF l D cy ad none YX11_findBest 6 0 0 none (lay X M') 0 0 0 [(0, .ref 174), (1, .int x1), (2, .int x2)] [] (lay X M) := by
  unfold f_X11_findBest_0 at hF
  refine g_aload_n (Y := YX11_findBest) (pc := 0) 0 dX11_findBest_0 rfl ?_
  refine g_ldcw (Y := YX11_findBest) (pc := 1) dX11_findBest_1 cw_X11_321 ?_
  refine u_putI (Y := YX11_findBest) (pc := 4) dX11_findBest_4 fl_X11_338  k_174 ?_
  refine g_nmM (fun M1 e => ?_)
  replace hF := ml_to e hF; clear e
  refine g_aload_n (Y := YX11_findBest) (pc := 7) 0 dX11_findBest_7 rfl ?_
  refine g_ldcw (Y := YX11_findBest) (pc := 8) dX11_findBest_8 cw_X11_321 ?_
  refine u_putI (Y := YX11_findBest) (pc := 11) dX11_findBest_11 fl_X11_341  k_174 ?_
  refine g_nmM (fun M2 e => ?_)
  replace hF := ml_to e hF; clear e
  refine g_aload_n (Y := YX11_findBest) (pc := 14) 0 dX11_findBest_14 rfl ?_
  refine g_iload_n (Y := YX11_findBest) (pc := 15) 1 dX11_findBest_15 rfl ?_
  obtain ⟨r3, M4, e5, hF⟩ := bd_some hF
  refine s_callVv (Y := YX11_findBest) (pc := 16) (as := [.int x1]) (st := []) (r_X11_firstOrder  e5) miX11_firstOrder lk_X11_344 dX11_findBest_16 k_174 rfl (Nat.le_of_ble_eq_true rfl) (Nat.le_of_ble_eq_true rfl) rfl ?_
  clear e5
  refine g_iconst (Y := YX11_findBest) (pc := 19) dX11_findBest_19 kI_1 ?_
  refine g_istore_n (Y := YX11_findBest) (pc := 20) (L' := [(3, .int 1), (0, .ref 174), (1, .int x1), (2, .int x2)]) dX11_findBest_20 (Nat.le_of_ble_eq_true rfl) rfl ?_
  refine g_loc [1, 3, 0] rfl ?_
  exact w_X11_findBest_21  _ _ _ _ hF
def f_X11_findBest (x1 : Int32) (x2 : Int32) (M : Mem) : Option (Int32 × Mem) := f_X11_findBest_0 x1 x2 M
theorem r_X11_findBest {x1 x2 R : Int32} {M M' : Mem}  (hF : f_X11_findBest x1 x2 M = some (R, M')) : RunS l D cy ad YX11_findBest 6 [.ref 174, .int x1, .int x2] X M none M' := Run.of 2 (miX11_findBest).1 (Nat.le_of_ble_eq_true rfl) (w_X11_findBest_0  _ _ _ hF)
def f_X11_best_45  : Nat → Int32 → Mem → Option (Int32 × Mem)
  | 0, _, _ => none
  | n + 1, x2, M =>
    if x2 < (M 174 37) then
      gd (0 ≤ x2 ∧ x2.toNatClampNeg < 6) <|
      bd (f_X11_tell (M 193 x2.toNatClampNeg) M) fun _ M17 =>
      vl (x2 + 1) fun v19 =>
      f_X11_best_45 n v19 M17
    else
      some ((M 174 39), M)
set_option maxRecDepth 100000 in
theorem w_X11_best_45 {R : Int32} {M' : Mem}  : ∀ (n : Nat) (x2 : Int32) (M : Mem), f_X11_best_45 n x2 M = some (R, M') → RunF l D cy ad none YX11_best 406 0 0 (some (.int R)) (lay X M') 0 0 45 [(0, .ref 174), (2, .int x2)] [] (lay X M) := by
  intro n
  induction n with
  | zero => intro x2 M hF; exact absurd hF (by unfold f_X11_best_45; exact fun h => nomatch h)
  | succ n ih =>
    intro x2 M hF
    unfold f_X11_best_45 at hF
    refine g_iload_n (Y := YX11_best) (pc := 45) 1 dX11_best_45 rfl ?_
    refine g_aload_n (Y := YX11_best) (pc := 46) 0 dX11_best_46 rfl ?_
    refine u_getI (Y := YX11_best) (pc := 47) dX11_best_47 fl_X11_315 k_174 ?_
    refine g_icmp_ge (Y := YX11_best) (pc := 50) (tgt := 69) dX11_best_50 rfl (fun c14 => ?_) (fun c14 => ?_)
    · replace hF := if_f c14 hF
      refine g_aload_n (Y := YX11_best) (pc := 69) 0 dX11_best_69 rfl ?_
      refine u_getI (Y := YX11_best) (pc := 70) dX11_best_70 fl_X11_338 k_174 ?_
      exact s_iret (Y := YX11_best) (pc := 73) dX11_best_73 rfl hF
    · replace hF := if_t c14 hF
      refine g_aload_n (Y := YX11_best) (pc := 53) 0 dX11_best_53 rfl ?_
      refine g_aload_n (Y := YX11_best) (pc := 54) 0 dX11_best_54 rfl ?_
      refine u_getR (Y := YX11_best) (pc := 55) (j := 193) dX11_best_55 fl_X11_66 k_174 rf_174_38 ?_
      refine g_iload_n (Y := YX11_best) (pc := 58) 1 dX11_best_58 rfl ?_
      obtain ⟨g15, hF⟩ := gd_some hF
      refine s_iald (Y := YX11_best) (pc := 59) dX11_best_59 k_193 n_193 g15 ?_
      obtain ⟨r16, M17, e18, hF⟩ := bd_some hF
      refine s_callVv (Y := YX11_best) (pc := 60) (as := [.int (M 193 x2.toNatClampNeg)]) (st := []) (r_X11_tell  e18) miX11_tell lk_X11_300 dX11_best_60 k_174 rfl (Nat.le_of_ble_eq_true rfl) (Nat.le_of_ble_eq_true rfl) rfl ?_
      clear e18
      refine s_iinc (Y := YX11_best) (pc := 63) (j := 1) (L' := fun y => [(2, .int y), (0, .ref 174)]) dX11_best_63 kI_1 rfl (Nat.le_of_ble_eq_true rfl) (fun _ => rfl) (fun v19 e => ?_)
      replace hF := vl_to e hF; clear e
      refine g_goto (Y := YX11_best) (pc := 66) (tgt := 45) dX11_best_66 rfl ?_
      refine g_loc [1, 0] rfl ?_
      exact ih _ _ hF
def f_X11_best_0  (x1 : Int32) (M : Mem) : Option (Int32 × Mem) :=
  ml (up M 174 14 0) fun M1 =>
  bd (f_X11_canOrder x1 M1) fun r2 M3 =>
  if r2 = 0 then
    some ((-1), M3)
  else
    bd (f_X11_layStays M3) fun _ M7 =>
    bd (f_X11_findBest x1 1 M7) fun _ M10 =>
    if (M10 174 39) = 1000000 then
      some ((-2), M10)
    else
      ml (up M10 174 13 0) fun M13 =>
      f_X11_best_45 FU 0 M13
set_option maxRecDepth 100000 in
theorem w_X11_best_0 {R : Int32} {M' : Mem}  (x1 : Int32) (M : Mem) (hF : f_X11_best_0 x1 M = some (R, M')) : RunF l D cy ad none YX11_best 406 0 0 (some (.int R)) (lay X M') 0 0 0 [(0, .ref 174), (1, .int x1)] [] (lay X M) := by
  unfold f_X11_best_0 at hF
  refine g_aload_n (Y := YX11_best) (pc := 0) 0 dX11_best_0 rfl ?_
  refine g_iconst (Y := YX11_best) (pc := 1) dX11_best_1 kI_0 ?_
  refine u_putI (Y := YX11_best) (pc := 2) dX11_best_2 fl_X11_99  k_174 ?_
  refine g_nmM (fun M1 e => ?_)
  replace hF := ml_to e hF; clear e
  refine g_aload_n (Y := YX11_best) (pc := 5) 0 dX11_best_5 rfl ?_
  refine g_iload_n (Y := YX11_best) (pc := 6) 1 dX11_best_6 rfl ?_
  obtain ⟨r2, M3, e4, hF⟩ := bd_some hF
  refine s_callVi (Y := YX11_best) (pc := 7) (as := [.int x1]) (st := []) (r_X11_canOrder  e4) miX11_canOrder lk_X11_350 dX11_best_7 k_174 rfl (Nat.le_of_ble_eq_true rfl) (Nat.le_of_ble_eq_true rfl) rfl ?_
  clear e4
  refine g_if_ne (Y := YX11_best) (pc := 10) (tgt := 15) dX11_best_10 rfl (fun c5 => ?_) (fun c5 => ?_)
  · replace hF := if_f c5 hF
    refine g_aload_n (Y := YX11_best) (pc := 15) 0 dX11_best_15 rfl ?_
    obtain ⟨r6, M7, e8, hF⟩ := bd_some hF
    refine s_callVv (Y := YX11_best) (pc := 16) (as := []) (st := []) (r_X11_layStays  e8) miX11_layStays lk_X11_271 dX11_best_16 k_174 rfl (Nat.le_of_ble_eq_true rfl) (Nat.le_of_ble_eq_true rfl) rfl ?_
    clear e8
    refine g_aload_n (Y := YX11_best) (pc := 19) 0 dX11_best_19 rfl ?_
    refine g_iload_n (Y := YX11_best) (pc := 20) 1 dX11_best_20 rfl ?_
    refine g_iconst (Y := YX11_best) (pc := 21) dX11_best_21 kI_1 ?_
    obtain ⟨r9, M10, e11, hF⟩ := bd_some hF
    refine s_callVv (Y := YX11_best) (pc := 22) (as := [.int x1, .int 1]) (st := []) (r_X11_findBest  e11) miX11_findBest lk_X11_353 dX11_best_22 k_174 rfl (Nat.le_of_ble_eq_true rfl) (Nat.le_of_ble_eq_true rfl) rfl ?_
    clear e11
    refine g_aload_n (Y := YX11_best) (pc := 25) 0 dX11_best_25 rfl ?_
    refine u_getI (Y := YX11_best) (pc := 26) dX11_best_26 fl_X11_338 k_174 ?_
    refine g_ldcw (Y := YX11_best) (pc := 29) dX11_best_29 cw_X11_321 ?_
    refine g_icmp_ne (Y := YX11_best) (pc := 32) (tgt := 38) dX11_best_32 rfl (fun c12 => ?_) (fun c12 => ?_)
    · replace hF := if_f c12 hF
      refine g_aload_n (Y := YX11_best) (pc := 38) 0 dX11_best_38 rfl ?_
      refine g_iconst (Y := YX11_best) (pc := 39) dX11_best_39 kI_0 ?_
      refine u_putI (Y := YX11_best) (pc := 40) dX11_best_40 fl_X11_103  k_174 ?_
      refine g_nmM (fun M13 e => ?_)
      replace hF := ml_to e hF; clear e
      refine g_iconst (Y := YX11_best) (pc := 43) dX11_best_43 kI_0 ?_
      refine g_istore_n (Y := YX11_best) (pc := 44) (L' := [(2, .int 0), (0, .ref 174), (1, .int x1)]) dX11_best_44 (Nat.le_of_ble_eq_true rfl) rfl ?_
      refine g_loc [1, 0] rfl ?_
      exact w_X11_best_45  _ _ _ hF
    · replace hF := if_t c12 hF
      refine g_bipush (Y := YX11_best) (pc := 35) dX11_best_35 kB_m2 ?_
      exact s_iret (Y := YX11_best) (pc := 37) dX11_best_37 rfl hF
  · replace hF := if_t c5 hF
    refine g_iconst (Y := YX11_best) (pc := 13) dX11_best_13 kI_m1 ?_
    exact s_iret (Y := YX11_best) (pc := 14) dX11_best_14 rfl hF
def f_X11_best (x1 : Int32) (M : Mem) : Option (Int32 × Mem) := f_X11_best_0 x1 M
theorem r_X11_best {x1 R : Int32} {M M' : Mem}  (hF : f_X11_best x1 M = some (R, M')) : RunS l D cy ad YX11_best 406 [.ref 174, .int x1] X M (some (.int R)) M' := Run.of 1 (miX11_best).1 (Nat.le_of_ble_eq_true rfl) (w_X11_best_0  _ _ hF)
def f_X11_calm_53  : Nat → Int32 → Mem → Option (Int32 × Mem)
  | 0, _, _ => none
  | n + 1, x2, M =>
    if x2 < (M 174 37) then
      gd (0 ≤ x2 ∧ x2.toNatClampNeg < 6) <|
      bd (f_X11_tell (M 193 x2.toNatClampNeg) M) fun _ M20 =>
      vl (x2 + 1) fun v22 =>
      f_X11_calm_53 n v22 M20
    else
      some ((M 174 40), M)
set_option maxRecDepth 100000 in
theorem w_X11_calm_53 {R : Int32} {M' : Mem}  : ∀ (n : Nat) (x2 : Int32) (M : Mem), f_X11_calm_53 n x2 M = some (R, M') → RunF l D cy ad none YX11_calm 406 0 0 (some (.int R)) (lay X M') 0 0 53 [(0, .ref 174), (2, .int x2)] [] (lay X M) := by
  intro n
  induction n with
  | zero => intro x2 M hF; exact absurd hF (by unfold f_X11_calm_53; exact fun h => nomatch h)
  | succ n ih =>
    intro x2 M hF
    unfold f_X11_calm_53 at hF
    refine g_iload_n (Y := YX11_calm) (pc := 53) 1 dX11_calm_53 rfl ?_
    refine g_aload_n (Y := YX11_calm) (pc := 54) 0 dX11_calm_54 rfl ?_
    refine u_getI (Y := YX11_calm) (pc := 55) dX11_calm_55 fl_X11_315 k_174 ?_
    refine g_icmp_ge (Y := YX11_calm) (pc := 58) (tgt := 77) dX11_calm_58 rfl (fun c17 => ?_) (fun c17 => ?_)
    · replace hF := if_f c17 hF
      refine g_aload_n (Y := YX11_calm) (pc := 77) 0 dX11_calm_77 rfl ?_
      refine u_getI (Y := YX11_calm) (pc := 78) dX11_calm_78 fl_X11_341 k_174 ?_
      exact s_iret (Y := YX11_calm) (pc := 81) dX11_calm_81 rfl hF
    · replace hF := if_t c17 hF
      refine g_aload_n (Y := YX11_calm) (pc := 61) 0 dX11_calm_61 rfl ?_
      refine g_aload_n (Y := YX11_calm) (pc := 62) 0 dX11_calm_62 rfl ?_
      refine u_getR (Y := YX11_calm) (pc := 63) (j := 193) dX11_calm_63 fl_X11_66 k_174 rf_174_38 ?_
      refine g_iload_n (Y := YX11_calm) (pc := 66) 1 dX11_calm_66 rfl ?_
      obtain ⟨g18, hF⟩ := gd_some hF
      refine s_iald (Y := YX11_calm) (pc := 67) dX11_calm_67 k_193 n_193 g18 ?_
      obtain ⟨r19, M20, e21, hF⟩ := bd_some hF
      refine s_callVv (Y := YX11_calm) (pc := 68) (as := [.int (M 193 x2.toNatClampNeg)]) (st := []) (r_X11_tell  e21) miX11_tell lk_X11_300 dX11_calm_68 k_174 rfl (Nat.le_of_ble_eq_true rfl) (Nat.le_of_ble_eq_true rfl) rfl ?_
      clear e21
      refine s_iinc (Y := YX11_calm) (pc := 71) (j := 1) (L' := fun y => [(2, .int y), (0, .ref 174)]) dX11_calm_71 kI_1 rfl (Nat.le_of_ble_eq_true rfl) (fun _ => rfl) (fun v22 e => ?_)
      replace hF := vl_to e hF; clear e
      refine g_goto (Y := YX11_calm) (pc := 74) (tgt := 53) dX11_calm_74 rfl ?_
      refine g_loc [1, 0] rfl ?_
      exact ih _ _ hF
def f_X11_calm_0  (x1 : Int32) (M : Mem) : Option (Int32 × Mem) :=
  ml (up M 174 14 0) fun M1 =>
  bd (f_X11_canOrder x1 M1) fun r2 M3 =>
  if r2 = 0 then
    some ((-1), M3)
  else
    bd (f_X11_layStays M3) fun _ M7 =>
    bd (f_X11_findBest x1 0 M7) fun _ M10 =>
    if (M10 174 39) = 1000000 then
      some ((-2), M10)
    else
      ml (up M10 174 13 0) fun M13 =>
      bd (f_X11_tell (M13 174 39) M13) fun _ M15 =>
      f_X11_calm_53 FU 0 M15
set_option maxRecDepth 100000 in
theorem w_X11_calm_0 {R : Int32} {M' : Mem}  (x1 : Int32) (M : Mem) (hF : f_X11_calm_0 x1 M = some (R, M')) : RunF l D cy ad none YX11_calm 406 0 0 (some (.int R)) (lay X M') 0 0 0 [(0, .ref 174), (1, .int x1)] [] (lay X M) := by
  unfold f_X11_calm_0 at hF
  refine g_aload_n (Y := YX11_calm) (pc := 0) 0 dX11_calm_0 rfl ?_
  refine g_iconst (Y := YX11_calm) (pc := 1) dX11_calm_1 kI_0 ?_
  refine u_putI (Y := YX11_calm) (pc := 2) dX11_calm_2 fl_X11_99  k_174 ?_
  refine g_nmM (fun M1 e => ?_)
  replace hF := ml_to e hF; clear e
  refine g_aload_n (Y := YX11_calm) (pc := 5) 0 dX11_calm_5 rfl ?_
  refine g_iload_n (Y := YX11_calm) (pc := 6) 1 dX11_calm_6 rfl ?_
  obtain ⟨r2, M3, e4, hF⟩ := bd_some hF
  refine s_callVi (Y := YX11_calm) (pc := 7) (as := [.int x1]) (st := []) (r_X11_canOrder  e4) miX11_canOrder lk_X11_350 dX11_calm_7 k_174 rfl (Nat.le_of_ble_eq_true rfl) (Nat.le_of_ble_eq_true rfl) rfl ?_
  clear e4
  refine g_if_ne (Y := YX11_calm) (pc := 10) (tgt := 15) dX11_calm_10 rfl (fun c5 => ?_) (fun c5 => ?_)
  · replace hF := if_f c5 hF
    refine g_aload_n (Y := YX11_calm) (pc := 15) 0 dX11_calm_15 rfl ?_
    obtain ⟨r6, M7, e8, hF⟩ := bd_some hF
    refine s_callVv (Y := YX11_calm) (pc := 16) (as := []) (st := []) (r_X11_layStays  e8) miX11_layStays lk_X11_271 dX11_calm_16 k_174 rfl (Nat.le_of_ble_eq_true rfl) (Nat.le_of_ble_eq_true rfl) rfl ?_
    clear e8
    refine g_aload_n (Y := YX11_calm) (pc := 19) 0 dX11_calm_19 rfl ?_
    refine g_iload_n (Y := YX11_calm) (pc := 20) 1 dX11_calm_20 rfl ?_
    refine g_iconst (Y := YX11_calm) (pc := 21) dX11_calm_21 kI_0 ?_
    obtain ⟨r9, M10, e11, hF⟩ := bd_some hF
    refine s_callVv (Y := YX11_calm) (pc := 22) (as := [.int x1, .int 0]) (st := []) (r_X11_findBest  e11) miX11_findBest lk_X11_353 dX11_calm_22 k_174 rfl (Nat.le_of_ble_eq_true rfl) (Nat.le_of_ble_eq_true rfl) rfl ?_
    clear e11
    refine g_aload_n (Y := YX11_calm) (pc := 25) 0 dX11_calm_25 rfl ?_
    refine u_getI (Y := YX11_calm) (pc := 26) dX11_calm_26 fl_X11_338 k_174 ?_
    refine g_ldcw (Y := YX11_calm) (pc := 29) dX11_calm_29 cw_X11_321 ?_
    refine g_icmp_ne (Y := YX11_calm) (pc := 32) (tgt := 38) dX11_calm_32 rfl (fun c12 => ?_) (fun c12 => ?_)
    · replace hF := if_f c12 hF
      refine g_aload_n (Y := YX11_calm) (pc := 38) 0 dX11_calm_38 rfl ?_
      refine g_iconst (Y := YX11_calm) (pc := 39) dX11_calm_39 kI_0 ?_
      refine u_putI (Y := YX11_calm) (pc := 40) dX11_calm_40 fl_X11_103  k_174 ?_
      refine g_nmM (fun M13 e => ?_)
      replace hF := ml_to e hF; clear e
      refine g_aload_n (Y := YX11_calm) (pc := 43) 0 dX11_calm_43 rfl ?_
      refine g_aload_n (Y := YX11_calm) (pc := 44) 0 dX11_calm_44 rfl ?_
      refine u_getI (Y := YX11_calm) (pc := 45) dX11_calm_45 fl_X11_338 k_174 ?_
      obtain ⟨r14, M15, e16, hF⟩ := bd_some hF
      refine s_callVv (Y := YX11_calm) (pc := 48) (as := [.int (M13 174 39)]) (st := []) (r_X11_tell  e16) miX11_tell lk_X11_300 dX11_calm_48 k_174 rfl (Nat.le_of_ble_eq_true rfl) (Nat.le_of_ble_eq_true rfl) rfl ?_
      clear e16
      refine g_iconst (Y := YX11_calm) (pc := 51) dX11_calm_51 kI_0 ?_
      refine g_istore_n (Y := YX11_calm) (pc := 52) (L' := [(2, .int 0), (0, .ref 174), (1, .int x1)]) dX11_calm_52 (Nat.le_of_ble_eq_true rfl) rfl ?_
      refine g_loc [1, 0] rfl ?_
      exact w_X11_calm_53  _ _ _ hF
    · replace hF := if_t c12 hF
      refine g_bipush (Y := YX11_calm) (pc := 35) dX11_calm_35 kB_m2 ?_
      exact s_iret (Y := YX11_calm) (pc := 37) dX11_calm_37 rfl hF
  · replace hF := if_t c5 hF
    refine g_iconst (Y := YX11_calm) (pc := 13) dX11_calm_13 kI_m1 ?_
    exact s_iret (Y := YX11_calm) (pc := 14) dX11_calm_14 rfl hF
def f_X11_calm (x1 : Int32) (M : Mem) : Option (Int32 × Mem) := f_X11_calm_0 x1 M
theorem r_X11_calm {x1 R : Int32} {M M' : Mem}  (hF : f_X11_calm x1 M = some (R, M')) : RunS l D cy ad YX11_calm 406 [.ref 174, .int x1] X M (some (.int R)) M' := Run.of 1 (miX11_calm).1 (Nat.le_of_ble_eq_true rfl) (w_X11_calm_0  _ _ hF)
def f_X11_many_24  (M : Mem) : Option (Int32 × Mem) :=
  some ((-1), M)
set_option maxRecDepth 100000 in
theorem w_X11_many_24 {R : Int32} {M' : Mem}  (M : Mem) (hF : f_X11_many_24  M = some (R, M')) : RunF l D cy ad none YX11_many 406 0 0 (some (.int R)) (lay X M') 0 0 24 [] [] (lay X M) := by
  unfold f_X11_many_24 at hF
  refine g_iconst (Y := YX11_many) (pc := 24) dX11_many_24 kI_m1 ?_
  exact s_iret (Y := YX11_many) (pc := 25) dX11_many_25 rfl hF
def f_X11_many_83 (K43 : Int32 → Int32 → Int32 → Int32 → Mem → Option (Int32 × Mem)) (x2 : Int32) (x3 : Int32) (t1 : Int32) (t0 : Int32) (M : Mem) : Option (Int32 × Mem) :=
  vl ((t1 + t0)) fun v27 =>
  bd (f_X11_nextOrder M) fun r28 M29 =>
  K43 x2 x3 v27 r28 M29
set_option maxRecDepth 100000 in
theorem w_X11_many_83 {R : Int32} {M' : Mem} {K43 : Int32 → Int32 → Int32 → Int32 → Mem → Option (Int32 × Mem)} (hK43 : ∀ (x2 x3 x4 x5 : Int32) (M : Mem), K43 x2 x3 x4 x5 M = some (R, M') → RunF l D cy ad none YX11_many 406 0 0 (some (.int R)) (lay X M') 0 0 43 [(0, .ref 174), (2, .int x2), (3, .int x3), (4, .int x4), (5, .int x5)] [] (lay X M)) (x2 x3 t1 t0 : Int32) (M : Mem) (hF : f_X11_many_83 K43 x2 x3 t1 t0 M = some (R, M')) : RunF l D cy ad none YX11_many 406 0 0 (some (.int R)) (lay X M') 0 0 83 [(0, .ref 174), (2, .int x2), (3, .int x3)] [.int t0, .int t1] (lay X M) := by
  unfold f_X11_many_83 at hF
  refine g_iadd (Y := YX11_many) (pc := 83) dX11_many_83 ?_
  refine g_nm (fun v27 e => ?_)
  replace hF := vl_to e hF; clear e
  refine g_istore (Y := YX11_many) (pc := 84) (L' := [(4, .int v27), (0, .ref 174), (2, .int x2), (3, .int x3)]) dX11_many_84 (Nat.le_of_ble_eq_true rfl) rfl ?_
  refine g_aload_n (Y := YX11_many) (pc := 86) 1 dX11_many_86 rfl ?_
  obtain ⟨r28, M29, e30, hF⟩ := bd_some hF
  refine s_callVi (Y := YX11_many) (pc := 87) (as := []) (st := []) (r_X11_nextOrder  e30) miX11_nextOrder lk_X11_347 dX11_many_87 k_174 rfl (Nat.le_of_ble_eq_true rfl) (Nat.le_of_ble_eq_true rfl) rfl ?_
  clear e30
  refine g_istore (Y := YX11_many) (pc := 90) (L' := [(5, .int r28), (4, .int v27), (0, .ref 174), (2, .int x2), (3, .int x3)]) dX11_many_90 (Nat.le_of_ble_eq_true rfl) rfl ?_
  refine g_goto (Y := YX11_many) (pc := 92) (tgt := 43) dX11_many_92 rfl ?_
  refine g_loc [2, 3, 4, 1, 0] rfl ?_
  exact hK43 _ _ _ _ _ hF
def f_X11_many_66 (K43 : Int32 → Int32 → Int32 → Int32 → Mem → Option (Int32 × Mem)) (x2 : Int32) (x4 : Int32) (x6 : Int32) (t1 : Int32) (t0 : Int32) (M : Mem) : Option (Int32 × Mem) :=
  vl ((t1 + t0)) fun v25 =>
  if x6 = 1000000 then
    f_X11_many_83 K43 x2 v25 x4 1 M
  else
    f_X11_many_83 K43 x2 v25 x4 0 M
set_option maxRecDepth 100000 in
theorem w_X11_many_66 {R : Int32} {M' : Mem} {K43 : Int32 → Int32 → Int32 → Int32 → Mem → Option (Int32 × Mem)} (hK43 : ∀ (x2 x3 x4 x5 : Int32) (M : Mem), K43 x2 x3 x4 x5 M = some (R, M') → RunF l D cy ad none YX11_many 406 0 0 (some (.int R)) (lay X M') 0 0 43 [(0, .ref 174), (2, .int x2), (3, .int x3), (4, .int x4), (5, .int x5)] [] (lay X M)) (x2 x4 x6 t1 t0 : Int32) (M : Mem) (hF : f_X11_many_66 K43 x2 x4 x6 t1 t0 M = some (R, M')) : RunF l D cy ad none YX11_many 406 0 0 (some (.int R)) (lay X M') 0 0 66 [(0, .ref 174), (2, .int x2), (4, .int x4), (6, .int x6)] [.int t0, .int t1] (lay X M) := by
  unfold f_X11_many_66 at hF
  refine g_iadd (Y := YX11_many) (pc := 66) dX11_many_66 ?_
  refine g_nm (fun v25 e => ?_)
  replace hF := vl_to e hF; clear e
  refine g_istore_n (Y := YX11_many) (pc := 67) (L' := [(3, .int v25), (0, .ref 174), (2, .int x2), (4, .int x4), (6, .int x6)]) dX11_many_67 (Nat.le_of_ble_eq_true rfl) rfl ?_
  refine g_iload (Y := YX11_many) (pc := 68) 3 dX11_many_68 rfl ?_
  refine g_iload (Y := YX11_many) (pc := 70) 4 dX11_many_70 rfl ?_
  refine g_ldcw (Y := YX11_many) (pc := 72) dX11_many_72 cw_X11_321 ?_
  refine g_icmp_ne (Y := YX11_many) (pc := 75) (tgt := 82) dX11_many_75 rfl (fun c26 => ?_) (fun c26 => ?_)
  · replace hF := if_f c26 hF
    refine g_iconst (Y := YX11_many) (pc := 82) dX11_many_82 kI_0 ?_
    refine g_loc [1, 2, 0] rfl ?_
    exact w_X11_many_83 hK43 _ _ _ _ _ hF
  · replace hF := if_t c26 hF
    refine g_iconst (Y := YX11_many) (pc := 78) dX11_many_78 kI_1 ?_
    refine g_goto (Y := YX11_many) (pc := 79) (tgt := 83) dX11_many_79 rfl ?_
    refine g_loc [1, 2, 0] rfl ?_
    exact w_X11_many_83 hK43 _ _ _ _ _ hF
def f_X11_many_43  : Nat → Int32 → Int32 → Int32 → Int32 → Mem → Option (Int32 × Mem)
  | 0, _, _, _, _, _ => none
  | n + 1, x2, x3, x4, x5, M =>
    if x5 = 0 then
      ml (up M 174 13 0) fun M17 =>
      bd (f_X11_tell x4 M17) fun _ M19 =>
      some (x3, M19)
    else
      bd (f_X11_goDay M) fun r21 M22 =>
      if x2 < r21 then
        f_X11_many_66 (f_X11_many_43 n) x2 x4 r21 x3 0 M22
      else
        f_X11_many_66 (f_X11_many_43 n) x2 x4 r21 x3 1 M22
set_option maxRecDepth 100000 in
theorem w_X11_many_43 {R : Int32} {M' : Mem}  : ∀ (n : Nat) (x2 x3 x4 x5 : Int32) (M : Mem), f_X11_many_43 n x2 x3 x4 x5 M = some (R, M') → RunF l D cy ad none YX11_many 406 0 0 (some (.int R)) (lay X M') 0 0 43 [(0, .ref 174), (2, .int x2), (3, .int x3), (4, .int x4), (5, .int x5)] [] (lay X M) := by
  intro n
  induction n with
  | zero => intro x2 x3 x4 x5 M hF; exact absurd hF (by unfold f_X11_many_43; exact fun h => nomatch h)
  | succ n ih =>
    intro x2 x3 x4 x5 M hF
    unfold f_X11_many_43 at hF
    refine g_iload (Y := YX11_many) (pc := 43) 4 dX11_many_43 rfl ?_
    refine g_if_eq (Y := YX11_many) (pc := 45) (tgt := 95) dX11_many_45 rfl (fun c16 => ?_) (fun c16 => ?_)
    · replace hF := if_t c16 hF
      refine g_aload_n (Y := YX11_many) (pc := 95) 0 dX11_many_95 rfl ?_
      refine g_iconst (Y := YX11_many) (pc := 96) dX11_many_96 kI_0 ?_
      refine u_putI (Y := YX11_many) (pc := 97) dX11_many_97 fl_X11_103  k_174 ?_
      refine g_nmM (fun M17 e => ?_)
      replace hF := ml_to e hF; clear e
      refine g_aload_n (Y := YX11_many) (pc := 100) 0 dX11_many_100 rfl ?_
      refine g_iload (Y := YX11_many) (pc := 101) 3 dX11_many_101 rfl ?_
      obtain ⟨r18, M19, e20, hF⟩ := bd_some hF
      refine s_callVv (Y := YX11_many) (pc := 103) (as := [.int x4]) (st := []) (r_X11_tell  e20) miX11_tell lk_X11_300 dX11_many_103 k_174 rfl (Nat.le_of_ble_eq_true rfl) (Nat.le_of_ble_eq_true rfl) rfl ?_
      clear e20
      refine g_iload_n (Y := YX11_many) (pc := 106) 2 dX11_many_106 rfl ?_
      exact s_iret (Y := YX11_many) (pc := 107) dX11_many_107 rfl hF
    · replace hF := if_f c16 hF
      refine g_aload_n (Y := YX11_many) (pc := 48) 0 dX11_many_48 rfl ?_
      obtain ⟨r21, M22, e23, hF⟩ := bd_some hF
      refine s_callVi (Y := YX11_many) (pc := 49) (as := []) (st := []) (r_X11_goDay  e23) miX11_goDay lk_X11_325 dX11_many_49 k_174 rfl (Nat.le_of_ble_eq_true rfl) (Nat.le_of_ble_eq_true rfl) rfl ?_
      clear e23
      refine g_istore (Y := YX11_many) (pc := 52) (L' := [(6, .int r21), (0, .ref 174), (2, .int x2), (3, .int x3), (4, .int x4), (5, .int x5)]) dX11_many_52 (Nat.le_of_ble_eq_true rfl) rfl ?_
      refine g_iload_n (Y := YX11_many) (pc := 54) 3 dX11_many_54 rfl ?_
      refine g_iload (Y := YX11_many) (pc := 55) 0 dX11_many_55 rfl ?_
      refine g_iload_n (Y := YX11_many) (pc := 57) 2 dX11_many_57 rfl ?_
      refine g_icmp_gt (Y := YX11_many) (pc := 58) (tgt := 65) dX11_many_58 rfl (fun c24 => ?_) (fun c24 => ?_)
      · replace hF := if_t c24 hF
        refine g_iconst (Y := YX11_many) (pc := 65) dX11_many_65 kI_0 ?_
        refine g_loc [1, 2, 4, 0] rfl ?_
        exact w_X11_many_66 ih _ _ _ _ _ _ hF
      · replace hF := if_f c24 hF
        refine g_iconst (Y := YX11_many) (pc := 61) dX11_many_61 kI_1 ?_
        refine g_goto (Y := YX11_many) (pc := 62) (tgt := 66) dX11_many_62 rfl ?_
        refine g_loc [1, 2, 4, 0] rfl ?_
        exact w_X11_many_66 ih _ _ _ _ _ _ hF
def f_X11_many_0  (x1 : Int32) (x2 : Int32) (M : Mem) : Option (Int32 × Mem) :=
  ml (up M 174 14 0) fun M1 =>
  bd (f_X11_canOrder x1 M1) fun r2 M3 =>
  if r2 = 0 then
    f_X11_many_24 M3
  else
    bd (f_X11_in x2 1 400 M3) fun r6 M7 =>
    if r6 = 0 then
      f_X11_many_24 M7
    else
      bd (f_X11_layStays M7) fun _ M11 =>
      bd (f_X11_firstOrder x1 M11) fun _ M14 =>
      f_X11_many_43 FU x2 0 0 1 M14
set_option maxRecDepth 100000 in
theorem w_X11_many_0 {R : Int32} {M' : Mem}  (x1 x2 : Int32) (M : Mem) (hF : f_X11_many_0 x1 x2 M = some (R, M')) : RunF l D cy ad none YX11_many 406 0 0 (some (.int R)) (lay X M') 0 0 0 [(0, .ref 174), (1, .int x1), (2, .int x2)] [] (lay X M) := by
  unfold f_X11_many_0 at hF
  refine g_aload_n (Y := YX11_many) (pc := 0) 0 dX11_many_0 rfl ?_
  refine g_iconst (Y := YX11_many) (pc := 1) dX11_many_1 kI_0 ?_
  refine u_putI (Y := YX11_many) (pc := 2) dX11_many_2 fl_X11_99  k_174 ?_
  refine g_nmM (fun M1 e => ?_)
  replace hF := ml_to e hF; clear e
  refine g_aload_n (Y := YX11_many) (pc := 5) 0 dX11_many_5 rfl ?_
  refine g_iload_n (Y := YX11_many) (pc := 6) 1 dX11_many_6 rfl ?_
  obtain ⟨r2, M3, e4, hF⟩ := bd_some hF
  refine s_callVi (Y := YX11_many) (pc := 7) (as := [.int x1]) (st := []) (r_X11_canOrder  e4) miX11_canOrder lk_X11_350 dX11_many_7 k_174 rfl (Nat.le_of_ble_eq_true rfl) (Nat.le_of_ble_eq_true rfl) rfl ?_
  clear e4
  refine g_if_eq (Y := YX11_many) (pc := 10) (tgt := 24) dX11_many_10 rfl (fun c5 => ?_) (fun c5 => ?_)
  · replace hF := if_t c5 hF
    refine g_loc [] rfl ?_
    exact w_X11_many_24  _ hF
  · replace hF := if_f c5 hF
    refine g_iload_n (Y := YX11_many) (pc := 13) 2 dX11_many_13 rfl ?_
    refine g_iconst (Y := YX11_many) (pc := 14) dX11_many_14 kI_1 ?_
    refine g_sipush (Y := YX11_many) (pc := 15) dX11_many_15 kS_400 ?_
    obtain ⟨r6, M7, e8, hF⟩ := bd_some hF
    refine s_callSi (Y := YX11_many) (pc := 18) (as := [.int x2, .int 1, .int 400]) (st := []) (r_X11_in  e8) msX11_in lk_X11_109 dX11_many_18 rfl (Nat.le_of_ble_eq_true rfl) (Nat.le_of_ble_eq_true rfl) rfl ?_
    clear e8
    refine g_if_ne (Y := YX11_many) (pc := 21) (tgt := 26) dX11_many_21 rfl (fun c9 => ?_) (fun c9 => ?_)
    · replace hF := if_f c9 hF
      refine g_aload_n (Y := YX11_many) (pc := 26) 0 dX11_many_26 rfl ?_
      obtain ⟨r10, M11, e12, hF⟩ := bd_some hF
      refine s_callVv (Y := YX11_many) (pc := 27) (as := []) (st := []) (r_X11_layStays  e12) miX11_layStays lk_X11_271 dX11_many_27 k_174 rfl (Nat.le_of_ble_eq_true rfl) (Nat.le_of_ble_eq_true rfl) rfl ?_
      clear e12
      refine g_iconst (Y := YX11_many) (pc := 30) dX11_many_30 kI_0 ?_
      refine g_istore_n (Y := YX11_many) (pc := 31) (L' := [(3, .int 0), (0, .ref 174), (1, .int x1), (2, .int x2)]) dX11_many_31 (Nat.le_of_ble_eq_true rfl) rfl ?_
      refine g_iconst (Y := YX11_many) (pc := 32) dX11_many_32 kI_0 ?_
      refine g_istore (Y := YX11_many) (pc := 33) (L' := [(4, .int 0), (3, .int 0), (0, .ref 174), (1, .int x1), (2, .int x2)]) dX11_many_33 (Nat.le_of_ble_eq_true rfl) rfl ?_
      refine g_aload_n (Y := YX11_many) (pc := 35) 2 dX11_many_35 rfl ?_
      refine g_iload_n (Y := YX11_many) (pc := 36) 3 dX11_many_36 rfl ?_
      obtain ⟨r13, M14, e15, hF⟩ := bd_some hF
      refine s_callVv (Y := YX11_many) (pc := 37) (as := [.int x1]) (st := []) (r_X11_firstOrder  e15) miX11_firstOrder lk_X11_344 dX11_many_37 k_174 rfl (Nat.le_of_ble_eq_true rfl) (Nat.le_of_ble_eq_true rfl) rfl ?_
      clear e15
      refine g_iconst (Y := YX11_many) (pc := 40) dX11_many_40 kI_1 ?_
      refine g_istore (Y := YX11_many) (pc := 41) (L' := [(5, .int 1), (4, .int 0), (3, .int 0), (0, .ref 174), (1, .int x1), (2, .int x2)]) dX11_many_41 (Nat.le_of_ble_eq_true rfl) rfl ?_
      refine g_loc [3, 5, 2, 1, 0] rfl ?_
      exact w_X11_many_43  _ _ _ _ _ _ hF
    · replace hF := if_t c9 hF
      refine g_loc [] rfl ?_
      exact w_X11_many_24  _ hF
def f_X11_many (x1 : Int32) (x2 : Int32) (M : Mem) : Option (Int32 × Mem) := f_X11_many_0 x1 x2 M
theorem r_X11_many {x1 x2 R : Int32} {M M' : Mem}  (hF : f_X11_many x1 x2 M = some (R, M')) : RunS l D cy ad YX11_many 406 [.ref 174, .int x1, .int x2] X M (some (.int R)) M' := Run.of 2 (miX11_many).1 (Nat.le_of_ble_eq_true rfl) (w_X11_many_0  _ _ _ hF)
def f_X11_areTwo_26  (t0 : Int32) (M : Mem) : Option (Int32 × Mem) :=
  gd (t0 = 0 ∨ t0 = 1) <|
  some (t0, M)
set_option maxRecDepth 100000 in
theorem w_X11_areTwo_26 {R : Int32} {M' : Mem}  (t0 : Int32) (M : Mem) (hF : f_X11_areTwo_26 t0 M = some (R, M')) : RunF l D cy ad none YX11_areTwo 2 0 0 (some (.int R)) (lay X M') 0 0 26 [] [.int t0] (lay X M) := by
  unfold f_X11_areTwo_26 at hF
  obtain ⟨g5, hF⟩ := gd_some hF
  exact s_zret (Y := YX11_areTwo) (pc := 26) dX11_areTwo_26 rfl g5 hF
def f_X11_areTwo_25  (M : Mem) : Option (Int32 × Mem) :=
  f_X11_areTwo_26 0 M
set_option maxRecDepth 100000 in
theorem w_X11_areTwo_25 {R : Int32} {M' : Mem}  (M : Mem) (hF : f_X11_areTwo_25  M = some (R, M')) : RunF l D cy ad none YX11_areTwo 2 0 0 (some (.int R)) (lay X M') 0 0 25 [] [] (lay X M) := by
  unfold f_X11_areTwo_25 at hF
  refine g_iconst (Y := YX11_areTwo) (pc := 25) dX11_areTwo_25 kI_0 ?_
  exact w_X11_areTwo_26  _ _ hF
def f_X11_areTwo_0  (x1 : Int32) (x2 : Int32) (M : Mem) : Option (Int32 × Mem) :=
  bd (f_X11_isGroup x1 M) fun r1 M2 =>
  if r1 = 0 then
    f_X11_areTwo_25 M2
  else
    bd (f_X11_isGroup x2 M2) fun r6 M7 =>
    if r6 = 0 then
      f_X11_areTwo_25 M7
    else
      if x1 = x2 then
        f_X11_areTwo_25 M7
      else
        f_X11_areTwo_26 1 M7
set_option maxRecDepth 100000 in
theorem w_X11_areTwo_0 {R : Int32} {M' : Mem}  (x1 x2 : Int32) (M : Mem) (hF : f_X11_areTwo_0 x1 x2 M = some (R, M')) : RunF l D cy ad none YX11_areTwo 2 0 0 (some (.int R)) (lay X M') 0 0 0 [(0, .ref 174), (1, .int x1), (2, .int x2)] [] (lay X M) := by
  unfold f_X11_areTwo_0 at hF
  refine g_aload_n (Y := YX11_areTwo) (pc := 0) 0 dX11_areTwo_0 rfl ?_
  refine g_iload_n (Y := YX11_areTwo) (pc := 1) 1 dX11_areTwo_1 rfl ?_
  obtain ⟨r1, M2, e3, hF⟩ := bd_some hF
  refine s_callVi (Y := YX11_areTwo) (pc := 2) (as := [.int x1]) (st := []) (r_X11_isGroup  e3) miX11_isGroup lk_X11_228 dX11_areTwo_2 k_174 rfl (Nat.le_of_ble_eq_true rfl) (Nat.le_of_ble_eq_true rfl) rfl ?_
  clear e3
  refine g_if_eq (Y := YX11_areTwo) (pc := 5) (tgt := 25) dX11_areTwo_5 rfl (fun c4 => ?_) (fun c4 => ?_)
  · replace hF := if_t c4 hF
    refine g_loc [] rfl ?_
    exact w_X11_areTwo_25  _ hF
  · replace hF := if_f c4 hF
    refine g_aload_n (Y := YX11_areTwo) (pc := 8) 0 dX11_areTwo_8 rfl ?_
    refine g_iload_n (Y := YX11_areTwo) (pc := 9) 2 dX11_areTwo_9 rfl ?_
    obtain ⟨r6, M7, e8, hF⟩ := bd_some hF
    refine s_callVi (Y := YX11_areTwo) (pc := 10) (as := [.int x2]) (st := []) (r_X11_isGroup  e8) miX11_isGroup lk_X11_228 dX11_areTwo_10 k_174 rfl (Nat.le_of_ble_eq_true rfl) (Nat.le_of_ble_eq_true rfl) rfl ?_
    clear e8
    refine g_if_eq (Y := YX11_areTwo) (pc := 13) (tgt := 25) dX11_areTwo_13 rfl (fun c9 => ?_) (fun c9 => ?_)
    · replace hF := if_t c9 hF
      refine g_loc [] rfl ?_
      exact w_X11_areTwo_25  _ hF
    · replace hF := if_f c9 hF
      refine g_iload_n (Y := YX11_areTwo) (pc := 16) 1 dX11_areTwo_16 rfl ?_
      refine g_iload_n (Y := YX11_areTwo) (pc := 17) 2 dX11_areTwo_17 rfl ?_
      refine g_icmp_eq (Y := YX11_areTwo) (pc := 18) (tgt := 25) dX11_areTwo_18 rfl (fun c10 => ?_) (fun c10 => ?_)
      · replace hF := if_t c10 hF
        refine g_loc [] rfl ?_
        exact w_X11_areTwo_25  _ hF
      · replace hF := if_f c10 hF
        refine g_iconst (Y := YX11_areTwo) (pc := 21) dX11_areTwo_21 kI_1 ?_
        refine g_goto (Y := YX11_areTwo) (pc := 22) (tgt := 26) dX11_areTwo_22 rfl ?_
        refine g_loc [] rfl ?_
        exact w_X11_areTwo_26  _ _ hF
def f_X11_areTwo (x1 : Int32) (x2 : Int32) (M : Mem) : Option (Int32 × Mem) := f_X11_areTwo_0 x1 x2 M
theorem r_X11_areTwo {x1 x2 R : Int32} {M M' : Mem}  (hF : f_X11_areTwo x1 x2 M = some (R, M')) : RunS l D cy ad YX11_areTwo 2 [.ref 174, .int x1, .int x2] X M (some (.int R)) M' := Run.of 2 (miX11_areTwo).1 (Nat.le_of_ble_eq_true rfl) (w_X11_areTwo_0  _ _ _ hF)
def f_X11_allStays_4  : Nat → Int32 → Int32 → Int32 → Mem → Option (Int32 × Mem)
  | 0, _, _, _, _ => none
  | n + 1, x1, x2, x3, M =>
    if x3 < (M 174 1) then
      gd (0 ≤ ((6 * x1) + x3) ∧ ((6 * x1) + x3).toNatClampNeg < 36) <|
      vl ((x2 + (M 187 ((6 * x1) + x3).toNatClampNeg))) fun v3 =>
      vl (x3 + 1) fun v4 =>
      f_X11_allStays_4 n x1 v3 v4 M
    else
      some (x2, M)
set_option maxRecDepth 100000 in
theorem w_X11_allStays_4 {R : Int32} {M' : Mem}  : ∀ (n : Nat) (x1 x2 x3 : Int32) (M : Mem), f_X11_allStays_4 n x1 x2 x3 M = some (R, M') → RunF l D cy ad none YX11_allStays 0 0 0 (some (.int R)) (lay X M') 0 0 4 [(0, .ref 174), (1, .int x1), (2, .int x2), (3, .int x3)] [] (lay X M) := by
  intro n
  induction n with
  | zero => intro x1 x2 x3 M hF; exact absurd hF (by unfold f_X11_allStays_4; exact fun h => nomatch h)
  | succ n ih =>
    intro x1 x2 x3 M hF
    unfold f_X11_allStays_4 at hF
    refine g_iload_n (Y := YX11_allStays) (pc := 4) 3 dX11_allStays_4 rfl ?_
    refine g_aload_n (Y := YX11_allStays) (pc := 5) 0 dX11_allStays_5 rfl ?_
    refine u_getI (Y := YX11_allStays) (pc := 6) dX11_allStays_6 fl_X11_106 k_174 ?_
    refine g_icmp_ge (Y := YX11_allStays) (pc := 9) (tgt := 32) dX11_allStays_9 rfl (fun c1 => ?_) (fun c1 => ?_)
    · replace hF := if_f c1 hF
      refine g_iload_n (Y := YX11_allStays) (pc := 32) 2 dX11_allStays_32 rfl ?_
      exact s_iret (Y := YX11_allStays) (pc := 33) dX11_allStays_33 rfl hF
    · replace hF := if_t c1 hF
      refine g_iload_n (Y := YX11_allStays) (pc := 12) 2 dX11_allStays_12 rfl ?_
      refine g_aload_n (Y := YX11_allStays) (pc := 13) 0 dX11_allStays_13 rfl ?_
      refine u_getR (Y := YX11_allStays) (pc := 14) (j := 187) dX11_allStays_14 fl_X11_48 k_174 rf_174_26 ?_
      refine g_bipush (Y := YX11_allStays) (pc := 17) dX11_allStays_17 kB_6 ?_
      refine g_iload_n (Y := YX11_allStays) (pc := 19) 1 dX11_allStays_19 rfl ?_
      refine g_imul (Y := YX11_allStays) (pc := 20) dX11_allStays_20 ?_
      refine g_iload_n (Y := YX11_allStays) (pc := 21) 3 dX11_allStays_21 rfl ?_
      refine g_iadd (Y := YX11_allStays) (pc := 22) dX11_allStays_22 ?_
      obtain ⟨g2, hF⟩ := gd_some hF
      refine s_iald (Y := YX11_allStays) (pc := 23) dX11_allStays_23 k_187 n_187 g2 ?_
      refine g_iadd (Y := YX11_allStays) (pc := 24) dX11_allStays_24 ?_
      refine g_nm (fun v3 e => ?_)
      replace hF := vl_to e hF; clear e
      refine g_istore_n (Y := YX11_allStays) (pc := 25) (L' := [(2, .int v3), (0, .ref 174), (1, .int x1), (3, .int x3)]) dX11_allStays_25 (Nat.le_of_ble_eq_true rfl) rfl ?_
      refine s_iinc (Y := YX11_allStays) (pc := 26) (j := 3) (L' := fun y => [(3, .int y), (2, .int v3), (0, .ref 174), (1, .int x1)]) dX11_allStays_26 kI_1 rfl (Nat.le_of_ble_eq_true rfl) (fun _ => rfl) (fun v4 e => ?_)
      replace hF := vl_to e hF; clear e
      refine g_goto (Y := YX11_allStays) (pc := 29) (tgt := 4) dX11_allStays_29 rfl ?_
      refine g_loc [2, 3, 1, 0] rfl ?_
      exact ih _ _ _ _ hF
def f_X11_allStays_0  (x1 : Int32) (M : Mem) : Option (Int32 × Mem) :=
  f_X11_allStays_4 FU x1 0 0 M
set_option maxRecDepth 100000 in
theorem w_X11_allStays_0 {R : Int32} {M' : Mem}  (x1 : Int32) (M : Mem) (hF : f_X11_allStays_0 x1 M = some (R, M')) : RunF l D cy ad none YX11_allStays 0 0 0 (some (.int R)) (lay X M') 0 0 0 [(0, .ref 174), (1, .int x1)] [] (lay X M) := by
  unfold f_X11_allStays_0 at hF
  refine g_iconst (Y := YX11_allStays) (pc := 0) dX11_allStays_0 kI_0 ?_
  refine g_istore_n (Y := YX11_allStays) (pc := 1) (L' := [(2, .int 0), (0, .ref 174), (1, .int x1)]) dX11_allStays_1 (Nat.le_of_ble_eq_true rfl) rfl ?_
  refine g_iconst (Y := YX11_allStays) (pc := 2) dX11_allStays_2 kI_0 ?_
  refine g_istore_n (Y := YX11_allStays) (pc := 3) (L' := [(3, .int 0), (2, .int 0), (0, .ref 174), (1, .int x1)]) dX11_allStays_3 (Nat.le_of_ble_eq_true rfl) rfl ?_
  refine g_loc [2, 3, 1, 0] rfl ?_
  exact w_X11_allStays_4  _ _ _ _ _ hF
def f_X11_allStays (x1 : Int32) (M : Mem) : Option (Int32 × Mem) := f_X11_allStays_0 x1 M
theorem r_X11_allStays {x1 R : Int32} {M M' : Mem}  (hF : f_X11_allStays x1 M = some (R, M')) : RunS l D cy ad YX11_allStays 0 [.ref 174, .int x1] X M (some (.int R)) M' := Run.of 1 (miX11_allStays).1 (Nat.le_of_ble_eq_true rfl) (w_X11_allStays_0  _ _ hF)
end NXG
