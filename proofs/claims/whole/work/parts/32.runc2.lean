theorem dX8_letterAt_0 : decode cX8_letterAt 0 = .ok (.aload_n 0, 1) := by decide +kernel
theorem dX8_letterAt_1 : decode cX8_letterAt 1 = .ok (.iload_n 1, 1) := by decide +kernel
theorem dX8_letterAt_2 : decode cX8_letterAt 2 = .ok (.invokevirtual 22, 3) := by decide +kernel
theorem dX8_letterAt_5 : decode cX8_letterAt 5 = .ok (.istore_n 2, 1) := by decide +kernel
theorem dX8_letterAt_6 : decode cX8_letterAt 6 = .ok (.iload_n 2, 1) := by decide +kernel
theorem dX8_letterAt_7 : decode cX8_letterAt 7 = .ok (.bipush 97, 2) := by decide +kernel
theorem dX8_letterAt_9 : decode cX8_letterAt 9 = .ok (.if_icmp .lt 16, 3) := by decide +kernel
theorem dX8_letterAt_12 : decode cX8_letterAt 12 = .ok (.iload_n 2, 1) := by decide +kernel
theorem dX8_letterAt_13 : decode cX8_letterAt 13 = .ok (.bipush 102, 2) := by decide +kernel
theorem dX8_letterAt_15 : decode cX8_letterAt 15 = .ok (.if_icmp .gt 10, 3) := by decide +kernel
theorem dX8_letterAt_18 : decode cX8_letterAt 18 = .ok (.iload_n 2, 1) := by decide +kernel
theorem dX8_letterAt_19 : decode cX8_letterAt 19 = .ok (.bipush 97, 2) := by decide +kernel
theorem dX8_letterAt_21 : decode cX8_letterAt 21 = .ok (.isub, 1) := by decide +kernel
theorem dX8_letterAt_22 : decode cX8_letterAt 22 = .ok (.goto 4, 3) := by decide +kernel
theorem dX8_letterAt_25 : decode cX8_letterAt 25 = .ok (.iconst (-1), 1) := by decide +kernel
theorem dX8_letterAt_26 : decode cX8_letterAt 26 = .ok (.ireturn, 1) := by decide +kernel
theorem dX10_behindAct_0 : decode cX10_behindAct 0 = .ok (.aload_n 0, 1) := by decide +kernel
theorem dX10_behindAct_1 : decode cX10_behindAct 1 = .ok (.getfield 10, 3) := by decide +kernel
theorem dX10_behindAct_4 : decode cX10_behindAct 4 = .ok (.iload_n 1, 1) := by decide +kernel
theorem dX10_behindAct_5 : decode cX10_behindAct 5 = .ok (.invokevirtual 406, 3) := by decide +kernel
theorem dX10_behindAct_8 : decode cX10_behindAct 8 = .ok (.tableswitch 198 109 118 #[56, 198, 100, 126, 198, 198, 198, 198, 198, 152], 56) := by decide +kernel
theorem dX10_behindAct_64 : decode cX10_behindAct 64 = .ok (.aload_n 0, 1) := by decide +kernel
theorem dX10_behindAct_65 : decode cX10_behindAct 65 = .ok (.getfield 10, 3) := by decide +kernel
theorem dX10_behindAct_68 : decode cX10_behindAct 68 = .ok (.iload_n 1, 1) := by decide +kernel
theorem dX10_behindAct_69 : decode cX10_behindAct 69 = .ok (.iconst 1, 1) := by decide +kernel
theorem dX10_behindAct_70 : decode cX10_behindAct 70 = .ok (.iadd, 1) := by decide +kernel
theorem dX10_behindAct_71 : decode cX10_behindAct 71 = .ok (.invokevirtual 421, 3) := by decide +kernel
theorem dX10_behindAct_74 : decode cX10_behindAct 74 = .ok (.iconst (-1), 1) := by decide +kernel
theorem dX10_behindAct_75 : decode cX10_behindAct 75 = .ok (.if_icmp .ne 9, 3) := by decide +kernel
theorem dX10_behindAct_78 : decode cX10_behindAct 78 = .ok (.iconst (-1), 1) := by decide +kernel
theorem dX10_behindAct_79 : decode cX10_behindAct 79 = .ok (.iload_n 1, 1) := by decide +kernel
theorem dX10_behindAct_80 : decode cX10_behindAct 80 = .ok (.iconst 1, 1) := by decide +kernel
theorem dX10_behindAct_81 : decode cX10_behindAct 81 = .ok (.iadd, 1) := by decide +kernel
theorem dX10_behindAct_82 : decode cX10_behindAct 82 = .ok (.isub, 1) := by decide +kernel
theorem dX10_behindAct_83 : decode cX10_behindAct 83 = .ok (.ireturn, 1) := by decide +kernel
theorem dX10_behindAct_84 : decode cX10_behindAct 84 = .ok (.aload_n 0, 1) := by decide +kernel
theorem dX10_behindAct_85 : decode cX10_behindAct 85 = .ok (.getfield 10, 3) := by decide +kernel
theorem dX10_behindAct_88 : decode cX10_behindAct 88 = .ok (.iload_n 1, 1) := by decide +kernel
theorem dX10_behindAct_89 : decode cX10_behindAct 89 = .ok (.iconst 2, 1) := by decide +kernel
theorem dX10_behindAct_90 : decode cX10_behindAct 90 = .ok (.iadd, 1) := by decide +kernel
theorem dX10_behindAct_91 : decode cX10_behindAct 91 = .ok (.invokevirtual 421, 3) := by decide +kernel
theorem dX10_behindAct_94 : decode cX10_behindAct 94 = .ok (.iconst (-1), 1) := by decide +kernel
theorem dX10_behindAct_95 : decode cX10_behindAct 95 = .ok (.if_icmp .ne 9, 3) := by decide +kernel
theorem dX10_behindAct_98 : decode cX10_behindAct 98 = .ok (.iload_n 1, 1) := by decide +kernel
theorem dX10_behindAct_99 : decode cX10_behindAct 99 = .ok (.iconst 2, 1) := by decide +kernel
theorem dX10_behindAct_100 : decode cX10_behindAct 100 = .ok (.iadd, 1) := by decide +kernel
theorem dX10_behindAct_101 : decode cX10_behindAct 101 = .ok (.goto 6, 3) := by decide +kernel
theorem dX10_behindAct_104 : decode cX10_behindAct 104 = .ok (.iload_n 1, 1) := by decide +kernel
theorem dX10_behindAct_105 : decode cX10_behindAct 105 = .ok (.iconst 3, 1) := by decide +kernel
theorem dX10_behindAct_106 : decode cX10_behindAct 106 = .ok (.iadd, 1) := by decide +kernel
theorem dX10_behindAct_107 : decode cX10_behindAct 107 = .ok (.ireturn, 1) := by decide +kernel
theorem dX10_behindAct_108 : decode cX10_behindAct 108 = .ok (.aload_n 0, 1) := by decide +kernel
theorem dX10_behindAct_109 : decode cX10_behindAct 109 = .ok (.getfield 10, 3) := by decide +kernel
theorem dX10_behindAct_112 : decode cX10_behindAct 112 = .ok (.iload_n 1, 1) := by decide +kernel
theorem dX10_behindAct_113 : decode cX10_behindAct 113 = .ok (.iconst 1, 1) := by decide +kernel
theorem dX10_behindAct_114 : decode cX10_behindAct 114 = .ok (.iadd, 1) := by decide +kernel
theorem dX10_behindAct_115 : decode cX10_behindAct 115 = .ok (.invokevirtual 415, 3) := by decide +kernel
theorem dX10_behindAct_118 : decode cX10_behindAct 118 = .ok (.iconst (-1), 1) := by decide +kernel
theorem dX10_behindAct_119 : decode cX10_behindAct 119 = .ok (.if_icmp .ne 11, 3) := by decide +kernel
theorem dX10_behindAct_122 : decode cX10_behindAct 122 = .ok (.iconst (-1), 1) := by decide +kernel
theorem dX10_behindAct_123 : decode cX10_behindAct 123 = .ok (.iload_n 1, 1) := by decide +kernel
theorem dX10_behindAct_124 : decode cX10_behindAct 124 = .ok (.iconst 1, 1) := by decide +kernel
theorem dX10_behindAct_125 : decode cX10_behindAct 125 = .ok (.iadd, 1) := by decide +kernel
theorem dX10_behindAct_126 : decode cX10_behindAct 126 = .ok (.isub, 1) := by decide +kernel
theorem dX10_behindAct_127 : decode cX10_behindAct 127 = .ok (.goto 6, 3) := by decide +kernel
theorem dX10_behindAct_130 : decode cX10_behindAct 130 = .ok (.iload_n 1, 1) := by decide +kernel
theorem dX10_behindAct_131 : decode cX10_behindAct 131 = .ok (.iconst 2, 1) := by decide +kernel
theorem dX10_behindAct_132 : decode cX10_behindAct 132 = .ok (.iadd, 1) := by decide +kernel
theorem dX10_behindAct_133 : decode cX10_behindAct 133 = .ok (.ireturn, 1) := by decide +kernel
theorem dX10_behindAct_134 : decode cX10_behindAct 134 = .ok (.aload_n 0, 1) := by decide +kernel
theorem dX10_behindAct_135 : decode cX10_behindAct 135 = .ok (.getfield 10, 3) := by decide +kernel
theorem dX10_behindAct_138 : decode cX10_behindAct 138 = .ok (.iload_n 1, 1) := by decide +kernel
theorem dX10_behindAct_139 : decode cX10_behindAct 139 = .ok (.iconst 1, 1) := by decide +kernel
theorem dX10_behindAct_140 : decode cX10_behindAct 140 = .ok (.iadd, 1) := by decide +kernel
theorem dX10_behindAct_141 : decode cX10_behindAct 141 = .ok (.invokevirtual 421, 3) := by decide +kernel
theorem dX10_behindAct_144 : decode cX10_behindAct 144 = .ok (.iconst 1, 1) := by decide +kernel
theorem dX10_behindAct_145 : decode cX10_behindAct 145 = .ok (.if_icmp .ge 11, 3) := by decide +kernel
theorem dX10_behindAct_148 : decode cX10_behindAct 148 = .ok (.iconst (-1), 1) := by decide +kernel
theorem dX10_behindAct_149 : decode cX10_behindAct 149 = .ok (.iload_n 1, 1) := by decide +kernel
theorem dX10_behindAct_150 : decode cX10_behindAct 150 = .ok (.iconst 1, 1) := by decide +kernel
theorem dX10_behindAct_151 : decode cX10_behindAct 151 = .ok (.iadd, 1) := by decide +kernel
theorem dX10_behindAct_152 : decode cX10_behindAct 152 = .ok (.isub, 1) := by decide +kernel
theorem dX10_behindAct_153 : decode cX10_behindAct 153 = .ok (.goto 6, 3) := by decide +kernel
theorem dX10_behindAct_156 : decode cX10_behindAct 156 = .ok (.iload_n 1, 1) := by decide +kernel
theorem dX10_behindAct_157 : decode cX10_behindAct 157 = .ok (.iconst 2, 1) := by decide +kernel
theorem dX10_behindAct_158 : decode cX10_behindAct 158 = .ok (.iadd, 1) := by decide +kernel
theorem dX10_behindAct_159 : decode cX10_behindAct 159 = .ok (.ireturn, 1) := by decide +kernel
theorem dX10_behindAct_160 : decode cX10_behindAct 160 = .ok (.aload_n 0, 1) := by decide +kernel
theorem dX10_behindAct_161 : decode cX10_behindAct 161 = .ok (.getfield 10, 3) := by decide +kernel
theorem dX10_behindAct_164 : decode cX10_behindAct 164 = .ok (.iload_n 1, 1) := by decide +kernel
theorem dX10_behindAct_165 : decode cX10_behindAct 165 = .ok (.iconst 1, 1) := by decide +kernel
theorem dX10_behindAct_166 : decode cX10_behindAct 166 = .ok (.iadd, 1) := by decide +kernel
theorem dX10_behindAct_167 : decode cX10_behindAct 167 = .ok (.invokevirtual 415, 3) := by decide +kernel
theorem dX10_behindAct_170 : decode cX10_behindAct 170 = .ok (.iconst (-1), 1) := by decide +kernel
theorem dX10_behindAct_171 : decode cX10_behindAct 171 = .ok (.if_icmp .ne 9, 3) := by decide +kernel
theorem dX10_behindAct_174 : decode cX10_behindAct 174 = .ok (.iconst (-1), 1) := by decide +kernel
theorem dX10_behindAct_175 : decode cX10_behindAct 175 = .ok (.iload_n 1, 1) := by decide +kernel
theorem dX10_behindAct_176 : decode cX10_behindAct 176 = .ok (.iconst 1, 1) := by decide +kernel
theorem dX10_behindAct_177 : decode cX10_behindAct 177 = .ok (.iadd, 1) := by decide +kernel
theorem dX10_behindAct_178 : decode cX10_behindAct 178 = .ok (.isub, 1) := by decide +kernel
theorem dX10_behindAct_179 : decode cX10_behindAct 179 = .ok (.ireturn, 1) := by decide +kernel
theorem dX10_behindAct_180 : decode cX10_behindAct 180 = .ok (.aload_n 0, 1) := by decide +kernel
theorem dX10_behindAct_181 : decode cX10_behindAct 181 = .ok (.getfield 10, 3) := by decide +kernel
theorem dX10_behindAct_184 : decode cX10_behindAct 184 = .ok (.iload_n 1, 1) := by decide +kernel
theorem dX10_behindAct_185 : decode cX10_behindAct 185 = .ok (.iconst 2, 1) := by decide +kernel
theorem dX10_behindAct_186 : decode cX10_behindAct 186 = .ok (.iadd, 1) := by decide +kernel
theorem dX10_behindAct_187 : decode cX10_behindAct 187 = .ok (.invokevirtual 421, 3) := by decide +kernel
theorem dX10_behindAct_190 : decode cX10_behindAct 190 = .ok (.iconst 1, 1) := by decide +kernel
theorem dX10_behindAct_191 : decode cX10_behindAct 191 = .ok (.if_icmp .ge 11, 3) := by decide +kernel
theorem dX10_behindAct_194 : decode cX10_behindAct 194 = .ok (.iconst (-1), 1) := by decide +kernel
theorem dX10_behindAct_195 : decode cX10_behindAct 195 = .ok (.iload_n 1, 1) := by decide +kernel
theorem dX10_behindAct_196 : decode cX10_behindAct 196 = .ok (.iconst 2, 1) := by decide +kernel
theorem dX10_behindAct_197 : decode cX10_behindAct 197 = .ok (.iadd, 1) := by decide +kernel
theorem dX10_behindAct_198 : decode cX10_behindAct 198 = .ok (.isub, 1) := by decide +kernel
theorem dX10_behindAct_199 : decode cX10_behindAct 199 = .ok (.goto 6, 3) := by decide +kernel
theorem dX10_behindAct_202 : decode cX10_behindAct 202 = .ok (.iload_n 1, 1) := by decide +kernel
theorem dX10_behindAct_203 : decode cX10_behindAct 203 = .ok (.iconst 3, 1) := by decide +kernel
theorem dX10_behindAct_204 : decode cX10_behindAct 204 = .ok (.iadd, 1) := by decide +kernel
theorem dX10_behindAct_205 : decode cX10_behindAct 205 = .ok (.ireturn, 1) := by decide +kernel
theorem dX10_behindAct_206 : decode cX10_behindAct 206 = .ok (.iconst (-1), 1) := by decide +kernel
theorem dX10_behindAct_207 : decode cX10_behindAct 207 = .ok (.iload_n 1, 1) := by decide +kernel
theorem dX10_behindAct_208 : decode cX10_behindAct 208 = .ok (.isub, 1) := by decide +kernel
theorem dX10_behindAct_209 : decode cX10_behindAct 209 = .ok (.ireturn, 1) := by decide +kernel
theorem dX10_faultOfDay_0 : decode cX10_faultOfDay 0 = .ok (.aload_n 0, 1) := by decide +kernel
theorem dX10_faultOfDay_1 : decode cX10_faultOfDay 1 = .ok (.getfield 10, 3) := by decide +kernel
theorem dX10_faultOfDay_4 : decode cX10_faultOfDay 4 = .ok (.bipush 60, 2) := by decide +kernel
theorem dX10_faultOfDay_6 : decode cX10_faultOfDay 6 = .ok (.putfield 403, 3) := by decide +kernel
theorem dX10_faultOfDay_9 : decode cX10_faultOfDay 9 = .ok (.aload_n 0, 1) := by decide +kernel
theorem dX10_faultOfDay_10 : decode cX10_faultOfDay 10 = .ok (.getfield 10, 3) := by decide +kernel
theorem dX10_faultOfDay_13 : decode cX10_faultOfDay 13 = .ok (.getfield 120, 3) := by decide +kernel
theorem dX10_faultOfDay_16 : decode cX10_faultOfDay 16 = .ok (.ifCond .ne 5, 3) := by decide +kernel
theorem dX10_faultOfDay_19 : decode cX10_faultOfDay 19 = .ok (.iconst (-1), 1) := by decide +kernel
theorem dX10_faultOfDay_20 : decode cX10_faultOfDay 20 = .ok (.ireturn, 1) := by decide +kernel
theorem dX10_faultOfDay_21 : decode cX10_faultOfDay 21 = .ok (.iconst 0, 1) := by decide +kernel
theorem dX10_faultOfDay_22 : decode cX10_faultOfDay 22 = .ok (.istore_n 1, 1) := by decide +kernel
theorem dX10_faultOfDay_23 : decode cX10_faultOfDay 23 = .ok (.iconst 0, 1) := by decide +kernel
theorem dX10_faultOfDay_24 : decode cX10_faultOfDay 24 = .ok (.istore_n 2, 1) := by decide +kernel
theorem dX10_faultOfDay_25 : decode cX10_faultOfDay 25 = .ok (.iload_n 2, 1) := by decide +kernel
theorem dX10_faultOfDay_26 : decode cX10_faultOfDay 26 = .ok (.bipush 80, 2) := by decide +kernel
theorem dX10_faultOfDay_28 : decode cX10_faultOfDay 28 = .ok (.if_icmp .gt 56, 3) := by decide +kernel
theorem dX10_faultOfDay_31 : decode cX10_faultOfDay 31 = .ok (.aload_n 0, 1) := by decide +kernel
theorem dX10_faultOfDay_32 : decode cX10_faultOfDay 32 = .ok (.iload_n 1, 1) := by decide +kernel
theorem dX10_faultOfDay_33 : decode cX10_faultOfDay 33 = .ok (.invokevirtual 418, 3) := by decide +kernel
theorem dX10_faultOfDay_36 : decode cX10_faultOfDay 36 = .ok (.istore_n 3, 1) := by decide +kernel
theorem dX10_faultOfDay_37 : decode cX10_faultOfDay 37 = .ok (.iload_n 3, 1) := by decide +kernel
theorem dX10_faultOfDay_38 : decode cX10_faultOfDay 38 = .ok (.ifCond .ge 7, 3) := by decide +kernel
theorem dX10_faultOfDay_41 : decode cX10_faultOfDay 41 = .ok (.iconst (-1), 1) := by decide +kernel
theorem dX10_faultOfDay_42 : decode cX10_faultOfDay 42 = .ok (.iload_n 3, 1) := by decide +kernel
theorem dX10_faultOfDay_43 : decode cX10_faultOfDay 43 = .ok (.isub, 1) := by decide +kernel
theorem dX10_faultOfDay_44 : decode cX10_faultOfDay 44 = .ok (.ireturn, 1) := by decide +kernel
theorem dX10_faultOfDay_45 : decode cX10_faultOfDay 45 = .ok (.aload_n 0, 1) := by decide +kernel
theorem dX10_faultOfDay_46 : decode cX10_faultOfDay 46 = .ok (.getfield 10, 3) := by decide +kernel
theorem dX10_faultOfDay_49 : decode cX10_faultOfDay 49 = .ok (.iload_n 3, 1) := by decide +kernel
theorem dX10_faultOfDay_50 : decode cX10_faultOfDay 50 = .ok (.invokevirtual 406, 3) := by decide +kernel
theorem dX10_faultOfDay_53 : decode cX10_faultOfDay 53 = .ok (.iconst (-1), 1) := by decide +kernel
theorem dX10_faultOfDay_54 : decode cX10_faultOfDay 54 = .ok (.if_icmp .ne 5, 3) := by decide +kernel
theorem dX10_faultOfDay_57 : decode cX10_faultOfDay 57 = .ok (.iconst (-1), 1) := by decide +kernel
theorem dX10_faultOfDay_58 : decode cX10_faultOfDay 58 = .ok (.ireturn, 1) := by decide +kernel
theorem dX10_faultOfDay_59 : decode cX10_faultOfDay 59 = .ok (.aload_n 0, 1) := by decide +kernel
theorem dX10_faultOfDay_60 : decode cX10_faultOfDay 60 = .ok (.getfield 10, 3) := by decide +kernel
theorem dX10_faultOfDay_63 : decode cX10_faultOfDay 63 = .ok (.iload_n 3, 1) := by decide +kernel
theorem dX10_faultOfDay_64 : decode cX10_faultOfDay 64 = .ok (.invokevirtual 406, 3) := by decide +kernel
theorem dX10_faultOfDay_67 : decode cX10_faultOfDay 67 = .ok (.bipush 59, 2) := by decide +kernel
theorem dX10_faultOfDay_69 : decode cX10_faultOfDay 69 = .ok (.if_icmp .eq 5, 3) := by decide +kernel
theorem dX10_faultOfDay_72 : decode cX10_faultOfDay 72 = .ok (.iload_n 3, 1) := by decide +kernel
theorem dX10_faultOfDay_73 : decode cX10_faultOfDay 73 = .ok (.ireturn, 1) := by decide +kernel
theorem dX10_faultOfDay_74 : decode cX10_faultOfDay 74 = .ok (.iload_n 3, 1) := by decide +kernel
theorem dX10_faultOfDay_75 : decode cX10_faultOfDay 75 = .ok (.iconst 1, 1) := by decide +kernel
theorem dX10_faultOfDay_76 : decode cX10_faultOfDay 76 = .ok (.iadd, 1) := by decide +kernel
theorem dX10_faultOfDay_77 : decode cX10_faultOfDay 77 = .ok (.istore_n 1, 1) := by decide +kernel
theorem dX10_faultOfDay_78 : decode cX10_faultOfDay 78 = .ok (.iinc 2 1, 3) := by decide +kernel
theorem dX10_faultOfDay_81 : decode cX10_faultOfDay 81 = .ok (.goto (-56), 3) := by decide +kernel
theorem dX10_faultOfDay_84 : decode cX10_faultOfDay 84 = .ok (.iload_n 1, 1) := by decide +kernel
theorem dX10_faultOfDay_85 : decode cX10_faultOfDay 85 = .ok (.ireturn, 1) := by decide +kernel
theorem dX10_actsTold_0 : decode cX10_actsTold 0 = .ok (.aload_n 0, 1) := by decide +kernel
theorem dX10_actsTold_1 : decode cX10_actsTold 1 = .ok (.getfield 10, 3) := by decide +kernel
theorem dX10_actsTold_4 : decode cX10_actsTold 4 = .ok (.getfield 120, 3) := by decide +kernel
theorem dX10_actsTold_7 : decode cX10_actsTold 7 = .ok (.ifCond .ne 7, 3) := by decide +kernel
theorem dX10_actsTold_10 : decode cX10_actsTold 10 = .ok (.iconst 0, 1) := by decide +kernel
theorem dX10_actsTold_11 : decode cX10_actsTold 11 = .ok (.goto 4, 3) := by decide +kernel
theorem dX10_actsTold_14 : decode cX10_actsTold 14 = .ok (.iconst 1, 1) := by decide +kernel
theorem dX10_actsTold_15 : decode cX10_actsTold 15 = .ok (.istore_n 1, 1) := by decide +kernel
theorem dX10_actsTold_16 : decode cX10_actsTold 16 = .ok (.iconst 0, 1) := by decide +kernel
theorem dX10_actsTold_17 : decode cX10_actsTold 17 = .ok (.istore_n 2, 1) := by decide +kernel
theorem dX10_actsTold_18 : decode cX10_actsTold 18 = .ok (.iload_n 2, 1) := by decide +kernel
theorem dX10_actsTold_19 : decode cX10_actsTold 19 = .ok (.aload_n 0, 1) := by decide +kernel
theorem dX10_actsTold_20 : decode cX10_actsTold 20 = .ok (.getfield 10, 3) := by decide +kernel
theorem dX10_actsTold_23 : decode cX10_actsTold 23 = .ok (.getfield 120, 3) := by decide +kernel
theorem dX10_actsTold_26 : decode cX10_actsTold 26 = .ok (.if_icmp .ge 25, 3) := by decide +kernel
theorem dX10_actsTold_29 : decode cX10_actsTold 29 = .ok (.aload_n 0, 1) := by decide +kernel
theorem dX10_actsTold_30 : decode cX10_actsTold 30 = .ok (.getfield 10, 3) := by decide +kernel
theorem dX10_actsTold_33 : decode cX10_actsTold 33 = .ok (.iload_n 2, 1) := by decide +kernel
theorem dX10_actsTold_34 : decode cX10_actsTold 34 = .ok (.invokevirtual 406, 3) := by decide +kernel
theorem dX10_actsTold_37 : decode cX10_actsTold 37 = .ok (.bipush 59, 2) := by decide +kernel
theorem dX10_actsTold_39 : decode cX10_actsTold 39 = .ok (.if_icmp .ne 6, 3) := by decide +kernel
theorem dX10_actsTold_42 : decode cX10_actsTold 42 = .ok (.iinc 1 1, 3) := by decide +kernel
theorem dX10_actsTold_45 : decode cX10_actsTold 45 = .ok (.iinc 2 1, 3) := by decide +kernel
theorem dX10_actsTold_48 : decode cX10_actsTold 48 = .ok (.goto (-30), 3) := by decide +kernel
theorem dX10_actsTold_51 : decode cX10_actsTold 51 = .ok (.iload_n 1, 1) := by decide +kernel
theorem dX10_actsTold_52 : decode cX10_actsTold 52 = .ok (.ireturn, 1) := by decide +kernel
theorem dX10_doAct_0 : decode cX10_doAct 0 = .ok (.aload_n 0, 1) := by decide +kernel
theorem dX10_doAct_1 : decode cX10_doAct 1 = .ok (.getfield 10, 3) := by decide +kernel
theorem dX10_doAct_4 : decode cX10_doAct 4 = .ok (.iload_n 1, 1) := by decide +kernel
theorem dX10_doAct_5 : decode cX10_doAct 5 = .ok (.iconst 1, 1) := by decide +kernel
theorem dX10_doAct_6 : decode cX10_doAct 6 = .ok (.iadd, 1) := by decide +kernel
theorem dX10_doAct_7 : decode cX10_doAct 7 = .ok (.invokevirtual 421, 3) := by decide +kernel
theorem dX10_doAct_10 : decode cX10_doAct 10 = .ok (.istore_n 2, 1) := by decide +kernel
theorem dX10_doAct_11 : decode cX10_doAct 11 = .ok (.aload_n 0, 1) := by decide +kernel
theorem dX10_doAct_12 : decode cX10_doAct 12 = .ok (.getfield 10, 3) := by decide +kernel
theorem dX10_doAct_15 : decode cX10_doAct 15 = .ok (.iload_n 1, 1) := by decide +kernel
theorem dX10_doAct_16 : decode cX10_doAct 16 = .ok (.iconst 2, 1) := by decide +kernel
theorem dX10_doAct_17 : decode cX10_doAct 17 = .ok (.iadd, 1) := by decide +kernel
theorem dX10_doAct_18 : decode cX10_doAct 18 = .ok (.invokevirtual 421, 3) := by decide +kernel
theorem dX10_doAct_21 : decode cX10_doAct 21 = .ok (.istore_n 3, 1) := by decide +kernel
theorem dX10_doAct_22 : decode cX10_doAct 22 = .ok (.aload_n 0, 1) := by decide +kernel
theorem dX10_doAct_23 : decode cX10_doAct 23 = .ok (.getfield 10, 3) := by decide +kernel
theorem dX10_doAct_26 : decode cX10_doAct 26 = .ok (.iload_n 1, 1) := by decide +kernel
theorem dX10_doAct_27 : decode cX10_doAct 27 = .ok (.iconst 1, 1) := by decide +kernel
theorem dX10_doAct_28 : decode cX10_doAct 28 = .ok (.iadd, 1) := by decide +kernel
theorem dX10_doAct_29 : decode cX10_doAct 29 = .ok (.invokevirtual 415, 3) := by decide +kernel
theorem dX10_doAct_32 : decode cX10_doAct 32 = .ok (.istore 4, 2) := by decide +kernel
theorem dX10_doAct_34 : decode cX10_doAct 34 = .ok (.aload_n 0, 1) := by decide +kernel
theorem dX10_doAct_35 : decode cX10_doAct 35 = .ok (.getfield 10, 3) := by decide +kernel
theorem dX10_doAct_38 : decode cX10_doAct 38 = .ok (.iload_n 1, 1) := by decide +kernel
theorem dX10_doAct_39 : decode cX10_doAct 39 = .ok (.invokevirtual 406, 3) := by decide +kernel
theorem dX10_doAct_42 : decode cX10_doAct 42 = .ok (.lookupswitch 143 #[(109, 34), (111, 75), (118, 120)], 34) := by decide +kernel
theorem dX10_doAct_76 : decode cX10_doAct 76 = .ok (.iload_n 3, 1) := by decide +kernel
theorem dX10_doAct_77 : decode cX10_doAct 77 = .ok (.iconst (-1), 1) := by decide +kernel
theorem dX10_doAct_78 : decode cX10_doAct 78 = .ok (.if_icmp .ne 7, 3) := by decide +kernel
theorem dX10_doAct_81 : decode cX10_doAct 81 = .ok (.iload_n 2, 1) := by decide +kernel
theorem dX10_doAct_82 : decode cX10_doAct 82 = .ok (.goto 9, 3) := by decide +kernel
theorem dX10_doAct_85 : decode cX10_doAct 85 = .ok (.iload_n 2, 1) := by decide +kernel
theorem dX10_doAct_86 : decode cX10_doAct 86 = .ok (.bipush 10, 2) := by decide +kernel
theorem dX10_doAct_88 : decode cX10_doAct 88 = .ok (.imul, 1) := by decide +kernel
theorem dX10_doAct_89 : decode cX10_doAct 89 = .ok (.iload_n 3, 1) := by decide +kernel
theorem dX10_doAct_90 : decode cX10_doAct 90 = .ok (.iadd, 1) := by decide +kernel
theorem dX10_doAct_91 : decode cX10_doAct 91 = .ok (.istore 5, 2) := by decide +kernel
theorem dX10_doAct_93 : decode cX10_doAct 93 = .ok (.iload 5, 2) := by decide +kernel
theorem dX10_doAct_95 : decode cX10_doAct 95 = .ok (.bipush 90, 2) := by decide +kernel
theorem dX10_doAct_97 : decode cX10_doAct 97 = .ok (.if_icmp .le 5, 3) := by decide +kernel
theorem dX10_doAct_100 : decode cX10_doAct 100 = .ok (.iconst 0, 1) := by decide +kernel
theorem dX10_doAct_101 : decode cX10_doAct 101 = .ok (.ireturn, 1) := by decide +kernel
theorem dX10_doAct_102 : decode cX10_doAct 102 = .ok (.aload_n 0, 1) := by decide +kernel
theorem dX10_doAct_103 : decode cX10_doAct 103 = .ok (.getfield 19, 3) := by decide +kernel
theorem dX10_doAct_106 : decode cX10_doAct 106 = .ok (.aload_n 0, 1) := by decide +kernel
theorem dX10_doAct_107 : decode cX10_doAct 107 = .ok (.getfield 35, 3) := by decide +kernel
theorem dX10_doAct_110 : decode cX10_doAct 110 = .ok (.iload 5, 2) := by decide +kernel
theorem dX10_doAct_112 : decode cX10_doAct 112 = .ok (.invokevirtual 262, 3) := by decide +kernel
theorem dX10_doAct_115 : decode cX10_doAct 115 = .ok (.iconst 1, 1) := by decide +kernel
theorem dX10_doAct_116 : decode cX10_doAct 116 = .ok (.ireturn, 1) := by decide +kernel
theorem dX10_doAct_117 : decode cX10_doAct 117 = .ok (.aload_n 0, 1) := by decide +kernel
theorem dX10_doAct_118 : decode cX10_doAct 118 = .ok (.getfield 19, 3) := by decide +kernel
theorem dX10_doAct_121 : decode cX10_doAct 121 = .ok (.iload 4, 2) := by decide +kernel
theorem dX10_doAct_123 : decode cX10_doAct 123 = .ok (.invokevirtual 152, 3) := by decide +kernel
theorem dX10_doAct_126 : decode cX10_doAct 126 = .ok (.ifCond .eq 19, 3) := by decide +kernel
theorem dX10_doAct_129 : decode cX10_doAct 129 = .ok (.aload_n 0, 1) := by decide +kernel
theorem dX10_doAct_130 : decode cX10_doAct 130 = .ok (.getfield 19, 3) := by decide +kernel
theorem dX10_doAct_133 : decode cX10_doAct 133 = .ok (.aload_n 0, 1) := by decide +kernel
theorem dX10_doAct_134 : decode cX10_doAct 134 = .ok (.getfield 35, 3) := by decide +kernel
theorem dX10_doAct_137 : decode cX10_doAct 137 = .ok (.iload 4, 2) := by decide +kernel
theorem dX10_doAct_139 : decode cX10_doAct 139 = .ok (.invokevirtual 211, 3) := by decide +kernel
theorem dX10_doAct_142 : decode cX10_doAct 142 = .ok (.ifCond .eq 5, 3) := by decide +kernel
theorem dX10_doAct_145 : decode cX10_doAct 145 = .ok (.iconst 0, 1) := by decide +kernel
theorem dX10_doAct_146 : decode cX10_doAct 146 = .ok (.ireturn, 1) := by decide +kernel
theorem dX10_doAct_147 : decode cX10_doAct 147 = .ok (.aload_n 0, 1) := by decide +kernel
theorem dX10_doAct_148 : decode cX10_doAct 148 = .ok (.getfield 19, 3) := by decide +kernel
theorem dX10_doAct_151 : decode cX10_doAct 151 = .ok (.aload_n 0, 1) := by decide +kernel
theorem dX10_doAct_152 : decode cX10_doAct 152 = .ok (.getfield 35, 3) := by decide +kernel
theorem dX10_doAct_155 : decode cX10_doAct 155 = .ok (.iload 4, 2) := by decide +kernel
theorem dX10_doAct_157 : decode cX10_doAct 157 = .ok (.invokevirtual 218, 3) := by decide +kernel
theorem dX10_doAct_160 : decode cX10_doAct 160 = .ok (.iconst 1, 1) := by decide +kernel
theorem dX10_doAct_161 : decode cX10_doAct 161 = .ok (.ireturn, 1) := by decide +kernel
theorem dX10_doAct_162 : decode cX10_doAct 162 = .ok (.aload_n 0, 1) := by decide +kernel
theorem dX10_doAct_163 : decode cX10_doAct 163 = .ok (.iload 4, 2) := by decide +kernel
theorem dX10_doAct_165 : decode cX10_doAct 165 = .ok (.invokevirtual 230, 3) := by decide +kernel
theorem dX10_doAct_168 : decode cX10_doAct 168 = .ok (.ifCond .ne 5, 3) := by decide +kernel
theorem dX10_doAct_171 : decode cX10_doAct 171 = .ok (.iconst 0, 1) := by decide +kernel
theorem dX10_doAct_172 : decode cX10_doAct 172 = .ok (.ireturn, 1) := by decide +kernel
theorem dX10_doAct_173 : decode cX10_doAct 173 = .ok (.aload_n 0, 1) := by decide +kernel
theorem dX10_doAct_174 : decode cX10_doAct 174 = .ok (.getfield 35, 3) := by decide +kernel
theorem dX10_doAct_177 : decode cX10_doAct 177 = .ok (.iload 4, 2) := by decide +kernel
theorem dX10_doAct_179 : decode cX10_doAct 179 = .ok (.iload_n 3, 1) := by decide +kernel
theorem dX10_doAct_180 : decode cX10_doAct 180 = .ok (.invokevirtual 233, 3) := by decide +kernel
theorem dX10_doAct_183 : decode cX10_doAct 183 = .ok (.iconst 1, 1) := by decide +kernel
theorem dX10_doAct_184 : decode cX10_doAct 184 = .ok (.ireturn, 1) := by decide +kernel
theorem dX10_doAct_185 : decode cX10_doAct 185 = .ok (.aload_n 0, 1) := by decide +kernel
theorem dX10_doAct_186 : decode cX10_doAct 186 = .ok (.getfield 35, 3) := by decide +kernel
theorem dX10_doAct_189 : decode cX10_doAct 189 = .ok (.dup, 1) := by decide +kernel
theorem dX10_doAct_190 : decode cX10_doAct 190 = .ok (.getfield 237, 3) := by decide +kernel
theorem dX10_doAct_193 : decode cX10_doAct 193 = .ok (.iload_n 2, 1) := by decide +kernel
theorem dX10_doAct_194 : decode cX10_doAct 194 = .ok (.iadd, 1) := by decide +kernel
theorem dX10_doAct_195 : decode cX10_doAct 195 = .ok (.putfield 237, 3) := by decide +kernel
theorem dX10_doAct_198 : decode cX10_doAct 198 = .ok (.iconst 1, 1) := by decide +kernel
theorem dX10_doAct_199 : decode cX10_doAct 199 = .ok (.ireturn, 1) := by decide +kernel
theorem dX10_doActs_0 : decode cX10_doActs 0 = .ok (.iconst 0, 1) := by decide +kernel
theorem dX10_doActs_1 : decode cX10_doActs 1 = .ok (.istore_n 2, 1) := by decide +kernel
theorem dX10_doActs_2 : decode cX10_doActs 2 = .ok (.iconst 0, 1) := by decide +kernel
theorem dX10_doActs_3 : decode cX10_doActs 3 = .ok (.istore_n 3, 1) := by decide +kernel
theorem dX10_doActs_4 : decode cX10_doActs 4 = .ok (.iload_n 3, 1) := by decide +kernel
theorem dX10_doActs_5 : decode cX10_doActs 5 = .ok (.iload_n 1, 1) := by decide +kernel
theorem dX10_doActs_6 : decode cX10_doActs 6 = .ok (.if_icmp .ge 27, 3) := by decide +kernel
theorem dX10_doActs_9 : decode cX10_doActs 9 = .ok (.aload_n 0, 1) := by decide +kernel
theorem dX10_doActs_10 : decode cX10_doActs 10 = .ok (.iload_n 2, 1) := by decide +kernel
theorem dX10_doActs_11 : decode cX10_doActs 11 = .ok (.invokevirtual 424, 3) := by decide +kernel
theorem dX10_doActs_14 : decode cX10_doActs 14 = .ok (.ifCond .ne 5, 3) := by decide +kernel
theorem dX10_doActs_17 : decode cX10_doActs 17 = .ok (.iload_n 3, 1) := by decide +kernel
theorem dX10_doActs_18 : decode cX10_doActs 18 = .ok (.ireturn, 1) := by decide +kernel
theorem dX10_doActs_19 : decode cX10_doActs 19 = .ok (.aload_n 0, 1) := by decide +kernel
theorem dX10_doActs_20 : decode cX10_doActs 20 = .ok (.iload_n 2, 1) := by decide +kernel
theorem dX10_doActs_21 : decode cX10_doActs 21 = .ok (.invokevirtual 418, 3) := by decide +kernel
theorem dX10_doActs_24 : decode cX10_doActs 24 = .ok (.iconst 1, 1) := by decide +kernel
theorem dX10_doActs_25 : decode cX10_doActs 25 = .ok (.iadd, 1) := by decide +kernel
theorem dX10_doActs_26 : decode cX10_doActs 26 = .ok (.istore_n 2, 1) := by decide +kernel
theorem dX10_doActs_27 : decode cX10_doActs 27 = .ok (.iinc 3 1, 3) := by decide +kernel
theorem dX10_doActs_30 : decode cX10_doActs 30 = .ok (.goto (-26), 3) := by decide +kernel
theorem dX10_doActs_33 : decode cX10_doActs 33 = .ok (.iload_n 1, 1) := by decide +kernel
theorem dX10_doActs_34 : decode cX10_doActs 34 = .ok (.ireturn, 1) := by decide +kernel
theorem dX10_day_0 : decode cX10_day 0 = .ok (.aload_n 0, 1) := by decide +kernel
theorem dX10_day_1 : decode cX10_day 1 = .ok (.invokevirtual 265, 3) := by decide +kernel
theorem dX10_day_4 : decode cX10_day 4 = .ok (.istore_n 1, 1) := by decide +kernel
theorem dX10_day_5 : decode cX10_day 5 = .ok (.iload_n 1, 1) := by decide +kernel
theorem dX10_day_6 : decode cX10_day 6 = .ok (.iconst (-1), 1) := by decide +kernel
theorem dX10_day_7 : decode cX10_day 7 = .ok (.if_icmp .eq 15, 3) := by decide +kernel
theorem dX10_day_10 : decode cX10_day 10 = .ok (.aload_n 0, 1) := by decide +kernel
theorem dX10_day_11 : decode cX10_day 11 = .ok (.getfield 10, 3) := by decide +kernel
theorem dX10_day_14 : decode cX10_day 14 = .ok (.iconst 0, 1) := by decide +kernel
theorem dX10_day_15 : decode cX10_day 15 = .ok (.putfield 120, 3) := by decide +kernel
theorem dX10_day_18 : decode cX10_day 18 = .ok (.iconst (-1), 1) := by decide +kernel
theorem dX10_day_19 : decode cX10_day 19 = .ok (.iload_n 1, 1) := by decide +kernel
theorem dX10_day_20 : decode cX10_day 20 = .ok (.isub, 1) := by decide +kernel
theorem dX10_day_21 : decode cX10_day 21 = .ok (.ireturn, 1) := by decide +kernel
theorem dX10_day_22 : decode cX10_day 22 = .ok (.aload_n 0, 1) := by decide +kernel
theorem dX10_day_23 : decode cX10_day 23 = .ok (.getfield 39, 3) := by decide +kernel
theorem dX10_day_26 : decode cX10_day 26 = .ok (.aload_n 0, 1) := by decide +kernel
theorem dX10_day_27 : decode cX10_day 27 = .ok (.getfield 35, 3) := by decide +kernel
theorem dX10_day_30 : decode cX10_day 30 = .ok (.invokevirtual 268, 3) := by decide +kernel
theorem dX10_day_33 : decode cX10_day 33 = .ok (.aload_n 0, 1) := by decide +kernel
theorem dX10_day_34 : decode cX10_day 34 = .ok (.invokevirtual 271, 3) := by decide +kernel
theorem dX10_day_37 : decode cX10_day 37 = .ok (.istore_n 2, 1) := by decide +kernel
theorem dX10_day_38 : decode cX10_day 38 = .ok (.aload_n 0, 1) := by decide +kernel
theorem dX10_day_39 : decode cX10_day 39 = .ok (.iload_n 2, 1) := by decide +kernel
theorem dX10_day_40 : decode cX10_day 40 = .ok (.invokevirtual 274, 3) := by decide +kernel
theorem dX10_day_43 : decode cX10_day 43 = .ok (.istore_n 3, 1) := by decide +kernel
theorem dX10_day_44 : decode cX10_day 44 = .ok (.aload_n 0, 1) := by decide +kernel
theorem dX10_day_45 : decode cX10_day 45 = .ok (.getfield 10, 3) := by decide +kernel
theorem dX10_day_48 : decode cX10_day 48 = .ok (.iconst 0, 1) := by decide +kernel
theorem dX10_day_49 : decode cX10_day 49 = .ok (.putfield 120, 3) := by decide +kernel
theorem dX10_day_52 : decode cX10_day 52 = .ok (.iload_n 3, 1) := by decide +kernel
theorem dX10_day_53 : decode cX10_day 53 = .ok (.ifCond .le 14, 3) := by decide +kernel
theorem dX10_day_56 : decode cX10_day 56 = .ok (.aload_n 0, 1) := by decide +kernel
theorem dX10_day_57 : decode cX10_day 57 = .ok (.getfield 51, 3) := by decide +kernel
theorem dX10_day_60 : decode cX10_day 60 = .ok (.aload_n 0, 1) := by decide +kernel
theorem dX10_day_61 : decode cX10_day 61 = .ok (.getfield 39, 3) := by decide +kernel
theorem dX10_day_64 : decode cX10_day 64 = .ok (.invokevirtual 215, 3) := by decide +kernel
theorem dX10_day_67 : decode cX10_day 67 = .ok (.aload_n 0, 1) := by decide +kernel
theorem dX10_day_68 : decode cX10_day 68 = .ok (.invokevirtual 246, 3) := by decide +kernel
theorem dX10_day_71 : decode cX10_day 71 = .ok (.aload_n 0, 1) := by decide +kernel
theorem dX10_day_72 : decode cX10_day 72 = .ok (.iload_n 3, 1) := by decide +kernel
theorem dX10_day_73 : decode cX10_day 73 = .ok (.iload_n 2, 1) := by decide +kernel
theorem dX10_day_74 : decode cX10_day 74 = .ok (.if_icmp .ge 7, 3) := by decide +kernel
theorem dX10_day_77 : decode cX10_day 77 = .ok (.iconst 1, 1) := by decide +kernel
theorem dX10_day_78 : decode cX10_day 78 = .ok (.goto 4, 3) := by decide +kernel
theorem dX10_day_81 : decode cX10_day 81 = .ok (.iconst 0, 1) := by decide +kernel
theorem dX10_day_82 : decode cX10_day 82 = .ok (.invokevirtual 252, 3) := by decide +kernel
theorem dX10_day_85 : decode cX10_day 85 = .ok (.aload_n 0, 1) := by decide +kernel
theorem dX10_day_86 : decode cX10_day 86 = .ok (.aload_n 0, 1) := by decide +kernel
theorem dX10_day_87 : decode cX10_day 87 = .ok (.getfield 35, 3) := by decide +kernel
theorem dX10_day_90 : decode cX10_day 90 = .ok (.invokevirtual 240, 3) := by decide +kernel
theorem dX10_day_93 : decode cX10_day 93 = .ok (.aload_n 0, 1) := by decide +kernel
theorem dX10_day_94 : decode cX10_day 94 = .ok (.getfield 39, 3) := by decide +kernel
theorem dX10_day_97 : decode cX10_day 97 = .ok (.invokevirtual 240, 3) := by decide +kernel
theorem dX10_day_100 : decode cX10_day 100 = .ok (.iconst (-1), 1) := by decide +kernel
theorem dX10_day_101 : decode cX10_day 101 = .ok (.ixor, 1) := by decide +kernel
theorem dX10_day_102 : decode cX10_day 102 = .ok (.iand, 1) := by decide +kernel
theorem dX10_day_103 : decode cX10_day 103 = .ok (.invokestatic 225, 3) := by decide +kernel
theorem dX10_day_106 : decode cX10_day 106 = .ok (.invokevirtual 252, 3) := by decide +kernel
theorem dX10_day_109 : decode cX10_day 109 = .ok (.iload_n 3, 1) := by decide +kernel
theorem dX10_day_110 : decode cX10_day 110 = .ok (.ireturn, 1) := by decide +kernel
theorem dX6_takeBack_0 : decode cX6_takeBack 0 = .ok (.aload_n 0, 1) := by decide +kernel
theorem dX6_takeBack_1 : decode cX6_takeBack 1 = .ok (.getfield 22, 3) := by decide +kernel
theorem dX6_takeBack_4 : decode cX6_takeBack 4 = .ok (.ifCond .le 48, 3) := by decide +kernel
theorem dX6_takeBack_7 : decode cX6_takeBack 7 = .ok (.aload_n 1, 1) := by decide +kernel
theorem dX6_takeBack_8 : decode cX6_takeBack 8 = .ok (.aload_n 0, 1) := by decide +kernel
theorem dX6_takeBack_9 : decode cX6_takeBack 9 = .ok (.getfield 11, 3) := by decide +kernel
theorem dX6_takeBack_12 : decode cX6_takeBack 12 = .ok (.aload_n 0, 1) := by decide +kernel
theorem dX6_takeBack_13 : decode cX6_takeBack 13 = .ok (.getfield 18, 3) := by decide +kernel
theorem dX6_takeBack_16 : decode cX6_takeBack 16 = .ok (.aaload, 1) := by decide +kernel
theorem dX6_takeBack_17 : decode cX6_takeBack 17 = .ok (.invokevirtual 25, 3) := by decide +kernel
theorem dX6_takeBack_20 : decode cX6_takeBack 20 = .ok (.aload_n 0, 1) := by decide +kernel
theorem dX6_takeBack_21 : decode cX6_takeBack 21 = .ok (.aload_n 0, 1) := by decide +kernel
theorem dX6_takeBack_22 : decode cX6_takeBack 22 = .ok (.getfield 18, 3) := by decide +kernel
theorem dX6_takeBack_25 : decode cX6_takeBack 25 = .ok (.ifCond .le 12, 3) := by decide +kernel
theorem dX6_takeBack_28 : decode cX6_takeBack 28 = .ok (.aload_n 0, 1) := by decide +kernel
theorem dX6_takeBack_29 : decode cX6_takeBack 29 = .ok (.getfield 18, 3) := by decide +kernel
theorem dX6_takeBack_32 : decode cX6_takeBack 32 = .ok (.iconst 1, 1) := by decide +kernel
theorem dX6_takeBack_33 : decode cX6_takeBack 33 = .ok (.isub, 1) := by decide +kernel
theorem dX6_takeBack_34 : decode cX6_takeBack 34 = .ok (.goto 5, 3) := by decide +kernel
theorem dX6_takeBack_37 : decode cX6_takeBack 37 = .ok (.bipush 11, 2) := by decide +kernel
theorem dX6_takeBack_39 : decode cX6_takeBack 39 = .ok (.putfield 18, 3) := by decide +kernel
theorem dX6_takeBack_42 : decode cX6_takeBack 42 = .ok (.aload_n 0, 1) := by decide +kernel
theorem dX6_takeBack_43 : decode cX6_takeBack 43 = .ok (.dup, 1) := by decide +kernel
theorem dX6_takeBack_44 : decode cX6_takeBack 44 = .ok (.getfield 22, 3) := by decide +kernel
theorem dX6_takeBack_47 : decode cX6_takeBack 47 = .ok (.iconst 1, 1) := by decide +kernel
theorem dX6_takeBack_48 : decode cX6_takeBack 48 = .ok (.isub, 1) := by decide +kernel
theorem dX6_takeBack_49 : decode cX6_takeBack 49 = .ok (.putfield 22, 3) := by decide +kernel
theorem dX6_takeBack_52 : decode cX6_takeBack 52 = .ok (.return_, 1) := by decide +kernel
theorem dX10_undo_0 : decode cX10_undo 0 = .ok (.aload_n 0, 1) := by decide +kernel
theorem dX10_undo_1 : decode cX10_undo 1 = .ok (.getfield 51, 3) := by decide +kernel
theorem dX10_undo_4 : decode cX10_undo 4 = .ok (.getfield 277, 3) := by decide +kernel
theorem dX10_undo_7 : decode cX10_undo 7 = .ok (.ifCond .ne 5, 3) := by decide +kernel
theorem dX10_undo_10 : decode cX10_undo 10 = .ok (.iconst (-1), 1) := by decide +kernel
theorem dX10_undo_11 : decode cX10_undo 11 = .ok (.ireturn, 1) := by decide +kernel
theorem dX10_undo_12 : decode cX10_undo 12 = .ok (.aload_n 0, 1) := by decide +kernel
theorem dX10_undo_13 : decode cX10_undo 13 = .ok (.getfield 51, 3) := by decide +kernel
theorem dX10_undo_16 : decode cX10_undo 16 = .ok (.aload_n 0, 1) := by decide +kernel
theorem dX10_undo_17 : decode cX10_undo 17 = .ok (.getfield 35, 3) := by decide +kernel
theorem dX10_undo_20 : decode cX10_undo 20 = .ok (.invokevirtual 279, 3) := by decide +kernel
theorem dX10_undo_23 : decode cX10_undo 23 = .ok (.aload_n 0, 1) := by decide +kernel
theorem dX10_undo_24 : decode cX10_undo 24 = .ok (.getfield 51, 3) := by decide +kernel
theorem dX10_undo_27 : decode cX10_undo 27 = .ok (.getfield 277, 3) := by decide +kernel
theorem dX10_undo_30 : decode cX10_undo 30 = .ok (.ireturn, 1) := by decide +kernel
theorem dX10_where_0 : decode cX10_where 0 = .ok (.iload_n 2, 1) := by decide +kernel
theorem dX10_where_1 : decode cX10_where 1 = .ok (.ifCond .lt 10, 3) := by decide +kernel
theorem dX10_where_4 : decode cX10_where 4 = .ok (.iload_n 2, 1) := by decide +kernel
theorem dX10_where_5 : decode cX10_where 5 = .ok (.sipush 400, 3) := by decide +kernel
theorem dX10_where_8 : decode cX10_where 8 = .ok (.if_icmp .le 6, 3) := by decide +kernel
theorem dX10_where_11 : decode cX10_where 11 = .ok (.bipush (-2), 2) := by decide +kernel
theorem dX10_where_13 : decode cX10_where 13 = .ok (.ireturn, 1) := by decide +kernel
theorem dX10_where_14 : decode cX10_where 14 = .ok (.aload_n 0, 1) := by decide +kernel
theorem dX10_where_15 : decode cX10_where 15 = .ok (.getfield 19, 3) := by decide +kernel
theorem dX10_where_18 : decode cX10_where 18 = .ok (.iload_n 1, 1) := by decide +kernel
theorem dX10_where_19 : decode cX10_where 19 = .ok (.invokevirtual 152, 3) := by decide +kernel
theorem dX10_where_22 : decode cX10_where 22 = .ok (.ifCond .ne 6, 3) := by decide +kernel
theorem dX10_where_25 : decode cX10_where 25 = .ok (.bipush (-3), 2) := by decide +kernel
theorem dX10_where_27 : decode cX10_where 27 = .ok (.ireturn, 1) := by decide +kernel
theorem dX10_where_28 : decode cX10_where 28 = .ok (.aload_n 0, 1) := by decide +kernel
theorem dX10_where_29 : decode cX10_where 29 = .ok (.getfield 42, 3) := by decide +kernel
theorem dX10_where_32 : decode cX10_where 32 = .ok (.aload_n 0, 1) := by decide +kernel
theorem dX10_where_33 : decode cX10_where 33 = .ok (.getfield 35, 3) := by decide +kernel
theorem dX10_where_36 : decode cX10_where 36 = .ok (.invokevirtual 268, 3) := by decide +kernel
theorem dX10_where_39 : decode cX10_where 39 = .ok (.aload_n 0, 1) := by decide +kernel
theorem dX10_where_40 : decode cX10_where 40 = .ok (.getfield 19, 3) := by decide +kernel
theorem dX10_where_43 : decode cX10_where 43 = .ok (.aload_n 0, 1) := by decide +kernel
theorem dX10_where_44 : decode cX10_where 44 = .ok (.getfield 42, 3) := by decide +kernel
theorem dX10_where_47 : decode cX10_where 47 = .ok (.iload_n 2, 1) := by decide +kernel
theorem dX10_where_48 : decode cX10_where 48 = .ok (.invokevirtual 262, 3) := by decide +kernel
theorem dX10_where_51 : decode cX10_where 51 = .ok (.aload_n 0, 1) := by decide +kernel
theorem dX10_where_52 : decode cX10_where 52 = .ok (.invokevirtual 246, 3) := by decide +kernel
theorem dX10_where_55 : decode cX10_where 55 = .ok (.aload_n 0, 1) := by decide +kernel
theorem dX10_where_56 : decode cX10_where 56 = .ok (.aload_n 0, 1) := by decide +kernel
theorem dX10_where_57 : decode cX10_where 57 = .ok (.getfield 42, 3) := by decide +kernel
theorem dX10_where_60 : decode cX10_where 60 = .ok (.getfield 173, 3) := by decide +kernel
theorem dX10_where_63 : decode cX10_where 63 = .ok (.iload_n 1, 1) := by decide +kernel
theorem dX10_where_64 : decode cX10_where 64 = .ok (.iaload, 1) := by decide +kernel
theorem dX10_where_65 : decode cX10_where 65 = .ok (.invokevirtual 252, 3) := by decide +kernel
theorem dX10_where_68 : decode cX10_where 68 = .ok (.aload_n 0, 1) := by decide +kernel
theorem dX10_where_69 : decode cX10_where 69 = .ok (.aload_n 0, 1) := by decide +kernel
theorem dX10_where_70 : decode cX10_where 70 = .ok (.getfield 42, 3) := by decide +kernel
theorem dX10_where_73 : decode cX10_where 73 = .ok (.getfield 176, 3) := by decide +kernel
theorem dX10_where_76 : decode cX10_where 76 = .ok (.iload_n 1, 1) := by decide +kernel
theorem dX10_where_77 : decode cX10_where 77 = .ok (.iaload, 1) := by decide +kernel
theorem dX10_where_78 : decode cX10_where 78 = .ok (.invokevirtual 252, 3) := by decide +kernel
theorem dX10_where_81 : decode cX10_where 81 = .ok (.aload_n 0, 1) := by decide +kernel
theorem dX10_where_82 : decode cX10_where 82 = .ok (.getfield 42, 3) := by decide +kernel
theorem dX10_where_85 : decode cX10_where 85 = .ok (.getfield 170, 3) := by decide +kernel
theorem dX10_where_88 : decode cX10_where 88 = .ok (.iload_n 1, 1) := by decide +kernel
theorem dX10_where_89 : decode cX10_where 89 = .ok (.iaload, 1) := by decide +kernel
theorem dX10_where_90 : decode cX10_where 90 = .ok (.ireturn, 1) := by decide +kernel
theorem dX7_lastThrough_0 : decode cX7_lastThrough 0 = .ok (.iconst (-1), 1) := by decide +kernel
theorem dX7_lastThrough_1 : decode cX7_lastThrough 1 = .ok (.istore_n 2, 1) := by decide +kernel
theorem dX7_lastThrough_2 : decode cX7_lastThrough 2 = .ok (.iconst 0, 1) := by decide +kernel
theorem dX7_lastThrough_3 : decode cX7_lastThrough 3 = .ok (.istore_n 3, 1) := by decide +kernel
theorem dX7_lastThrough_4 : decode cX7_lastThrough 4 = .ok (.iload_n 3, 1) := by decide +kernel
theorem dX7_lastThrough_5 : decode cX7_lastThrough 5 = .ok (.bipush 6, 2) := by decide +kernel
theorem dX7_lastThrough_7 : decode cX7_lastThrough 7 = .ok (.if_icmp .ge 28, 3) := by decide +kernel
theorem dX7_lastThrough_10 : decode cX7_lastThrough 10 = .ok (.iload_n 1, 1) := by decide +kernel
theorem dX7_lastThrough_11 : decode cX7_lastThrough 11 = .ok (.iload_n 3, 1) := by decide +kernel
theorem dX7_lastThrough_12 : decode cX7_lastThrough 12 = .ok (.invokestatic 50, 3) := by decide +kernel
theorem dX7_lastThrough_15 : decode cX7_lastThrough 15 = .ok (.ifCond .eq 14, 3) := by decide +kernel
theorem dX7_lastThrough_18 : decode cX7_lastThrough 18 = .ok (.iload_n 2, 1) := by decide +kernel
theorem dX7_lastThrough_19 : decode cX7_lastThrough 19 = .ok (.aload_n 0, 1) := by decide +kernel
theorem dX7_lastThrough_20 : decode cX7_lastThrough 20 = .ok (.getfield 21, 3) := by decide +kernel
theorem dX7_lastThrough_23 : decode cX7_lastThrough 23 = .ok (.iload_n 3, 1) := by decide +kernel
theorem dX7_lastThrough_24 : decode cX7_lastThrough 24 = .ok (.iaload, 1) := by decide +kernel
theorem dX7_lastThrough_25 : decode cX7_lastThrough 25 = .ok (.invokestatic 54, 3) := by decide +kernel
theorem dX7_lastThrough_28 : decode cX7_lastThrough 28 = .ok (.istore_n 2, 1) := by decide +kernel
theorem dX7_lastThrough_29 : decode cX7_lastThrough 29 = .ok (.iinc 3 1, 3) := by decide +kernel
theorem dX7_lastThrough_32 : decode cX7_lastThrough 32 = .ok (.goto (-28), 3) := by decide +kernel
theorem dX7_lastThrough_35 : decode cX7_lastThrough 35 = .ok (.iload_n 2, 1) := by decide +kernel
theorem dX7_lastThrough_36 : decode cX7_lastThrough 36 = .ok (.ireturn, 1) := by decide +kernel
theorem dX10_stuck_0 : decode cX10_stuck 0 = .ok (.aload_n 0, 1) := by decide +kernel
theorem dX10_stuck_1 : decode cX10_stuck 1 = .ok (.getfield 42, 3) := by decide +kernel
theorem dX10_stuck_4 : decode cX10_stuck 4 = .ok (.aload_n 0, 1) := by decide +kernel
theorem dX10_stuck_5 : decode cX10_stuck 5 = .ok (.getfield 35, 3) := by decide +kernel
theorem dX10_stuck_8 : decode cX10_stuck 8 = .ok (.invokevirtual 268, 3) := by decide +kernel
theorem dX10_stuck_11 : decode cX10_stuck 11 = .ok (.aload_n 0, 1) := by decide +kernel
theorem dX10_stuck_12 : decode cX10_stuck 12 = .ok (.getfield 19, 3) := by decide +kernel
theorem dX10_stuck_15 : decode cX10_stuck 15 = .ok (.aload_n 0, 1) := by decide +kernel
theorem dX10_stuck_16 : decode cX10_stuck 16 = .ok (.getfield 42, 3) := by decide +kernel
theorem dX10_stuck_19 : decode cX10_stuck 19 = .ok (.sipush 400, 3) := by decide +kernel
theorem dX10_stuck_22 : decode cX10_stuck 22 = .ok (.invokevirtual 262, 3) := by decide +kernel
theorem dX10_stuck_25 : decode cX10_stuck 25 = .ok (.aload_n 0, 1) := by decide +kernel
theorem dX10_stuck_26 : decode cX10_stuck 26 = .ok (.getfield 42, 3) := by decide +kernel
theorem dX10_stuck_29 : decode cX10_stuck 29 = .ok (.invokevirtual 222, 3) := by decide +kernel
theorem dX10_stuck_32 : decode cX10_stuck 32 = .ok (.istore_n 1, 1) := by decide +kernel
theorem dX10_stuck_33 : decode cX10_stuck 33 = .ok (.aload_n 0, 1) := by decide +kernel
theorem dX10_stuck_34 : decode cX10_stuck 34 = .ok (.getfield 35, 3) := by decide +kernel
theorem dX10_stuck_37 : decode cX10_stuck 37 = .ok (.invokevirtual 222, 3) := by decide +kernel
theorem dX10_stuck_40 : decode cX10_stuck 40 = .ok (.iload_n 1, 1) := by decide +kernel
theorem dX10_stuck_41 : decode cX10_stuck 41 = .ok (.iconst (-1), 1) := by decide +kernel
theorem dX10_stuck_42 : decode cX10_stuck 42 = .ok (.ixor, 1) := by decide +kernel
theorem dX10_stuck_43 : decode cX10_stuck 43 = .ok (.iand, 1) := by decide +kernel
theorem dX10_stuck_44 : decode cX10_stuck 44 = .ok (.istore_n 2, 1) := by decide +kernel
theorem dX10_stuck_45 : decode cX10_stuck 45 = .ok (.aload_n 0, 1) := by decide +kernel
theorem dX10_stuck_46 : decode cX10_stuck 46 = .ok (.invokevirtual 246, 3) := by decide +kernel
theorem dX10_stuck_49 : decode cX10_stuck 49 = .ok (.aload_n 0, 1) := by decide +kernel
theorem dX10_stuck_50 : decode cX10_stuck 50 = .ok (.iload_n 2, 1) := by decide +kernel
theorem dX10_stuck_51 : decode cX10_stuck 51 = .ok (.ifCond .ne 7, 3) := by decide +kernel
theorem dX10_stuck_54 : decode cX10_stuck 54 = .ok (.iconst 0, 1) := by decide +kernel
theorem dX10_stuck_55 : decode cX10_stuck 55 = .ok (.goto 21, 3) := by decide +kernel
theorem dX10_stuck_58 : decode cX10_stuck 58 = .ok (.aload_n 0, 1) := by decide +kernel
theorem dX10_stuck_59 : decode cX10_stuck 59 = .ok (.getfield 42, 3) := by decide +kernel
theorem dX10_stuck_62 : decode cX10_stuck 62 = .ok (.iload_n 2, 1) := by decide +kernel
theorem dX10_stuck_63 : decode cX10_stuck 63 = .ok (.invokevirtual 282, 3) := by decide +kernel
theorem dX10_stuck_66 : decode cX10_stuck 66 = .ok (.iconst 1, 1) := by decide +kernel
theorem dX10_stuck_67 : decode cX10_stuck 67 = .ok (.iadd, 1) := by decide +kernel
theorem dX10_stuck_68 : decode cX10_stuck 68 = .ok (.aload_n 0, 1) := by decide +kernel
theorem dX10_stuck_69 : decode cX10_stuck 69 = .ok (.getfield 35, 3) := by decide +kernel
theorem dX10_stuck_72 : decode cX10_stuck 72 = .ok (.getfield 237, 3) := by decide +kernel
theorem dX10_stuck_75 : decode cX10_stuck 75 = .ok (.isub, 1) := by decide +kernel
theorem dX10_stuck_76 : decode cX10_stuck 76 = .ok (.invokevirtual 252, 3) := by decide +kernel
theorem dX10_stuck_79 : decode cX10_stuck 79 = .ok (.iload_n 1, 1) := by decide +kernel
theorem dX10_stuck_80 : decode cX10_stuck 80 = .ok (.ireturn, 1) := by decide +kernel
theorem dX10_faultOfOrder_0 : decode cX10_faultOfOrder 0 = .ok (.aload_n 0, 1) := by decide +kernel
theorem dX10_faultOfOrder_1 : decode cX10_faultOfOrder 1 = .ok (.getfield 10, 3) := by decide +kernel
theorem dX10_faultOfOrder_4 : decode cX10_faultOfOrder 4 = .ok (.bipush 80, 2) := by decide +kernel
theorem dX10_faultOfOrder_6 : decode cX10_faultOfOrder 6 = .ok (.putfield 403, 3) := by decide +kernel
theorem dX10_faultOfOrder_9 : decode cX10_faultOfOrder 9 = .ok (.iconst 0, 1) := by decide +kernel
theorem dX10_faultOfOrder_10 : decode cX10_faultOfOrder 10 = .ok (.istore_n 1, 1) := by decide +kernel
theorem dX10_faultOfOrder_11 : decode cX10_faultOfOrder 11 = .ok (.iconst 0, 1) := by decide +kernel
theorem dX10_faultOfOrder_12 : decode cX10_faultOfOrder 12 = .ok (.istore_n 2, 1) := by decide +kernel
theorem dX10_faultOfOrder_13 : decode cX10_faultOfOrder 13 = .ok (.iload_n 2, 1) := by decide +kernel
theorem dX10_faultOfOrder_14 : decode cX10_faultOfOrder 14 = .ok (.aload_n 0, 1) := by decide +kernel
theorem dX10_faultOfOrder_15 : decode cX10_faultOfOrder 15 = .ok (.getfield 10, 3) := by decide +kernel
theorem dX10_faultOfOrder_18 : decode cX10_faultOfOrder 18 = .ok (.getfield 120, 3) := by decide +kernel
theorem dX10_faultOfOrder_21 : decode cX10_faultOfOrder 21 = .ok (.if_icmp .ge 45, 3) := by decide +kernel
theorem dX10_faultOfOrder_24 : decode cX10_faultOfOrder 24 = .ok (.aload_n 0, 1) := by decide +kernel
theorem dX10_faultOfOrder_25 : decode cX10_faultOfOrder 25 = .ok (.getfield 10, 3) := by decide +kernel
theorem dX10_faultOfOrder_28 : decode cX10_faultOfOrder 28 = .ok (.iload_n 2, 1) := by decide +kernel
theorem dX10_faultOfOrder_29 : decode cX10_faultOfOrder 29 = .ok (.invokevirtual 415, 3) := by decide +kernel
theorem dX10_faultOfOrder_32 : decode cX10_faultOfOrder 32 = .ok (.istore_n 3, 1) := by decide +kernel
theorem dX10_faultOfOrder_33 : decode cX10_faultOfOrder 33 = .ok (.aload_n 0, 1) := by decide +kernel
theorem dX10_faultOfOrder_34 : decode cX10_faultOfOrder 34 = .ok (.getfield 19, 3) := by decide +kernel
theorem dX10_faultOfOrder_37 : decode cX10_faultOfOrder 37 = .ok (.iload_n 3, 1) := by decide +kernel
theorem dX10_faultOfOrder_38 : decode cX10_faultOfOrder 38 = .ok (.invokevirtual 152, 3) := by decide +kernel
theorem dX10_faultOfOrder_41 : decode cX10_faultOfOrder 41 = .ok (.ifCond .eq 11, 3) := by decide +kernel
theorem dX10_faultOfOrder_44 : decode cX10_faultOfOrder 44 = .ok (.iload_n 1, 1) := by decide +kernel
theorem dX10_faultOfOrder_45 : decode cX10_faultOfOrder 45 = .ok (.iload_n 3, 1) := by decide +kernel
theorem dX10_faultOfOrder_46 : decode cX10_faultOfOrder 46 = .ok (.invokestatic 362, 3) := by decide +kernel
theorem dX10_faultOfOrder_49 : decode cX10_faultOfOrder 49 = .ok (.ifCond .eq 5, 3) := by decide +kernel
theorem dX10_faultOfOrder_52 : decode cX10_faultOfOrder 52 = .ok (.iload_n 2, 1) := by decide +kernel
theorem dX10_faultOfOrder_53 : decode cX10_faultOfOrder 53 = .ok (.ireturn, 1) := by decide +kernel
theorem dX10_faultOfOrder_54 : decode cX10_faultOfOrder 54 = .ok (.iload_n 1, 1) := by decide +kernel
theorem dX10_faultOfOrder_55 : decode cX10_faultOfOrder 55 = .ok (.iconst 1, 1) := by decide +kernel
theorem dX10_faultOfOrder_56 : decode cX10_faultOfOrder 56 = .ok (.iload_n 3, 1) := by decide +kernel
theorem dX10_faultOfOrder_57 : decode cX10_faultOfOrder 57 = .ok (.ishl, 1) := by decide +kernel
theorem dX10_faultOfOrder_58 : decode cX10_faultOfOrder 58 = .ok (.ior, 1) := by decide +kernel
theorem dX10_faultOfOrder_59 : decode cX10_faultOfOrder 59 = .ok (.istore_n 1, 1) := by decide +kernel
theorem dX10_faultOfOrder_60 : decode cX10_faultOfOrder 60 = .ok (.iinc 2 1, 3) := by decide +kernel
theorem dX10_faultOfOrder_63 : decode cX10_faultOfOrder 63 = .ok (.goto (-50), 3) := by decide +kernel
theorem dX10_faultOfOrder_66 : decode cX10_faultOfOrder 66 = .ok (.aload_n 0, 1) := by decide +kernel
theorem dX10_faultOfOrder_67 : decode cX10_faultOfOrder 67 = .ok (.getfield 10, 3) := by decide +kernel
theorem dX10_faultOfOrder_70 : decode cX10_faultOfOrder 70 = .ok (.getfield 120, 3) := by decide +kernel
theorem dX10_faultOfOrder_73 : decode cX10_faultOfOrder 73 = .ok (.ifCond .ne 7, 3) := by decide +kernel
theorem dX10_faultOfOrder_76 : decode cX10_faultOfOrder 76 = .ok (.iconst 0, 1) := by decide +kernel
theorem dX10_faultOfOrder_77 : decode cX10_faultOfOrder 77 = .ok (.goto 4, 3) := by decide +kernel
theorem dX10_faultOfOrder_80 : decode cX10_faultOfOrder 80 = .ok (.iconst (-1), 1) := by decide +kernel
theorem dX10_faultOfOrder_81 : decode cX10_faultOfOrder 81 = .ok (.ireturn, 1) := by decide +kernel
theorem dX5_take_0 : decode cX5_take 0 = .ok (.aload_n 0, 1) := by decide +kernel
theorem dX5_take_1 : decode cX5_take 1 = .ok (.bipush 6, 2) := by decide +kernel
theorem dX5_take_3 : decode cX5_take 3 = .ok (.aload_n 1, 1) := by decide +kernel
theorem dX5_take_4 : decode cX5_take 4 = .ok (.getfield 29, 3) := by decide +kernel
theorem dX5_take_7 : decode cX5_take 7 = .ok (.invokestatic 34, 3) := by decide +kernel
theorem dX5_take_10 : decode cX5_take 10 = .ok (.putfield 15, 3) := by decide +kernel
theorem dX5_take_13 : decode cX5_take 13 = .ok (.iconst 0, 1) := by decide +kernel
theorem dX5_take_14 : decode cX5_take 14 = .ok (.istore_n 2, 1) := by decide +kernel
theorem dX5_take_15 : decode cX5_take 15 = .ok (.iload_n 2, 1) := by decide +kernel
theorem dX5_take_16 : decode cX5_take 16 = .ok (.aload_n 0, 1) := by decide +kernel
theorem dX5_take_17 : decode cX5_take 17 = .ok (.getfield 15, 3) := by decide +kernel
theorem dX5_take_20 : decode cX5_take 20 = .ok (.if_icmp .ge 24, 3) := by decide +kernel
theorem dX5_take_23 : decode cX5_take 23 = .ok (.aload_n 0, 1) := by decide +kernel
theorem dX5_take_24 : decode cX5_take 24 = .ok (.getfield 9, 3) := by decide +kernel
theorem dX5_take_27 : decode cX5_take 27 = .ok (.iload_n 2, 1) := by decide +kernel
theorem dX5_take_28 : decode cX5_take 28 = .ok (.iconst 0, 1) := by decide +kernel
theorem dX5_take_29 : decode cX5_take 29 = .ok (.aload_n 1, 1) := by decide +kernel
theorem dX5_take_30 : decode cX5_take 30 = .ok (.iload_n 2, 1) := by decide +kernel
theorem dX5_take_31 : decode cX5_take 31 = .ok (.invokevirtual 40, 3) := by decide +kernel
theorem dX5_take_34 : decode cX5_take 34 = .ok (.invokestatic 44, 3) := by decide +kernel
theorem dX5_take_37 : decode cX5_take 37 = .ok (.iastore, 1) := by decide +kernel
theorem dX5_take_38 : decode cX5_take 38 = .ok (.iinc 2 1, 3) := by decide +kernel
theorem dX5_take_41 : decode cX5_take 41 = .ok (.goto (-26), 3) := by decide +kernel
theorem dX5_take_44 : decode cX5_take 44 = .ok (.return_, 1) := by decide +kernel
theorem dX5_bits_0 : decode cX5_bits 0 = .ok (.iconst 0, 1) := by decide +kernel
theorem dX5_bits_1 : decode cX5_bits 1 = .ok (.istore_n 1, 1) := by decide +kernel
theorem dX5_bits_2 : decode cX5_bits 2 = .ok (.iconst 0, 1) := by decide +kernel
theorem dX5_bits_3 : decode cX5_bits 3 = .ok (.istore_n 2, 1) := by decide +kernel
theorem dX5_bits_4 : decode cX5_bits 4 = .ok (.iload_n 2, 1) := by decide +kernel
theorem dX5_bits_5 : decode cX5_bits 5 = .ok (.aload_n 0, 1) := by decide +kernel
theorem dX5_bits_6 : decode cX5_bits 6 = .ok (.getfield 15, 3) := by decide +kernel
theorem dX5_bits_9 : decode cX5_bits 9 = .ok (.if_icmp .ge 20, 3) := by decide +kernel
theorem dX5_bits_12 : decode cX5_bits 12 = .ok (.iload_n 1, 1) := by decide +kernel
theorem dX5_bits_13 : decode cX5_bits 13 = .ok (.iconst 1, 1) := by decide +kernel
theorem dX5_bits_14 : decode cX5_bits 14 = .ok (.aload_n 0, 1) := by decide +kernel
theorem dX5_bits_15 : decode cX5_bits 15 = .ok (.getfield 9, 3) := by decide +kernel
theorem dX5_bits_18 : decode cX5_bits 18 = .ok (.iload_n 2, 1) := by decide +kernel
theorem dX5_bits_19 : decode cX5_bits 19 = .ok (.iaload, 1) := by decide +kernel
theorem dX5_bits_20 : decode cX5_bits 20 = .ok (.ishl, 1) := by decide +kernel
theorem dX5_bits_21 : decode cX5_bits 21 = .ok (.ior, 1) := by decide +kernel
theorem dX5_bits_22 : decode cX5_bits 22 = .ok (.istore_n 1, 1) := by decide +kernel
theorem dX5_bits_23 : decode cX5_bits 23 = .ok (.iinc 2 1, 3) := by decide +kernel
theorem dX5_bits_26 : decode cX5_bits 26 = .ok (.goto (-22), 3) := by decide +kernel
theorem dX5_bits_29 : decode cX5_bits 29 = .ok (.iload_n 1, 1) := by decide +kernel
theorem dX5_bits_30 : decode cX5_bits 30 = .ok (.ireturn, 1) := by decide +kernel
theorem dX10_areThere_0 : decode cX10_areThere 0 = .ok (.iload_n 1, 1) := by decide +kernel
theorem dX10_areThere_1 : decode cX10_areThere 1 = .ok (.aload_n 0, 1) := by decide +kernel
theorem dX10_areThere_2 : decode cX10_areThere 2 = .ok (.getfield 19, 3) := by decide +kernel
theorem dX10_areThere_5 : decode cX10_areThere 5 = .ok (.invokevirtual 194, 3) := by decide +kernel
theorem dX10_areThere_8 : decode cX10_areThere 8 = .ok (.iconst (-1), 1) := by decide +kernel
theorem dX10_areThere_9 : decode cX10_areThere 9 = .ok (.ixor, 1) := by decide +kernel
theorem dX10_areThere_10 : decode cX10_areThere 10 = .ok (.iand, 1) := by decide +kernel
theorem dX10_areThere_11 : decode cX10_areThere 11 = .ok (.ifCond .ne 7, 3) := by decide +kernel
theorem dX10_areThere_14 : decode cX10_areThere 14 = .ok (.iconst 1, 1) := by decide +kernel
theorem dX10_areThere_15 : decode cX10_areThere 15 = .ok (.goto 4, 3) := by decide +kernel
theorem dX10_areThere_18 : decode cX10_areThere 18 = .ok (.iconst 0, 1) := by decide +kernel
theorem dX10_areThere_19 : decode cX10_areThere 19 = .ok (.ireturn, 1) := by decide +kernel
theorem dX10_areOutside_0 : decode cX10_areOutside 0 = .ok (.aload_n 0, 1) := by decide +kernel
theorem dX10_areOutside_1 : decode cX10_areOutside 1 = .ok (.getfield 35, 3) := by decide +kernel
theorem dX10_areOutside_4 : decode cX10_areOutside 4 = .ok (.invokevirtual 222, 3) := by decide +kernel
theorem dX10_areOutside_7 : decode cX10_areOutside 7 = .ok (.aload_n 0, 1) := by decide +kernel
theorem dX10_areOutside_8 : decode cX10_areOutside 8 = .ok (.getfield 35, 3) := by decide +kernel
theorem dX10_areOutside_11 : decode cX10_areOutside 11 = .ok (.invokevirtual 240, 3) := by decide +kernel
theorem dX10_areOutside_14 : decode cX10_areOutside 14 = .ok (.ior, 1) := by decide +kernel
theorem dX10_areOutside_15 : decode cX10_areOutside 15 = .ok (.istore_n 2, 1) := by decide +kernel
theorem dX10_areOutside_16 : decode cX10_areOutside 16 = .ok (.iload_n 1, 1) := by decide +kernel
theorem dX10_areOutside_17 : decode cX10_areOutside 17 = .ok (.ifCond .eq 21, 3) := by decide +kernel
theorem dX10_areOutside_20 : decode cX10_areOutside 20 = .ok (.aload_n 0, 1) := by decide +kernel
theorem dX10_areOutside_21 : decode cX10_areOutside 21 = .ok (.iload_n 1, 1) := by decide +kernel
theorem dX10_areOutside_22 : decode cX10_areOutside 22 = .ok (.invokevirtual 336, 3) := by decide +kernel
theorem dX10_areOutside_25 : decode cX10_areOutside 25 = .ok (.ifCond .eq 13, 3) := by decide +kernel
theorem dX10_areOutside_28 : decode cX10_areOutside 28 = .ok (.iload_n 1, 1) := by decide +kernel
theorem dX10_areOutside_29 : decode cX10_areOutside 29 = .ok (.iload_n 2, 1) := by decide +kernel
theorem dX10_areOutside_30 : decode cX10_areOutside 30 = .ok (.iand, 1) := by decide +kernel
theorem dX10_areOutside_31 : decode cX10_areOutside 31 = .ok (.ifCond .ne 7, 3) := by decide +kernel
theorem dX10_areOutside_34 : decode cX10_areOutside 34 = .ok (.iconst 1, 1) := by decide +kernel
theorem dX10_areOutside_35 : decode cX10_areOutside 35 = .ok (.goto 4, 3) := by decide +kernel
theorem dX10_areOutside_38 : decode cX10_areOutside 38 = .ok (.iconst 0, 1) := by decide +kernel
theorem dX10_areOutside_39 : decode cX10_areOutside 39 = .ok (.ireturn, 1) := by decide +kernel
theorem dX9_begin_0 : decode cX9_begin 0 = .ok (.aload_n 0, 1) := by decide +kernel
theorem dX9_begin_1 : decode cX9_begin 1 = .ok (.getfield 21, 3) := by decide +kernel
theorem dX9_begin_4 : decode cX9_begin 4 = .ok (.iconst 0, 1) := by decide +kernel
theorem dX9_begin_5 : decode cX9_begin 5 = .ok (.aaload, 1) := by decide +kernel
theorem dX9_begin_6 : decode cX9_begin 6 = .ok (.aload_n 1, 1) := by decide +kernel
theorem dX9_begin_7 : decode cX9_begin 7 = .ok (.invokevirtual 34, 3) := by decide +kernel
theorem dX9_begin_10 : decode cX9_begin 10 = .ok (.aload_n 0, 1) := by decide +kernel
theorem dX9_begin_11 : decode cX9_begin 11 = .ok (.aload_n 1, 1) := by decide +kernel
theorem dX9_begin_12 : decode cX9_begin 12 = .ok (.getfield 38, 3) := by decide +kernel
theorem dX9_begin_15 : decode cX9_begin 15 = .ok (.putfield 41, 3) := by decide +kernel
theorem dX9_begin_18 : decode cX9_begin 18 = .ok (.aload_n 0, 1) := by decide +kernel
theorem dX9_begin_19 : decode cX9_begin 19 = .ok (.iload_n 2, 1) := by decide +kernel
theorem dX9_begin_20 : decode cX9_begin 20 = .ok (.putfield 44, 3) := by decide +kernel
theorem dX9_begin_23 : decode cX9_begin 23 = .ok (.aload_n 0, 1) := by decide +kernel
theorem dX9_begin_24 : decode cX9_begin 24 = .ok (.iconst (-1), 1) := by decide +kernel
theorem dX9_begin_25 : decode cX9_begin 25 = .ok (.putfield 30, 3) := by decide +kernel
theorem dX9_begin_28 : decode cX9_begin 28 = .ok (.return_, 1) := by decide +kernel
theorem dX1_wholeStay_0 : decode cX1_wholeStay 0 = .ok (.iconst 0, 1) := by decide +kernel
theorem dX1_wholeStay_1 : decode cX1_wholeStay 1 = .ok (.istore_n 2, 1) := by decide +kernel
theorem dX1_wholeStay_2 : decode cX1_wholeStay 2 = .ok (.iconst 0, 1) := by decide +kernel
theorem dX1_wholeStay_3 : decode cX1_wholeStay 3 = .ok (.istore_n 3, 1) := by decide +kernel
theorem dX1_wholeStay_4 : decode cX1_wholeStay 4 = .ok (.iload_n 3, 1) := by decide +kernel
theorem dX1_wholeStay_5 : decode cX1_wholeStay 5 = .ok (.aload_n 0, 1) := by decide +kernel
theorem dX1_wholeStay_6 : decode cX1_wholeStay 6 = .ok (.getfield 9, 3) := by decide +kernel
theorem dX1_wholeStay_9 : decode cX1_wholeStay 9 = .ok (.if_icmp .ge 20, 3) := by decide +kernel
theorem dX1_wholeStay_12 : decode cX1_wholeStay 12 = .ok (.iload_n 2, 1) := by decide +kernel
theorem dX1_wholeStay_13 : decode cX1_wholeStay 13 = .ok (.aload_n 0, 1) := by decide +kernel
theorem dX1_wholeStay_14 : decode cX1_wholeStay 14 = .ok (.getfield 42, 3) := by decide +kernel
theorem dX1_wholeStay_17 : decode cX1_wholeStay 17 = .ok (.iload_n 1, 1) := by decide +kernel
theorem dX1_wholeStay_18 : decode cX1_wholeStay 18 = .ok (.aaload, 1) := by decide +kernel
theorem dX1_wholeStay_19 : decode cX1_wholeStay 19 = .ok (.iload_n 3, 1) := by decide +kernel
theorem dX1_wholeStay_20 : decode cX1_wholeStay 20 = .ok (.iaload, 1) := by decide +kernel
theorem dX1_wholeStay_21 : decode cX1_wholeStay 21 = .ok (.iadd, 1) := by decide +kernel
theorem dX1_wholeStay_22 : decode cX1_wholeStay 22 = .ok (.istore_n 2, 1) := by decide +kernel
theorem dX1_wholeStay_23 : decode cX1_wholeStay 23 = .ok (.iinc 3 1, 3) := by decide +kernel
theorem dX1_wholeStay_26 : decode cX1_wholeStay 26 = .ok (.goto (-22), 3) := by decide +kernel
theorem dX1_wholeStay_29 : decode cX1_wholeStay 29 = .ok (.iload_n 2, 1) := by decide +kernel
theorem dX1_wholeStay_30 : decode cX1_wholeStay 30 = .ok (.ireturn, 1) := by decide +kernel
theorem dX0_nextBehind_0 : decode cX0_nextBehind 0 = .ok (.iload_n 1, 1) := by decide +kernel
theorem dX0_nextBehind_1 : decode cX0_nextBehind 1 = .ok (.sipush 400, 3) := by decide +kernel
theorem dX0_nextBehind_4 : decode cX0_nextBehind 4 = .ok (.iadd, 1) := by decide +kernel
theorem dX0_nextBehind_5 : decode cX0_nextBehind 5 = .ok (.istore_n 2, 1) := by decide +kernel
theorem dX0_nextBehind_6 : decode cX0_nextBehind 6 = .ok (.iconst 0, 1) := by decide +kernel
theorem dX0_nextBehind_7 : decode cX0_nextBehind 7 = .ok (.istore_n 3, 1) := by decide +kernel
theorem dX0_nextBehind_8 : decode cX0_nextBehind 8 = .ok (.iload_n 3, 1) := by decide +kernel
theorem dX0_nextBehind_9 : decode cX0_nextBehind 9 = .ok (.aload_n 0, 1) := by decide +kernel
theorem dX0_nextBehind_10 : decode cX0_nextBehind 10 = .ok (.getfield 21, 3) := by decide +kernel
theorem dX0_nextBehind_13 : decode cX0_nextBehind 13 = .ok (.if_icmp .ge 30, 3) := by decide +kernel
theorem dX0_nextBehind_16 : decode cX0_nextBehind 16 = .ok (.aload_n 0, 1) := by decide +kernel
theorem dX0_nextBehind_17 : decode cX0_nextBehind 17 = .ok (.getfield 15, 3) := by decide +kernel
theorem dX0_nextBehind_20 : decode cX0_nextBehind 20 = .ok (.iload_n 3, 1) := by decide +kernel
theorem dX0_nextBehind_21 : decode cX0_nextBehind 21 = .ok (.iaload, 1) := by decide +kernel
theorem dX0_nextBehind_22 : decode cX0_nextBehind 22 = .ok (.iload_n 1, 1) := by decide +kernel
theorem dX0_nextBehind_23 : decode cX0_nextBehind 23 = .ok (.if_icmp .le 14, 3) := by decide +kernel
theorem dX0_nextBehind_26 : decode cX0_nextBehind 26 = .ok (.iload_n 2, 1) := by decide +kernel
theorem dX0_nextBehind_27 : decode cX0_nextBehind 27 = .ok (.aload_n 0, 1) := by decide +kernel
theorem dX0_nextBehind_28 : decode cX0_nextBehind 28 = .ok (.getfield 15, 3) := by decide +kernel
theorem dX0_nextBehind_31 : decode cX0_nextBehind 31 = .ok (.iload_n 3, 1) := by decide +kernel
theorem dX0_nextBehind_32 : decode cX0_nextBehind 32 = .ok (.iaload, 1) := by decide +kernel
theorem dX0_nextBehind_33 : decode cX0_nextBehind 33 = .ok (.invokestatic 31, 3) := by decide +kernel
theorem dX0_nextBehind_36 : decode cX0_nextBehind 36 = .ok (.istore_n 2, 1) := by decide +kernel
theorem dX0_nextBehind_37 : decode cX0_nextBehind 37 = .ok (.iinc 3 1, 3) := by decide +kernel
theorem dX0_nextBehind_40 : decode cX0_nextBehind 40 = .ok (.goto (-32), 3) := by decide +kernel
theorem dX0_nextBehind_43 : decode cX0_nextBehind 43 = .ok (.iload_n 2, 1) := by decide +kernel
theorem dX0_nextBehind_44 : decode cX0_nextBehind 44 = .ok (.ireturn, 1) := by decide +kernel
theorem dX0_sounds_0 : decode cX0_sounds 0 = .ok (.iload_n 2, 1) := by decide +kernel
theorem dX0_sounds_1 : decode cX0_sounds 1 = .ok (.iconst (-1), 1) := by decide +kernel
theorem dX0_sounds_2 : decode cX0_sounds 2 = .ok (.if_icmp .ne 13, 3) := by decide +kernel
theorem dX0_sounds_5 : decode cX0_sounds 5 = .ok (.iload_n 1, 1) := by decide +kernel
theorem dX0_sounds_6 : decode cX0_sounds 6 = .ok (.ifCond .ne 7, 3) := by decide +kernel
theorem dX0_sounds_9 : decode cX0_sounds 9 = .ok (.iconst 1, 1) := by decide +kernel
theorem dX0_sounds_10 : decode cX0_sounds 10 = .ok (.goto 4, 3) := by decide +kernel
theorem dX0_sounds_13 : decode cX0_sounds 13 = .ok (.iconst 0, 1) := by decide +kernel
theorem dX0_sounds_14 : decode cX0_sounds 14 = .ok (.ireturn, 1) := by decide +kernel
theorem dX0_sounds_15 : decode cX0_sounds 15 = .ok (.iconst 0, 1) := by decide +kernel
theorem dX0_sounds_16 : decode cX0_sounds 16 = .ok (.istore_n 3, 1) := by decide +kernel
theorem dX0_sounds_17 : decode cX0_sounds 17 = .ok (.iload_n 3, 1) := by decide +kernel
theorem dX0_sounds_18 : decode cX0_sounds 18 = .ok (.aload_n 0, 1) := by decide +kernel
theorem dX0_sounds_19 : decode cX0_sounds 19 = .ok (.getfield 44, 3) := by decide +kernel
theorem dX0_sounds_22 : decode cX0_sounds 22 = .ok (.if_icmp .ge 29, 3) := by decide +kernel
theorem dX0_sounds_25 : decode cX0_sounds 25 = .ok (.iload_n 1, 1) := by decide +kernel
theorem dX0_sounds_26 : decode cX0_sounds 26 = .ok (.iload_n 3, 1) := by decide +kernel
theorem dX0_sounds_27 : decode cX0_sounds 27 = .ok (.invokestatic 49, 3) := by decide +kernel
theorem dX0_sounds_30 : decode cX0_sounds 30 = .ok (.ifCond .eq 15, 3) := by decide +kernel
theorem dX0_sounds_33 : decode cX0_sounds 33 = .ok (.aload_n 0, 1) := by decide +kernel
theorem dX0_sounds_34 : decode cX0_sounds 34 = .ok (.getfield 53, 3) := by decide +kernel
theorem dX0_sounds_37 : decode cX0_sounds 37 = .ok (.iload_n 3, 1) := by decide +kernel
theorem dX0_sounds_38 : decode cX0_sounds 38 = .ok (.iaload, 1) := by decide +kernel
theorem dX0_sounds_39 : decode cX0_sounds 39 = .ok (.iload_n 2, 1) := by decide +kernel
theorem dX0_sounds_40 : decode cX0_sounds 40 = .ok (.if_icmp .ne 5, 3) := by decide +kernel
theorem dX0_sounds_43 : decode cX0_sounds 43 = .ok (.iconst 1, 1) := by decide +kernel
theorem dX0_sounds_44 : decode cX0_sounds 44 = .ok (.ireturn, 1) := by decide +kernel
theorem dX0_sounds_45 : decode cX0_sounds 45 = .ok (.iinc 3 1, 3) := by decide +kernel
theorem dX0_sounds_48 : decode cX0_sounds 48 = .ok (.goto (-31), 3) := by decide +kernel
theorem dX0_sounds_51 : decode cX0_sounds 51 = .ok (.iconst 0, 1) := by decide +kernel
theorem dX0_sounds_52 : decode cX0_sounds 52 = .ok (.ireturn, 1) := by decide +kernel
theorem dX0_isSo_0 : decode cX0_isSo 0 = .ok (.iconst 0, 1) := by decide +kernel
theorem dX0_isSo_1 : decode cX0_isSo 1 = .ok (.istore 4, 2) := by decide +kernel
theorem dX0_isSo_3 : decode cX0_isSo 3 = .ok (.iload 4, 2) := by decide +kernel
theorem dX0_isSo_5 : decode cX0_isSo 5 = .ok (.aload_n 0, 1) := by decide +kernel
theorem dX0_isSo_6 : decode cX0_isSo 6 = .ok (.getfield 21, 3) := by decide +kernel
theorem dX0_isSo_9 : decode cX0_isSo 9 = .ok (.if_icmp .ge 47, 3) := by decide +kernel
theorem dX0_isSo_12 : decode cX0_isSo 12 = .ok (.aload_n 0, 1) := by decide +kernel
theorem dX0_isSo_13 : decode cX0_isSo 13 = .ok (.getfield 15, 3) := by decide +kernel
theorem dX0_isSo_16 : decode cX0_isSo 16 = .ok (.iload 4, 2) := by decide +kernel
theorem dX0_isSo_18 : decode cX0_isSo 18 = .ok (.iaload, 1) := by decide +kernel
theorem dX0_isSo_19 : decode cX0_isSo 19 = .ok (.iload_n 3, 1) := by decide +kernel
theorem dX0_isSo_20 : decode cX0_isSo 20 = .ok (.if_icmp .ne 30, 3) := by decide +kernel
theorem dX0_isSo_23 : decode cX0_isSo 23 = .ok (.aload_n 1, 1) := by decide +kernel
theorem dX0_isSo_24 : decode cX0_isSo 24 = .ok (.aload_n 2, 1) := by decide +kernel
theorem dX0_isSo_25 : decode cX0_isSo 25 = .ok (.aload_n 0, 1) := by decide +kernel
theorem dX0_isSo_26 : decode cX0_isSo 26 = .ok (.getfield 9, 3) := by decide +kernel
theorem dX0_isSo_29 : decode cX0_isSo 29 = .ok (.iload 4, 2) := by decide +kernel
theorem dX0_isSo_31 : decode cX0_isSo 31 = .ok (.iaload, 1) := by decide +kernel
theorem dX0_isSo_32 : decode cX0_isSo 32 = .ok (.invokevirtual 34, 3) := by decide +kernel
theorem dX0_isSo_35 : decode cX0_isSo 35 = .ok (.aload_n 0, 1) := by decide +kernel
theorem dX0_isSo_36 : decode cX0_isSo 36 = .ok (.getfield 18, 3) := by decide +kernel
theorem dX0_isSo_39 : decode cX0_isSo 39 = .ok (.iload 4, 2) := by decide +kernel
theorem dX0_isSo_41 : decode cX0_isSo 41 = .ok (.iaload, 1) := by decide +kernel
theorem dX0_isSo_42 : decode cX0_isSo 42 = .ok (.invokestatic 40, 3) := by decide +kernel
theorem dX0_isSo_45 : decode cX0_isSo 45 = .ok (.ifCond .ne 5, 3) := by decide +kernel
theorem dX0_isSo_48 : decode cX0_isSo 48 = .ok (.iconst 0, 1) := by decide +kernel
theorem dX0_isSo_49 : decode cX0_isSo 49 = .ok (.ireturn, 1) := by decide +kernel
theorem dX0_isSo_50 : decode cX0_isSo 50 = .ok (.iinc 4 1, 3) := by decide +kernel
theorem dX0_isSo_53 : decode cX0_isSo 53 = .ok (.goto (-50), 3) := by decide +kernel
theorem dX0_isSo_56 : decode cX0_isSo 56 = .ok (.iconst 1, 1) := by decide +kernel
theorem dX0_isSo_57 : decode cX0_isSo 57 = .ok (.ireturn, 1) := by decide +kernel
theorem dX9_goBy_0 : decode cX9_goBy 0 = .ok (.aload_n 0, 1) := by decide +kernel
theorem dX9_goBy_1 : decode cX9_goBy 1 = .ok (.getfield 44, 3) := by decide +kernel
theorem dX9_goBy_4 : decode cX9_goBy 4 = .ok (.ifCond .ne 19, 3) := by decide +kernel
theorem dX9_goBy_7 : decode cX9_goBy 7 = .ok (.aload_n 0, 1) := by decide +kernel
theorem dX9_goBy_8 : decode cX9_goBy 8 = .ok (.getfield 9, 3) := by decide +kernel
theorem dX9_goBy_11 : decode cX9_goBy 11 = .ok (.aload_n 1, 1) := by decide +kernel
theorem dX9_goBy_12 : decode cX9_goBy 12 = .ok (.iload_n 2, 1) := by decide +kernel
theorem dX9_goBy_13 : decode cX9_goBy 13 = .ok (.aload_n 1, 1) := by decide +kernel
theorem dX9_goBy_14 : decode cX9_goBy 14 = .ok (.getfield 38, 3) := by decide +kernel
theorem dX9_goBy_17 : decode cX9_goBy 17 = .ok (.isub, 1) := by decide +kernel
theorem dX9_goBy_18 : decode cX9_goBy 18 = .ok (.invokevirtual 102, 3) := by decide +kernel
theorem dX9_goBy_21 : decode cX9_goBy 21 = .ok (.iconst 1, 1) := by decide +kernel
theorem dX9_goBy_22 : decode cX9_goBy 22 = .ok (.ireturn, 1) := by decide +kernel
theorem dX9_goBy_23 : decode cX9_goBy 23 = .ok (.aload_n 0, 1) := by decide +kernel
theorem dX9_goBy_24 : decode cX9_goBy 24 = .ok (.getfield 41, 3) := by decide +kernel
theorem dX9_goBy_27 : decode cX9_goBy 27 = .ok (.aload_n 0, 1) := by decide +kernel
theorem dX9_goBy_28 : decode cX9_goBy 28 = .ok (.getfield 15, 3) := by decide +kernel
theorem dX9_goBy_31 : decode cX9_goBy 31 = .ok (.aload_n 1, 1) := by decide +kernel
theorem dX9_goBy_32 : decode cX9_goBy 32 = .ok (.getfield 38, 3) := by decide +kernel
theorem dX9_goBy_35 : decode cX9_goBy 35 = .ok (.aload_n 0, 1) := by decide +kernel
theorem dX9_goBy_36 : decode cX9_goBy 36 = .ok (.getfield 41, 3) := by decide +kernel
theorem dX9_goBy_39 : decode cX9_goBy 39 = .ok (.isub, 1) := by decide +kernel
theorem dX9_goBy_40 : decode cX9_goBy 40 = .ok (.invokevirtual 105, 3) := by decide +kernel
theorem dX9_goBy_43 : decode cX9_goBy 43 = .ok (.iadd, 1) := by decide +kernel
theorem dX9_goBy_44 : decode cX9_goBy 44 = .ok (.istore_n 3, 1) := by decide +kernel
theorem dX9_goBy_45 : decode cX9_goBy 45 = .ok (.aload_n 0, 1) := by decide +kernel
theorem dX9_goBy_46 : decode cX9_goBy 46 = .ok (.getfield 9, 3) := by decide +kernel
theorem dX9_goBy_49 : decode cX9_goBy 49 = .ok (.aload_n 1, 1) := by decide +kernel
theorem dX9_goBy_50 : decode cX9_goBy 50 = .ok (.iload_n 2, 1) := by decide +kernel
theorem dX9_goBy_51 : decode cX9_goBy 51 = .ok (.iload_n 3, 1) := by decide +kernel
theorem dX9_goBy_52 : decode cX9_goBy 52 = .ok (.invokestatic 67, 3) := by decide +kernel
theorem dX9_goBy_55 : decode cX9_goBy 55 = .ok (.aload_n 1, 1) := by decide +kernel
theorem dX9_goBy_56 : decode cX9_goBy 56 = .ok (.getfield 38, 3) := by decide +kernel
theorem dX9_goBy_59 : decode cX9_goBy 59 = .ok (.isub, 1) := by decide +kernel
theorem dX9_goBy_60 : decode cX9_goBy 60 = .ok (.invokevirtual 102, 3) := by decide +kernel
theorem dX9_goBy_63 : decode cX9_goBy 63 = .ok (.aload_n 0, 1) := by decide +kernel
theorem dX9_goBy_64 : decode cX9_goBy 64 = .ok (.getfield 15, 3) := by decide +kernel
theorem dX9_goBy_67 : decode cX9_goBy 67 = .ok (.aload_n 0, 1) := by decide +kernel
theorem dX9_goBy_68 : decode cX9_goBy 68 = .ok (.getfield 9, 3) := by decide +kernel
theorem dX9_goBy_71 : decode cX9_goBy 71 = .ok (.aload_n 1, 1) := by decide +kernel
theorem dX9_goBy_72 : decode cX9_goBy 72 = .ok (.aload_n 1, 1) := by decide +kernel
theorem dX9_goBy_73 : decode cX9_goBy 73 = .ok (.getfield 38, 3) := by decide +kernel
theorem dX9_goBy_76 : decode cX9_goBy 76 = .ok (.aload_n 0, 1) := by decide +kernel
theorem dX9_goBy_77 : decode cX9_goBy 77 = .ok (.getfield 41, 3) := by decide +kernel
theorem dX9_goBy_80 : decode cX9_goBy 80 = .ok (.isub, 1) := by decide +kernel
theorem dX9_goBy_81 : decode cX9_goBy 81 = .ok (.invokevirtual 110, 3) := by decide +kernel
theorem dX9_goBy_84 : decode cX9_goBy 84 = .ok (.ireturn, 1) := by decide +kernel
theorem dX9_sendOff_0 : decode cX9_sendOff 0 = .ok (.aload_n 0, 1) := by decide +kernel
theorem dX9_sendOff_1 : decode cX9_sendOff 1 = .ok (.getfield 9, 3) := by decide +kernel
theorem dX9_sendOff_4 : decode cX9_sendOff 4 = .ok (.iload_n 2, 1) := by decide +kernel
theorem dX9_sendOff_5 : decode cX9_sendOff 5 = .ok (.invokevirtual 78, 3) := by decide +kernel
theorem dX9_sendOff_8 : decode cX9_sendOff 8 = .ok (.istore 4, 2) := by decide +kernel
theorem dX9_sendOff_10 : decode cX9_sendOff 10 = .ok (.iconst 0, 1) := by decide +kernel
theorem dX9_sendOff_11 : decode cX9_sendOff 11 = .ok (.istore 5, 2) := by decide +kernel
theorem dX9_sendOff_13 : decode cX9_sendOff 13 = .ok (.iload 5, 2) := by decide +kernel
theorem dX9_sendOff_15 : decode cX9_sendOff 15 = .ok (.sipush 400, 3) := by decide +kernel
theorem dX9_sendOff_18 : decode cX9_sendOff 18 = .ok (.if_icmp .gt 100, 3) := by decide +kernel
theorem dX9_sendOff_21 : decode cX9_sendOff 21 = .ok (.aload_n 1, 1) := by decide +kernel
theorem dX9_sendOff_22 : decode cX9_sendOff 22 = .ok (.getfield 38, 3) := by decide +kernel
theorem dX9_sendOff_25 : decode cX9_sendOff 25 = .ok (.iload_n 3, 1) := by decide +kernel
theorem dX9_sendOff_26 : decode cX9_sendOff 26 = .ok (.if_icmp .ge 92, 3) := by decide +kernel
theorem dX9_sendOff_29 : decode cX9_sendOff 29 = .ok (.aload_n 0, 1) := by decide +kernel
theorem dX9_sendOff_30 : decode cX9_sendOff 30 = .ok (.getfield 44, 3) := by decide +kernel
theorem dX9_sendOff_33 : decode cX9_sendOff 33 = .ok (.ifCond .ne 16, 3) := by decide +kernel
theorem dX9_sendOff_36 : decode cX9_sendOff 36 = .ok (.aload_n 1, 1) := by decide +kernel
theorem dX9_sendOff_37 : decode cX9_sendOff 37 = .ok (.getfield 38, 3) := by decide +kernel
theorem dX9_sendOff_40 : decode cX9_sendOff 40 = .ok (.iload 4, 2) := by decide +kernel
theorem dX9_sendOff_42 : decode cX9_sendOff 42 = .ok (.iadd, 1) := by decide +kernel
theorem dX9_sendOff_43 : decode cX9_sendOff 43 = .ok (.iload_n 3, 1) := by decide +kernel
theorem dX9_sendOff_44 : decode cX9_sendOff 44 = .ok (.if_icmp .le 5, 3) := by decide +kernel
theorem dX9_sendOff_47 : decode cX9_sendOff 47 = .ok (.iconst 0, 1) := by decide +kernel
theorem dX9_sendOff_48 : decode cX9_sendOff 48 = .ok (.ireturn, 1) := by decide +kernel
theorem dX9_sendOff_49 : decode cX9_sendOff 49 = .ok (.aload_n 0, 1) := by decide +kernel
theorem dX9_sendOff_50 : decode cX9_sendOff 50 = .ok (.getfield 9, 3) := by decide +kernel
theorem dX9_sendOff_53 : decode cX9_sendOff 53 = .ok (.aload_n 1, 1) := by decide +kernel
theorem dX9_sendOff_54 : decode cX9_sendOff 54 = .ok (.iload_n 2, 1) := by decide +kernel
theorem dX9_sendOff_55 : decode cX9_sendOff 55 = .ok (.invokevirtual 84, 3) := by decide +kernel
theorem dX9_sendOff_58 : decode cX9_sendOff 58 = .ok (.ifCond .ne 14, 3) := by decide +kernel
theorem dX9_sendOff_61 : decode cX9_sendOff 61 = .ok (.aload_n 0, 1) := by decide +kernel
theorem dX9_sendOff_62 : decode cX9_sendOff 62 = .ok (.getfield 9, 3) := by decide +kernel
theorem dX9_sendOff_65 : decode cX9_sendOff 65 = .ok (.aload_n 1, 1) := by decide +kernel
theorem dX9_sendOff_66 : decode cX9_sendOff 66 = .ok (.iload_n 2, 1) := by decide +kernel
theorem dX9_sendOff_67 : decode cX9_sendOff 67 = .ok (.invokevirtual 88, 3) := by decide +kernel
theorem dX9_sendOff_70 : decode cX9_sendOff 70 = .ok (.iconst 1, 1) := by decide +kernel
theorem dX9_sendOff_71 : decode cX9_sendOff 71 = .ok (.ireturn, 1) := by decide +kernel
theorem dX9_sendOff_72 : decode cX9_sendOff 72 = .ok (.aload_n 0, 1) := by decide +kernel
theorem dX9_sendOff_73 : decode cX9_sendOff 73 = .ok (.getfield 9, 3) := by decide +kernel
theorem dX9_sendOff_76 : decode cX9_sendOff 76 = .ok (.getfield 92, 3) := by decide +kernel
theorem dX9_sendOff_79 : decode cX9_sendOff 79 = .ok (.iload_n 2, 1) := by decide +kernel
theorem dX9_sendOff_80 : decode cX9_sendOff 80 = .ok (.iaload, 1) := by decide +kernel
theorem dX9_sendOff_81 : decode cX9_sendOff 81 = .ok (.istore 6, 2) := by decide +kernel
theorem dX9_sendOff_83 : decode cX9_sendOff 83 = .ok (.aload_n 0, 1) := by decide +kernel
theorem dX9_sendOff_84 : decode cX9_sendOff 84 = .ok (.aload_n 1, 1) := by decide +kernel
theorem dX9_sendOff_85 : decode cX9_sendOff 85 = .ok (.iload 6, 2) := by decide +kernel
theorem dX9_sendOff_87 : decode cX9_sendOff 87 = .ok (.aload_n 1, 1) := by decide +kernel
theorem dX9_sendOff_88 : decode cX9_sendOff 88 = .ok (.getfield 38, 3) := by decide +kernel
theorem dX9_sendOff_91 : decode cX9_sendOff 91 = .ok (.if_icmp .le 12, 3) := by decide +kernel
theorem dX9_sendOff_94 : decode cX9_sendOff 94 = .ok (.iload 6, 2) := by decide +kernel
theorem dX9_sendOff_96 : decode cX9_sendOff 96 = .ok (.iload_n 3, 1) := by decide +kernel
theorem dX9_sendOff_97 : decode cX9_sendOff 97 = .ok (.invokestatic 67, 3) := by decide +kernel
theorem dX9_sendOff_100 : decode cX9_sendOff 100 = .ok (.goto 4, 3) := by decide +kernel
theorem dX9_sendOff_103 : decode cX9_sendOff 103 = .ok (.iload_n 3, 1) := by decide +kernel
theorem dX9_sendOff_104 : decode cX9_sendOff 104 = .ok (.invokevirtual 95, 3) := by decide +kernel
theorem dX9_sendOff_107 : decode cX9_sendOff 107 = .ok (.ifCond .ne 5, 3) := by decide +kernel
theorem dX9_sendOff_110 : decode cX9_sendOff 110 = .ok (.iconst 0, 1) := by decide +kernel
theorem dX9_sendOff_111 : decode cX9_sendOff 111 = .ok (.ireturn, 1) := by decide +kernel
theorem dX9_sendOff_112 : decode cX9_sendOff 112 = .ok (.iinc 5 1, 3) := by decide +kernel
theorem dX9_sendOff_115 : decode cX9_sendOff 115 = .ok (.goto (-102), 3) := by decide +kernel
theorem dX9_sendOff_118 : decode cX9_sendOff 118 = .ok (.aload_n 0, 1) := by decide +kernel
theorem dX9_sendOff_119 : decode cX9_sendOff 119 = .ok (.getfield 44, 3) := by decide +kernel
theorem dX9_sendOff_122 : decode cX9_sendOff 122 = .ok (.ireturn, 1) := by decide +kernel
theorem dX9_leadThrough_0 : decode cX9_leadThrough 0 = .ok (.iconst 0, 1) := by decide +kernel
theorem dX9_leadThrough_1 : decode cX9_leadThrough 1 = .ok (.istore_n 3, 1) := by decide +kernel
theorem dX9_leadThrough_2 : decode cX9_leadThrough 2 = .ok (.iload_n 3, 1) := by decide +kernel
theorem dX9_leadThrough_3 : decode cX9_leadThrough 3 = .ok (.sipush 400, 3) := by decide +kernel
theorem dX9_leadThrough_6 : decode cX9_leadThrough 6 = .ok (.if_icmp .gt 56, 3) := by decide +kernel
theorem dX9_leadThrough_9 : decode cX9_leadThrough 9 = .ok (.aload_n 0, 1) := by decide +kernel
theorem dX9_leadThrough_10 : decode cX9_leadThrough 10 = .ok (.getfield 26, 3) := by decide +kernel
theorem dX9_leadThrough_13 : decode cX9_leadThrough 13 = .ok (.getfield 38, 3) := by decide +kernel
theorem dX9_leadThrough_16 : decode cX9_leadThrough 16 = .ok (.iload_n 2, 1) := by decide +kernel
theorem dX9_leadThrough_17 : decode cX9_leadThrough 17 = .ok (.if_icmp .ge 45, 3) := by decide +kernel
theorem dX9_leadThrough_20 : decode cX9_leadThrough 20 = .ok (.aload_n 0, 1) := by decide +kernel
theorem dX9_leadThrough_21 : decode cX9_leadThrough 21 = .ok (.getfield 44, 3) := by decide +kernel
theorem dX9_leadThrough_24 : decode cX9_leadThrough 24 = .ok (.ifCond .ne 18, 3) := by decide +kernel
theorem dX9_leadThrough_27 : decode cX9_leadThrough 27 = .ok (.aload_n 0, 1) := by decide +kernel
theorem dX9_leadThrough_28 : decode cX9_leadThrough 28 = .ok (.getfield 26, 3) := by decide +kernel
theorem dX9_leadThrough_31 : decode cX9_leadThrough 31 = .ok (.invokevirtual 99, 3) := by decide +kernel
theorem dX9_leadThrough_34 : decode cX9_leadThrough 34 = .ok (.iload_n 1, 1) := by decide +kernel
theorem dX9_leadThrough_35 : decode cX9_leadThrough 35 = .ok (.iand, 1) := by decide +kernel
theorem dX9_leadThrough_36 : decode cX9_leadThrough 36 = .ok (.iload_n 1, 1) := by decide +kernel
theorem dX9_leadThrough_37 : decode cX9_leadThrough 37 = .ok (.if_icmp .ne 5, 3) := by decide +kernel
theorem dX9_leadThrough_40 : decode cX9_leadThrough 40 = .ok (.iconst 1, 1) := by decide +kernel
theorem dX9_leadThrough_41 : decode cX9_leadThrough 41 = .ok (.ireturn, 1) := by decide +kernel
theorem dX9_leadThrough_42 : decode cX9_leadThrough 42 = .ok (.aload_n 0, 1) := by decide +kernel
theorem dX9_leadThrough_43 : decode cX9_leadThrough 43 = .ok (.aload_n 0, 1) := by decide +kernel
theorem dX9_leadThrough_44 : decode cX9_leadThrough 44 = .ok (.getfield 26, 3) := by decide +kernel
theorem dX9_leadThrough_47 : decode cX9_leadThrough 47 = .ok (.iload_n 2, 1) := by decide +kernel
theorem dX9_leadThrough_48 : decode cX9_leadThrough 48 = .ok (.invokevirtual 95, 3) := by decide +kernel
theorem dX9_leadThrough_51 : decode cX9_leadThrough 51 = .ok (.ifCond .ne 5, 3) := by decide +kernel
theorem dX9_leadThrough_54 : decode cX9_leadThrough 54 = .ok (.iconst 0, 1) := by decide +kernel
theorem dX9_leadThrough_55 : decode cX9_leadThrough 55 = .ok (.ireturn, 1) := by decide +kernel
theorem dX9_leadThrough_56 : decode cX9_leadThrough 56 = .ok (.iinc 3 1, 3) := by decide +kernel
theorem dX9_leadThrough_59 : decode cX9_leadThrough 59 = .ok (.goto (-57), 3) := by decide +kernel
theorem dX9_leadThrough_62 : decode cX9_leadThrough 62 = .ok (.aload_n 0, 1) := by decide +kernel
theorem dX9_leadThrough_63 : decode cX9_leadThrough 63 = .ok (.getfield 44, 3) := by decide +kernel
theorem dX9_leadThrough_66 : decode cX9_leadThrough 66 = .ok (.ifCond .ne 16, 3) := by decide +kernel
theorem dX9_leadThrough_69 : decode cX9_leadThrough 69 = .ok (.aload_n 0, 1) := by decide +kernel
theorem dX9_leadThrough_70 : decode cX9_leadThrough 70 = .ok (.getfield 26, 3) := by decide +kernel
theorem dX9_leadThrough_73 : decode cX9_leadThrough 73 = .ok (.invokevirtual 99, 3) := by decide +kernel
theorem dX9_leadThrough_76 : decode cX9_leadThrough 76 = .ok (.iload_n 1, 1) := by decide +kernel
theorem dX9_leadThrough_77 : decode cX9_leadThrough 77 = .ok (.iand, 1) := by decide +kernel
theorem dX9_leadThrough_78 : decode cX9_leadThrough 78 = .ok (.iload_n 1, 1) := by decide +kernel
theorem dX9_leadThrough_79 : decode cX9_leadThrough 79 = .ok (.if_icmp .ne 7, 3) := by decide +kernel
theorem dX9_leadThrough_82 : decode cX9_leadThrough 82 = .ok (.iconst 1, 1) := by decide +kernel
theorem dX9_leadThrough_83 : decode cX9_leadThrough 83 = .ok (.goto 4, 3) := by decide +kernel
theorem dX9_leadThrough_86 : decode cX9_leadThrough 86 = .ok (.iconst 0, 1) := by decide +kernel
theorem dX9_leadThrough_87 : decode cX9_leadThrough 87 = .ok (.ireturn, 1) := by decide +kernel
theorem dX9_walk_0 : decode cX9_walk 0 = .ok (.aload_n 0, 1) := by decide +kernel
theorem dX9_walk_1 : decode cX9_walk 1 = .ok (.getfield 30, 3) := by decide +kernel
theorem dX9_walk_4 : decode cX9_walk 4 = .ok (.iconst (-1), 1) := by decide +kernel
theorem dX9_walk_5 : decode cX9_walk 5 = .ok (.if_icmp .eq 13, 3) := by decide +kernel
theorem dX9_walk_8 : decode cX9_walk 8 = .ok (.iload_n 2, 1) := by decide +kernel
theorem dX9_walk_9 : decode cX9_walk 9 = .ok (.aload_n 0, 1) := by decide +kernel
theorem dX9_walk_10 : decode cX9_walk 10 = .ok (.getfield 30, 3) := by decide +kernel
theorem dX9_walk_13 : decode cX9_walk 13 = .ok (.if_icmp .le 5, 3) := by decide +kernel
theorem dX9_walk_16 : decode cX9_walk 16 = .ok (.iconst 0, 1) := by decide +kernel
theorem dX9_walk_17 : decode cX9_walk 17 = .ok (.ireturn, 1) := by decide +kernel
theorem dX9_walk_18 : decode cX9_walk 18 = .ok (.aload_n 0, 1) := by decide +kernel
theorem dX9_walk_19 : decode cX9_walk 19 = .ok (.iconst (-1), 1) := by decide +kernel
theorem dX9_walk_20 : decode cX9_walk 20 = .ok (.putfield 30, 3) := by decide +kernel
theorem dX9_walk_23 : decode cX9_walk 23 = .ok (.aload_n 0, 1) := by decide +kernel
theorem dX9_walk_24 : decode cX9_walk 24 = .ok (.getfield 41, 3) := by decide +kernel
theorem dX9_walk_27 : decode cX9_walk 27 = .ok (.iload_n 3, 1) := by decide +kernel
theorem dX9_walk_28 : decode cX9_walk 28 = .ok (.iadd, 1) := by decide +kernel
theorem dX9_walk_29 : decode cX9_walk 29 = .ok (.istore 4, 2) := by decide +kernel
theorem dX9_walk_31 : decode cX9_walk 31 = .ok (.iconst 0, 1) := by decide +kernel
theorem dX9_walk_32 : decode cX9_walk 32 = .ok (.iload_n 2, 1) := by decide +kernel
theorem dX9_walk_33 : decode cX9_walk 33 = .ok (.invokestatic 48, 3) := by decide +kernel
theorem dX9_walk_36 : decode cX9_walk 36 = .ok (.istore 5, 2) := by decide +kernel
theorem dX9_walk_38 : decode cX9_walk 38 = .ok (.iload 5, 2) := by decide +kernel
theorem dX9_walk_40 : decode cX9_walk 40 = .ok (.aload_n 1, 1) := by decide +kernel
theorem dX9_walk_41 : decode cX9_walk 41 = .ok (.getfield 54, 3) := by decide +kernel
theorem dX9_walk_44 : decode cX9_walk 44 = .ok (.if_icmp .ge 68, 3) := by decide +kernel
theorem dX9_walk_47 : decode cX9_walk 47 = .ok (.iload 5, 2) := by decide +kernel
theorem dX9_walk_49 : decode cX9_walk 49 = .ok (.bipush 6, 2) := by decide +kernel
theorem dX9_walk_51 : decode cX9_walk 51 = .ok (.if_icmp .ge 61, 3) := by decide +kernel
theorem dX9_walk_54 : decode cX9_walk 54 = .ok (.aload_n 0, 1) := by decide +kernel
theorem dX9_walk_55 : decode cX9_walk 55 = .ok (.getfield 21, 3) := by decide +kernel
theorem dX9_walk_58 : decode cX9_walk 58 = .ok (.iload 5, 2) := by decide +kernel
theorem dX9_walk_60 : decode cX9_walk 60 = .ok (.iconst 1, 1) := by decide +kernel
theorem dX9_walk_61 : decode cX9_walk 61 = .ok (.iadd, 1) := by decide +kernel
theorem dX9_walk_62 : decode cX9_walk 62 = .ok (.aaload, 1) := by decide +kernel
theorem dX9_walk_63 : decode cX9_walk 63 = .ok (.aload_n 0, 1) := by decide +kernel
theorem dX9_walk_64 : decode cX9_walk 64 = .ok (.getfield 21, 3) := by decide +kernel
theorem dX9_walk_67 : decode cX9_walk 67 = .ok (.iload 5, 2) := by decide +kernel
theorem dX9_walk_69 : decode cX9_walk 69 = .ok (.aaload, 1) := by decide +kernel
theorem dX9_walk_70 : decode cX9_walk 70 = .ok (.invokevirtual 34, 3) := by decide +kernel
theorem dX9_walk_73 : decode cX9_walk 73 = .ok (.aload_n 0, 1) := by decide +kernel
theorem dX9_walk_74 : decode cX9_walk 74 = .ok (.aload_n 0, 1) := by decide +kernel
theorem dX9_walk_75 : decode cX9_walk 75 = .ok (.getfield 21, 3) := by decide +kernel
theorem dX9_walk_78 : decode cX9_walk 78 = .ok (.iload 5, 2) := by decide +kernel
theorem dX9_walk_80 : decode cX9_walk 80 = .ok (.iconst 1, 1) := by decide +kernel
theorem dX9_walk_81 : decode cX9_walk 81 = .ok (.iadd, 1) := by decide +kernel
theorem dX9_walk_82 : decode cX9_walk 82 = .ok (.aaload, 1) := by decide +kernel
theorem dX9_walk_83 : decode cX9_walk 83 = .ok (.aload_n 1, 1) := by decide +kernel
theorem dX9_walk_84 : decode cX9_walk 84 = .ok (.getfield 59, 3) := by decide +kernel
theorem dX9_walk_87 : decode cX9_walk 87 = .ok (.iload 5, 2) := by decide +kernel
theorem dX9_walk_89 : decode cX9_walk 89 = .ok (.iaload, 1) := by decide +kernel
theorem dX9_walk_90 : decode cX9_walk 90 = .ok (.iload 4, 2) := by decide +kernel
theorem dX9_walk_92 : decode cX9_walk 92 = .ok (.invokevirtual 63, 3) := by decide +kernel
theorem dX9_walk_95 : decode cX9_walk 95 = .ok (.ifCond .ne 11, 3) := by decide +kernel
theorem dX9_walk_98 : decode cX9_walk 98 = .ok (.aload_n 0, 1) := by decide +kernel
theorem dX9_walk_99 : decode cX9_walk 99 = .ok (.iload 5, 2) := by decide +kernel
theorem dX9_walk_101 : decode cX9_walk 101 = .ok (.putfield 30, 3) := by decide +kernel
theorem dX9_walk_104 : decode cX9_walk 104 = .ok (.iconst 0, 1) := by decide +kernel
theorem dX9_walk_105 : decode cX9_walk 105 = .ok (.ireturn, 1) := by decide +kernel
theorem dX9_walk_106 : decode cX9_walk 106 = .ok (.iinc 5 1, 3) := by decide +kernel
theorem dX9_walk_109 : decode cX9_walk 109 = .ok (.goto (-71), 3) := by decide +kernel
theorem dX9_walk_112 : decode cX9_walk 112 = .ok (.aload_n 0, 1) := by decide +kernel
theorem dX9_walk_113 : decode cX9_walk 113 = .ok (.getfield 26, 3) := by decide +kernel
theorem dX9_walk_116 : decode cX9_walk 116 = .ok (.aload_n 0, 1) := by decide +kernel
theorem dX9_walk_117 : decode cX9_walk 117 = .ok (.getfield 21, 3) := by decide +kernel
theorem dX9_walk_120 : decode cX9_walk 120 = .ok (.aload_n 1, 1) := by decide +kernel
theorem dX9_walk_121 : decode cX9_walk 121 = .ok (.getfield 54, 3) := by decide +kernel
theorem dX9_walk_124 : decode cX9_walk 124 = .ok (.bipush 6, 2) := by decide +kernel
theorem dX9_walk_126 : decode cX9_walk 126 = .ok (.invokestatic 67, 3) := by decide +kernel
theorem dX9_walk_129 : decode cX9_walk 129 = .ok (.aaload, 1) := by decide +kernel
theorem dX9_walk_130 : decode cX9_walk 130 = .ok (.invokevirtual 34, 3) := by decide +kernel
theorem dX9_walk_133 : decode cX9_walk 133 = .ok (.aload_n 0, 1) := by decide +kernel
theorem dX9_walk_134 : decode cX9_walk 134 = .ok (.aload_n 1, 1) := by decide +kernel
theorem dX9_walk_135 : decode cX9_walk 135 = .ok (.invokevirtual 70, 3) := by decide +kernel
theorem dX9_walk_138 : decode cX9_walk 138 = .ok (.iload 4, 2) := by decide +kernel
theorem dX9_walk_140 : decode cX9_walk 140 = .ok (.invokevirtual 74, 3) := by decide +kernel
theorem dX9_walk_143 : decode cX9_walk 143 = .ok (.ireturn, 1) := by decide +kernel
theorem dX9_minutesGone_0 : decode cX9_minutesGone 0 = .ok (.aload_n 0, 1) := by decide +kernel
theorem dX9_minutesGone_1 : decode cX9_minutesGone 1 = .ok (.getfield 26, 3) := by decide +kernel
theorem dX9_minutesGone_4 : decode cX9_minutesGone 4 = .ok (.getfield 38, 3) := by decide +kernel
theorem dX9_minutesGone_7 : decode cX9_minutesGone 7 = .ok (.aload_n 0, 1) := by decide +kernel
theorem dX9_minutesGone_8 : decode cX9_minutesGone 8 = .ok (.getfield 41, 3) := by decide +kernel
theorem dX9_minutesGone_11 : decode cX9_minutesGone 11 = .ok (.isub, 1) := by decide +kernel
theorem dX9_minutesGone_12 : decode cX9_minutesGone 12 = .ok (.ireturn, 1) := by decide +kernel
section NXG
variable {l : Launch} {D : va_G} {cy : Nat → ClassId} {ad : Nat → Nat} {dT : Nat} {X : Mm}
def f_X8_letterAt_26  (t0 : Int32) (M : Mem) : Option (Int32 × Mem) :=
  some (t0, M)
set_option maxRecDepth 100000 in
theorem w_X8_letterAt_26 {R : Int32} {M' : Mem}  (t0 : Int32) (M : Mem) (hF : f_X8_letterAt_26 t0 M = some (R, M')) : RunF l D cy ad none YX8_letterAt 1 0 0 (some (.int R)) (lay X M') 0 0 26 [] [.int t0] (lay X M) := by
  unfold f_X8_letterAt_26 at hF
  exact s_iret (Y := YX8_letterAt) (pc := 26) dX8_letterAt_26 rfl hF
def f_X8_letterAt_25  (M : Mem) : Option (Int32 × Mem) :=
  f_X8_letterAt_26 (-1) M
set_option maxRecDepth 100000 in
theorem w_X8_letterAt_25 {R : Int32} {M' : Mem}  (M : Mem) (hF : f_X8_letterAt_25  M = some (R, M')) : RunF l D cy ad none YX8_letterAt 1 0 0 (some (.int R)) (lay X M') 0 0 25 [] [] (lay X M) := by
  unfold f_X8_letterAt_25 at hF
  refine g_iconst (Y := YX8_letterAt) (pc := 25) dX8_letterAt_25 kI_m1 ?_
  exact w_X8_letterAt_26  _ _ hF
def f_X8_letterAt_0  (x1 : Int32) (M : Mem) : Option (Int32 × Mem) :=
  bd (f_X8_at x1 M) fun r1 M2 =>
  if r1 < 97 then
    f_X8_letterAt_25 M2
  else
    if 102 < r1 then
      f_X8_letterAt_25 M2
    else
      f_X8_letterAt_26 (r1 - 97) M2
set_option maxRecDepth 100000 in
theorem w_X8_letterAt_0 {R : Int32} {M' : Mem}  (x1 : Int32) (M : Mem) (hF : f_X8_letterAt_0 x1 M = some (R, M')) : RunF l D cy ad none YX8_letterAt 1 0 0 (some (.int R)) (lay X M') 0 0 0 [(0, .ref 1), (1, .int x1)] [] (lay X M) := by
  unfold f_X8_letterAt_0 at hF
  refine g_aload_n (Y := YX8_letterAt) (pc := 0) 0 dX8_letterAt_0 rfl ?_
  refine g_iload_n (Y := YX8_letterAt) (pc := 1) 1 dX8_letterAt_1 rfl ?_
  obtain ⟨r1, M2, e3, hF⟩ := bd_some hF
  refine s_callVi (Y := YX8_letterAt) (pc := 2) (as := [.int x1]) (st := []) (r_X8_at  e3) miX8_at lk_X8_22 dX8_letterAt_2 k_1 rfl (Nat.le_of_ble_eq_true rfl) (Nat.le_of_ble_eq_true rfl) rfl ?_
  clear e3
  refine g_istore_n (Y := YX8_letterAt) (pc := 5) (L' := [(2, .int r1), (0, .ref 1), (1, .int x1)]) dX8_letterAt_5 (Nat.le_of_ble_eq_true rfl) rfl ?_
  refine g_iload_n (Y := YX8_letterAt) (pc := 6) 0 dX8_letterAt_6 rfl ?_
  refine g_bipush (Y := YX8_letterAt) (pc := 7) dX8_letterAt_7 kB_97 ?_
  refine g_icmp_lt (Y := YX8_letterAt) (pc := 9) (tgt := 25) dX8_letterAt_9 rfl (fun c4 => ?_) (fun c4 => ?_)
  · replace hF := if_t c4 hF
    refine g_loc [] rfl ?_
    exact w_X8_letterAt_25  _ hF
  · replace hF := if_f c4 hF
    refine g_iload_n (Y := YX8_letterAt) (pc := 12) 0 dX8_letterAt_12 rfl ?_
    refine g_bipush (Y := YX8_letterAt) (pc := 13) dX8_letterAt_13 kB_102 ?_
    refine g_icmp_gt (Y := YX8_letterAt) (pc := 15) (tgt := 25) dX8_letterAt_15 rfl (fun c5 => ?_) (fun c5 => ?_)
    · replace hF := if_t c5 hF
      refine g_loc [] rfl ?_
      exact w_X8_letterAt_25  _ hF
    · replace hF := if_f c5 hF
      refine g_iload_n (Y := YX8_letterAt) (pc := 18) 0 dX8_letterAt_18 rfl ?_
      refine g_bipush (Y := YX8_letterAt) (pc := 19) dX8_letterAt_19 kB_97 ?_
      refine g_isub (Y := YX8_letterAt) (pc := 21) dX8_letterAt_21 ?_
      refine g_goto (Y := YX8_letterAt) (pc := 22) (tgt := 26) dX8_letterAt_22 rfl ?_
      refine g_loc [] rfl ?_
      exact w_X8_letterAt_26  _ _ hF
def f_X8_letterAt (x1 : Int32) (M : Mem) : Option (Int32 × Mem) := f_X8_letterAt_0 x1 M
theorem r_X8_letterAt {x1 R : Int32} {M M' : Mem}  (hF : f_X8_letterAt x1 M = some (R, M')) : RunS l D cy ad YX8_letterAt 1 [.ref 1, .int x1] X M (some (.int R)) M' := Run.of 1 (miX8_letterAt).1 (Nat.le_of_ble_eq_true rfl) (w_X8_letterAt_0  _ _ hF)
def f_X10_behindAct_107  (t0 : Int32) (M : Mem) : Option (Int32 × Mem) :=
  some (t0, M)
set_option maxRecDepth 100000 in
theorem w_X10_behindAct_107 {R : Int32} {M' : Mem}  (t0 : Int32) (M : Mem) (hF : f_X10_behindAct_107 t0 M = some (R, M')) : RunF l D cy ad none YX10_behindAct 2 0 0 (some (.int R)) (lay X M') 0 0 107 [] [.int t0] (lay X M) := by
  unfold f_X10_behindAct_107 at hF
  exact s_iret (Y := YX10_behindAct) (pc := 107) dX10_behindAct_107 rfl hF
def f_X10_behindAct_133  (t0 : Int32) (M : Mem) : Option (Int32 × Mem) :=
  some (t0, M)
set_option maxRecDepth 100000 in
theorem w_X10_behindAct_133 {R : Int32} {M' : Mem}  (t0 : Int32) (M : Mem) (hF : f_X10_behindAct_133 t0 M = some (R, M')) : RunF l D cy ad none YX10_behindAct 2 0 0 (some (.int R)) (lay X M') 0 0 133 [] [.int t0] (lay X M) := by
  unfold f_X10_behindAct_133 at hF
  exact s_iret (Y := YX10_behindAct) (pc := 133) dX10_behindAct_133 rfl hF
def f_X10_behindAct_159  (t0 : Int32) (M : Mem) : Option (Int32 × Mem) :=
  some (t0, M)
set_option maxRecDepth 100000 in
theorem w_X10_behindAct_159 {R : Int32} {M' : Mem}  (t0 : Int32) (M : Mem) (hF : f_X10_behindAct_159 t0 M = some (R, M')) : RunF l D cy ad none YX10_behindAct 2 0 0 (some (.int R)) (lay X M') 0 0 159 [] [.int t0] (lay X M) := by
  unfold f_X10_behindAct_159 at hF
  exact s_iret (Y := YX10_behindAct) (pc := 159) dX10_behindAct_159 rfl hF
def f_X10_behindAct_205  (t0 : Int32) (M : Mem) : Option (Int32 × Mem) :=
  some (t0, M)
set_option maxRecDepth 100000 in
theorem w_X10_behindAct_205 {R : Int32} {M' : Mem}  (t0 : Int32) (M : Mem) (hF : f_X10_behindAct_205 t0 M = some (R, M')) : RunF l D cy ad none YX10_behindAct 2 0 0 (some (.int R)) (lay X M') 0 0 205 [] [.int t0] (lay X M) := by
  unfold f_X10_behindAct_205 at hF
  exact s_iret (Y := YX10_behindAct) (pc := 205) dX10_behindAct_205 rfl hF
def f_X10_behindAct_0  (x1 : Int32) (M : Mem) : Option (Int32 × Mem) :=
  bd (f_X8_at x1 M) fun r1 M2 =>
  if r1 = 109 then
    bd (f_X8_digitAt (x1 + 1) M2) fun r5 M6 =>
    if r5 = (-1) then
      some (((-1) - (x1 + 1)), M6)
    else
      bd (f_X8_digitAt (x1 + 2) M6) fun r9 M10 =>
      if r9 = (-1) then
        f_X10_behindAct_107 (x1 + 2) M10
      else
        f_X10_behindAct_107 (x1 + 3) M10
  else
    if r1 = 110 then
      some (((-1) - x1), M2)
    else
      if r1 = 111 then
        bd (f_X8_letterAt (x1 + 1) M2) fun r15 M16 =>
        if r15 = (-1) then
          f_X10_behindAct_133 ((-1) - (x1 + 1)) M16
        else
          f_X10_behindAct_133 (x1 + 2) M16
      else
        if r1 = 112 then
          bd (f_X8_digitAt (x1 + 1) M2) fun r20 M21 =>
          if r20 < 1 then
            f_X10_behindAct_159 ((-1) - (x1 + 1)) M21
          else
            f_X10_behindAct_159 (x1 + 2) M21
        else
          if r1 = 113 then
            some (((-1) - x1), M2)
          else
            if r1 = 114 then
              some (((-1) - x1), M2)
            else
              if r1 = 115 then
                some (((-1) - x1), M2)
              else
                if r1 = 116 then
                  some (((-1) - x1), M2)
                else
                  if r1 = 117 then
                    some (((-1) - x1), M2)
                  else
                    if r1 = 118 then
                      bd (f_X8_letterAt (x1 + 1) M2) fun r30 M31 =>
                      if r30 = (-1) then
                        some (((-1) - (x1 + 1)), M31)
                      else
                        bd (f_X8_digitAt (x1 + 2) M31) fun r34 M35 =>
                        if r34 < 1 then
                          f_X10_behindAct_205 ((-1) - (x1 + 2)) M35
                        else
                          f_X10_behindAct_205 (x1 + 3) M35
                    else
                      some (((-1) - x1), M2)
set_option maxRecDepth 100000 in
theorem w_X10_behindAct_0 {R : Int32} {M' : Mem}  (x1 : Int32) (M : Mem) (hF : f_X10_behindAct_0 x1 M = some (R, M')) : RunF l D cy ad none YX10_behindAct 2 0 0 (some (.int R)) (lay X M') 0 0 0 [(0, .ref 0), (1, .int x1)] [] (lay X M) := by
  unfold f_X10_behindAct_0 at hF
  refine g_aload_n (Y := YX10_behindAct) (pc := 0) 0 dX10_behindAct_0 rfl ?_
  refine u_getR (Y := YX10_behindAct) (pc := 1) (j := 1) dX10_behindAct_1 fl_X10_10 k_0 rf_0_0 ?_
  refine g_iload_n (Y := YX10_behindAct) (pc := 4) 1 dX10_behindAct_4 rfl ?_
  obtain ⟨r1, M2, e3, hF⟩ := bd_some hF
  refine s_callVi (Y := YX10_behindAct) (pc := 5) (as := [.int x1]) (st := []) (r_X8_at  e3) miX8_at lk_X10_406 dX10_behindAct_5 k_1 rfl (Nat.le_of_ble_eq_true rfl) (Nat.le_of_ble_eq_true rfl) rfl ?_
  clear e3
  by_cases c4 : r1 = 109
  · replace hF := if_t c4 hF
    refine g_tableIn (Y := YX10_behindAct) (pc := 8) (tgt := 64) dX10_behindAct_8 (by rw [c4]; decide) (by rw [c4]; decide) (off := 56) (by rw [c4]; decide) (by decide) ?_
    refine g_aload_n (Y := YX10_behindAct) (pc := 64) 0 dX10_behindAct_64 rfl ?_
    refine u_getR (Y := YX10_behindAct) (pc := 65) (j := 1) dX10_behindAct_65 fl_X10_10 k_0 rf_0_0 ?_
    refine g_iload_n (Y := YX10_behindAct) (pc := 68) 1 dX10_behindAct_68 rfl ?_
    refine g_iconst (Y := YX10_behindAct) (pc := 69) dX10_behindAct_69 kI_1 ?_
    refine g_iadd (Y := YX10_behindAct) (pc := 70) dX10_behindAct_70 ?_
    obtain ⟨r5, M6, e7, hF⟩ := bd_some hF
    refine s_callVi (Y := YX10_behindAct) (pc := 71) (as := [.int (x1 + 1)]) (st := []) (r_X8_digitAt  e7) miX8_digitAt lk_X10_421 dX10_behindAct_71 k_1 rfl (Nat.le_of_ble_eq_true rfl) (Nat.le_of_ble_eq_true rfl) rfl ?_
    clear e7
    refine g_iconst (Y := YX10_behindAct) (pc := 74) dX10_behindAct_74 kI_m1 ?_
    refine g_icmp_ne (Y := YX10_behindAct) (pc := 75) (tgt := 84) dX10_behindAct_75 rfl (fun c8 => ?_) (fun c8 => ?_)
    · replace hF := if_f c8 hF
      refine g_aload_n (Y := YX10_behindAct) (pc := 84) 0 dX10_behindAct_84 rfl ?_
      refine u_getR (Y := YX10_behindAct) (pc := 85) (j := 1) dX10_behindAct_85 fl_X10_10 k_0 rf_0_0 ?_
      refine g_iload_n (Y := YX10_behindAct) (pc := 88) 1 dX10_behindAct_88 rfl ?_
      refine g_iconst (Y := YX10_behindAct) (pc := 89) dX10_behindAct_89 kI_2 ?_
      refine g_iadd (Y := YX10_behindAct) (pc := 90) dX10_behindAct_90 ?_
      obtain ⟨r9, M10, e11, hF⟩ := bd_some hF
      refine s_callVi (Y := YX10_behindAct) (pc := 91) (as := [.int (x1 + 2)]) (st := []) (r_X8_digitAt  e11) miX8_digitAt lk_X10_421 dX10_behindAct_91 k_1 rfl (Nat.le_of_ble_eq_true rfl) (Nat.le_of_ble_eq_true rfl) rfl ?_
      clear e11
      refine g_iconst (Y := YX10_behindAct) (pc := 94) dX10_behindAct_94 kI_m1 ?_
      refine g_icmp_ne (Y := YX10_behindAct) (pc := 95) (tgt := 104) dX10_behindAct_95 rfl (fun c12 => ?_) (fun c12 => ?_)
      · replace hF := if_f c12 hF
        refine g_iload_n (Y := YX10_behindAct) (pc := 104) 1 dX10_behindAct_104 rfl ?_
        refine g_iconst (Y := YX10_behindAct) (pc := 105) dX10_behindAct_105 kI_3 ?_
        refine g_iadd (Y := YX10_behindAct) (pc := 106) dX10_behindAct_106 ?_
        refine g_loc [] rfl ?_
        exact w_X10_behindAct_107  _ _ hF
      · replace hF := if_t c12 hF
        refine g_iload_n (Y := YX10_behindAct) (pc := 98) 1 dX10_behindAct_98 rfl ?_
        refine g_iconst (Y := YX10_behindAct) (pc := 99) dX10_behindAct_99 kI_2 ?_
        refine g_iadd (Y := YX10_behindAct) (pc := 100) dX10_behindAct_100 ?_
        refine g_goto (Y := YX10_behindAct) (pc := 101) (tgt := 107) dX10_behindAct_101 rfl ?_
        refine g_loc [] rfl ?_
        exact w_X10_behindAct_107  _ _ hF
    · replace hF := if_t c8 hF
      refine g_iconst (Y := YX10_behindAct) (pc := 78) dX10_behindAct_78 kI_m1 ?_
      refine g_iload_n (Y := YX10_behindAct) (pc := 79) 1 dX10_behindAct_79 rfl ?_
      refine g_iconst (Y := YX10_behindAct) (pc := 80) dX10_behindAct_80 kI_1 ?_
      refine g_iadd (Y := YX10_behindAct) (pc := 81) dX10_behindAct_81 ?_
      refine g_isub (Y := YX10_behindAct) (pc := 82) dX10_behindAct_82 ?_
      exact s_iret (Y := YX10_behindAct) (pc := 83) dX10_behindAct_83 rfl hF
  replace hF := if_f c4 hF
  by_cases c13 : r1 = 110
  · replace hF := if_t c13 hF
    refine g_tableIn (Y := YX10_behindAct) (pc := 8) (tgt := 206) dX10_behindAct_8 (by rw [c13]; decide) (by rw [c13]; decide) (off := 198) (by rw [c13]; decide) (by decide) ?_
    refine g_iconst (Y := YX10_behindAct) (pc := 206) dX10_behindAct_206 kI_m1 ?_
    refine g_iload_n (Y := YX10_behindAct) (pc := 207) 1 dX10_behindAct_207 rfl ?_
    refine g_isub (Y := YX10_behindAct) (pc := 208) dX10_behindAct_208 ?_
    exact s_iret (Y := YX10_behindAct) (pc := 209) dX10_behindAct_209 rfl hF
  replace hF := if_f c13 hF
  by_cases c14 : r1 = 111
  · replace hF := if_t c14 hF
    refine g_tableIn (Y := YX10_behindAct) (pc := 8) (tgt := 108) dX10_behindAct_8 (by rw [c14]; decide) (by rw [c14]; decide) (off := 100) (by rw [c14]; decide) (by decide) ?_
    refine g_aload_n (Y := YX10_behindAct) (pc := 108) 0 dX10_behindAct_108 rfl ?_
    refine u_getR (Y := YX10_behindAct) (pc := 109) (j := 1) dX10_behindAct_109 fl_X10_10 k_0 rf_0_0 ?_
    refine g_iload_n (Y := YX10_behindAct) (pc := 112) 1 dX10_behindAct_112 rfl ?_
    refine g_iconst (Y := YX10_behindAct) (pc := 113) dX10_behindAct_113 kI_1 ?_
    refine g_iadd (Y := YX10_behindAct) (pc := 114) dX10_behindAct_114 ?_
    obtain ⟨r15, M16, e17, hF⟩ := bd_some hF
    refine s_callVi (Y := YX10_behindAct) (pc := 115) (as := [.int (x1 + 1)]) (st := []) (r_X8_letterAt  e17) miX8_letterAt lk_X10_415 dX10_behindAct_115 k_1 rfl (Nat.le_of_ble_eq_true rfl) (Nat.le_of_ble_eq_true rfl) rfl ?_
    clear e17
    refine g_iconst (Y := YX10_behindAct) (pc := 118) dX10_behindAct_118 kI_m1 ?_
    refine g_icmp_ne (Y := YX10_behindAct) (pc := 119) (tgt := 130) dX10_behindAct_119 rfl (fun c18 => ?_) (fun c18 => ?_)
    · replace hF := if_f c18 hF
      refine g_iload_n (Y := YX10_behindAct) (pc := 130) 1 dX10_behindAct_130 rfl ?_
      refine g_iconst (Y := YX10_behindAct) (pc := 131) dX10_behindAct_131 kI_2 ?_
      refine g_iadd (Y := YX10_behindAct) (pc := 132) dX10_behindAct_132 ?_
      refine g_loc [] rfl ?_
      exact w_X10_behindAct_133  _ _ hF
    · replace hF := if_t c18 hF
      refine g_iconst (Y := YX10_behindAct) (pc := 122) dX10_behindAct_122 kI_m1 ?_
      refine g_iload_n (Y := YX10_behindAct) (pc := 123) 1 dX10_behindAct_123 rfl ?_
      refine g_iconst (Y := YX10_behindAct) (pc := 124) dX10_behindAct_124 kI_1 ?_
      refine g_iadd (Y := YX10_behindAct) (pc := 125) dX10_behindAct_125 ?_
      refine g_isub (Y := YX10_behindAct) (pc := 126) dX10_behindAct_126 ?_
      refine g_goto (Y := YX10_behindAct) (pc := 127) (tgt := 133) dX10_behindAct_127 rfl ?_
      refine g_loc [] rfl ?_
      exact w_X10_behindAct_133  _ _ hF
  replace hF := if_f c14 hF
  by_cases c19 : r1 = 112
  · replace hF := if_t c19 hF
    refine g_tableIn (Y := YX10_behindAct) (pc := 8) (tgt := 134) dX10_behindAct_8 (by rw [c19]; decide) (by rw [c19]; decide) (off := 126) (by rw [c19]; decide) (by decide) ?_
    refine g_aload_n (Y := YX10_behindAct) (pc := 134) 0 dX10_behindAct_134 rfl ?_
    refine u_getR (Y := YX10_behindAct) (pc := 135) (j := 1) dX10_behindAct_135 fl_X10_10 k_0 rf_0_0 ?_
    refine g_iload_n (Y := YX10_behindAct) (pc := 138) 1 dX10_behindAct_138 rfl ?_
    refine g_iconst (Y := YX10_behindAct) (pc := 139) dX10_behindAct_139 kI_1 ?_
    refine g_iadd (Y := YX10_behindAct) (pc := 140) dX10_behindAct_140 ?_
    obtain ⟨r20, M21, e22, hF⟩ := bd_some hF
    refine s_callVi (Y := YX10_behindAct) (pc := 141) (as := [.int (x1 + 1)]) (st := []) (r_X8_digitAt  e22) miX8_digitAt lk_X10_421 dX10_behindAct_141 k_1 rfl (Nat.le_of_ble_eq_true rfl) (Nat.le_of_ble_eq_true rfl) rfl ?_
    clear e22
    refine g_iconst (Y := YX10_behindAct) (pc := 144) dX10_behindAct_144 kI_1 ?_
    refine g_icmp_ge (Y := YX10_behindAct) (pc := 145) (tgt := 156) dX10_behindAct_145 rfl (fun c23 => ?_) (fun c23 => ?_)
    · replace hF := if_f c23 hF
      refine g_iload_n (Y := YX10_behindAct) (pc := 156) 1 dX10_behindAct_156 rfl ?_
      refine g_iconst (Y := YX10_behindAct) (pc := 157) dX10_behindAct_157 kI_2 ?_
      refine g_iadd (Y := YX10_behindAct) (pc := 158) dX10_behindAct_158 ?_
      refine g_loc [] rfl ?_
      exact w_X10_behindAct_159  _ _ hF
    · replace hF := if_t c23 hF
      refine g_iconst (Y := YX10_behindAct) (pc := 148) dX10_behindAct_148 kI_m1 ?_
      refine g_iload_n (Y := YX10_behindAct) (pc := 149) 1 dX10_behindAct_149 rfl ?_
      refine g_iconst (Y := YX10_behindAct) (pc := 150) dX10_behindAct_150 kI_1 ?_
      refine g_iadd (Y := YX10_behindAct) (pc := 151) dX10_behindAct_151 ?_
      refine g_isub (Y := YX10_behindAct) (pc := 152) dX10_behindAct_152 ?_
      refine g_goto (Y := YX10_behindAct) (pc := 153) (tgt := 159) dX10_behindAct_153 rfl ?_
      refine g_loc [] rfl ?_
      exact w_X10_behindAct_159  _ _ hF
  replace hF := if_f c19 hF
  by_cases c24 : r1 = 113
  · replace hF := if_t c24 hF
    refine g_tableIn (Y := YX10_behindAct) (pc := 8) (tgt := 206) dX10_behindAct_8 (by rw [c24]; decide) (by rw [c24]; decide) (off := 198) (by rw [c24]; decide) (by decide) ?_
    refine g_iconst (Y := YX10_behindAct) (pc := 206) dX10_behindAct_206 kI_m1 ?_
    refine g_iload_n (Y := YX10_behindAct) (pc := 207) 1 dX10_behindAct_207 rfl ?_
    refine g_isub (Y := YX10_behindAct) (pc := 208) dX10_behindAct_208 ?_
    exact s_iret (Y := YX10_behindAct) (pc := 209) dX10_behindAct_209 rfl hF
  replace hF := if_f c24 hF
  by_cases c25 : r1 = 114
  · replace hF := if_t c25 hF
    refine g_tableIn (Y := YX10_behindAct) (pc := 8) (tgt := 206) dX10_behindAct_8 (by rw [c25]; decide) (by rw [c25]; decide) (off := 198) (by rw [c25]; decide) (by decide) ?_
    refine g_iconst (Y := YX10_behindAct) (pc := 206) dX10_behindAct_206 kI_m1 ?_
    refine g_iload_n (Y := YX10_behindAct) (pc := 207) 1 dX10_behindAct_207 rfl ?_
    refine g_isub (Y := YX10_behindAct) (pc := 208) dX10_behindAct_208 ?_
    exact s_iret (Y := YX10_behindAct) (pc := 209) dX10_behindAct_209 rfl hF
  replace hF := if_f c25 hF
  by_cases c26 : r1 = 115
  · replace hF := if_t c26 hF
    refine g_tableIn (Y := YX10_behindAct) (pc := 8) (tgt := 206) dX10_behindAct_8 (by rw [c26]; decide) (by rw [c26]; decide) (off := 198) (by rw [c26]; decide) (by decide) ?_
    refine g_iconst (Y := YX10_behindAct) (pc := 206) dX10_behindAct_206 kI_m1 ?_
    refine g_iload_n (Y := YX10_behindAct) (pc := 207) 1 dX10_behindAct_207 rfl ?_
    refine g_isub (Y := YX10_behindAct) (pc := 208) dX10_behindAct_208 ?_
    exact s_iret (Y := YX10_behindAct) (pc := 209) dX10_behindAct_209 rfl hF
  replace hF := if_f c26 hF
  by_cases c27 : r1 = 116
  · replace hF := if_t c27 hF
    refine g_tableIn (Y := YX10_behindAct) (pc := 8) (tgt := 206) dX10_behindAct_8 (by rw [c27]; decide) (by rw [c27]; decide) (off := 198) (by rw [c27]; decide) (by decide) ?_
    refine g_iconst (Y := YX10_behindAct) (pc := 206) dX10_behindAct_206 kI_m1 ?_
    refine g_iload_n (Y := YX10_behindAct) (pc := 207) 1 dX10_behindAct_207 rfl ?_
    refine g_isub (Y := YX10_behindAct) (pc := 208) dX10_behindAct_208 ?_
    exact s_iret (Y := YX10_behindAct) (pc := 209) dX10_behindAct_209 rfl hF
  replace hF := if_f c27 hF
  by_cases c28 : r1 = 117
  · replace hF := if_t c28 hF
    refine g_tableIn (Y := YX10_behindAct) (pc := 8) (tgt := 206) dX10_behindAct_8 (by rw [c28]; decide) (by rw [c28]; decide) (off := 198) (by rw [c28]; decide) (by decide) ?_
    refine g_iconst (Y := YX10_behindAct) (pc := 206) dX10_behindAct_206 kI_m1 ?_
    refine g_iload_n (Y := YX10_behindAct) (pc := 207) 1 dX10_behindAct_207 rfl ?_
    refine g_isub (Y := YX10_behindAct) (pc := 208) dX10_behindAct_208 ?_
    exact s_iret (Y := YX10_behindAct) (pc := 209) dX10_behindAct_209 rfl hF
  replace hF := if_f c28 hF
  by_cases c29 : r1 = 118
  · replace hF := if_t c29 hF
    refine g_tableIn (Y := YX10_behindAct) (pc := 8) (tgt := 160) dX10_behindAct_8 (by rw [c29]; decide) (by rw [c29]; decide) (off := 152) (by rw [c29]; decide) (by decide) ?_
    refine g_aload_n (Y := YX10_behindAct) (pc := 160) 0 dX10_behindAct_160 rfl ?_
    refine u_getR (Y := YX10_behindAct) (pc := 161) (j := 1) dX10_behindAct_161 fl_X10_10 k_0 rf_0_0 ?_
    refine g_iload_n (Y := YX10_behindAct) (pc := 164) 1 dX10_behindAct_164 rfl ?_
    refine g_iconst (Y := YX10_behindAct) (pc := 165) dX10_behindAct_165 kI_1 ?_
    refine g_iadd (Y := YX10_behindAct) (pc := 166) dX10_behindAct_166 ?_
    obtain ⟨r30, M31, e32, hF⟩ := bd_some hF
    refine s_callVi (Y := YX10_behindAct) (pc := 167) (as := [.int (x1 + 1)]) (st := []) (r_X8_letterAt  e32) miX8_letterAt lk_X10_415 dX10_behindAct_167 k_1 rfl (Nat.le_of_ble_eq_true rfl) (Nat.le_of_ble_eq_true rfl) rfl ?_
    clear e32
    refine g_iconst (Y := YX10_behindAct) (pc := 170) dX10_behindAct_170 kI_m1 ?_
    refine g_icmp_ne (Y := YX10_behindAct) (pc := 171) (tgt := 180) dX10_behindAct_171 rfl (fun c33 => ?_) (fun c33 => ?_)
    · replace hF := if_f c33 hF
      refine g_aload_n (Y := YX10_behindAct) (pc := 180) 0 dX10_behindAct_180 rfl ?_
      refine u_getR (Y := YX10_behindAct) (pc := 181) (j := 1) dX10_behindAct_181 fl_X10_10 k_0 rf_0_0 ?_
      refine g_iload_n (Y := YX10_behindAct) (pc := 184) 1 dX10_behindAct_184 rfl ?_
      refine g_iconst (Y := YX10_behindAct) (pc := 185) dX10_behindAct_185 kI_2 ?_
      refine g_iadd (Y := YX10_behindAct) (pc := 186) dX10_behindAct_186 ?_
      obtain ⟨r34, M35, e36, hF⟩ := bd_some hF
      refine s_callVi (Y := YX10_behindAct) (pc := 187) (as := [.int (x1 + 2)]) (st := []) (r_X8_digitAt  e36) miX8_digitAt lk_X10_421 dX10_behindAct_187 k_1 rfl (Nat.le_of_ble_eq_true rfl) (Nat.le_of_ble_eq_true rfl) rfl ?_
      clear e36
      refine g_iconst (Y := YX10_behindAct) (pc := 190) dX10_behindAct_190 kI_1 ?_
      refine g_icmp_ge (Y := YX10_behindAct) (pc := 191) (tgt := 202) dX10_behindAct_191 rfl (fun c37 => ?_) (fun c37 => ?_)
      · replace hF := if_f c37 hF
        refine g_iload_n (Y := YX10_behindAct) (pc := 202) 1 dX10_behindAct_202 rfl ?_
        refine g_iconst (Y := YX10_behindAct) (pc := 203) dX10_behindAct_203 kI_3 ?_
        refine g_iadd (Y := YX10_behindAct) (pc := 204) dX10_behindAct_204 ?_
        refine g_loc [] rfl ?_
        exact w_X10_behindAct_205  _ _ hF
      · replace hF := if_t c37 hF
        refine g_iconst (Y := YX10_behindAct) (pc := 194) dX10_behindAct_194 kI_m1 ?_
        refine g_iload_n (Y := YX10_behindAct) (pc := 195) 1 dX10_behindAct_195 rfl ?_
        refine g_iconst (Y := YX10_behindAct) (pc := 196) dX10_behindAct_196 kI_2 ?_
        refine g_iadd (Y := YX10_behindAct) (pc := 197) dX10_behindAct_197 ?_
        refine g_isub (Y := YX10_behindAct) (pc := 198) dX10_behindAct_198 ?_
        refine g_goto (Y := YX10_behindAct) (pc := 199) (tgt := 205) dX10_behindAct_199 rfl ?_
        refine g_loc [] rfl ?_
        exact w_X10_behindAct_205  _ _ hF
    · replace hF := if_t c33 hF
      refine g_iconst (Y := YX10_behindAct) (pc := 174) dX10_behindAct_174 kI_m1 ?_
      refine g_iload_n (Y := YX10_behindAct) (pc := 175) 1 dX10_behindAct_175 rfl ?_
      refine g_iconst (Y := YX10_behindAct) (pc := 176) dX10_behindAct_176 kI_1 ?_
      refine g_iadd (Y := YX10_behindAct) (pc := 177) dX10_behindAct_177 ?_
      refine g_isub (Y := YX10_behindAct) (pc := 178) dX10_behindAct_178 ?_
      exact s_iret (Y := YX10_behindAct) (pc := 179) dX10_behindAct_179 rfl hF
  replace hF := if_f c29 hF
  refine g_tableOut (Y := YX10_behindAct) (pc := 8) (tgt := 206) dX10_behindAct_8 (tb_out (lo := 109) (hi := 118) (by decide) (fun k h8 hk => by match k, h8, hk with | 0, h8, _ => exact absurd h8 (by decide) | 1, h8, _ => exact absurd h8 (by decide) | 2, h8, _ => exact absurd h8 (by decide) | 3, h8, _ => exact absurd h8 (by decide) | 4, h8, _ => exact absurd h8 (by decide) | 5, h8, _ => exact absurd h8 (by decide) | 6, h8, _ => exact absurd h8 (by decide) | 7, h8, _ => exact absurd h8 (by decide) | 8, h8, _ => exact absurd h8 (by decide) | 9, h8, _ => exact absurd h8 (by decide) | 10, h8, _ => exact absurd h8 (by decide) | 11, h8, _ => exact absurd h8 (by decide) | 12, h8, _ => exact absurd h8 (by decide) | 13, h8, _ => exact absurd h8 (by decide) | 14, h8, _ => exact absurd h8 (by decide) | 15, h8, _ => exact absurd h8 (by decide) | 16, h8, _ => exact absurd h8 (by decide) | 17, h8, _ => exact absurd h8 (by decide) | 18, h8, _ => exact absurd h8 (by decide) | 19, h8, _ => exact absurd h8 (by decide) | 20, h8, _ => exact absurd h8 (by decide) | 21, h8, _ => exact absurd h8 (by decide) | 22, h8, _ => exact absurd h8 (by decide) | 23, h8, _ => exact absurd h8 (by decide) | 24, h8, _ => exact absurd h8 (by decide) | 25, h8, _ => exact absurd h8 (by decide) | 26, h8, _ => exact absurd h8 (by decide) | 27, h8, _ => exact absurd h8 (by decide) | 28, h8, _ => exact absurd h8 (by decide) | 29, h8, _ => exact absurd h8 (by decide) | 30, h8, _ => exact absurd h8 (by decide) | 31, h8, _ => exact absurd h8 (by decide) | 32, h8, _ => exact absurd h8 (by decide) | 33, h8, _ => exact absurd h8 (by decide) | 34, h8, _ => exact absurd h8 (by decide) | 35, h8, _ => exact absurd h8 (by decide) | 36, h8, _ => exact absurd h8 (by decide) | 37, h8, _ => exact absurd h8 (by decide) | 38, h8, _ => exact absurd h8 (by decide) | 39, h8, _ => exact absurd h8 (by decide) | 40, h8, _ => exact absurd h8 (by decide) | 41, h8, _ => exact absurd h8 (by decide) | 42, h8, _ => exact absurd h8 (by decide) | 43, h8, _ => exact absurd h8 (by decide) | 44, h8, _ => exact absurd h8 (by decide) | 45, h8, _ => exact absurd h8 (by decide) | 46, h8, _ => exact absurd h8 (by decide) | 47, h8, _ => exact absurd h8 (by decide) | 48, h8, _ => exact absurd h8 (by decide) | 49, h8, _ => exact absurd h8 (by decide) | 50, h8, _ => exact absurd h8 (by decide) | 51, h8, _ => exact absurd h8 (by decide) | 52, h8, _ => exact absurd h8 (by decide) | 53, h8, _ => exact absurd h8 (by decide) | 54, h8, _ => exact absurd h8 (by decide) | 55, h8, _ => exact absurd h8 (by decide) | 56, h8, _ => exact absurd h8 (by decide) | 57, h8, _ => exact absurd h8 (by decide) | 58, h8, _ => exact absurd h8 (by decide) | 59, h8, _ => exact absurd h8 (by decide) | 60, h8, _ => exact absurd h8 (by decide) | 61, h8, _ => exact absurd h8 (by decide) | 62, h8, _ => exact absurd h8 (by decide) | 63, h8, _ => exact absurd h8 (by decide) | 64, h8, _ => exact absurd h8 (by decide) | 65, h8, _ => exact absurd h8 (by decide) | 66, h8, _ => exact absurd h8 (by decide) | 67, h8, _ => exact absurd h8 (by decide) | 68, h8, _ => exact absurd h8 (by decide) | 69, h8, _ => exact absurd h8 (by decide) | 70, h8, _ => exact absurd h8 (by decide) | 71, h8, _ => exact absurd h8 (by decide) | 72, h8, _ => exact absurd h8 (by decide) | 73, h8, _ => exact absurd h8 (by decide) | 74, h8, _ => exact absurd h8 (by decide) | 75, h8, _ => exact absurd h8 (by decide) | 76, h8, _ => exact absurd h8 (by decide) | 77, h8, _ => exact absurd h8 (by decide) | 78, h8, _ => exact absurd h8 (by decide) | 79, h8, _ => exact absurd h8 (by decide) | 80, h8, _ => exact absurd h8 (by decide) | 81, h8, _ => exact absurd h8 (by decide) | 82, h8, _ => exact absurd h8 (by decide) | 83, h8, _ => exact absurd h8 (by decide) | 84, h8, _ => exact absurd h8 (by decide) | 85, h8, _ => exact absurd h8 (by decide) | 86, h8, _ => exact absurd h8 (by decide) | 87, h8, _ => exact absurd h8 (by decide) | 88, h8, _ => exact absurd h8 (by decide) | 89, h8, _ => exact absurd h8 (by decide) | 90, h8, _ => exact absurd h8 (by decide) | 91, h8, _ => exact absurd h8 (by decide) | 92, h8, _ => exact absurd h8 (by decide) | 93, h8, _ => exact absurd h8 (by decide) | 94, h8, _ => exact absurd h8 (by decide) | 95, h8, _ => exact absurd h8 (by decide) | 96, h8, _ => exact absurd h8 (by decide) | 97, h8, _ => exact absurd h8 (by decide) | 98, h8, _ => exact absurd h8 (by decide) | 99, h8, _ => exact absurd h8 (by decide) | 100, h8, _ => exact absurd h8 (by decide) | 101, h8, _ => exact absurd h8 (by decide) | 102, h8, _ => exact absurd h8 (by decide) | 103, h8, _ => exact absurd h8 (by decide) | 104, h8, _ => exact absurd h8 (by decide) | 105, h8, _ => exact absurd h8 (by decide) | 106, h8, _ => exact absurd h8 (by decide) | 107, h8, _ => exact absurd h8 (by decide) | 108, h8, _ => exact absurd h8 (by decide) | 109, _, _ => exact c4 | 110, _, _ => exact c13 | 111, _, _ => exact c14 | 112, _, _ => exact c19 | 113, _, _ => exact c24 | 114, _, _ => exact c25 | 115, _, _ => exact c26 | 116, _, _ => exact c27 | 117, _, _ => exact c28 | 118, _, _ => exact c29 | k + 119, _, h9 => exact absurd h9 (by omega))) (by decide) ?_
  refine g_iconst (Y := YX10_behindAct) (pc := 206) dX10_behindAct_206 kI_m1 ?_
  refine g_iload_n (Y := YX10_behindAct) (pc := 207) 1 dX10_behindAct_207 rfl ?_
  refine g_isub (Y := YX10_behindAct) (pc := 208) dX10_behindAct_208 ?_
  exact s_iret (Y := YX10_behindAct) (pc := 209) dX10_behindAct_209 rfl hF
def f_X10_behindAct (x1 : Int32) (M : Mem) : Option (Int32 × Mem) := f_X10_behindAct_0 x1 M
theorem r_X10_behindAct {x1 R : Int32} {M M' : Mem}  (hF : f_X10_behindAct x1 M = some (R, M')) : RunS l D cy ad YX10_behindAct 2 [.ref 0, .int x1] X M (some (.int R)) M' := Run.of 1 (miX10_behindAct).1 (Nat.le_of_ble_eq_true rfl) (w_X10_behindAct_0  _ _ hF)
def f_X10_faultOfDay_25  : Nat → Int32 → Int32 → Mem → Option (Int32 × Mem)
  | 0, _, _, _ => none
  | n + 1, x1, x2, M =>
    if 80 < x2 then
      some (x1, M)
    else
      bd (f_X10_behindAct x1 M) fun r4 M5 =>
      if r4 < 0 then
        some (((-1) - r4), M5)
      else
        bd (f_X8_at r4 M5) fun r8 M9 =>
        if r8 = (-1) then
          some ((-1), M9)
        else
          bd (f_X8_at r4 M9) fun r12 M13 =>
          if r12 = 59 then
            vl ((r4 + 1)) fun v16 =>
            vl (x2 + 1) fun v17 =>
            f_X10_faultOfDay_25 n v16 v17 M13
          else
            some (r4, M13)
set_option maxRecDepth 100000 in
theorem w_X10_faultOfDay_25 {R : Int32} {M' : Mem}  : ∀ (n : Nat) (x1 x2 : Int32) (M : Mem), f_X10_faultOfDay_25 n x1 x2 M = some (R, M') → RunF l D cy ad none YX10_faultOfDay 3 0 0 (some (.int R)) (lay X M') 0 0 25 [(0, .ref 0), (1, .int x1), (2, .int x2)] [] (lay X M) := by
  intro n
  induction n with
  | zero => intro x1 x2 M hF; exact absurd hF (by unfold f_X10_faultOfDay_25; exact fun h => nomatch h)
  | succ n ih =>
    intro x1 x2 M hF
    unfold f_X10_faultOfDay_25 at hF
    refine g_iload_n (Y := YX10_faultOfDay) (pc := 25) 2 dX10_faultOfDay_25 rfl ?_
    refine g_bipush (Y := YX10_faultOfDay) (pc := 26) dX10_faultOfDay_26 kB_80 ?_
    refine g_icmp_gt (Y := YX10_faultOfDay) (pc := 28) (tgt := 84) dX10_faultOfDay_28 rfl (fun c3 => ?_) (fun c3 => ?_)
    · replace hF := if_t c3 hF
      refine g_iload_n (Y := YX10_faultOfDay) (pc := 84) 1 dX10_faultOfDay_84 rfl ?_
      exact s_iret (Y := YX10_faultOfDay) (pc := 85) dX10_faultOfDay_85 rfl hF
    · replace hF := if_f c3 hF
      refine g_aload_n (Y := YX10_faultOfDay) (pc := 31) 0 dX10_faultOfDay_31 rfl ?_
      refine g_iload_n (Y := YX10_faultOfDay) (pc := 32) 1 dX10_faultOfDay_32 rfl ?_
      obtain ⟨r4, M5, e6, hF⟩ := bd_some hF
      refine s_callVi (Y := YX10_faultOfDay) (pc := 33) (as := [.int x1]) (st := []) (r_X10_behindAct  e6) miX10_behindAct lk_X10_418 dX10_faultOfDay_33 k_0 rfl (Nat.le_of_ble_eq_true rfl) (Nat.le_of_ble_eq_true rfl) rfl ?_
      clear e6
      refine g_istore_n (Y := YX10_faultOfDay) (pc := 36) (L' := [(3, .int r4), (0, .ref 0), (1, .int x1), (2, .int x2)]) dX10_faultOfDay_36 (Nat.le_of_ble_eq_true rfl) rfl ?_
      refine g_iload_n (Y := YX10_faultOfDay) (pc := 37) 0 dX10_faultOfDay_37 rfl ?_
      refine g_if_ge (Y := YX10_faultOfDay) (pc := 38) (tgt := 45) dX10_faultOfDay_38 rfl (fun c7 => ?_) (fun c7 => ?_)
      · replace hF := if_f c7 hF
        refine g_aload_n (Y := YX10_faultOfDay) (pc := 45) 1 dX10_faultOfDay_45 rfl ?_
        refine u_getR (Y := YX10_faultOfDay) (pc := 46) (j := 1) dX10_faultOfDay_46 fl_X10_10 k_0 rf_0_0 ?_
        refine g_iload_n (Y := YX10_faultOfDay) (pc := 49) 0 dX10_faultOfDay_49 rfl ?_
        obtain ⟨r8, M9, e10, hF⟩ := bd_some hF
        refine s_callVi (Y := YX10_faultOfDay) (pc := 50) (as := [.int r4]) (st := []) (r_X8_at  e10) miX8_at lk_X10_406 dX10_faultOfDay_50 k_1 rfl (Nat.le_of_ble_eq_true rfl) (Nat.le_of_ble_eq_true rfl) rfl ?_
        clear e10
        refine g_iconst (Y := YX10_faultOfDay) (pc := 53) dX10_faultOfDay_53 kI_m1 ?_
        refine g_icmp_ne (Y := YX10_faultOfDay) (pc := 54) (tgt := 59) dX10_faultOfDay_54 rfl (fun c11 => ?_) (fun c11 => ?_)
        · replace hF := if_f c11 hF
          refine g_aload_n (Y := YX10_faultOfDay) (pc := 59) 1 dX10_faultOfDay_59 rfl ?_
          refine u_getR (Y := YX10_faultOfDay) (pc := 60) (j := 1) dX10_faultOfDay_60 fl_X10_10 k_0 rf_0_0 ?_
          refine g_iload_n (Y := YX10_faultOfDay) (pc := 63) 0 dX10_faultOfDay_63 rfl ?_
          obtain ⟨r12, M13, e14, hF⟩ := bd_some hF
          refine s_callVi (Y := YX10_faultOfDay) (pc := 64) (as := [.int r4]) (st := []) (r_X8_at  e14) miX8_at lk_X10_406 dX10_faultOfDay_64 k_1 rfl (Nat.le_of_ble_eq_true rfl) (Nat.le_of_ble_eq_true rfl) rfl ?_
          clear e14
          refine g_bipush (Y := YX10_faultOfDay) (pc := 67) dX10_faultOfDay_67 kB_59 ?_
          refine g_icmp_eq (Y := YX10_faultOfDay) (pc := 69) (tgt := 74) dX10_faultOfDay_69 rfl (fun c15 => ?_) (fun c15 => ?_)
          · replace hF := if_t c15 hF
            refine g_iload_n (Y := YX10_faultOfDay) (pc := 74) 0 dX10_faultOfDay_74 rfl ?_
            refine g_iconst (Y := YX10_faultOfDay) (pc := 75) dX10_faultOfDay_75 kI_1 ?_
            refine g_iadd (Y := YX10_faultOfDay) (pc := 76) dX10_faultOfDay_76 ?_
            refine g_nm (fun v16 e => ?_)
            replace hF := vl_to e hF; clear e
            refine g_istore_n (Y := YX10_faultOfDay) (pc := 77) (L' := [(1, .int v16), (3, .int r4), (0, .ref 0), (2, .int x2)]) dX10_faultOfDay_77 (Nat.le_of_ble_eq_true rfl) rfl ?_
            refine s_iinc (Y := YX10_faultOfDay) (pc := 78) (j := 3) (L' := fun y => [(2, .int y), (1, .int v16), (3, .int r4), (0, .ref 0)]) dX10_faultOfDay_78 kI_1 rfl (Nat.le_of_ble_eq_true rfl) (fun _ => rfl) (fun v17 e => ?_)
            replace hF := vl_to e hF; clear e
            refine g_goto (Y := YX10_faultOfDay) (pc := 81) (tgt := 25) dX10_faultOfDay_81 rfl ?_
            refine g_loc [3, 1, 0] rfl ?_
            exact ih _ _ _ hF
          · replace hF := if_f c15 hF
            refine g_iload_n (Y := YX10_faultOfDay) (pc := 72) 0 dX10_faultOfDay_72 rfl ?_
            exact s_iret (Y := YX10_faultOfDay) (pc := 73) dX10_faultOfDay_73 rfl hF
        · replace hF := if_t c11 hF
          refine g_iconst (Y := YX10_faultOfDay) (pc := 57) dX10_faultOfDay_57 kI_m1 ?_
          exact s_iret (Y := YX10_faultOfDay) (pc := 58) dX10_faultOfDay_58 rfl hF
      · replace hF := if_t c7 hF
        refine g_iconst (Y := YX10_faultOfDay) (pc := 41) dX10_faultOfDay_41 kI_m1 ?_
        refine g_iload_n (Y := YX10_faultOfDay) (pc := 42) 0 dX10_faultOfDay_42 rfl ?_
        refine g_isub (Y := YX10_faultOfDay) (pc := 43) dX10_faultOfDay_43 ?_
        exact s_iret (Y := YX10_faultOfDay) (pc := 44) dX10_faultOfDay_44 rfl hF
def f_X10_faultOfDay_0  (M : Mem) : Option (Int32 × Mem) :=
  ml (up M 1 2 60) fun M1 =>
  if (M1 1 1) = 0 then
    some ((-1), M1)
  else
    f_X10_faultOfDay_25 FU 0 0 M1
set_option maxRecDepth 100000 in
theorem w_X10_faultOfDay_0 {R : Int32} {M' : Mem}  (M : Mem) (hF : f_X10_faultOfDay_0  M = some (R, M')) : RunF l D cy ad none YX10_faultOfDay 3 0 0 (some (.int R)) (lay X M') 0 0 0 [(0, .ref 0)] [] (lay X M) := by
  unfold f_X10_faultOfDay_0 at hF
  refine g_aload_n (Y := YX10_faultOfDay) (pc := 0) 0 dX10_faultOfDay_0 rfl ?_
  refine u_getR (Y := YX10_faultOfDay) (pc := 1) (j := 1) dX10_faultOfDay_1 fl_X10_10 k_0 rf_0_0 ?_
  refine g_bipush (Y := YX10_faultOfDay) (pc := 4) dX10_faultOfDay_4 kB_60 ?_
  refine u_putI (Y := YX10_faultOfDay) (pc := 6) dX10_faultOfDay_6 fl_X10_403  k_1 ?_
  refine g_nmM (fun M1 e => ?_)
  replace hF := ml_to e hF; clear e
  refine g_aload_n (Y := YX10_faultOfDay) (pc := 9) 0 dX10_faultOfDay_9 rfl ?_
  refine u_getR (Y := YX10_faultOfDay) (pc := 10) (j := 1) dX10_faultOfDay_10 fl_X10_10 k_0 rf_0_0 ?_
  refine u_getI (Y := YX10_faultOfDay) (pc := 13) dX10_faultOfDay_13 fl_X10_120 k_1 ?_
  refine g_if_ne (Y := YX10_faultOfDay) (pc := 16) (tgt := 21) dX10_faultOfDay_16 rfl (fun c2 => ?_) (fun c2 => ?_)
  · replace hF := if_f c2 hF
    refine g_iconst (Y := YX10_faultOfDay) (pc := 21) dX10_faultOfDay_21 kI_0 ?_
    refine g_istore_n (Y := YX10_faultOfDay) (pc := 22) (L' := [(1, .int 0), (0, .ref 0)]) dX10_faultOfDay_22 (Nat.le_of_ble_eq_true rfl) rfl ?_
    refine g_iconst (Y := YX10_faultOfDay) (pc := 23) dX10_faultOfDay_23 kI_0 ?_
    refine g_istore_n (Y := YX10_faultOfDay) (pc := 24) (L' := [(2, .int 0), (1, .int 0), (0, .ref 0)]) dX10_faultOfDay_24 (Nat.le_of_ble_eq_true rfl) rfl ?_
    refine g_loc [2, 1, 0] rfl ?_
    exact w_X10_faultOfDay_25  _ _ _ _ hF
  · replace hF := if_t c2 hF
    refine g_iconst (Y := YX10_faultOfDay) (pc := 19) dX10_faultOfDay_19 kI_m1 ?_
    exact s_iret (Y := YX10_faultOfDay) (pc := 20) dX10_faultOfDay_20 rfl hF
def f_X10_faultOfDay (M : Mem) : Option (Int32 × Mem) := f_X10_faultOfDay_0 M
theorem r_X10_faultOfDay {R : Int32} {M M' : Mem}  (hF : f_X10_faultOfDay  M = some (R, M')) : RunS l D cy ad YX10_faultOfDay 3 [.ref 0] X M (some (.int R)) M' := Run.of 0 (miX10_faultOfDay).1 (Nat.le_of_ble_eq_true rfl) (w_X10_faultOfDay_0  _ hF)
def f_X10_actsTold_45 (K18 : Int32 → Int32 → Mem → Option (Int32 × Mem)) (x1 : Int32) (x2 : Int32) (M : Mem) : Option (Int32 × Mem) :=
  vl (x2 + 1) fun v7 =>
  K18 x1 v7 M
set_option maxRecDepth 100000 in
theorem w_X10_actsTold_45 {R : Int32} {M' : Mem} {K18 : Int32 → Int32 → Mem → Option (Int32 × Mem)} (hK18 : ∀ (x1 x2 : Int32) (M : Mem), K18 x1 x2 M = some (R, M') → RunF l D cy ad none YX10_actsTold 1 0 0 (some (.int R)) (lay X M') 0 0 18 [(0, .ref 0), (1, .int x1), (2, .int x2)] [] (lay X M)) (x1 x2 : Int32) (M : Mem) (hF : f_X10_actsTold_45 K18 x1 x2 M = some (R, M')) : RunF l D cy ad none YX10_actsTold 1 0 0 (some (.int R)) (lay X M') 0 0 45 [(0, .ref 0), (1, .int x1), (2, .int x2)] [] (lay X M) := by
  unfold f_X10_actsTold_45 at hF
  refine s_iinc (Y := YX10_actsTold) (pc := 45) (j := 2) (L' := fun y => [(2, .int y), (0, .ref 0), (1, .int x1)]) dX10_actsTold_45 kI_1 rfl (Nat.le_of_ble_eq_true rfl) (fun _ => rfl) (fun v7 e => ?_)
  replace hF := vl_to e hF; clear e
  refine g_goto (Y := YX10_actsTold) (pc := 48) (tgt := 18) dX10_actsTold_48 rfl ?_
  refine g_loc [1, 2, 0] rfl ?_
  exact hK18 _ _ _ hF
def f_X10_actsTold_18  : Nat → Int32 → Int32 → Mem → Option (Int32 × Mem)
  | 0, _, _, _ => none
  | n + 1, x1, x2, M =>
    if x2 < (M 1 1) then
      bd (f_X8_at x2 M) fun r3 M4 =>
      if r3 = 59 then
        vl (x1 + 1) fun v8 =>
        f_X10_actsTold_45 (f_X10_actsTold_18 n) v8 x2 M4
      else
        f_X10_actsTold_45 (f_X10_actsTold_18 n) x1 x2 M4
    else
      some (x1, M)
set_option maxRecDepth 100000 in
theorem w_X10_actsTold_18 {R : Int32} {M' : Mem}  : ∀ (n : Nat) (x1 x2 : Int32) (M : Mem), f_X10_actsTold_18 n x1 x2 M = some (R, M') → RunF l D cy ad none YX10_actsTold 1 0 0 (some (.int R)) (lay X M') 0 0 18 [(0, .ref 0), (1, .int x1), (2, .int x2)] [] (lay X M) := by
  intro n
  induction n with
  | zero => intro x1 x2 M hF; exact absurd hF (by unfold f_X10_actsTold_18; exact fun h => nomatch h)
  | succ n ih =>
    intro x1 x2 M hF
    unfold f_X10_actsTold_18 at hF
    refine g_iload_n (Y := YX10_actsTold) (pc := 18) 2 dX10_actsTold_18 rfl ?_
    refine g_aload_n (Y := YX10_actsTold) (pc := 19) 0 dX10_actsTold_19 rfl ?_
    refine u_getR (Y := YX10_actsTold) (pc := 20) (j := 1) dX10_actsTold_20 fl_X10_10 k_0 rf_0_0 ?_
    refine u_getI (Y := YX10_actsTold) (pc := 23) dX10_actsTold_23 fl_X10_120 k_1 ?_
    refine g_icmp_ge (Y := YX10_actsTold) (pc := 26) (tgt := 51) dX10_actsTold_26 rfl (fun c2 => ?_) (fun c2 => ?_)
    · replace hF := if_f c2 hF
      refine g_iload_n (Y := YX10_actsTold) (pc := 51) 1 dX10_actsTold_51 rfl ?_
      exact s_iret (Y := YX10_actsTold) (pc := 52) dX10_actsTold_52 rfl hF
    · replace hF := if_t c2 hF
      refine g_aload_n (Y := YX10_actsTold) (pc := 29) 0 dX10_actsTold_29 rfl ?_
      refine u_getR (Y := YX10_actsTold) (pc := 30) (j := 1) dX10_actsTold_30 fl_X10_10 k_0 rf_0_0 ?_
      refine g_iload_n (Y := YX10_actsTold) (pc := 33) 2 dX10_actsTold_33 rfl ?_
      obtain ⟨r3, M4, e5, hF⟩ := bd_some hF
      refine s_callVi (Y := YX10_actsTold) (pc := 34) (as := [.int x2]) (st := []) (r_X8_at  e5) miX8_at lk_X10_406 dX10_actsTold_34 k_1 rfl (Nat.le_of_ble_eq_true rfl) (Nat.le_of_ble_eq_true rfl) rfl ?_
      clear e5
      refine g_bipush (Y := YX10_actsTold) (pc := 37) dX10_actsTold_37 kB_59 ?_
      refine g_icmp_ne (Y := YX10_actsTold) (pc := 39) (tgt := 45) dX10_actsTold_39 rfl (fun c6 => ?_) (fun c6 => ?_)
      · replace hF := if_f c6 hF
        exact w_X10_actsTold_45 ih _ _ _ hF
      · replace hF := if_t c6 hF
        refine s_iinc (Y := YX10_actsTold) (pc := 42) (j := 1) (L' := fun y => [(1, .int y), (0, .ref 0), (2, .int x2)]) dX10_actsTold_42 kI_1 rfl (Nat.le_of_ble_eq_true rfl) (fun _ => rfl) (fun v8 e => ?_)
        replace hF := vl_to e hF; clear e
        refine g_loc [1, 0, 2] rfl ?_
        exact w_X10_actsTold_45 ih _ _ _ hF
def f_X10_actsTold_15  (t0 : Int32) (M : Mem) : Option (Int32 × Mem) :=
  f_X10_actsTold_18 FU t0 0 M
set_option maxRecDepth 100000 in
theorem w_X10_actsTold_15 {R : Int32} {M' : Mem}  (t0 : Int32) (M : Mem) (hF : f_X10_actsTold_15 t0 M = some (R, M')) : RunF l D cy ad none YX10_actsTold 1 0 0 (some (.int R)) (lay X M') 0 0 15 [(0, .ref 0)] [.int t0] (lay X M) := by
  unfold f_X10_actsTold_15 at hF
  refine g_istore_n (Y := YX10_actsTold) (pc := 15) (L' := [(1, .int t0), (0, .ref 0)]) dX10_actsTold_15 (Nat.le_of_ble_eq_true rfl) rfl ?_
  refine g_iconst (Y := YX10_actsTold) (pc := 16) dX10_actsTold_16 kI_0 ?_
  refine g_istore_n (Y := YX10_actsTold) (pc := 17) (L' := [(2, .int 0), (1, .int t0), (0, .ref 0)]) dX10_actsTold_17 (Nat.le_of_ble_eq_true rfl) rfl ?_
  refine g_loc [2, 1, 0] rfl ?_
  exact w_X10_actsTold_18  _ _ _ _ hF
def f_X10_actsTold_0  (M : Mem) : Option (Int32 × Mem) :=
  if (M 1 1) = 0 then
    f_X10_actsTold_15 0 M
  else
    f_X10_actsTold_15 1 M
set_option maxRecDepth 100000 in
theorem w_X10_actsTold_0 {R : Int32} {M' : Mem}  (M : Mem) (hF : f_X10_actsTold_0  M = some (R, M')) : RunF l D cy ad none YX10_actsTold 1 0 0 (some (.int R)) (lay X M') 0 0 0 [(0, .ref 0)] [] (lay X M) := by
  unfold f_X10_actsTold_0 at hF
  refine g_aload_n (Y := YX10_actsTold) (pc := 0) 0 dX10_actsTold_0 rfl ?_
  refine u_getR (Y := YX10_actsTold) (pc := 1) (j := 1) dX10_actsTold_1 fl_X10_10 k_0 rf_0_0 ?_
  refine u_getI (Y := YX10_actsTold) (pc := 4) dX10_actsTold_4 fl_X10_120 k_1 ?_
  refine g_if_ne (Y := YX10_actsTold) (pc := 7) (tgt := 14) dX10_actsTold_7 rfl (fun c1 => ?_) (fun c1 => ?_)
  · replace hF := if_f c1 hF
    refine g_iconst (Y := YX10_actsTold) (pc := 14) dX10_actsTold_14 kI_1 ?_
    exact w_X10_actsTold_15  _ _ hF
  · replace hF := if_t c1 hF
    refine g_iconst (Y := YX10_actsTold) (pc := 10) dX10_actsTold_10 kI_0 ?_
    refine g_goto (Y := YX10_actsTold) (pc := 11) (tgt := 15) dX10_actsTold_11 rfl ?_
    exact w_X10_actsTold_15  _ _ hF
def f_X10_actsTold (M : Mem) : Option (Int32 × Mem) := f_X10_actsTold_0 M
theorem r_X10_actsTold {R : Int32} {M M' : Mem}  (hF : f_X10_actsTold  M = some (R, M')) : RunS l D cy ad YX10_actsTold 1 [.ref 0] X M (some (.int R)) M' := Run.of 0 (miX10_actsTold).1 (Nat.le_of_ble_eq_true rfl) (w_X10_actsTold_0  _ hF)
def f_X10_doAct_91  (t0 : Int32) (M : Mem) : Option (Int32 × Mem) :=
  if 90 < t0 then
    some (0, M)
  else
    bd (f_X1_goOn 26 t0 M) fun _ M17 =>
    some (1, M17)
set_option maxRecDepth 100000 in
theorem w_X10_doAct_91 {R : Int32} {M' : Mem}  (t0 : Int32) (M : Mem) (hF : f_X10_doAct_91 t0 M = some (R, M')) : RunF l D cy ad none YX10_doAct 4 0 0 (some (.int R)) (lay X M') 0 0 91 [(0, .ref 0)] [.int t0] (lay X M) := by
  unfold f_X10_doAct_91 at hF
  refine g_istore (Y := YX10_doAct) (pc := 91) (L' := [(5, .int t0), (0, .ref 0)]) dX10_doAct_91 (Nat.le_of_ble_eq_true rfl) rfl ?_
  refine g_iload (Y := YX10_doAct) (pc := 93) 0 dX10_doAct_93 rfl ?_
  refine g_bipush (Y := YX10_doAct) (pc := 95) dX10_doAct_95 kB_90 ?_
  refine g_icmp_le (Y := YX10_doAct) (pc := 97) (tgt := 102) dX10_doAct_97 rfl (fun c15 => ?_) (fun c15 => ?_)
  · replace hF := if_f c15 hF
    refine g_aload_n (Y := YX10_doAct) (pc := 102) 1 dX10_doAct_102 rfl ?_
    refine u_getR (Y := YX10_doAct) (pc := 103) (j := 3) dX10_doAct_103 fl_X10_19 k_0 rf_0_1 ?_
    refine g_aload_n (Y := YX10_doAct) (pc := 106) 1 dX10_doAct_106 rfl ?_
    refine u_getR (Y := YX10_doAct) (pc := 107) (j := 26) dX10_doAct_107 fl_X10_35 k_0 rf_0_3 ?_
    refine g_iload (Y := YX10_doAct) (pc := 110) 0 dX10_doAct_110 rfl ?_
    obtain ⟨r16, M17, e18, hF⟩ := bd_some hF
    refine s_callVv (Y := YX10_doAct) (pc := 112) (as := [.ref 26, .int t0]) (st := []) (r_X1_goOn isSt_26 e18) miX1_goOn lk_X10_262 dX10_doAct_112 k_3 rfl (Nat.le_of_ble_eq_true rfl) (Nat.le_of_ble_eq_true rfl) rfl ?_
    clear e18
    refine g_iconst (Y := YX10_doAct) (pc := 115) dX10_doAct_115 kI_1 ?_
    exact s_zret (Y := YX10_doAct) (pc := 116) dX10_doAct_116 rfl (Or.inr rfl) hF
  · replace hF := if_t c15 hF
    refine g_iconst (Y := YX10_doAct) (pc := 100) dX10_doAct_100 kI_0 ?_
    exact s_zret (Y := YX10_doAct) (pc := 101) dX10_doAct_101 rfl (Or.inl rfl) hF
def f_X10_doAct_145  (M : Mem) : Option (Int32 × Mem) :=
  some (0, M)
set_option maxRecDepth 100000 in
theorem w_X10_doAct_145 {R : Int32} {M' : Mem}  (M : Mem) (hF : f_X10_doAct_145  M = some (R, M')) : RunF l D cy ad none YX10_doAct 4 0 0 (some (.int R)) (lay X M') 0 0 145 [] [] (lay X M) := by
  unfold f_X10_doAct_145 at hF
  refine g_iconst (Y := YX10_doAct) (pc := 145) dX10_doAct_145 kI_0 ?_
  exact s_zret (Y := YX10_doAct) (pc := 146) dX10_doAct_146 rfl (Or.inl rfl) hF
def f_X10_doAct_0  (x1 : Int32) (M : Mem) : Option (Int32 × Mem) :=
  bd (f_X8_digitAt (x1 + 1) M) fun r1 M2 =>
  bd (f_X8_digitAt (x1 + 2) M2) fun r4 M5 =>
  bd (f_X8_letterAt (x1 + 1) M5) fun r7 M8 =>
  bd (f_X8_at x1 M8) fun r10 M11 =>
  if r10 = 109 then
    if r4 = (-1) then
      f_X10_doAct_91 r1 M11
    else
      f_X10_doAct_91 ((r1 * 10) + r4) M11
  else
    if r10 = 111 then
      bd (f_X1_hasGroup r7 M11) fun r20 M21 =>
      if r20 = 0 then
        f_X10_doAct_145 M21
      else
        bd (f_X1_barTo 26 r7 M21) fun r24 M25 =>
        if r24 = 0 then
          bd (f_X1_setOff 26 r7 M25) fun _ M29 =>
          some (1, M29)
        else
          f_X10_doAct_145 M25
    else
      if r10 = 118 then
        bd (f_X10_isInside r7 M11) fun r32 M33 =>
        if r32 = 0 then
          some (0, M33)
        else
          bd (f_X7_runOver 26 r7 r4 M33) fun _ M37 =>
          some (1, M37)
      else
        ml (up M11 26 0 ((M11 26 0) + r1)) fun M39 =>
        some (1, M39)
set_option maxRecDepth 100000 in
theorem w_X10_doAct_0 {R : Int32} {M' : Mem}  (x1 : Int32) (M : Mem) (hF : f_X10_doAct_0 x1 M = some (R, M')) : RunF l D cy ad none YX10_doAct 4 0 0 (some (.int R)) (lay X M') 0 0 0 [(0, .ref 0), (1, .int x1)] [] (lay X M) := by
  unfold f_X10_doAct_0 at hF
  refine g_aload_n (Y := YX10_doAct) (pc := 0) 0 dX10_doAct_0 rfl ?_
  refine u_getR (Y := YX10_doAct) (pc := 1) (j := 1) dX10_doAct_1 fl_X10_10 k_0 rf_0_0 ?_
  refine g_iload_n (Y := YX10_doAct) (pc := 4) 1 dX10_doAct_4 rfl ?_
  refine g_iconst (Y := YX10_doAct) (pc := 5) dX10_doAct_5 kI_1 ?_
  refine g_iadd (Y := YX10_doAct) (pc := 6) dX10_doAct_6 ?_
  obtain ⟨r1, M2, e3, hF⟩ := bd_some hF
  refine s_callVi (Y := YX10_doAct) (pc := 7) (as := [.int (x1 + 1)]) (st := []) (r_X8_digitAt  e3) miX8_digitAt lk_X10_421 dX10_doAct_7 k_1 rfl (Nat.le_of_ble_eq_true rfl) (Nat.le_of_ble_eq_true rfl) rfl ?_
  clear e3
  refine g_istore_n (Y := YX10_doAct) (pc := 10) (L' := [(2, .int r1), (0, .ref 0), (1, .int x1)]) dX10_doAct_10 (Nat.le_of_ble_eq_true rfl) rfl ?_
  refine g_aload_n (Y := YX10_doAct) (pc := 11) 1 dX10_doAct_11 rfl ?_
  refine u_getR (Y := YX10_doAct) (pc := 12) (j := 1) dX10_doAct_12 fl_X10_10 k_0 rf_0_0 ?_
  refine g_iload_n (Y := YX10_doAct) (pc := 15) 2 dX10_doAct_15 rfl ?_
  refine g_iconst (Y := YX10_doAct) (pc := 16) dX10_doAct_16 kI_2 ?_
  refine g_iadd (Y := YX10_doAct) (pc := 17) dX10_doAct_17 ?_
  obtain ⟨r4, M5, e6, hF⟩ := bd_some hF
  refine s_callVi (Y := YX10_doAct) (pc := 18) (as := [.int (x1 + 2)]) (st := []) (r_X8_digitAt  e6) miX8_digitAt lk_X10_421 dX10_doAct_18 k_1 rfl (Nat.le_of_ble_eq_true rfl) (Nat.le_of_ble_eq_true rfl) rfl ?_
  clear e6
  refine g_istore_n (Y := YX10_doAct) (pc := 21) (L' := [(3, .int r4), (2, .int r1), (0, .ref 0), (1, .int x1)]) dX10_doAct_21 (Nat.le_of_ble_eq_true rfl) rfl ?_
  refine g_aload_n (Y := YX10_doAct) (pc := 22) 2 dX10_doAct_22 rfl ?_
  refine u_getR (Y := YX10_doAct) (pc := 23) (j := 1) dX10_doAct_23 fl_X10_10 k_0 rf_0_0 ?_
  refine g_iload_n (Y := YX10_doAct) (pc := 26) 3 dX10_doAct_26 rfl ?_
  refine g_iconst (Y := YX10_doAct) (pc := 27) dX10_doAct_27 kI_1 ?_
  refine g_iadd (Y := YX10_doAct) (pc := 28) dX10_doAct_28 ?_
  obtain ⟨r7, M8, e9, hF⟩ := bd_some hF
  refine s_callVi (Y := YX10_doAct) (pc := 29) (as := [.int (x1 + 1)]) (st := []) (r_X8_letterAt  e9) miX8_letterAt lk_X10_415 dX10_doAct_29 k_1 rfl (Nat.le_of_ble_eq_true rfl) (Nat.le_of_ble_eq_true rfl) rfl ?_
  clear e9
  refine g_istore (Y := YX10_doAct) (pc := 32) (L' := [(4, .int r7), (3, .int r4), (2, .int r1), (0, .ref 0), (1, .int x1)]) dX10_doAct_32 (Nat.le_of_ble_eq_true rfl) rfl ?_
  refine g_aload_n (Y := YX10_doAct) (pc := 34) 3 dX10_doAct_34 rfl ?_
  refine u_getR (Y := YX10_doAct) (pc := 35) (j := 1) dX10_doAct_35 fl_X10_10 k_0 rf_0_0 ?_
  refine g_iload_n (Y := YX10_doAct) (pc := 38) 4 dX10_doAct_38 rfl ?_
  obtain ⟨r10, M11, e12, hF⟩ := bd_some hF
  refine s_callVi (Y := YX10_doAct) (pc := 39) (as := [.int x1]) (st := []) (r_X8_at  e12) miX8_at lk_X10_406 dX10_doAct_39 k_1 rfl (Nat.le_of_ble_eq_true rfl) (Nat.le_of_ble_eq_true rfl) rfl ?_
  clear e12
  by_cases c13 : r10 = 109
  · replace hF := if_t c13 hF
    refine g_lookup (Y := YX10_doAct) (pc := 42) (tgt := 76) dX10_doAct_42 (by decide) (off := 34) (by rw [c13]; decide) (by decide) ?_
    refine g_iload_n (Y := YX10_doAct) (pc := 76) 1 dX10_doAct_76 rfl ?_
    refine g_iconst (Y := YX10_doAct) (pc := 77) dX10_doAct_77 kI_m1 ?_
    refine g_icmp_ne (Y := YX10_doAct) (pc := 78) (tgt := 85) dX10_doAct_78 rfl (fun c14 => ?_) (fun c14 => ?_)
    · replace hF := if_f c14 hF
      refine g_iload_n (Y := YX10_doAct) (pc := 85) 2 dX10_doAct_85 rfl ?_
      refine g_bipush (Y := YX10_doAct) (pc := 86) dX10_doAct_86 kB_10 ?_
      refine g_imul (Y := YX10_doAct) (pc := 88) dX10_doAct_88 ?_
      refine g_iload_n (Y := YX10_doAct) (pc := 89) 1 dX10_doAct_89 rfl ?_
      refine g_iadd (Y := YX10_doAct) (pc := 90) dX10_doAct_90 ?_
      refine g_loc [3] rfl ?_
      exact w_X10_doAct_91  _ _ hF
    · replace hF := if_t c14 hF
      refine g_iload_n (Y := YX10_doAct) (pc := 81) 2 dX10_doAct_81 rfl ?_
      refine g_goto (Y := YX10_doAct) (pc := 82) (tgt := 91) dX10_doAct_82 rfl ?_
      refine g_loc [3] rfl ?_
      exact w_X10_doAct_91  _ _ hF
  replace hF := if_f c13 hF
  by_cases c19 : r10 = 111
  · replace hF := if_t c19 hF
    refine g_lookup (Y := YX10_doAct) (pc := 42) (tgt := 117) dX10_doAct_42 (by decide) (off := 75) (by rw [c19]; decide) (by decide) ?_
    refine g_aload_n (Y := YX10_doAct) (pc := 117) 3 dX10_doAct_117 rfl ?_
    refine u_getR (Y := YX10_doAct) (pc := 118) (j := 3) dX10_doAct_118 fl_X10_19 k_0 rf_0_1 ?_
    refine g_iload (Y := YX10_doAct) (pc := 121) 0 dX10_doAct_121 rfl ?_
    obtain ⟨r20, M21, e22, hF⟩ := bd_some hF
    refine s_callVi (Y := YX10_doAct) (pc := 123) (as := [.int r7]) (st := []) (r_X1_hasGroup  e22) miX1_hasGroup lk_X10_152 dX10_doAct_123 k_3 rfl (Nat.le_of_ble_eq_true rfl) (Nat.le_of_ble_eq_true rfl) rfl ?_
    clear e22
    refine g_if_eq (Y := YX10_doAct) (pc := 126) (tgt := 145) dX10_doAct_126 rfl (fun c23 => ?_) (fun c23 => ?_)
    · replace hF := if_t c23 hF
      refine g_loc [] rfl ?_
      exact w_X10_doAct_145  _ hF
    · replace hF := if_f c23 hF
      refine g_aload_n (Y := YX10_doAct) (pc := 129) 3 dX10_doAct_129 rfl ?_
      refine u_getR (Y := YX10_doAct) (pc := 130) (j := 3) dX10_doAct_130 fl_X10_19 k_0 rf_0_1 ?_
      refine g_aload_n (Y := YX10_doAct) (pc := 133) 3 dX10_doAct_133 rfl ?_
      refine u_getR (Y := YX10_doAct) (pc := 134) (j := 26) dX10_doAct_134 fl_X10_35 k_0 rf_0_3 ?_
      refine g_iload (Y := YX10_doAct) (pc := 137) 0 dX10_doAct_137 rfl ?_
      obtain ⟨r24, M25, e26, hF⟩ := bd_some hF
      refine s_callVi (Y := YX10_doAct) (pc := 139) (as := [.ref 26, .int r7]) (st := []) (r_X1_barTo isSt_26 e26) miX1_barTo lk_X10_211 dX10_doAct_139 k_3 rfl (Nat.le_of_ble_eq_true rfl) (Nat.le_of_ble_eq_true rfl) rfl ?_
      clear e26
      refine g_if_eq (Y := YX10_doAct) (pc := 142) (tgt := 147) dX10_doAct_142 rfl (fun c27 => ?_) (fun c27 => ?_)
      · replace hF := if_t c27 hF
        refine g_aload_n (Y := YX10_doAct) (pc := 147) 3 dX10_doAct_147 rfl ?_
        refine u_getR (Y := YX10_doAct) (pc := 148) (j := 3) dX10_doAct_148 fl_X10_19 k_0 rf_0_1 ?_
        refine g_aload_n (Y := YX10_doAct) (pc := 151) 3 dX10_doAct_151 rfl ?_
        refine u_getR (Y := YX10_doAct) (pc := 152) (j := 26) dX10_doAct_152 fl_X10_35 k_0 rf_0_3 ?_
        refine g_iload (Y := YX10_doAct) (pc := 155) 0 dX10_doAct_155 rfl ?_
        obtain ⟨r28, M29, e30, hF⟩ := bd_some hF
        refine s_callVv (Y := YX10_doAct) (pc := 157) (as := [.ref 26, .int r7]) (st := []) (r_X1_setOff isSt_26 e30) miX1_setOff lk_X10_218 dX10_doAct_157 k_3 rfl (Nat.le_of_ble_eq_true rfl) (Nat.le_of_ble_eq_true rfl) rfl ?_
        clear e30
        refine g_iconst (Y := YX10_doAct) (pc := 160) dX10_doAct_160 kI_1 ?_
        exact s_zret (Y := YX10_doAct) (pc := 161) dX10_doAct_161 rfl (Or.inr rfl) hF
      · replace hF := if_f c27 hF
        refine g_loc [] rfl ?_
        exact w_X10_doAct_145  _ hF
  replace hF := if_f c19 hF
  by_cases c31 : r10 = 118
  · replace hF := if_t c31 hF
    refine g_lookup (Y := YX10_doAct) (pc := 42) (tgt := 162) dX10_doAct_42 (by decide) (off := 120) (by rw [c31]; decide) (by decide) ?_
    refine g_aload_n (Y := YX10_doAct) (pc := 162) 3 dX10_doAct_162 rfl ?_
    refine g_iload (Y := YX10_doAct) (pc := 163) 0 dX10_doAct_163 rfl ?_
    obtain ⟨r32, M33, e34, hF⟩ := bd_some hF
    refine s_callVi (Y := YX10_doAct) (pc := 165) (as := [.int r7]) (st := []) (r_X10_isInside  e34) miX10_isInside lk_X10_230 dX10_doAct_165 k_0 rfl (Nat.le_of_ble_eq_true rfl) (Nat.le_of_ble_eq_true rfl) rfl ?_
    clear e34
    refine g_if_ne (Y := YX10_doAct) (pc := 168) (tgt := 173) dX10_doAct_168 rfl (fun c35 => ?_) (fun c35 => ?_)
    · replace hF := if_f c35 hF
      refine g_aload_n (Y := YX10_doAct) (pc := 173) 3 dX10_doAct_173 rfl ?_
      refine u_getR (Y := YX10_doAct) (pc := 174) (j := 26) dX10_doAct_174 fl_X10_35 k_0 rf_0_3 ?_
      refine g_iload (Y := YX10_doAct) (pc := 177) 0 dX10_doAct_177 rfl ?_
      refine g_iload_n (Y := YX10_doAct) (pc := 179) 1 dX10_doAct_179 rfl ?_
      obtain ⟨r36, M37, e38, hF⟩ := bd_some hF
      refine s_callVv (Y := YX10_doAct) (pc := 180) (as := [.int r7, .int r4]) (st := []) (r_X7_runOver isSt_26 e38) miX7_runOver lk_X10_233 dX10_doAct_180 k_26 rfl (Nat.le_of_ble_eq_true rfl) (Nat.le_of_ble_eq_true rfl) rfl ?_
      clear e38
      refine g_iconst (Y := YX10_doAct) (pc := 183) dX10_doAct_183 kI_1 ?_
      exact s_zret (Y := YX10_doAct) (pc := 184) dX10_doAct_184 rfl (Or.inr rfl) hF
    · replace hF := if_t c35 hF
      refine g_iconst (Y := YX10_doAct) (pc := 171) dX10_doAct_171 kI_0 ?_
      exact s_zret (Y := YX10_doAct) (pc := 172) dX10_doAct_172 rfl (Or.inl rfl) hF
  replace hF := if_f c31 hF
  refine g_lookup (Y := YX10_doAct) (pc := 42) (tgt := 185) dX10_doAct_42 (by decide) (off := 143) (lk_out ⟨ne_ti c13 (by decide), ne_ti c19 (by decide), ne_ti c31 (by decide), trivial⟩) (by decide) ?_
  refine g_aload_n (Y := YX10_doAct) (pc := 185) 3 dX10_doAct_185 rfl ?_
  refine u_getR (Y := YX10_doAct) (pc := 186) (j := 26) dX10_doAct_186 fl_X10_35 k_0 rf_0_3 ?_
  refine g_dup (Y := YX10_doAct) (pc := 189) dX10_doAct_189 rfl ?_
  refine u_getI (Y := YX10_doAct) (pc := 190) dX10_doAct_190 fl_X10_237 k_26 ?_
  refine g_iload_n (Y := YX10_doAct) (pc := 193) 2 dX10_doAct_193 rfl ?_
  refine g_iadd (Y := YX10_doAct) (pc := 194) dX10_doAct_194 ?_
  refine u_putI (Y := YX10_doAct) (pc := 195) dX10_doAct_195 fl_X10_237  k_26 ?_
  refine g_nmM (fun M39 e => ?_)
  replace hF := ml_to e hF; clear e
  refine g_iconst (Y := YX10_doAct) (pc := 198) dX10_doAct_198 kI_1 ?_
  exact s_zret (Y := YX10_doAct) (pc := 199) dX10_doAct_199 rfl (Or.inr rfl) hF
def f_X10_doAct (x1 : Int32) (M : Mem) : Option (Int32 × Mem) := f_X10_doAct_0 x1 M
theorem r_X10_doAct {x1 R : Int32} {M M' : Mem}  (hF : f_X10_doAct x1 M = some (R, M')) : RunS l D cy ad YX10_doAct 4 [.ref 0, .int x1] X M (some (.int R)) M' := Run.of 1 (miX10_doAct).1 (Nat.le_of_ble_eq_true rfl) (w_X10_doAct_0  _ _ hF)
def f_X10_doActs_4  : Nat → Int32 → Int32 → Int32 → Mem → Option (Int32 × Mem)
  | 0, _, _, _, _ => none
  | n + 1, x1, x2, x3, M =>
    if x3 < x1 then
      bd (f_X10_doAct x2 M) fun r2 M3 =>
      if r2 = 0 then
        some (x3, M3)
      else
        bd (f_X10_behindAct x2 M3) fun r6 M7 =>
        vl ((r6 + 1)) fun v9 =>
        vl (x3 + 1) fun v10 =>
        f_X10_doActs_4 n x1 v9 v10 M7
    else
      some (x1, M)
set_option maxRecDepth 100000 in
theorem w_X10_doActs_4 {R : Int32} {M' : Mem}  : ∀ (n : Nat) (x1 x2 x3 : Int32) (M : Mem), f_X10_doActs_4 n x1 x2 x3 M = some (R, M') → RunF l D cy ad none YX10_doActs 5 0 0 (some (.int R)) (lay X M') 0 0 4 [(0, .ref 0), (1, .int x1), (2, .int x2), (3, .int x3)] [] (lay X M) := by
  intro n
  induction n with
  | zero => intro x1 x2 x3 M hF; exact absurd hF (by unfold f_X10_doActs_4; exact fun h => nomatch h)
  | succ n ih =>
    intro x1 x2 x3 M hF
    unfold f_X10_doActs_4 at hF
    refine g_iload_n (Y := YX10_doActs) (pc := 4) 3 dX10_doActs_4 rfl ?_
    refine g_iload_n (Y := YX10_doActs) (pc := 5) 1 dX10_doActs_5 rfl ?_
    refine g_icmp_ge (Y := YX10_doActs) (pc := 6) (tgt := 33) dX10_doActs_6 rfl (fun c1 => ?_) (fun c1 => ?_)
    · replace hF := if_f c1 hF
      refine g_iload_n (Y := YX10_doActs) (pc := 33) 1 dX10_doActs_33 rfl ?_
      exact s_iret (Y := YX10_doActs) (pc := 34) dX10_doActs_34 rfl hF
    · replace hF := if_t c1 hF
      refine g_aload_n (Y := YX10_doActs) (pc := 9) 0 dX10_doActs_9 rfl ?_
      refine g_iload_n (Y := YX10_doActs) (pc := 10) 2 dX10_doActs_10 rfl ?_
      obtain ⟨r2, M3, e4, hF⟩ := bd_some hF
      refine s_callVi (Y := YX10_doActs) (pc := 11) (as := [.int x2]) (st := []) (r_X10_doAct  e4) miX10_doAct lk_X10_424 dX10_doActs_11 k_0 rfl (Nat.le_of_ble_eq_true rfl) (Nat.le_of_ble_eq_true rfl) rfl ?_
      clear e4
      refine g_if_ne (Y := YX10_doActs) (pc := 14) (tgt := 19) dX10_doActs_14 rfl (fun c5 => ?_) (fun c5 => ?_)
      · replace hF := if_f c5 hF
        refine g_aload_n (Y := YX10_doActs) (pc := 19) 0 dX10_doActs_19 rfl ?_
        refine g_iload_n (Y := YX10_doActs) (pc := 20) 2 dX10_doActs_20 rfl ?_
        obtain ⟨r6, M7, e8, hF⟩ := bd_some hF
        refine s_callVi (Y := YX10_doActs) (pc := 21) (as := [.int x2]) (st := []) (r_X10_behindAct  e8) miX10_behindAct lk_X10_418 dX10_doActs_21 k_0 rfl (Nat.le_of_ble_eq_true rfl) (Nat.le_of_ble_eq_true rfl) rfl ?_
        clear e8
        refine g_iconst (Y := YX10_doActs) (pc := 24) dX10_doActs_24 kI_1 ?_
        refine g_iadd (Y := YX10_doActs) (pc := 25) dX10_doActs_25 ?_
        refine g_nm (fun v9 e => ?_)
        replace hF := vl_to e hF; clear e
        refine g_istore_n (Y := YX10_doActs) (pc := 26) (L' := [(2, .int v9), (0, .ref 0), (1, .int x1), (3, .int x3)]) dX10_doActs_26 (Nat.le_of_ble_eq_true rfl) rfl ?_
        refine s_iinc (Y := YX10_doActs) (pc := 27) (j := 3) (L' := fun y => [(3, .int y), (2, .int v9), (0, .ref 0), (1, .int x1)]) dX10_doActs_27 kI_1 rfl (Nat.le_of_ble_eq_true rfl) (fun _ => rfl) (fun v10 e => ?_)
        replace hF := vl_to e hF; clear e
        refine g_goto (Y := YX10_doActs) (pc := 30) (tgt := 4) dX10_doActs_30 rfl ?_
        refine g_loc [2, 3, 1, 0] rfl ?_
        exact ih _ _ _ _ hF
      · replace hF := if_t c5 hF
        refine g_iload_n (Y := YX10_doActs) (pc := 17) 3 dX10_doActs_17 rfl ?_
        exact s_iret (Y := YX10_doActs) (pc := 18) dX10_doActs_18 rfl hF
def f_X10_doActs_0  (x1 : Int32) (M : Mem) : Option (Int32 × Mem) :=
  f_X10_doActs_4 FU x1 0 0 M
set_option maxRecDepth 100000 in
theorem w_X10_doActs_0 {R : Int32} {M' : Mem}  (x1 : Int32) (M : Mem) (hF : f_X10_doActs_0 x1 M = some (R, M')) : RunF l D cy ad none YX10_doActs 5 0 0 (some (.int R)) (lay X M') 0 0 0 [(0, .ref 0), (1, .int x1)] [] (lay X M) := by
  unfold f_X10_doActs_0 at hF
  refine g_iconst (Y := YX10_doActs) (pc := 0) dX10_doActs_0 kI_0 ?_
  refine g_istore_n (Y := YX10_doActs) (pc := 1) (L' := [(2, .int 0), (0, .ref 0), (1, .int x1)]) dX10_doActs_1 (Nat.le_of_ble_eq_true rfl) rfl ?_
  refine g_iconst (Y := YX10_doActs) (pc := 2) dX10_doActs_2 kI_0 ?_
  refine g_istore_n (Y := YX10_doActs) (pc := 3) (L' := [(3, .int 0), (2, .int 0), (0, .ref 0), (1, .int x1)]) dX10_doActs_3 (Nat.le_of_ble_eq_true rfl) rfl ?_
  refine g_loc [2, 3, 1, 0] rfl ?_
  exact w_X10_doActs_4  _ _ _ _ _ hF
def f_X10_doActs (x1 : Int32) (M : Mem) : Option (Int32 × Mem) := f_X10_doActs_0 x1 M
theorem r_X10_doActs {x1 R : Int32} {M M' : Mem}  (hF : f_X10_doActs x1 M = some (R, M')) : RunS l D cy ad YX10_doActs 5 [.ref 0, .int x1] X M (some (.int R)) M' := Run.of 1 (miX10_doActs).1 (Nat.le_of_ble_eq_true rfl) (w_X10_doActs_0  _ _ hF)
def f_X10_day_82  (x3 : Int32) (t0 : Int32) (M : Mem) : Option (Int32 × Mem) :=
  bd (f_X10_tell t0 M) fun _ M21 =>
  bd (f_X7_bitsThrough 26 M21) fun r23 M24 =>
  bd (f_X7_bitsThrough 31 M24) fun r26 M27 =>
  bd (f_J6_bitCount_0f7a4 (r23 &&& (r26 ^^^ (-1))) M27) fun r29 M30 =>
  bd (f_X10_tell r29 M30) fun _ M33 =>
  some (x3, M33)
set_option maxRecDepth 100000 in
theorem w_X10_day_82 {R : Int32} {M' : Mem}  (x3 t0 : Int32) (M : Mem) (hF : f_X10_day_82 x3 t0 M = some (R, M')) : RunF l D cy ad none YX10_day 6 0 0 (some (.int R)) (lay X M') 0 0 82 [(0, .ref 0), (3, .int x3)] [.int t0, .ref 0] (lay X M) := by
  unfold f_X10_day_82 at hF
  obtain ⟨r20, M21, e22, hF⟩ := bd_some hF
  refine s_callVv (Y := YX10_day) (pc := 82) (as := [.int t0]) (st := []) (r_X10_tell  e22) miX10_tell lk_X10_252 dX10_day_82 k_0 rfl (Nat.le_of_ble_eq_true rfl) (Nat.le_of_ble_eq_true rfl) rfl ?_
  clear e22
  refine g_aload_n (Y := YX10_day) (pc := 85) 0 dX10_day_85 rfl ?_
  refine g_aload_n (Y := YX10_day) (pc := 86) 0 dX10_day_86 rfl ?_
  refine u_getR (Y := YX10_day) (pc := 87) (j := 26) dX10_day_87 fl_X10_35 k_0 rf_0_3 ?_
  obtain ⟨r23, M24, e25, hF⟩ := bd_some hF
  refine s_callVi (Y := YX10_day) (pc := 90) (as := []) (st := [.ref 0]) (r_X7_bitsThrough isSt_26 e25) miX7_bitsThrough lk_X10_240 dX10_day_90 k_26 rfl (Nat.le_of_ble_eq_true rfl) (Nat.le_of_ble_eq_true rfl) rfl ?_
  clear e25
  refine g_aload_n (Y := YX10_day) (pc := 93) 0 dX10_day_93 rfl ?_
  refine u_getR (Y := YX10_day) (pc := 94) (j := 31) dX10_day_94 fl_X10_39 k_0 rf_0_4 ?_
  obtain ⟨r26, M27, e28, hF⟩ := bd_some hF
  refine s_callVi (Y := YX10_day) (pc := 97) (as := []) (st := [.int r23, .ref 0]) (r_X7_bitsThrough isSt_31 e28) miX7_bitsThrough lk_X10_240 dX10_day_97 k_31 rfl (Nat.le_of_ble_eq_true rfl) (Nat.le_of_ble_eq_true rfl) rfl ?_
  clear e28
  refine g_iconst (Y := YX10_day) (pc := 100) dX10_day_100 kI_m1 ?_
  refine g_ixor (Y := YX10_day) (pc := 101) dX10_day_101 ?_
  refine g_iand (Y := YX10_day) (pc := 102) dX10_day_102 ?_
  obtain ⟨r29, M30, e31, hF⟩ := bd_some hF
  refine s_callSi (Y := YX10_day) (pc := 103) (as := [.int (r23 &&& (r26 ^^^ (-1)))]) (st := [.ref 0]) (r_J6_bitCount_0f7a4  e31) msJ6_bitCount_0f7a4 lk_X10_225 dX10_day_103 rfl (Nat.le_of_ble_eq_true rfl) (Nat.le_of_ble_eq_true rfl) rfl ?_
  clear e31
  obtain ⟨r32, M33, e34, hF⟩ := bd_some hF
  refine s_callVv (Y := YX10_day) (pc := 106) (as := [.int r29]) (st := []) (r_X10_tell  e34) miX10_tell lk_X10_252 dX10_day_106 k_0 rfl (Nat.le_of_ble_eq_true rfl) (Nat.le_of_ble_eq_true rfl) rfl ?_
  clear e34
  refine g_iload_n (Y := YX10_day) (pc := 109) 1 dX10_day_109 rfl ?_
  exact s_iret (Y := YX10_day) (pc := 110) dX10_day_110 rfl hF
def f_X10_day_67  (x2 : Int32) (x3 : Int32) (M : Mem) : Option (Int32 × Mem) :=
  bd (f_X10_clearRow M) fun _ M17 =>
  if x3 < x2 then
    f_X10_day_82 x3 1 M17
  else
    f_X10_day_82 x3 0 M17
set_option maxRecDepth 100000 in
theorem w_X10_day_67 {R : Int32} {M' : Mem}  (x2 x3 : Int32) (M : Mem) (hF : f_X10_day_67 x2 x3 M = some (R, M')) : RunF l D cy ad none YX10_day 6 0 0 (some (.int R)) (lay X M') 0 0 67 [(0, .ref 0), (2, .int x2), (3, .int x3)] [] (lay X M) := by
  unfold f_X10_day_67 at hF
  refine g_aload_n (Y := YX10_day) (pc := 67) 0 dX10_day_67 rfl ?_
  obtain ⟨r16, M17, e18, hF⟩ := bd_some hF
  refine s_callVv (Y := YX10_day) (pc := 68) (as := []) (st := []) (r_X10_clearRow  e18) miX10_clearRow lk_X10_246 dX10_day_68 k_0 rfl (Nat.le_of_ble_eq_true rfl) (Nat.le_of_ble_eq_true rfl) rfl ?_
  clear e18
  refine g_aload_n (Y := YX10_day) (pc := 71) 0 dX10_day_71 rfl ?_
  refine g_iload_n (Y := YX10_day) (pc := 72) 2 dX10_day_72 rfl ?_
  refine g_iload_n (Y := YX10_day) (pc := 73) 1 dX10_day_73 rfl ?_
  refine g_icmp_ge (Y := YX10_day) (pc := 74) (tgt := 81) dX10_day_74 rfl (fun c19 => ?_) (fun c19 => ?_)
  · replace hF := if_f c19 hF
    refine g_iconst (Y := YX10_day) (pc := 81) dX10_day_81 kI_0 ?_
    refine g_loc [0, 2] rfl ?_
    exact w_X10_day_82  _ _ _ hF
  · replace hF := if_t c19 hF
    refine g_iconst (Y := YX10_day) (pc := 77) dX10_day_77 kI_1 ?_
    refine g_goto (Y := YX10_day) (pc := 78) (tgt := 82) dX10_day_78 rfl ?_
    refine g_loc [0, 2] rfl ?_
    exact w_X10_day_82  _ _ _ hF
def f_X10_day_0  (M : Mem) : Option (Int32 × Mem) :=
  bd (f_X10_faultOfDay M) fun r1 M2 =>
  if r1 = (-1) then
    bd (f_X7_copy 31 26 M2) fun _ M6 =>
    bd (f_X10_actsTold M6) fun r8 M9 =>
    bd (f_X10_doActs r8 M9) fun r11 M12 =>
    ml (up M12 1 1 0) fun M14 =>
    if 0 < r11 then
      bd (f_X6_add 31 M14) fun _ M36 =>
      f_X10_day_67 r8 r11 M36
    else
      f_X10_day_67 r8 r11 M14
  else
    ml (up M2 1 1 0) fun M38 =>
    some (((-1) - r1), M38)
set_option maxRecDepth 100000 in
theorem w_X10_day_0 {R : Int32} {M' : Mem}  (M : Mem) (hF : f_X10_day_0  M = some (R, M')) : RunF l D cy ad none YX10_day 6 0 0 (some (.int R)) (lay X M') 0 0 0 [(0, .ref 0)] [] (lay X M) := by
  unfold f_X10_day_0 at hF
  refine g_aload_n (Y := YX10_day) (pc := 0) 0 dX10_day_0 rfl ?_
  obtain ⟨r1, M2, e3, hF⟩ := bd_some hF
  refine s_callVi (Y := YX10_day) (pc := 1) (as := []) (st := []) (r_X10_faultOfDay  e3) miX10_faultOfDay lk_X10_265 dX10_day_1 k_0 rfl (Nat.le_of_ble_eq_true rfl) (Nat.le_of_ble_eq_true rfl) rfl ?_
  clear e3
  refine g_istore_n (Y := YX10_day) (pc := 4) (L' := [(1, .int r1), (0, .ref 0)]) dX10_day_4 (Nat.le_of_ble_eq_true rfl) rfl ?_
  refine g_iload_n (Y := YX10_day) (pc := 5) 0 dX10_day_5 rfl ?_
  refine g_iconst (Y := YX10_day) (pc := 6) dX10_day_6 kI_m1 ?_
  refine g_icmp_eq (Y := YX10_day) (pc := 7) (tgt := 22) dX10_day_7 rfl (fun c4 => ?_) (fun c4 => ?_)
  · replace hF := if_t c4 hF
    refine g_aload_n (Y := YX10_day) (pc := 22) 1 dX10_day_22 rfl ?_
    refine u_getR (Y := YX10_day) (pc := 23) (j := 31) dX10_day_23 fl_X10_39 k_0 rf_0_4 ?_
    refine g_aload_n (Y := YX10_day) (pc := 26) 1 dX10_day_26 rfl ?_
    refine u_getR (Y := YX10_day) (pc := 27) (j := 26) dX10_day_27 fl_X10_35 k_0 rf_0_3 ?_
    obtain ⟨r5, M6, e7, hF⟩ := bd_some hF
    refine s_callVv (Y := YX10_day) (pc := 30) (as := [.ref 26]) (st := []) (r_X7_copy isSt_31 isSt_26 e7) miX7_copy lk_X10_268 dX10_day_30 k_31 rfl (Nat.le_of_ble_eq_true rfl) (Nat.le_of_ble_eq_true rfl) rfl ?_
    clear e7
    refine g_aload_n (Y := YX10_day) (pc := 33) 1 dX10_day_33 rfl ?_
    obtain ⟨r8, M9, e10, hF⟩ := bd_some hF
    refine s_callVi (Y := YX10_day) (pc := 34) (as := []) (st := []) (r_X10_actsTold  e10) miX10_actsTold lk_X10_271 dX10_day_34 k_0 rfl (Nat.le_of_ble_eq_true rfl) (Nat.le_of_ble_eq_true rfl) rfl ?_
    clear e10
    refine g_istore_n (Y := YX10_day) (pc := 37) (L' := [(2, .int r8), (1, .int r1), (0, .ref 0)]) dX10_day_37 (Nat.le_of_ble_eq_true rfl) rfl ?_
    refine g_aload_n (Y := YX10_day) (pc := 38) 2 dX10_day_38 rfl ?_
    refine g_iload_n (Y := YX10_day) (pc := 39) 0 dX10_day_39 rfl ?_
    obtain ⟨r11, M12, e13, hF⟩ := bd_some hF
    refine s_callVi (Y := YX10_day) (pc := 40) (as := [.int r8]) (st := []) (r_X10_doActs  e13) miX10_doActs lk_X10_274 dX10_day_40 k_0 rfl (Nat.le_of_ble_eq_true rfl) (Nat.le_of_ble_eq_true rfl) rfl ?_
    clear e13
    refine g_istore_n (Y := YX10_day) (pc := 43) (L' := [(3, .int r11), (2, .int r8), (1, .int r1), (0, .ref 0)]) dX10_day_43 (Nat.le_of_ble_eq_true rfl) rfl ?_
    refine g_aload_n (Y := YX10_day) (pc := 44) 3 dX10_day_44 rfl ?_
    refine u_getR (Y := YX10_day) (pc := 45) (j := 1) dX10_day_45 fl_X10_10 k_0 rf_0_0 ?_
    refine g_iconst (Y := YX10_day) (pc := 48) dX10_day_48 kI_0 ?_
    refine u_putI (Y := YX10_day) (pc := 49) dX10_day_49 fl_X10_120  k_1 ?_
    refine g_nmM (fun M14 e => ?_)
    replace hF := ml_to e hF; clear e
    refine g_iload_n (Y := YX10_day) (pc := 52) 0 dX10_day_52 rfl ?_
    refine g_if_le (Y := YX10_day) (pc := 53) (tgt := 67) dX10_day_53 rfl (fun c15 => ?_) (fun c15 => ?_)
    · replace hF := if_f c15 hF
      refine g_loc [3, 1, 0] rfl ?_
      exact w_X10_day_67  _ _ _ hF
    · replace hF := if_t c15 hF
      refine g_aload_n (Y := YX10_day) (pc := 56) 3 dX10_day_56 rfl ?_
      refine u_getR (Y := YX10_day) (pc := 57) (j := 46) dX10_day_57 fl_X10_51 k_0 rf_0_7 ?_
      refine g_aload_n (Y := YX10_day) (pc := 60) 3 dX10_day_60 rfl ?_
      refine u_getR (Y := YX10_day) (pc := 61) (j := 31) dX10_day_61 fl_X10_39 k_0 rf_0_4 ?_
      obtain ⟨r35, M36, e37, hF⟩ := bd_some hF
      refine s_callVv (Y := YX10_day) (pc := 64) (as := [.ref 31]) (st := []) (r_X6_add isSt_31 e37) miX6_add lk_X10_215 dX10_day_64 k_46 rfl (Nat.le_of_ble_eq_true rfl) (Nat.le_of_ble_eq_true rfl) rfl ?_
      clear e37
      refine g_loc [3, 1, 0] rfl ?_
      exact w_X10_day_67  _ _ _ hF
  · replace hF := if_f c4 hF
    refine g_aload_n (Y := YX10_day) (pc := 10) 1 dX10_day_10 rfl ?_
    refine u_getR (Y := YX10_day) (pc := 11) (j := 1) dX10_day_11 fl_X10_10 k_0 rf_0_0 ?_
    refine g_iconst (Y := YX10_day) (pc := 14) dX10_day_14 kI_0 ?_
    refine u_putI (Y := YX10_day) (pc := 15) dX10_day_15 fl_X10_120  k_1 ?_
    refine g_nmM (fun M38 e => ?_)
    replace hF := ml_to e hF; clear e
    refine g_iconst (Y := YX10_day) (pc := 18) dX10_day_18 kI_m1 ?_
    refine g_iload_n (Y := YX10_day) (pc := 19) 0 dX10_day_19 rfl ?_
    refine g_isub (Y := YX10_day) (pc := 20) dX10_day_20 ?_
    exact s_iret (Y := YX10_day) (pc := 21) dX10_day_21 rfl hF
def f_X10_day (M : Mem) : Option (Int32 × Mem) := f_X10_day_0 M
theorem r_X10_day {R : Int32} {M M' : Mem}  (hF : f_X10_day  M = some (R, M')) : RunS l D cy ad YX10_day 6 [.ref 0] X M (some (.int R)) M' := Run.of 0 (miX10_day).1 (Nat.le_of_ble_eq_true rfl) (w_X10_day_0  _ hF)
def f_X6_takeBack_52 (s1 : Nat) (M : Mem) : Option (Int32 × Mem) :=
  some (0, M)
set_option maxRecDepth 100000 in
theorem w_X6_takeBack_52 {R : Int32} {M' : Mem} {s1 : Nat} (hs1 : isSt s1) (M : Mem) (hF : f_X6_takeBack_52 s1  M = some (R, M')) : RunF l D cy ad none YX6_takeBack 2 0 0 none (lay X M') 0 0 52 [] [] (lay X M) := by
  unfold f_X6_takeBack_52 at hF
  exact s_vret (Y := YX6_takeBack) (pc := 52) dX6_takeBack_52 rfl hF
def f_X6_takeBack_39 (s1 : Nat) (t0 : Int32) (M : Mem) : Option (Int32 × Mem) :=
  ml (up M 46 1 t0) fun M7 =>
  ml (up M7 46 2 ((M7 46 2) - 1)) fun M8 =>
  f_X6_takeBack_52 s1 M8
set_option maxRecDepth 100000 in
theorem w_X6_takeBack_39 {R : Int32} {M' : Mem} {s1 : Nat} (hs1 : isSt s1) (t0 : Int32) (M : Mem) (hF : f_X6_takeBack_39 s1 t0 M = some (R, M')) : RunF l D cy ad none YX6_takeBack 2 0 0 none (lay X M') 0 0 39 [(0, .ref 46)] [.int t0, .ref 46] (lay X M) := by
  unfold f_X6_takeBack_39 at hF
  refine u_putI (Y := YX6_takeBack) (pc := 39) dX6_takeBack_39 fl_X6_18  k_46 ?_
  refine g_nmM (fun M7 e => ?_)
  replace hF := ml_to e hF; clear e
  refine g_aload_n (Y := YX6_takeBack) (pc := 42) 0 dX6_takeBack_42 rfl ?_
  refine g_dup (Y := YX6_takeBack) (pc := 43) dX6_takeBack_43 rfl ?_
  refine u_getI (Y := YX6_takeBack) (pc := 44) dX6_takeBack_44 fl_X6_22 k_46 ?_
  refine g_iconst (Y := YX6_takeBack) (pc := 47) dX6_takeBack_47 kI_1 ?_
  refine g_isub (Y := YX6_takeBack) (pc := 48) dX6_takeBack_48 ?_
  refine u_putI (Y := YX6_takeBack) (pc := 49) dX6_takeBack_49 fl_X6_22  k_46 ?_
  refine g_nmM (fun M8 e => ?_)
  replace hF := ml_to e hF; clear e
  refine g_loc [] rfl ?_
  exact w_X6_takeBack_52 hs1 _ hF
def f_X6_takeBack_0 (s1 : Nat) (M : Mem) : Option (Int32 × Mem) :=
  if 0 < (M 46 2) then
    gd (0 ≤ (M 46 1) ∧ (M 46 1).toNatClampNeg < 12) <|
    bd (f_X7_copy s1 (48 + 5 * (M 46 1).toNatClampNeg) M) fun _ M4 =>
    if 0 < (M4 46 1) then
      f_X6_takeBack_39 s1 ((M4 46 1) - 1) M4
    else
      f_X6_takeBack_39 s1 11 M4
  else
    f_X6_takeBack_52 s1 M
set_option maxRecDepth 100000 in
theorem w_X6_takeBack_0 {R : Int32} {M' : Mem} {s1 : Nat} (hs1 : isSt s1) (M : Mem) (hF : f_X6_takeBack_0 s1  M = some (R, M')) : RunF l D cy ad none YX6_takeBack 2 0 0 none (lay X M') 0 0 0 [(0, .ref 46), (1, .ref s1)] [] (lay X M) := by
  unfold f_X6_takeBack_0 at hF
  refine g_aload_n (Y := YX6_takeBack) (pc := 0) 0 dX6_takeBack_0 rfl ?_
  refine u_getI (Y := YX6_takeBack) (pc := 1) dX6_takeBack_1 fl_X6_22 k_46 ?_
  refine g_if_le (Y := YX6_takeBack) (pc := 4) (tgt := 52) dX6_takeBack_4 rfl (fun c1 => ?_) (fun c1 => ?_)
  · replace hF := if_f c1 hF
    refine g_loc [] rfl ?_
    exact w_X6_takeBack_52 hs1 _ hF
  · replace hF := if_t c1 hF
    refine g_aload_n (Y := YX6_takeBack) (pc := 7) 1 dX6_takeBack_7 rfl ?_
    refine g_aload_n (Y := YX6_takeBack) (pc := 8) 0 dX6_takeBack_8 rfl ?_
    refine u_getR (Y := YX6_takeBack) (pc := 9) (j := 47) dX6_takeBack_9 fl_X6_11 k_46 rf_46_0 ?_
    refine g_aload_n (Y := YX6_takeBack) (pc := 12) 0 dX6_takeBack_12 rfl ?_
    refine u_getI (Y := YX6_takeBack) (pc := 13) dX6_takeBack_13 fl_X6_18 k_46 ?_
    obtain ⟨g2, hF⟩ := gd_some hF
    refine s_aaldS (Y := YX6_takeBack) (pc := 16) dX6_takeBack_16 k_47 n_47 g2 (past_r g2.2) ?_
    obtain ⟨r3, M4, e5, hF⟩ := bd_some hF
    refine s_callVv (Y := YX6_takeBack) (pc := 17) (as := [.ref (48 + 5 * (M 46 1).toNatClampNeg)]) (st := []) (r_X7_copy hs1 (past_all _ g2.2).2 e5) miX7_copy lk_X6_25 dX6_takeBack_17 (st_k hs1) rfl (Nat.le_of_ble_eq_true rfl) (Nat.le_of_ble_eq_true rfl) rfl ?_
    clear e5
    refine g_aload_n (Y := YX6_takeBack) (pc := 20) 0 dX6_takeBack_20 rfl ?_
    refine g_aload_n (Y := YX6_takeBack) (pc := 21) 0 dX6_takeBack_21 rfl ?_
    refine u_getI (Y := YX6_takeBack) (pc := 22) dX6_takeBack_22 fl_X6_18 k_46 ?_
    refine g_if_le (Y := YX6_takeBack) (pc := 25) (tgt := 37) dX6_takeBack_25 rfl (fun c6 => ?_) (fun c6 => ?_)
    · replace hF := if_f c6 hF
      refine g_bipush (Y := YX6_takeBack) (pc := 37) dX6_takeBack_37 kB_11 ?_
      refine g_loc [0] rfl ?_
      exact w_X6_takeBack_39 hs1 _ _ hF
    · replace hF := if_t c6 hF
      refine g_aload_n (Y := YX6_takeBack) (pc := 28) 0 dX6_takeBack_28 rfl ?_
      refine u_getI (Y := YX6_takeBack) (pc := 29) dX6_takeBack_29 fl_X6_18 k_46 ?_
      refine g_iconst (Y := YX6_takeBack) (pc := 32) dX6_takeBack_32 kI_1 ?_
      refine g_isub (Y := YX6_takeBack) (pc := 33) dX6_takeBack_33 ?_
      refine g_goto (Y := YX6_takeBack) (pc := 34) (tgt := 39) dX6_takeBack_34 rfl ?_
      refine g_loc [0] rfl ?_
      exact w_X6_takeBack_39 hs1 _ _ hF
def f_X6_takeBack (s1 : Nat) (M : Mem) : Option (Int32 × Mem) := f_X6_takeBack_0 s1 M
theorem r_X6_takeBack {s1 : Nat} {R : Int32} {M M' : Mem} (hs1 : isSt s1) (hF : f_X6_takeBack s1 M = some (R, M')) : RunS l D cy ad YX6_takeBack 2 [.ref 46, .ref s1] X M none M' := Run.of 1 (miX6_takeBack).1 (Nat.le_of_ble_eq_true rfl) (w_X6_takeBack_0 hs1 _ hF)
def f_X10_undo_0  (M : Mem) : Option (Int32 × Mem) :=
  if (M 46 2) = 0 then
    some ((-1), M)
  else
    bd (f_X6_takeBack 26 M) fun _ M3 =>
    some ((M3 46 2), M3)
set_option maxRecDepth 100000 in
theorem w_X10_undo_0 {R : Int32} {M' : Mem}  (M : Mem) (hF : f_X10_undo_0  M = some (R, M')) : RunF l D cy ad none YX10_undo 3 0 0 (some (.int R)) (lay X M') 0 0 0 [(0, .ref 0)] [] (lay X M) := by
  unfold f_X10_undo_0 at hF
  refine g_aload_n (Y := YX10_undo) (pc := 0) 0 dX10_undo_0 rfl ?_
  refine u_getR (Y := YX10_undo) (pc := 1) (j := 46) dX10_undo_1 fl_X10_51 k_0 rf_0_7 ?_
  refine u_getI (Y := YX10_undo) (pc := 4) dX10_undo_4 fl_X10_277 k_46 ?_
  refine g_if_ne (Y := YX10_undo) (pc := 7) (tgt := 12) dX10_undo_7 rfl (fun c1 => ?_) (fun c1 => ?_)
  · replace hF := if_f c1 hF
    refine g_aload_n (Y := YX10_undo) (pc := 12) 0 dX10_undo_12 rfl ?_
    refine u_getR (Y := YX10_undo) (pc := 13) (j := 46) dX10_undo_13 fl_X10_51 k_0 rf_0_7 ?_
    refine g_aload_n (Y := YX10_undo) (pc := 16) 0 dX10_undo_16 rfl ?_
    refine u_getR (Y := YX10_undo) (pc := 17) (j := 26) dX10_undo_17 fl_X10_35 k_0 rf_0_3 ?_
    obtain ⟨r2, M3, e4, hF⟩ := bd_some hF
    refine s_callVv (Y := YX10_undo) (pc := 20) (as := [.ref 26]) (st := []) (r_X6_takeBack isSt_26 e4) miX6_takeBack lk_X10_279 dX10_undo_20 k_46 rfl (Nat.le_of_ble_eq_true rfl) (Nat.le_of_ble_eq_true rfl) rfl ?_
    clear e4
    refine g_aload_n (Y := YX10_undo) (pc := 23) 0 dX10_undo_23 rfl ?_
    refine u_getR (Y := YX10_undo) (pc := 24) (j := 46) dX10_undo_24 fl_X10_51 k_0 rf_0_7 ?_
    refine u_getI (Y := YX10_undo) (pc := 27) dX10_undo_27 fl_X10_277 k_46 ?_
    exact s_iret (Y := YX10_undo) (pc := 30) dX10_undo_30 rfl hF
  · replace hF := if_t c1 hF
    refine g_iconst (Y := YX10_undo) (pc := 10) dX10_undo_10 kI_m1 ?_
    exact s_iret (Y := YX10_undo) (pc := 11) dX10_undo_11 rfl hF
def f_X10_undo (M : Mem) : Option (Int32 × Mem) := f_X10_undo_0 M
theorem r_X10_undo {R : Int32} {M M' : Mem}  (hF : f_X10_undo  M = some (R, M')) : RunS l D cy ad YX10_undo 3 [.ref 0] X M (some (.int R)) M' := Run.of 0 (miX10_undo).1 (Nat.le_of_ble_eq_true rfl) (w_X10_undo_0  _ hF)
def f_X10_where_11  (M : Mem) : Option (Int32 × Mem) :=
  some ((-2), M)
set_option maxRecDepth 100000 in
theorem w_X10_where_11 {R : Int32} {M' : Mem}  (M : Mem) (hF : f_X10_where_11  M = some (R, M')) : RunF l D cy ad none YX10_where 4 0 0 (some (.int R)) (lay X M') 0 0 11 [] [] (lay X M) := by
  unfold f_X10_where_11 at hF
  refine g_bipush (Y := YX10_where) (pc := 11) dX10_where_11 kB_m2 ?_
  exact s_iret (Y := YX10_where) (pc := 13) dX10_where_13 rfl hF
def f_X10_where_0  (x1 : Int32) (x2 : Int32) (M : Mem) : Option (Int32 × Mem) :=
  if x2 < 0 then
    f_X10_where_11 M
  else
    if 400 < x2 then
      f_X10_where_11 M
    else
      bd (f_X1_hasGroup x1 M) fun r3 M4 =>
      if r3 = 0 then
        some ((-3), M4)
      else
        bd (f_X7_copy 36 26 M4) fun _ M8 =>
        bd (f_X1_goOn 36 x2 M8) fun _ M11 =>
        bd (f_X10_clearRow M11) fun _ M14 =>
        gd (0 ≤ x1 ∧ x1.toNatClampNeg < 6) <|
        bd (f_X10_tell (M14 38 x1.toNatClampNeg) M14) fun _ M18 =>
        gd (0 ≤ x1 ∧ x1.toNatClampNeg < 6) <|
        bd (f_X10_tell (M18 39 x1.toNatClampNeg) M18) fun _ M22 =>
        gd (0 ≤ x1 ∧ x1.toNatClampNeg < 6) <|
        some ((M22 37 x1.toNatClampNeg), M22)
set_option maxRecDepth 100000 in
theorem w_X10_where_0 {R : Int32} {M' : Mem}  (x1 x2 : Int32) (M : Mem) (hF : f_X10_where_0 x1 x2 M = some (R, M')) : RunF l D cy ad none YX10_where 4 0 0 (some (.int R)) (lay X M') 0 0 0 [(0, .ref 0), (1, .int x1), (2, .int x2)] [] (lay X M) := by
  unfold f_X10_where_0 at hF
  refine g_iload_n (Y := YX10_where) (pc := 0) 2 dX10_where_0 rfl ?_
  refine g_if_lt (Y := YX10_where) (pc := 1) (tgt := 11) dX10_where_1 rfl (fun c1 => ?_) (fun c1 => ?_)
  · replace hF := if_t c1 hF
    refine g_loc [] rfl ?_
    exact w_X10_where_11  _ hF
  · replace hF := if_f c1 hF
    refine g_iload_n (Y := YX10_where) (pc := 4) 2 dX10_where_4 rfl ?_
    refine g_sipush (Y := YX10_where) (pc := 5) dX10_where_5 kS_400 ?_
    refine g_icmp_le (Y := YX10_where) (pc := 8) (tgt := 14) dX10_where_8 rfl (fun c2 => ?_) (fun c2 => ?_)
    · replace hF := if_f c2 hF
      refine g_aload_n (Y := YX10_where) (pc := 14) 0 dX10_where_14 rfl ?_
      refine u_getR (Y := YX10_where) (pc := 15) (j := 3) dX10_where_15 fl_X10_19 k_0 rf_0_1 ?_
      refine g_iload_n (Y := YX10_where) (pc := 18) 1 dX10_where_18 rfl ?_
      obtain ⟨r3, M4, e5, hF⟩ := bd_some hF
      refine s_callVi (Y := YX10_where) (pc := 19) (as := [.int x1]) (st := []) (r_X1_hasGroup  e5) miX1_hasGroup lk_X10_152 dX10_where_19 k_3 rfl (Nat.le_of_ble_eq_true rfl) (Nat.le_of_ble_eq_true rfl) rfl ?_
      clear e5
      refine g_if_ne (Y := YX10_where) (pc := 22) (tgt := 28) dX10_where_22 rfl (fun c6 => ?_) (fun c6 => ?_)
      · replace hF := if_f c6 hF
        refine g_aload_n (Y := YX10_where) (pc := 28) 0 dX10_where_28 rfl ?_
        refine u_getR (Y := YX10_where) (pc := 29) (j := 36) dX10_where_29 fl_X10_42 k_0 rf_0_5 ?_
        refine g_aload_n (Y := YX10_where) (pc := 32) 0 dX10_where_32 rfl ?_
        refine u_getR (Y := YX10_where) (pc := 33) (j := 26) dX10_where_33 fl_X10_35 k_0 rf_0_3 ?_
        obtain ⟨r7, M8, e9, hF⟩ := bd_some hF
        refine s_callVv (Y := YX10_where) (pc := 36) (as := [.ref 26]) (st := []) (r_X7_copy isSt_36 isSt_26 e9) miX7_copy lk_X10_268 dX10_where_36 k_36 rfl (Nat.le_of_ble_eq_true rfl) (Nat.le_of_ble_eq_true rfl) rfl ?_
        clear e9
        refine g_aload_n (Y := YX10_where) (pc := 39) 0 dX10_where_39 rfl ?_
        refine u_getR (Y := YX10_where) (pc := 40) (j := 3) dX10_where_40 fl_X10_19 k_0 rf_0_1 ?_
        refine g_aload_n (Y := YX10_where) (pc := 43) 0 dX10_where_43 rfl ?_
        refine u_getR (Y := YX10_where) (pc := 44) (j := 36) dX10_where_44 fl_X10_42 k_0 rf_0_5 ?_
        refine g_iload_n (Y := YX10_where) (pc := 47) 2 dX10_where_47 rfl ?_
        obtain ⟨r10, M11, e12, hF⟩ := bd_some hF
        refine s_callVv (Y := YX10_where) (pc := 48) (as := [.ref 36, .int x2]) (st := []) (r_X1_goOn isSt_36 e12) miX1_goOn lk_X10_262 dX10_where_48 k_3 rfl (Nat.le_of_ble_eq_true rfl) (Nat.le_of_ble_eq_true rfl) rfl ?_
        clear e12
        refine g_aload_n (Y := YX10_where) (pc := 51) 0 dX10_where_51 rfl ?_
        obtain ⟨r13, M14, e15, hF⟩ := bd_some hF
        refine s_callVv (Y := YX10_where) (pc := 52) (as := []) (st := []) (r_X10_clearRow  e15) miX10_clearRow lk_X10_246 dX10_where_52 k_0 rfl (Nat.le_of_ble_eq_true rfl) (Nat.le_of_ble_eq_true rfl) rfl ?_
        clear e15
        refine g_aload_n (Y := YX10_where) (pc := 55) 0 dX10_where_55 rfl ?_
        refine g_aload_n (Y := YX10_where) (pc := 56) 0 dX10_where_56 rfl ?_
        refine u_getR (Y := YX10_where) (pc := 57) (j := 36) dX10_where_57 fl_X10_42 k_0 rf_0_5 ?_
        refine u_getR (Y := YX10_where) (pc := 60) (j := 38) dX10_where_60 fl_X10_173 k_36 (st_r5 isSt_36) ?_
        refine g_iload_n (Y := YX10_where) (pc := 63) 1 dX10_where_63 rfl ?_
        obtain ⟨g16, hF⟩ := gd_some hF
        refine s_iald (Y := YX10_where) (pc := 64) dX10_where_64 k_38 n_38 g16 ?_
        obtain ⟨r17, M18, e19, hF⟩ := bd_some hF
        refine s_callVv (Y := YX10_where) (pc := 65) (as := [.int (M14 38 x1.toNatClampNeg)]) (st := []) (r_X10_tell  e19) miX10_tell lk_X10_252 dX10_where_65 k_0 rfl (Nat.le_of_ble_eq_true rfl) (Nat.le_of_ble_eq_true rfl) rfl ?_
        clear e19
        refine g_aload_n (Y := YX10_where) (pc := 68) 0 dX10_where_68 rfl ?_
        refine g_aload_n (Y := YX10_where) (pc := 69) 0 dX10_where_69 rfl ?_
        refine u_getR (Y := YX10_where) (pc := 70) (j := 36) dX10_where_70 fl_X10_42 k_0 rf_0_5 ?_
        refine u_getR (Y := YX10_where) (pc := 73) (j := 39) dX10_where_73 fl_X10_176 k_36 (st_r6 isSt_36) ?_
        refine g_iload_n (Y := YX10_where) (pc := 76) 1 dX10_where_76 rfl ?_
        obtain ⟨g20, hF⟩ := gd_some hF
        refine s_iald (Y := YX10_where) (pc := 77) dX10_where_77 k_39 n_39 g20 ?_
        obtain ⟨r21, M22, e23, hF⟩ := bd_some hF
        refine s_callVv (Y := YX10_where) (pc := 78) (as := [.int (M18 39 x1.toNatClampNeg)]) (st := []) (r_X10_tell  e23) miX10_tell lk_X10_252 dX10_where_78 k_0 rfl (Nat.le_of_ble_eq_true rfl) (Nat.le_of_ble_eq_true rfl) rfl ?_
        clear e23
        refine g_aload_n (Y := YX10_where) (pc := 81) 0 dX10_where_81 rfl ?_
        refine u_getR (Y := YX10_where) (pc := 82) (j := 36) dX10_where_82 fl_X10_42 k_0 rf_0_5 ?_
        refine u_getR (Y := YX10_where) (pc := 85) (j := 37) dX10_where_85 fl_X10_170 k_36 (st_r4 isSt_36) ?_
        refine g_iload_n (Y := YX10_where) (pc := 88) 1 dX10_where_88 rfl ?_
        obtain ⟨g24, hF⟩ := gd_some hF
        refine s_iald (Y := YX10_where) (pc := 89) dX10_where_89 k_37 n_37 g24 ?_
        exact s_iret (Y := YX10_where) (pc := 90) dX10_where_90 rfl hF
      · replace hF := if_t c6 hF
        refine g_bipush (Y := YX10_where) (pc := 25) dX10_where_25 kB_m3 ?_
        exact s_iret (Y := YX10_where) (pc := 27) dX10_where_27 rfl hF
    · replace hF := if_t c2 hF
      refine g_loc [] rfl ?_
      exact w_X10_where_11  _ hF
def f_X10_where (x1 : Int32) (x2 : Int32) (M : Mem) : Option (Int32 × Mem) := f_X10_where_0 x1 x2 M
theorem r_X10_where {x1 x2 R : Int32} {M M' : Mem}  (hF : f_X10_where x1 x2 M = some (R, M')) : RunS l D cy ad YX10_where 4 [.ref 0, .int x1, .int x2] X M (some (.int R)) M' := Run.of 2 (miX10_where).1 (Nat.le_of_ble_eq_true rfl) (w_X10_where_0  _ _ _ hF)
def f_X7_lastThrough_29 (K4 : Int32 → Int32 → Int32 → Mem → Option (Int32 × Mem)) (s : Nat) (x1 : Int32) (x2 : Int32) (x3 : Int32) (M : Mem) : Option (Int32 × Mem) :=
  vl (x3 + 1) fun v6 =>
  K4 x1 x2 v6 M
set_option maxRecDepth 100000 in
theorem w_X7_lastThrough_29 {R : Int32} {M' : Mem} {s : Nat} {K4 : Int32 → Int32 → Int32 → Mem → Option (Int32 × Mem)} (hs : isSt s) (hK4 : ∀ (x1 x2 x3 : Int32) (M : Mem), K4 x1 x2 x3 M = some (R, M') → RunF l D cy ad none YX7_lastThrough 1 0 0 (some (.int R)) (lay X M') 0 0 4 [(0, .ref s), (1, .int x1), (2, .int x2), (3, .int x3)] [] (lay X M)) (x1 x2 x3 : Int32) (M : Mem) (hF : f_X7_lastThrough_29 K4 s x1 x2 x3 M = some (R, M')) : RunF l D cy ad none YX7_lastThrough 1 0 0 (some (.int R)) (lay X M') 0 0 29 [(0, .ref s), (1, .int x1), (2, .int x2), (3, .int x3)] [] (lay X M) := by
  unfold f_X7_lastThrough_29 at hF
  refine s_iinc (Y := YX7_lastThrough) (pc := 29) (j := 3) (L' := fun y => [(3, .int y), (0, .ref s), (1, .int x1), (2, .int x2)]) dX7_lastThrough_29 kI_1 rfl (Nat.le_of_ble_eq_true rfl) (fun _ => rfl) (fun v6 e => ?_)
  replace hF := vl_to e hF; clear e
  refine g_goto (Y := YX7_lastThrough) (pc := 32) (tgt := 4) dX7_lastThrough_32 rfl ?_
  refine g_loc [1, 2, 3, 0] rfl ?_
  exact hK4 _ _ _ _ hF
def f_X7_lastThrough_4 (s : Nat) : Nat → Int32 → Int32 → Int32 → Mem → Option (Int32 × Mem)
  | 0, _, _, _, _ => none
  | n + 1, x1, x2, x3, M =>
    if x3 < 6 then
      bd (f_X10_has x1 x3 M) fun r2 M3 =>
      if r2 = 0 then
        f_X7_lastThrough_29 (f_X7_lastThrough_4 s n) s x1 x2 x3 M3
      else
        gd (0 ≤ x3 ∧ x3.toNatClampNeg < 6) <|
        vl ((if x2 < (M3 (s + 4) x3.toNatClampNeg) then (M3 (s + 4) x3.toNatClampNeg) else x2)) fun v8 =>
        f_X7_lastThrough_29 (f_X7_lastThrough_4 s n) s x1 v8 x3 M3
    else
      some (x2, M)
set_option maxRecDepth 100000 in
theorem w_X7_lastThrough_4 {R : Int32} {M' : Mem} {s : Nat} (hs : isSt s) : ∀ (n : Nat) (x1 x2 x3 : Int32) (M : Mem), f_X7_lastThrough_4 s n x1 x2 x3 M = some (R, M') → RunF l D cy ad none YX7_lastThrough 1 0 0 (some (.int R)) (lay X M') 0 0 4 [(0, .ref s), (1, .int x1), (2, .int x2), (3, .int x3)] [] (lay X M) := by
  intro n
  induction n with
  | zero => intro x1 x2 x3 M hF; exact absurd hF (by unfold f_X7_lastThrough_4; exact fun h => nomatch h)
  | succ n ih =>
    intro x1 x2 x3 M hF
    unfold f_X7_lastThrough_4 at hF
    refine g_iload_n (Y := YX7_lastThrough) (pc := 4) 3 dX7_lastThrough_4 rfl ?_
    refine g_bipush (Y := YX7_lastThrough) (pc := 5) dX7_lastThrough_5 kB_6 ?_
    refine g_icmp_ge (Y := YX7_lastThrough) (pc := 7) (tgt := 35) dX7_lastThrough_7 rfl (fun c1 => ?_) (fun c1 => ?_)
    · replace hF := if_f c1 hF
      refine g_iload_n (Y := YX7_lastThrough) (pc := 35) 2 dX7_lastThrough_35 rfl ?_
      exact s_iret (Y := YX7_lastThrough) (pc := 36) dX7_lastThrough_36 rfl hF
    · replace hF := if_t c1 hF
      refine g_iload_n (Y := YX7_lastThrough) (pc := 10) 1 dX7_lastThrough_10 rfl ?_
      refine g_iload_n (Y := YX7_lastThrough) (pc := 11) 3 dX7_lastThrough_11 rfl ?_
      obtain ⟨r2, M3, e4, hF⟩ := bd_some hF
      refine s_callNi (Y := YX7_lastThrough) (pc := 12) (as := [.int x1, .int x3]) (st := []) (r_X10_has  e4) msX10_has nw_X7 dX7_lastThrough_12 rfl (Nat.le_of_ble_eq_true rfl) (Nat.le_of_ble_eq_true rfl) rfl ?_
      clear e4
      refine g_if_eq (Y := YX7_lastThrough) (pc := 15) (tgt := 29) dX7_lastThrough_15 rfl (fun c5 => ?_) (fun c5 => ?_)
      · replace hF := if_t c5 hF
        exact w_X7_lastThrough_29 hs ih _ _ _ _ hF
      · replace hF := if_f c5 hF
        refine g_iload_n (Y := YX7_lastThrough) (pc := 18) 2 dX7_lastThrough_18 rfl ?_
        refine g_aload_n (Y := YX7_lastThrough) (pc := 19) 0 dX7_lastThrough_19 rfl ?_
        refine u_getR (Y := YX7_lastThrough) (pc := 20) (j := (s + 4)) dX7_lastThrough_20 fl_X7_21 (st_k hs) (st_r7 hs) ?_
        refine g_iload_n (Y := YX7_lastThrough) (pc := 23) 3 dX7_lastThrough_23 rfl ?_
        obtain ⟨g7, hF⟩ := gd_some hF
        refine s_iald (Y := YX7_lastThrough) (pc := 24) dX7_lastThrough_24 (st_k4 hs) (st_n4 hs) g7 ?_
        refine s_max (Y := YX7_lastThrough) (pc := 25) dX7_lastThrough_25 lk_X7_54 w_max (Nat.le_of_ble_eq_true rfl) (Nat.le_of_ble_eq_true rfl) ?_
        refine g_nm (fun v8 e => ?_)
        replace hF := vl_to e hF; clear e
        refine g_istore_n (Y := YX7_lastThrough) (pc := 28) (L' := [(2, .int v8), (0, .ref s), (1, .int x1), (3, .int x3)]) dX7_lastThrough_28 (Nat.le_of_ble_eq_true rfl) rfl ?_
        refine g_loc [1, 2, 0, 3] rfl ?_
        exact w_X7_lastThrough_29 hs ih _ _ _ _ hF
def f_X7_lastThrough_0 (s : Nat) (x1 : Int32) (M : Mem) : Option (Int32 × Mem) :=
  f_X7_lastThrough_4 s FU x1 (-1) 0 M
set_option maxRecDepth 100000 in
theorem w_X7_lastThrough_0 {R : Int32} {M' : Mem} {s : Nat} (hs : isSt s) (x1 : Int32) (M : Mem) (hF : f_X7_lastThrough_0 s x1 M = some (R, M')) : RunF l D cy ad none YX7_lastThrough 1 0 0 (some (.int R)) (lay X M') 0 0 0 [(0, .ref s), (1, .int x1)] [] (lay X M) := by
  unfold f_X7_lastThrough_0 at hF
  refine g_iconst (Y := YX7_lastThrough) (pc := 0) dX7_lastThrough_0 kI_m1 ?_
  refine g_istore_n (Y := YX7_lastThrough) (pc := 1) (L' := [(2, .int (-1)), (0, .ref s), (1, .int x1)]) dX7_lastThrough_1 (Nat.le_of_ble_eq_true rfl) rfl ?_
  refine g_iconst (Y := YX7_lastThrough) (pc := 2) dX7_lastThrough_2 kI_0 ?_
  refine g_istore_n (Y := YX7_lastThrough) (pc := 3) (L' := [(3, .int 0), (2, .int (-1)), (0, .ref s), (1, .int x1)]) dX7_lastThrough_3 (Nat.le_of_ble_eq_true rfl) rfl ?_
  refine g_loc [2, 3, 1, 0] rfl ?_
  exact w_X7_lastThrough_4 hs _ _ _ _ _ hF
def f_X7_lastThrough (s : Nat) (x1 : Int32) (M : Mem) : Option (Int32 × Mem) := f_X7_lastThrough_0 s x1 M
theorem r_X7_lastThrough {s : Nat} {x1 R : Int32} {M M' : Mem} (hs : isSt s) (hF : f_X7_lastThrough s x1 M = some (R, M')) : RunS l D cy ad YX7_lastThrough 1 [.ref s, .int x1] X M (some (.int R)) M' := Run.of 1 (miX7_lastThrough).1 (Nat.le_of_ble_eq_true rfl) (w_X7_lastThrough_0 hs _ _ hF)
def f_X10_stuck_76  (x1 : Int32) (t0 : Int32) (M : Mem) : Option (Int32 × Mem) :=
  bd (f_X10_tell t0 M) fun _ M22 =>
  some (x1, M22)
set_option maxRecDepth 100000 in
theorem w_X10_stuck_76 {R : Int32} {M' : Mem}  (x1 t0 : Int32) (M : Mem) (hF : f_X10_stuck_76 x1 t0 M = some (R, M')) : RunF l D cy ad none YX10_stuck 4 0 0 (some (.int R)) (lay X M') 0 0 76 [(1, .int x1)] [.int t0, .ref 0] (lay X M) := by
  unfold f_X10_stuck_76 at hF
  obtain ⟨r21, M22, e23, hF⟩ := bd_some hF
  refine s_callVv (Y := YX10_stuck) (pc := 76) (as := [.int t0]) (st := []) (r_X10_tell  e23) miX10_tell lk_X10_252 dX10_stuck_76 k_0 rfl (Nat.le_of_ble_eq_true rfl) (Nat.le_of_ble_eq_true rfl) rfl ?_
  clear e23
  refine g_iload_n (Y := YX10_stuck) (pc := 79) 0 dX10_stuck_79 rfl ?_
  exact s_iret (Y := YX10_stuck) (pc := 80) dX10_stuck_80 rfl hF
def f_X10_stuck_0  (M : Mem) : Option (Int32 × Mem) :=
  bd (f_X7_copy 36 26 M) fun _ M2 =>
  bd (f_X1_goOn 36 400 M2) fun _ M5 =>
  bd (f_X7_bitsInside 36 M5) fun r7 M8 =>
  bd (f_X7_bitsInside 26 M8) fun r10 M11 =>
  vl ((r10 &&& (r7 ^^^ (-1)))) fun v13 =>
  bd (f_X10_clearRow M11) fun _ M15 =>
  if v13 = 0 then
    f_X10_stuck_76 r7 0 M15
  else
    bd (f_X7_lastThrough 36 v13 M15) fun r18 M19 =>
    f_X10_stuck_76 r7 ((r18 + 1) - (M19 26 0)) M19
set_option maxRecDepth 100000 in
theorem w_X10_stuck_0 {R : Int32} {M' : Mem}  (M : Mem) (hF : f_X10_stuck_0  M = some (R, M')) : RunF l D cy ad none YX10_stuck 4 0 0 (some (.int R)) (lay X M') 0 0 0 [(0, .ref 0)] [] (lay X M) := by
  unfold f_X10_stuck_0 at hF
  refine g_aload_n (Y := YX10_stuck) (pc := 0) 0 dX10_stuck_0 rfl ?_
  refine u_getR (Y := YX10_stuck) (pc := 1) (j := 36) dX10_stuck_1 fl_X10_42 k_0 rf_0_5 ?_
  refine g_aload_n (Y := YX10_stuck) (pc := 4) 0 dX10_stuck_4 rfl ?_
  refine u_getR (Y := YX10_stuck) (pc := 5) (j := 26) dX10_stuck_5 fl_X10_35 k_0 rf_0_3 ?_
  obtain ⟨r1, M2, e3, hF⟩ := bd_some hF
  refine s_callVv (Y := YX10_stuck) (pc := 8) (as := [.ref 26]) (st := []) (r_X7_copy isSt_36 isSt_26 e3) miX7_copy lk_X10_268 dX10_stuck_8 k_36 rfl (Nat.le_of_ble_eq_true rfl) (Nat.le_of_ble_eq_true rfl) rfl ?_
  clear e3
  refine g_aload_n (Y := YX10_stuck) (pc := 11) 0 dX10_stuck_11 rfl ?_
  refine u_getR (Y := YX10_stuck) (pc := 12) (j := 3) dX10_stuck_12 fl_X10_19 k_0 rf_0_1 ?_
  refine g_aload_n (Y := YX10_stuck) (pc := 15) 0 dX10_stuck_15 rfl ?_
  refine u_getR (Y := YX10_stuck) (pc := 16) (j := 36) dX10_stuck_16 fl_X10_42 k_0 rf_0_5 ?_
  refine g_sipush (Y := YX10_stuck) (pc := 19) dX10_stuck_19 kS_400 ?_
  obtain ⟨r4, M5, e6, hF⟩ := bd_some hF
  refine s_callVv (Y := YX10_stuck) (pc := 22) (as := [.ref 36, .int 400]) (st := []) (r_X1_goOn isSt_36 e6) miX1_goOn lk_X10_262 dX10_stuck_22 k_3 rfl (Nat.le_of_ble_eq_true rfl) (Nat.le_of_ble_eq_true rfl) rfl ?_
  clear e6
  refine g_aload_n (Y := YX10_stuck) (pc := 25) 0 dX10_stuck_25 rfl ?_
  refine u_getR (Y := YX10_stuck) (pc := 26) (j := 36) dX10_stuck_26 fl_X10_42 k_0 rf_0_5 ?_
  obtain ⟨r7, M8, e9, hF⟩ := bd_some hF
  refine s_callVi (Y := YX10_stuck) (pc := 29) (as := []) (st := []) (r_X7_bitsInside isSt_36 e9) miX7_bitsInside lk_X10_222 dX10_stuck_29 k_36 rfl (Nat.le_of_ble_eq_true rfl) (Nat.le_of_ble_eq_true rfl) rfl ?_
  clear e9
  refine g_istore_n (Y := YX10_stuck) (pc := 32) (L' := [(1, .int r7), (0, .ref 0)]) dX10_stuck_32 (Nat.le_of_ble_eq_true rfl) rfl ?_
  refine g_aload_n (Y := YX10_stuck) (pc := 33) 1 dX10_stuck_33 rfl ?_
  refine u_getR (Y := YX10_stuck) (pc := 34) (j := 26) dX10_stuck_34 fl_X10_35 k_0 rf_0_3 ?_
  obtain ⟨r10, M11, e12, hF⟩ := bd_some hF
  refine s_callVi (Y := YX10_stuck) (pc := 37) (as := []) (st := []) (r_X7_bitsInside isSt_26 e12) miX7_bitsInside lk_X10_222 dX10_stuck_37 k_26 rfl (Nat.le_of_ble_eq_true rfl) (Nat.le_of_ble_eq_true rfl) rfl ?_
  clear e12
  refine g_iload_n (Y := YX10_stuck) (pc := 40) 0 dX10_stuck_40 rfl ?_
  refine g_iconst (Y := YX10_stuck) (pc := 41) dX10_stuck_41 kI_m1 ?_
  refine g_ixor (Y := YX10_stuck) (pc := 42) dX10_stuck_42 ?_
  refine g_iand (Y := YX10_stuck) (pc := 43) dX10_stuck_43 ?_
  refine g_nm (fun v13 e => ?_)
  replace hF := vl_to e hF; clear e
  refine g_istore_n (Y := YX10_stuck) (pc := 44) (L' := [(2, .int v13), (1, .int r7), (0, .ref 0)]) dX10_stuck_44 (Nat.le_of_ble_eq_true rfl) rfl ?_
  refine g_aload_n (Y := YX10_stuck) (pc := 45) 2 dX10_stuck_45 rfl ?_
  obtain ⟨r14, M15, e16, hF⟩ := bd_some hF
  refine s_callVv (Y := YX10_stuck) (pc := 46) (as := []) (st := []) (r_X10_clearRow  e16) miX10_clearRow lk_X10_246 dX10_stuck_46 k_0 rfl (Nat.le_of_ble_eq_true rfl) (Nat.le_of_ble_eq_true rfl) rfl ?_
  clear e16
  refine g_aload_n (Y := YX10_stuck) (pc := 49) 2 dX10_stuck_49 rfl ?_
  refine g_iload_n (Y := YX10_stuck) (pc := 50) 0 dX10_stuck_50 rfl ?_
  refine g_if_ne (Y := YX10_stuck) (pc := 51) (tgt := 58) dX10_stuck_51 rfl (fun c17 => ?_) (fun c17 => ?_)
  · replace hF := if_f c17 hF
    refine g_aload_n (Y := YX10_stuck) (pc := 58) 2 dX10_stuck_58 rfl ?_
    refine u_getR (Y := YX10_stuck) (pc := 59) (j := 36) dX10_stuck_59 fl_X10_42 k_0 rf_0_5 ?_
    refine g_iload_n (Y := YX10_stuck) (pc := 62) 0 dX10_stuck_62 rfl ?_
    obtain ⟨r18, M19, e20, hF⟩ := bd_some hF
    refine s_callVi (Y := YX10_stuck) (pc := 63) (as := [.int v13]) (st := [.ref 0]) (r_X7_lastThrough isSt_36 e20) miX7_lastThrough lk_X10_282 dX10_stuck_63 k_36 rfl (Nat.le_of_ble_eq_true rfl) (Nat.le_of_ble_eq_true rfl) rfl ?_
    clear e20
    refine g_iconst (Y := YX10_stuck) (pc := 66) dX10_stuck_66 kI_1 ?_
    refine g_iadd (Y := YX10_stuck) (pc := 67) dX10_stuck_67 ?_
    refine g_aload_n (Y := YX10_stuck) (pc := 68) 2 dX10_stuck_68 rfl ?_
    refine u_getR (Y := YX10_stuck) (pc := 69) (j := 26) dX10_stuck_69 fl_X10_35 k_0 rf_0_3 ?_
    refine u_getI (Y := YX10_stuck) (pc := 72) dX10_stuck_72 fl_X10_237 k_26 ?_
    refine g_isub (Y := YX10_stuck) (pc := 75) dX10_stuck_75 ?_
    refine g_loc [1] rfl ?_
    exact w_X10_stuck_76  _ _ _ hF
  · replace hF := if_t c17 hF
    refine g_iconst (Y := YX10_stuck) (pc := 54) dX10_stuck_54 kI_0 ?_
    refine g_goto (Y := YX10_stuck) (pc := 55) (tgt := 76) dX10_stuck_55 rfl ?_
    refine g_loc [1] rfl ?_
    exact w_X10_stuck_76  _ _ _ hF
def f_X10_stuck (M : Mem) : Option (Int32 × Mem) := f_X10_stuck_0 M
theorem r_X10_stuck {R : Int32} {M M' : Mem}  (hF : f_X10_stuck  M = some (R, M')) : RunS l D cy ad YX10_stuck 4 [.ref 0] X M (some (.int R)) M' := Run.of 0 (miX10_stuck).1 (Nat.le_of_ble_eq_true rfl) (w_X10_stuck_0  _ hF)
def f_X10_faultOfOrder_81  (t0 : Int32) (M : Mem) : Option (Int32 × Mem) :=
  some (t0, M)
set_option maxRecDepth 100000 in
theorem w_X10_faultOfOrder_81 {R : Int32} {M' : Mem}  (t0 : Int32) (M : Mem) (hF : f_X10_faultOfOrder_81 t0 M = some (R, M')) : RunF l D cy ad none YX10_faultOfOrder 2 0 0 (some (.int R)) (lay X M') 0 0 81 [] [.int t0] (lay X M) := by
  unfold f_X10_faultOfOrder_81 at hF
  exact s_iret (Y := YX10_faultOfOrder) (pc := 81) dX10_faultOfOrder_81 rfl hF
def f_X10_faultOfOrder_52  (x2 : Int32) (M : Mem) : Option (Int32 × Mem) :=
  some (x2, M)
set_option maxRecDepth 100000 in
theorem w_X10_faultOfOrder_52 {R : Int32} {M' : Mem}  (x2 : Int32) (M : Mem) (hF : f_X10_faultOfOrder_52 x2 M = some (R, M')) : RunF l D cy ad none YX10_faultOfOrder 2 0 0 (some (.int R)) (lay X M') 0 0 52 [(2, .int x2)] [] (lay X M) := by
  unfold f_X10_faultOfOrder_52 at hF
  refine g_iload_n (Y := YX10_faultOfOrder) (pc := 52) 0 dX10_faultOfOrder_52 rfl ?_
  exact s_iret (Y := YX10_faultOfOrder) (pc := 53) dX10_faultOfOrder_53 rfl hF
def f_X10_faultOfOrder_13  : Nat → Int32 → Int32 → Mem → Option (Int32 × Mem)
  | 0, _, _, _ => none
  | n + 1, x1, x2, M =>
    if x2 < (M 1 1) then
      bd (f_X8_letterAt x2 M) fun r4 M5 =>
      bd (f_X1_hasGroup r4 M5) fun r7 M8 =>
      if r7 = 0 then
        f_X10_faultOfOrder_52 x2 M8
      else
        bd (f_X10_has x1 r4 M8) fun r11 M12 =>
        if r11 = 0 then
          vl ((x1 ||| (1 <<< (r4 &&& 31)))) fun v15 =>
          vl (x2 + 1) fun v16 =>
          f_X10_faultOfOrder_13 n v15 v16 M12
        else
          f_X10_faultOfOrder_52 x2 M12
    else
      if (M 1 1) = 0 then
        f_X10_faultOfOrder_81 0 M
      else
        f_X10_faultOfOrder_81 (-1) M
set_option maxRecDepth 100000 in
theorem w_X10_faultOfOrder_13 {R : Int32} {M' : Mem}  : ∀ (n : Nat) (x1 x2 : Int32) (M : Mem), f_X10_faultOfOrder_13 n x1 x2 M = some (R, M') → RunF l D cy ad none YX10_faultOfOrder 2 0 0 (some (.int R)) (lay X M') 0 0 13 [(0, .ref 0), (1, .int x1), (2, .int x2)] [] (lay X M) := by
  intro n
  induction n with
  | zero => intro x1 x2 M hF; exact absurd hF (by unfold f_X10_faultOfOrder_13; exact fun h => nomatch h)
  | succ n ih =>
    intro x1 x2 M hF
    unfold f_X10_faultOfOrder_13 at hF
    refine g_iload_n (Y := YX10_faultOfOrder) (pc := 13) 2 dX10_faultOfOrder_13 rfl ?_
    refine g_aload_n (Y := YX10_faultOfOrder) (pc := 14) 0 dX10_faultOfOrder_14 rfl ?_
    refine u_getR (Y := YX10_faultOfOrder) (pc := 15) (j := 1) dX10_faultOfOrder_15 fl_X10_10 k_0 rf_0_0 ?_
    refine u_getI (Y := YX10_faultOfOrder) (pc := 18) dX10_faultOfOrder_18 fl_X10_120 k_1 ?_
    refine g_icmp_ge (Y := YX10_faultOfOrder) (pc := 21) (tgt := 66) dX10_faultOfOrder_21 rfl (fun c2 => ?_) (fun c2 => ?_)
    · replace hF := if_f c2 hF
      refine g_aload_n (Y := YX10_faultOfOrder) (pc := 66) 0 dX10_faultOfOrder_66 rfl ?_
      refine u_getR (Y := YX10_faultOfOrder) (pc := 67) (j := 1) dX10_faultOfOrder_67 fl_X10_10 k_0 rf_0_0 ?_
      refine u_getI (Y := YX10_faultOfOrder) (pc := 70) dX10_faultOfOrder_70 fl_X10_120 k_1 ?_
      refine g_if_ne (Y := YX10_faultOfOrder) (pc := 73) (tgt := 80) dX10_faultOfOrder_73 rfl (fun c3 => ?_) (fun c3 => ?_)
      · replace hF := if_f c3 hF
        refine g_iconst (Y := YX10_faultOfOrder) (pc := 80) dX10_faultOfOrder_80 kI_m1 ?_
        refine g_loc [] rfl ?_
        exact w_X10_faultOfOrder_81  _ _ hF
      · replace hF := if_t c3 hF
        refine g_iconst (Y := YX10_faultOfOrder) (pc := 76) dX10_faultOfOrder_76 kI_0 ?_
        refine g_goto (Y := YX10_faultOfOrder) (pc := 77) (tgt := 81) dX10_faultOfOrder_77 rfl ?_
        refine g_loc [] rfl ?_
        exact w_X10_faultOfOrder_81  _ _ hF
    · replace hF := if_t c2 hF
      refine g_aload_n (Y := YX10_faultOfOrder) (pc := 24) 0 dX10_faultOfOrder_24 rfl ?_
      refine u_getR (Y := YX10_faultOfOrder) (pc := 25) (j := 1) dX10_faultOfOrder_25 fl_X10_10 k_0 rf_0_0 ?_
      refine g_iload_n (Y := YX10_faultOfOrder) (pc := 28) 2 dX10_faultOfOrder_28 rfl ?_
      obtain ⟨r4, M5, e6, hF⟩ := bd_some hF
      refine s_callVi (Y := YX10_faultOfOrder) (pc := 29) (as := [.int x2]) (st := []) (r_X8_letterAt  e6) miX8_letterAt lk_X10_415 dX10_faultOfOrder_29 k_1 rfl (Nat.le_of_ble_eq_true rfl) (Nat.le_of_ble_eq_true rfl) rfl ?_
      clear e6
      refine g_istore_n (Y := YX10_faultOfOrder) (pc := 32) (L' := [(3, .int r4), (0, .ref 0), (1, .int x1), (2, .int x2)]) dX10_faultOfOrder_32 (Nat.le_of_ble_eq_true rfl) rfl ?_
      refine g_aload_n (Y := YX10_faultOfOrder) (pc := 33) 1 dX10_faultOfOrder_33 rfl ?_
      refine u_getR (Y := YX10_faultOfOrder) (pc := 34) (j := 3) dX10_faultOfOrder_34 fl_X10_19 k_0 rf_0_1 ?_
      refine g_iload_n (Y := YX10_faultOfOrder) (pc := 37) 0 dX10_faultOfOrder_37 rfl ?_
      obtain ⟨r7, M8, e9, hF⟩ := bd_some hF
      refine s_callVi (Y := YX10_faultOfOrder) (pc := 38) (as := [.int r4]) (st := []) (r_X1_hasGroup  e9) miX1_hasGroup lk_X10_152 dX10_faultOfOrder_38 k_3 rfl (Nat.le_of_ble_eq_true rfl) (Nat.le_of_ble_eq_true rfl) rfl ?_
      clear e9
      refine g_if_eq (Y := YX10_faultOfOrder) (pc := 41) (tgt := 52) dX10_faultOfOrder_41 rfl (fun c10 => ?_) (fun c10 => ?_)
      · replace hF := if_t c10 hF
        refine g_loc [3] rfl ?_
        exact w_X10_faultOfOrder_52  _ _ hF
      · replace hF := if_f c10 hF
        refine g_iload_n (Y := YX10_faultOfOrder) (pc := 44) 2 dX10_faultOfOrder_44 rfl ?_
        refine g_iload_n (Y := YX10_faultOfOrder) (pc := 45) 0 dX10_faultOfOrder_45 rfl ?_
        obtain ⟨r11, M12, e13, hF⟩ := bd_some hF
        refine s_callSi (Y := YX10_faultOfOrder) (pc := 46) (as := [.int x1, .int r4]) (st := []) (r_X10_has  e13) msX10_has lk_X10_362 dX10_faultOfOrder_46 rfl (Nat.le_of_ble_eq_true rfl) (Nat.le_of_ble_eq_true rfl) rfl ?_
        clear e13
        refine g_if_eq (Y := YX10_faultOfOrder) (pc := 49) (tgt := 54) dX10_faultOfOrder_49 rfl (fun c14 => ?_) (fun c14 => ?_)
        · replace hF := if_t c14 hF
          refine g_iload_n (Y := YX10_faultOfOrder) (pc := 54) 2 dX10_faultOfOrder_54 rfl ?_
          refine g_iconst (Y := YX10_faultOfOrder) (pc := 55) dX10_faultOfOrder_55 kI_1 ?_
          refine g_iload_n (Y := YX10_faultOfOrder) (pc := 56) 0 dX10_faultOfOrder_56 rfl ?_
          refine g_ishl (Y := YX10_faultOfOrder) (pc := 57) dX10_faultOfOrder_57 ?_
          refine g_ior (Y := YX10_faultOfOrder) (pc := 58) dX10_faultOfOrder_58 ?_
          refine g_nm (fun v15 e => ?_)
          replace hF := vl_to e hF; clear e
          refine g_istore_n (Y := YX10_faultOfOrder) (pc := 59) (L' := [(1, .int v15), (3, .int r4), (0, .ref 0), (2, .int x2)]) dX10_faultOfOrder_59 (Nat.le_of_ble_eq_true rfl) rfl ?_
          refine s_iinc (Y := YX10_faultOfOrder) (pc := 60) (j := 3) (L' := fun y => [(2, .int y), (1, .int v15), (3, .int r4), (0, .ref 0)]) dX10_faultOfOrder_60 kI_1 rfl (Nat.le_of_ble_eq_true rfl) (fun _ => rfl) (fun v16 e => ?_)
          replace hF := vl_to e hF; clear e
          refine g_goto (Y := YX10_faultOfOrder) (pc := 63) (tgt := 13) dX10_faultOfOrder_63 rfl ?_
          refine g_loc [3, 1, 0] rfl ?_
          exact ih _ _ _ hF
        · replace hF := if_f c14 hF
          refine g_loc [3] rfl ?_
          exact w_X10_faultOfOrder_52  _ _ hF
def f_X10_faultOfOrder_0  (M : Mem) : Option (Int32 × Mem) :=
  ml (up M 1 2 80) fun M1 =>
  f_X10_faultOfOrder_13 FU 0 0 M1
set_option maxRecDepth 100000 in
theorem w_X10_faultOfOrder_0 {R : Int32} {M' : Mem}  (M : Mem) (hF : f_X10_faultOfOrder_0  M = some (R, M')) : RunF l D cy ad none YX10_faultOfOrder 2 0 0 (some (.int R)) (lay X M') 0 0 0 [(0, .ref 0)] [] (lay X M) := by
  unfold f_X10_faultOfOrder_0 at hF
  refine g_aload_n (Y := YX10_faultOfOrder) (pc := 0) 0 dX10_faultOfOrder_0 rfl ?_
  refine u_getR (Y := YX10_faultOfOrder) (pc := 1) (j := 1) dX10_faultOfOrder_1 fl_X10_10 k_0 rf_0_0 ?_
  refine g_bipush (Y := YX10_faultOfOrder) (pc := 4) dX10_faultOfOrder_4 kB_80 ?_
  refine u_putI (Y := YX10_faultOfOrder) (pc := 6) dX10_faultOfOrder_6 fl_X10_403  k_1 ?_
  refine g_nmM (fun M1 e => ?_)
  replace hF := ml_to e hF; clear e
  refine g_iconst (Y := YX10_faultOfOrder) (pc := 9) dX10_faultOfOrder_9 kI_0 ?_
  refine g_istore_n (Y := YX10_faultOfOrder) (pc := 10) (L' := [(1, .int 0), (0, .ref 0)]) dX10_faultOfOrder_10 (Nat.le_of_ble_eq_true rfl) rfl ?_
  refine g_iconst (Y := YX10_faultOfOrder) (pc := 11) dX10_faultOfOrder_11 kI_0 ?_
  refine g_istore_n (Y := YX10_faultOfOrder) (pc := 12) (L' := [(2, .int 0), (1, .int 0), (0, .ref 0)]) dX10_faultOfOrder_12 (Nat.le_of_ble_eq_true rfl) rfl ?_
  refine g_loc [2, 1, 0] rfl ?_
  exact w_X10_faultOfOrder_13  _ _ _ _ hF
def f_X10_faultOfOrder (M : Mem) : Option (Int32 × Mem) := f_X10_faultOfOrder_0 M
theorem r_X10_faultOfOrder {R : Int32} {M M' : Mem}  (hF : f_X10_faultOfOrder  M = some (R, M')) : RunS l D cy ad YX10_faultOfOrder 2 [.ref 0] X M (some (.int R)) M' := Run.of 0 (miX10_faultOfOrder).1 (Nat.le_of_ble_eq_true rfl) (w_X10_faultOfOrder_0  _ hF)
def f_X5_take_15 (q : Nat) : Nat → Int32 → Mem → Option (Int32 × Mem)
  | 0, _, _ => none
  | n + 1, x2, M =>
    if x2 < (M q 1) then
      bd (f_X8_letterAt x2 M) fun r4 M5 =>
      vl ((if (0 : Int32) < r4 then r4 else (0 : Int32))) fun v7 =>
      gd (0 ≤ x2 ∧ x2.toNatClampNeg < 6) <|
      ml (up M5 (q + 1) x2.toNatClampNeg v7) fun M9 =>
      vl (x2 + 1) fun v10 =>
      f_X5_take_15 q n v10 M9
    else
      some (0, M)
set_option maxRecDepth 100000 in
theorem w_X5_take_15 {R : Int32} {M' : Mem} {q : Nat} (hq : isOr q) : ∀ (n : Nat) (x2 : Int32) (M : Mem), f_X5_take_15 q n x2 M = some (R, M') → RunF l D cy ad none YX5_take 2 0 0 none (lay X M') 0 0 15 [(0, .ref q), (1, .ref 1), (2, .int x2)] [] (lay X M) := by
  intro n
  induction n with
  | zero => intro x2 M hF; exact absurd hF (by unfold f_X5_take_15; exact fun h => nomatch h)
  | succ n ih =>
    intro x2 M hF
    unfold f_X5_take_15 at hF
    refine g_iload_n (Y := YX5_take) (pc := 15) 2 dX5_take_15 rfl ?_
    refine g_aload_n (Y := YX5_take) (pc := 16) 0 dX5_take_16 rfl ?_
    refine u_getI (Y := YX5_take) (pc := 17) dX5_take_17 fl_X5_15 (or_k hq) ?_
    refine g_icmp_ge (Y := YX5_take) (pc := 20) (tgt := 44) dX5_take_20 rfl (fun c3 => ?_) (fun c3 => ?_)
    · replace hF := if_f c3 hF
      exact s_vret (Y := YX5_take) (pc := 44) dX5_take_44 rfl hF
    · replace hF := if_t c3 hF
      refine g_aload_n (Y := YX5_take) (pc := 23) 0 dX5_take_23 rfl ?_
      refine u_getR (Y := YX5_take) (pc := 24) (j := (q + 1)) dX5_take_24 fl_X5_9 (or_k hq) (or_r0 hq) ?_
      refine g_iload_n (Y := YX5_take) (pc := 27) 2 dX5_take_27 rfl ?_
      refine g_iconst (Y := YX5_take) (pc := 28) dX5_take_28 kI_0 ?_
      refine g_aload_n (Y := YX5_take) (pc := 29) 1 dX5_take_29 rfl ?_
      refine g_iload_n (Y := YX5_take) (pc := 30) 2 dX5_take_30 rfl ?_
      obtain ⟨r4, M5, e6, hF⟩ := bd_some hF
      refine s_callVi (Y := YX5_take) (pc := 31) (as := [.int x2]) (st := [.int 0, .int x2, .ref (q + 1)]) (r_X8_letterAt  e6) miX8_letterAt lk_X5_40 dX5_take_31 k_1 rfl (Nat.le_of_ble_eq_true rfl) (Nat.le_of_ble_eq_true rfl) rfl ?_
      clear e6
      refine s_max (Y := YX5_take) (pc := 34) dX5_take_34 lk_X5_44 w_max (Nat.le_of_ble_eq_true rfl) (Nat.le_of_ble_eq_true rfl) ?_
      refine g_nm (fun v7 e => ?_)
      replace hF := vl_to e hF; clear e
      obtain ⟨g8, hF⟩ := gd_some hF
      refine s_iast (Y := YX5_take) (pc := 37) dX5_take_37 (or_k1 hq) (or_n1 hq) g8 ?_
      refine g_nmM (fun M9 e => ?_)
      replace hF := ml_to e hF; clear e
      refine s_iinc (Y := YX5_take) (pc := 38) (j := 2) (L' := fun y => [(2, .int y), (0, .ref q), (1, .ref 1)]) dX5_take_38 kI_1 rfl (Nat.le_of_ble_eq_true rfl) (fun _ => rfl) (fun v10 e => ?_)
      replace hF := vl_to e hF; clear e
      refine g_goto (Y := YX5_take) (pc := 41) (tgt := 15) dX5_take_41 rfl ?_
      refine g_loc [1, 2, 0] rfl ?_
      exact ih _ _ hF
def f_X5_take_0 (q : Nat) (M : Mem) : Option (Int32 × Mem) :=
  vl ((if (M 1 1) < (6 : Int32) then (M 1 1) else (6 : Int32))) fun v1 =>
  ml (up M q 1 v1) fun M2 =>
  f_X5_take_15 q FU 0 M2
set_option maxRecDepth 100000 in
theorem w_X5_take_0 {R : Int32} {M' : Mem} {q : Nat} (hq : isOr q) (M : Mem) (hF : f_X5_take_0 q  M = some (R, M')) : RunF l D cy ad none YX5_take 2 0 0 none (lay X M') 0 0 0 [(0, .ref q), (1, .ref 1)] [] (lay X M) := by
  unfold f_X5_take_0 at hF
  refine g_aload_n (Y := YX5_take) (pc := 0) 0 dX5_take_0 rfl ?_
  refine g_bipush (Y := YX5_take) (pc := 1) dX5_take_1 kB_6 ?_
  refine g_aload_n (Y := YX5_take) (pc := 3) 1 dX5_take_3 rfl ?_
  refine u_getI (Y := YX5_take) (pc := 4) dX5_take_4 fl_X5_29 k_1 ?_
  refine s_min (Y := YX5_take) (pc := 7) dX5_take_7 lk_X5_34 w_min (Nat.le_of_ble_eq_true rfl) (Nat.le_of_ble_eq_true rfl) ?_
  refine g_nm (fun v1 e => ?_)
  replace hF := vl_to e hF; clear e
  refine u_putI (Y := YX5_take) (pc := 10) dX5_take_10 fl_X5_15  (or_k hq) ?_
  refine g_nmM (fun M2 e => ?_)
  replace hF := ml_to e hF; clear e
  refine g_iconst (Y := YX5_take) (pc := 13) dX5_take_13 kI_0 ?_
  refine g_istore_n (Y := YX5_take) (pc := 14) (L' := [(2, .int 0), (0, .ref q), (1, .ref 1)]) dX5_take_14 (Nat.le_of_ble_eq_true rfl) rfl ?_
  refine g_loc [1, 2, 0] rfl ?_
  exact w_X5_take_15 hq _ _ _ hF
def f_X5_take (q : Nat) (M : Mem) : Option (Int32 × Mem) := f_X5_take_0 q M
theorem r_X5_take {q : Nat} {R : Int32} {M M' : Mem} (hq : isOr q) (hF : f_X5_take q M = some (R, M')) : RunS l D cy ad YX5_take 2 [.ref q, .ref 1] X M none M' := Run.of 1 (miX5_take).1 (Nat.le_of_ble_eq_true rfl) (w_X5_take_0 hq _ hF)
def f_X5_bits_4 (q : Nat) : Nat → Int32 → Int32 → Mem → Option (Int32 × Mem)
  | 0, _, _, _ => none
  | n + 1, x1, x2, M =>
    if x2 < (M q 1) then
      gd (0 ≤ x2 ∧ x2.toNatClampNeg < 6) <|
      vl ((1 <<< ((M (q + 1) x2.toNatClampNeg) &&& 31))) fun v3 =>
      vl ((x1 ||| v3)) fun v4 =>
      vl (x2 + 1) fun v5 =>
      f_X5_bits_4 q n v4 v5 M
    else
      some (x1, M)
set_option maxRecDepth 100000 in
theorem w_X5_bits_4 {R : Int32} {M' : Mem} {q : Nat} (hq : isOr q) : ∀ (n : Nat) (x1 x2 : Int32) (M : Mem), f_X5_bits_4 q n x1 x2 M = some (R, M') → RunF l D cy ad none YX5_bits 0 0 0 (some (.int R)) (lay X M') 0 0 4 [(0, .ref q), (1, .int x1), (2, .int x2)] [] (lay X M) := by
  intro n
  induction n with
  | zero => intro x1 x2 M hF; exact absurd hF (by unfold f_X5_bits_4; exact fun h => nomatch h)
  | succ n ih =>
    intro x1 x2 M hF
    unfold f_X5_bits_4 at hF
    refine g_iload_n (Y := YX5_bits) (pc := 4) 2 dX5_bits_4 rfl ?_
    refine g_aload_n (Y := YX5_bits) (pc := 5) 0 dX5_bits_5 rfl ?_
    refine u_getI (Y := YX5_bits) (pc := 6) dX5_bits_6 fl_X5_15 (or_k hq) ?_
    refine g_icmp_ge (Y := YX5_bits) (pc := 9) (tgt := 29) dX5_bits_9 rfl (fun c1 => ?_) (fun c1 => ?_)
    · replace hF := if_f c1 hF
      refine g_iload_n (Y := YX5_bits) (pc := 29) 1 dX5_bits_29 rfl ?_
      exact s_iret (Y := YX5_bits) (pc := 30) dX5_bits_30 rfl hF
    · replace hF := if_t c1 hF
      refine g_iload_n (Y := YX5_bits) (pc := 12) 1 dX5_bits_12 rfl ?_
      refine g_iconst (Y := YX5_bits) (pc := 13) dX5_bits_13 kI_1 ?_
      refine g_aload_n (Y := YX5_bits) (pc := 14) 0 dX5_bits_14 rfl ?_
      refine u_getR (Y := YX5_bits) (pc := 15) (j := (q + 1)) dX5_bits_15 fl_X5_9 (or_k hq) (or_r0 hq) ?_
      refine g_iload_n (Y := YX5_bits) (pc := 18) 2 dX5_bits_18 rfl ?_
      obtain ⟨g2, hF⟩ := gd_some hF
      refine s_iald (Y := YX5_bits) (pc := 19) dX5_bits_19 (or_k1 hq) (or_n1 hq) g2 ?_
      refine g_ishl (Y := YX5_bits) (pc := 20) dX5_bits_20 ?_
      refine g_nm (fun v3 e => ?_)
      replace hF := vl_to e hF; clear e
      refine g_ior (Y := YX5_bits) (pc := 21) dX5_bits_21 ?_
      refine g_nm (fun v4 e => ?_)
      replace hF := vl_to e hF; clear e
      refine g_istore_n (Y := YX5_bits) (pc := 22) (L' := [(1, .int v4), (0, .ref q), (2, .int x2)]) dX5_bits_22 (Nat.le_of_ble_eq_true rfl) rfl ?_
      refine s_iinc (Y := YX5_bits) (pc := 23) (j := 2) (L' := fun y => [(2, .int y), (1, .int v4), (0, .ref q)]) dX5_bits_23 kI_1 rfl (Nat.le_of_ble_eq_true rfl) (fun _ => rfl) (fun v5 e => ?_)
      replace hF := vl_to e hF; clear e
      refine g_goto (Y := YX5_bits) (pc := 26) (tgt := 4) dX5_bits_26 rfl ?_
      refine g_loc [2, 1, 0] rfl ?_
      exact ih _ _ _ hF
def f_X5_bits_0 (q : Nat) (M : Mem) : Option (Int32 × Mem) :=
  f_X5_bits_4 q FU 0 0 M
set_option maxRecDepth 100000 in
theorem w_X5_bits_0 {R : Int32} {M' : Mem} {q : Nat} (hq : isOr q) (M : Mem) (hF : f_X5_bits_0 q  M = some (R, M')) : RunF l D cy ad none YX5_bits 0 0 0 (some (.int R)) (lay X M') 0 0 0 [(0, .ref q)] [] (lay X M) := by
  unfold f_X5_bits_0 at hF
  refine g_iconst (Y := YX5_bits) (pc := 0) dX5_bits_0 kI_0 ?_
  refine g_istore_n (Y := YX5_bits) (pc := 1) (L' := [(1, .int 0), (0, .ref q)]) dX5_bits_1 (Nat.le_of_ble_eq_true rfl) rfl ?_
  refine g_iconst (Y := YX5_bits) (pc := 2) dX5_bits_2 kI_0 ?_
  refine g_istore_n (Y := YX5_bits) (pc := 3) (L' := [(2, .int 0), (1, .int 0), (0, .ref q)]) dX5_bits_3 (Nat.le_of_ble_eq_true rfl) rfl ?_
  refine g_loc [2, 1, 0] rfl ?_
  exact w_X5_bits_4 hq _ _ _ _ hF
def f_X5_bits (q : Nat) (M : Mem) : Option (Int32 × Mem) := f_X5_bits_0 q M
theorem r_X5_bits {q : Nat} {R : Int32} {M M' : Mem} (hq : isOr q) (hF : f_X5_bits q M = some (R, M')) : RunS l D cy ad YX5_bits 0 [.ref q] X M (some (.int R)) M' := Run.of 0 (miX5_bits).1 (Nat.le_of_ble_eq_true rfl) (w_X5_bits_0 hq _ hF)
def f_X10_areThere_19  (t0 : Int32) (M : Mem) : Option (Int32 × Mem) :=
  gd (t0 = 0 ∨ t0 = 1) <|
  some (t0, M)
set_option maxRecDepth 100000 in
theorem w_X10_areThere_19 {R : Int32} {M' : Mem}  (t0 : Int32) (M : Mem) (hF : f_X10_areThere_19 t0 M = some (R, M')) : RunF l D cy ad none YX10_areThere 1 0 0 (some (.int R)) (lay X M') 0 0 19 [] [.int t0] (lay X M) := by
  unfold f_X10_areThere_19 at hF
  obtain ⟨g5, hF⟩ := gd_some hF
  exact s_zret (Y := YX10_areThere) (pc := 19) dX10_areThere_19 rfl g5 hF
def f_X10_areThere_0  (x1 : Int32) (M : Mem) : Option (Int32 × Mem) :=
  bd (f_X1_everybody M) fun r1 M2 =>
  if (x1 &&& (r1 ^^^ (-1))) = 0 then
    f_X10_areThere_19 1 M2
  else
    f_X10_areThere_19 0 M2
set_option maxRecDepth 100000 in
theorem w_X10_areThere_0 {R : Int32} {M' : Mem}  (x1 : Int32) (M : Mem) (hF : f_X10_areThere_0 x1 M = some (R, M')) : RunF l D cy ad none YX10_areThere 1 0 0 (some (.int R)) (lay X M') 0 0 0 [(0, .ref 0), (1, .int x1)] [] (lay X M) := by
  unfold f_X10_areThere_0 at hF
  refine g_iload_n (Y := YX10_areThere) (pc := 0) 1 dX10_areThere_0 rfl ?_
  refine g_aload_n (Y := YX10_areThere) (pc := 1) 0 dX10_areThere_1 rfl ?_
  refine u_getR (Y := YX10_areThere) (pc := 2) (j := 3) dX10_areThere_2 fl_X10_19 k_0 rf_0_1 ?_
  obtain ⟨r1, M2, e3, hF⟩ := bd_some hF
  refine s_callVi (Y := YX10_areThere) (pc := 5) (as := []) (st := [.int x1]) (r_X1_everybody  e3) miX1_everybody lk_X10_194 dX10_areThere_5 k_3 rfl (Nat.le_of_ble_eq_true rfl) (Nat.le_of_ble_eq_true rfl) rfl ?_
  clear e3
  refine g_iconst (Y := YX10_areThere) (pc := 8) dX10_areThere_8 kI_m1 ?_
  refine g_ixor (Y := YX10_areThere) (pc := 9) dX10_areThere_9 ?_
  refine g_iand (Y := YX10_areThere) (pc := 10) dX10_areThere_10 ?_
  refine g_if_ne (Y := YX10_areThere) (pc := 11) (tgt := 18) dX10_areThere_11 rfl (fun c4 => ?_) (fun c4 => ?_)
  · replace hF := if_f c4 hF
    refine g_iconst (Y := YX10_areThere) (pc := 18) dX10_areThere_18 kI_0 ?_
    refine g_loc [] rfl ?_
    exact w_X10_areThere_19  _ _ hF
  · replace hF := if_t c4 hF
    refine g_iconst (Y := YX10_areThere) (pc := 14) dX10_areThere_14 kI_1 ?_
    refine g_goto (Y := YX10_areThere) (pc := 15) (tgt := 19) dX10_areThere_15 rfl ?_
    refine g_loc [] rfl ?_
    exact w_X10_areThere_19  _ _ hF
def f_X10_areThere (x1 : Int32) (M : Mem) : Option (Int32 × Mem) := f_X10_areThere_0 x1 M
theorem r_X10_areThere {x1 R : Int32} {M M' : Mem}  (hF : f_X10_areThere x1 M = some (R, M')) : RunS l D cy ad YX10_areThere 1 [.ref 0, .int x1] X M (some (.int R)) M' := Run.of 1 (miX10_areThere).1 (Nat.le_of_ble_eq_true rfl) (w_X10_areThere_0  _ _ hF)
def f_X10_areOutside_39  (t0 : Int32) (M : Mem) : Option (Int32 × Mem) :=
  gd (t0 = 0 ∨ t0 = 1) <|
  some (t0, M)
set_option maxRecDepth 100000 in
theorem w_X10_areOutside_39 {R : Int32} {M' : Mem}  (t0 : Int32) (M : Mem) (hF : f_X10_areOutside_39 t0 M = some (R, M')) : RunF l D cy ad none YX10_areOutside 2 0 0 (some (.int R)) (lay X M') 0 0 39 [] [.int t0] (lay X M) := by
  unfold f_X10_areOutside_39 at hF
  obtain ⟨g9, hF⟩ := gd_some hF
  exact s_zret (Y := YX10_areOutside) (pc := 39) dX10_areOutside_39 rfl g9 hF
def f_X10_areOutside_38  (M : Mem) : Option (Int32 × Mem) :=
  f_X10_areOutside_39 0 M
set_option maxRecDepth 100000 in
theorem w_X10_areOutside_38 {R : Int32} {M' : Mem}  (M : Mem) (hF : f_X10_areOutside_38  M = some (R, M')) : RunF l D cy ad none YX10_areOutside 2 0 0 (some (.int R)) (lay X M') 0 0 38 [] [] (lay X M) := by
  unfold f_X10_areOutside_38 at hF
  refine g_iconst (Y := YX10_areOutside) (pc := 38) dX10_areOutside_38 kI_0 ?_
  exact w_X10_areOutside_39  _ _ hF
def f_X10_areOutside_0  (x1 : Int32) (M : Mem) : Option (Int32 × Mem) :=
  bd (f_X7_bitsInside 26 M) fun r1 M2 =>
  bd (f_X7_bitsThrough 26 M2) fun r4 M5 =>
  vl ((r1 ||| r4)) fun v7 =>
  if x1 = 0 then
    f_X10_areOutside_38 M5
  else
    bd (f_X10_areThere x1 M5) fun r10 M11 =>
    if r10 = 0 then
      f_X10_areOutside_38 M11
    else
      if (x1 &&& v7) = 0 then
        f_X10_areOutside_39 1 M11
      else
        f_X10_areOutside_38 M11
set_option maxRecDepth 100000 in
theorem w_X10_areOutside_0 {R : Int32} {M' : Mem}  (x1 : Int32) (M : Mem) (hF : f_X10_areOutside_0 x1 M = some (R, M')) : RunF l D cy ad none YX10_areOutside 2 0 0 (some (.int R)) (lay X M') 0 0 0 [(0, .ref 0), (1, .int x1)] [] (lay X M) := by
  unfold f_X10_areOutside_0 at hF
  refine g_aload_n (Y := YX10_areOutside) (pc := 0) 0 dX10_areOutside_0 rfl ?_
  refine u_getR (Y := YX10_areOutside) (pc := 1) (j := 26) dX10_areOutside_1 fl_X10_35 k_0 rf_0_3 ?_
  obtain ⟨r1, M2, e3, hF⟩ := bd_some hF
  refine s_callVi (Y := YX10_areOutside) (pc := 4) (as := []) (st := []) (r_X7_bitsInside isSt_26 e3) miX7_bitsInside lk_X10_222 dX10_areOutside_4 k_26 rfl (Nat.le_of_ble_eq_true rfl) (Nat.le_of_ble_eq_true rfl) rfl ?_
  clear e3
  refine g_aload_n (Y := YX10_areOutside) (pc := 7) 0 dX10_areOutside_7 rfl ?_
  refine u_getR (Y := YX10_areOutside) (pc := 8) (j := 26) dX10_areOutside_8 fl_X10_35 k_0 rf_0_3 ?_
  obtain ⟨r4, M5, e6, hF⟩ := bd_some hF
  refine s_callVi (Y := YX10_areOutside) (pc := 11) (as := []) (st := [.int r1]) (r_X7_bitsThrough isSt_26 e6) miX7_bitsThrough lk_X10_240 dX10_areOutside_11 k_26 rfl (Nat.le_of_ble_eq_true rfl) (Nat.le_of_ble_eq_true rfl) rfl ?_
  clear e6
  refine g_ior (Y := YX10_areOutside) (pc := 14) dX10_areOutside_14 ?_
  refine g_nm (fun v7 e => ?_)
  replace hF := vl_to e hF; clear e
  refine g_istore_n (Y := YX10_areOutside) (pc := 15) (L' := [(2, .int v7), (0, .ref 0), (1, .int x1)]) dX10_areOutside_15 (Nat.le_of_ble_eq_true rfl) rfl ?_
  refine g_iload_n (Y := YX10_areOutside) (pc := 16) 2 dX10_areOutside_16 rfl ?_
  refine g_if_eq (Y := YX10_areOutside) (pc := 17) (tgt := 38) dX10_areOutside_17 rfl (fun c8 => ?_) (fun c8 => ?_)
  · replace hF := if_t c8 hF
    refine g_loc [] rfl ?_
    exact w_X10_areOutside_38  _ hF
  · replace hF := if_f c8 hF
    refine g_aload_n (Y := YX10_areOutside) (pc := 20) 1 dX10_areOutside_20 rfl ?_
    refine g_iload_n (Y := YX10_areOutside) (pc := 21) 2 dX10_areOutside_21 rfl ?_
    obtain ⟨r10, M11, e12, hF⟩ := bd_some hF
    refine s_callVi (Y := YX10_areOutside) (pc := 22) (as := [.int x1]) (st := []) (r_X10_areThere  e12) miX10_areThere lk_X10_336 dX10_areOutside_22 k_0 rfl (Nat.le_of_ble_eq_true rfl) (Nat.le_of_ble_eq_true rfl) rfl ?_
    clear e12
    refine g_if_eq (Y := YX10_areOutside) (pc := 25) (tgt := 38) dX10_areOutside_25 rfl (fun c13 => ?_) (fun c13 => ?_)
    · replace hF := if_t c13 hF
      refine g_loc [] rfl ?_
      exact w_X10_areOutside_38  _ hF
    · replace hF := if_f c13 hF
      refine g_iload_n (Y := YX10_areOutside) (pc := 28) 2 dX10_areOutside_28 rfl ?_
      refine g_iload_n (Y := YX10_areOutside) (pc := 29) 0 dX10_areOutside_29 rfl ?_
      refine g_iand (Y := YX10_areOutside) (pc := 30) dX10_areOutside_30 ?_
      refine g_if_ne (Y := YX10_areOutside) (pc := 31) (tgt := 38) dX10_areOutside_31 rfl (fun c14 => ?_) (fun c14 => ?_)
      · replace hF := if_f c14 hF
        refine g_loc [] rfl ?_
        exact w_X10_areOutside_38  _ hF
      · replace hF := if_t c14 hF
        refine g_iconst (Y := YX10_areOutside) (pc := 34) dX10_areOutside_34 kI_1 ?_
        refine g_goto (Y := YX10_areOutside) (pc := 35) (tgt := 39) dX10_areOutside_35 rfl ?_
        refine g_loc [] rfl ?_
        exact w_X10_areOutside_39  _ _ hF
def f_X10_areOutside (x1 : Int32) (M : Mem) : Option (Int32 × Mem) := f_X10_areOutside_0 x1 M
theorem r_X10_areOutside {x1 R : Int32} {M M' : Mem}  (hF : f_X10_areOutside x1 M = some (R, M')) : RunS l D cy ad YX10_areOutside 2 [.ref 0, .int x1] X M (some (.int R)) M' := Run.of 1 (miX10_areOutside).1 (Nat.le_of_ble_eq_true rfl) (w_X10_areOutside_0  _ _ hF)
def f_X9_begin_0 (s1 : Nat) (x2 : Int32) (M : Mem) : Option (Int32 × Mem) :=
  gd (0 ≤ (0 : Int32) ∧ (0 : Int32).toNatClampNeg < 7) <|
  bd (f_X7_copy (130 + 5 * (0 : Int32).toNatClampNeg) s1 M) fun _ M3 =>
  ml (up M3 128 5 (M3 s1 0)) fun M5 =>
  gd (x2 = 0 ∨ x2 = 1) <|
  ml (up M5 128 3 x2) fun M7 =>
  ml (up M7 128 4 (-1)) fun M8 =>
  some (0, M8)
set_option maxRecDepth 100000 in
theorem w_X9_begin_0 {R : Int32} {M' : Mem} {s1 : Nat} (hs1 : isSt s1) (x2 : Int32) (M : Mem) (hF : f_X9_begin_0 s1 x2 M = some (R, M')) : RunF l D cy ad none YX9_begin 2 0 0 none (lay X M') 0 0 0 [(0, .ref 128), (1, .ref s1), (2, .int x2)] [] (lay X M) := by
  unfold f_X9_begin_0 at hF
  refine g_aload_n (Y := YX9_begin) (pc := 0) 0 dX9_begin_0 rfl ?_
  refine u_getR (Y := YX9_begin) (pc := 1) (j := 129) dX9_begin_1 fl_X9_21 k_128 rf_128_2 ?_
  refine g_iconst (Y := YX9_begin) (pc := 4) dX9_begin_4 kI_0 ?_
  obtain ⟨g1, hF⟩ := gd_some hF
  refine s_aaldS (Y := YX9_begin) (pc := 5) dX9_begin_5 k_129 n_129 g1 (aft_r g1.2) ?_
  refine g_aload_n (Y := YX9_begin) (pc := 6) 1 dX9_begin_6 rfl ?_
  obtain ⟨r2, M3, e4, hF⟩ := bd_some hF
  refine s_callVv (Y := YX9_begin) (pc := 7) (as := [.ref s1]) (st := []) (r_X7_copy (aft_all _ g1.2).2 hs1 e4) miX7_copy lk_X9_34 dX9_begin_7 (st_k (aft_all _ g1.2).2) rfl (Nat.le_of_ble_eq_true rfl) (Nat.le_of_ble_eq_true rfl) rfl ?_
  clear e4
  refine g_aload_n (Y := YX9_begin) (pc := 10) 0 dX9_begin_10 rfl ?_
  refine g_aload_n (Y := YX9_begin) (pc := 11) 1 dX9_begin_11 rfl ?_
  refine u_getI (Y := YX9_begin) (pc := 12) dX9_begin_12 fl_X9_38 (st_k hs1) ?_
  refine u_putI (Y := YX9_begin) (pc := 15) dX9_begin_15 fl_X9_41  k_128 ?_
  refine g_nmM (fun M5 e => ?_)
  replace hF := ml_to e hF; clear e
  refine g_aload_n (Y := YX9_begin) (pc := 18) 0 dX9_begin_18 rfl ?_
  refine g_iload_n (Y := YX9_begin) (pc := 19) 2 dX9_begin_19 rfl ?_
  obtain ⟨g6, hF⟩ := gd_some hF
  refine u_putZ (Y := YX9_begin) (pc := 20) dX9_begin_20 fl_X9_44 g6 k_128 ?_
  refine g_nmM (fun M7 e => ?_)
  replace hF := ml_to e hF; clear e
  refine g_aload_n (Y := YX9_begin) (pc := 23) 0 dX9_begin_23 rfl ?_
  refine g_iconst (Y := YX9_begin) (pc := 24) dX9_begin_24 kI_m1 ?_
  refine u_putI (Y := YX9_begin) (pc := 25) dX9_begin_25 fl_X9_30  k_128 ?_
  refine g_nmM (fun M8 e => ?_)
  replace hF := ml_to e hF; clear e
  exact s_vret (Y := YX9_begin) (pc := 28) dX9_begin_28 rfl hF
def f_X9_begin (s1 : Nat) (x2 : Int32) (M : Mem) : Option (Int32 × Mem) := f_X9_begin_0 s1 x2 M
theorem r_X9_begin {s1 : Nat} {x2 R : Int32} {M M' : Mem} (hs1 : isSt s1) (hF : f_X9_begin s1 x2 M = some (R, M')) : RunS l D cy ad YX9_begin 2 [.ref 128, .ref s1, .int x2] X M none M' := Run.of 2 (miX9_begin).1 (Nat.le_of_ble_eq_true rfl) (w_X9_begin_0 hs1 _ _ hF)
def f_X1_wholeStay_4  : Nat → Int32 → Int32 → Int32 → Mem → Option (Int32 × Mem)
  | 0, _, _, _, _ => none
  | n + 1, x1, x2, x3, M =>
    if x3 < (M 3 0) then
      gd (0 ≤ x1 ∧ x1.toNatClampNeg < 6) <|
      gd (0 ≤ x3 ∧ x3.toNatClampNeg < 6) <|
      vl ((x2 + (M (17 + x1.toNatClampNeg) x3.toNatClampNeg))) fun v4 =>
      vl (x3 + 1) fun v5 =>
      f_X1_wholeStay_4 n x1 v4 v5 M
    else
      some (x2, M)
set_option maxRecDepth 100000 in
theorem w_X1_wholeStay_4 {R : Int32} {M' : Mem}  : ∀ (n : Nat) (x1 x2 x3 : Int32) (M : Mem), f_X1_wholeStay_4 n x1 x2 x3 M = some (R, M') → RunF l D cy ad none YX1_wholeStay 0 0 0 (some (.int R)) (lay X M') 0 0 4 [(0, .ref 3), (1, .int x1), (2, .int x2), (3, .int x3)] [] (lay X M) := by
  intro n
  induction n with
  | zero => intro x1 x2 x3 M hF; exact absurd hF (by unfold f_X1_wholeStay_4; exact fun h => nomatch h)
  | succ n ih =>
    intro x1 x2 x3 M hF
    unfold f_X1_wholeStay_4 at hF
    refine g_iload_n (Y := YX1_wholeStay) (pc := 4) 3 dX1_wholeStay_4 rfl ?_
    refine g_aload_n (Y := YX1_wholeStay) (pc := 5) 0 dX1_wholeStay_5 rfl ?_
    refine u_getI (Y := YX1_wholeStay) (pc := 6) dX1_wholeStay_6 fl_X1_9 k_3 ?_
    refine g_icmp_ge (Y := YX1_wholeStay) (pc := 9) (tgt := 29) dX1_wholeStay_9 rfl (fun c1 => ?_) (fun c1 => ?_)
    · replace hF := if_f c1 hF
      refine g_iload_n (Y := YX1_wholeStay) (pc := 29) 2 dX1_wholeStay_29 rfl ?_
      exact s_iret (Y := YX1_wholeStay) (pc := 30) dX1_wholeStay_30 rfl hF
    · replace hF := if_t c1 hF
      refine g_iload_n (Y := YX1_wholeStay) (pc := 12) 2 dX1_wholeStay_12 rfl ?_
      refine g_aload_n (Y := YX1_wholeStay) (pc := 13) 0 dX1_wholeStay_13 rfl ?_
      refine u_getR (Y := YX1_wholeStay) (pc := 14) (j := 16) dX1_wholeStay_14 fl_X1_42 k_3 rf_3_9 ?_
      refine g_iload_n (Y := YX1_wholeStay) (pc := 17) 1 dX1_wholeStay_17 rfl ?_
      obtain ⟨g2, hF⟩ := gd_some hF
      refine s_aaldA (Y := YX1_wholeStay) (pc := 18) dX1_wholeStay_18 k_16 n_16 g2 (stay_r g2.2) ?_
      refine g_iload_n (Y := YX1_wholeStay) (pc := 19) 3 dX1_wholeStay_19 rfl ?_
      obtain ⟨g3, hF⟩ := gd_some hF
      refine s_iald (Y := YX1_wholeStay) (pc := 20) dX1_wholeStay_20 (stay_all _ g2.2).2.1 (stay_all _ g2.2).2.2 g3 ?_
      refine g_iadd (Y := YX1_wholeStay) (pc := 21) dX1_wholeStay_21 ?_
      refine g_nm (fun v4 e => ?_)
      replace hF := vl_to e hF; clear e
      refine g_istore_n (Y := YX1_wholeStay) (pc := 22) (L' := [(2, .int v4), (0, .ref 3), (1, .int x1), (3, .int x3)]) dX1_wholeStay_22 (Nat.le_of_ble_eq_true rfl) rfl ?_
      refine s_iinc (Y := YX1_wholeStay) (pc := 23) (j := 3) (L' := fun y => [(3, .int y), (2, .int v4), (0, .ref 3), (1, .int x1)]) dX1_wholeStay_23 kI_1 rfl (Nat.le_of_ble_eq_true rfl) (fun _ => rfl) (fun v5 e => ?_)
      replace hF := vl_to e hF; clear e
      refine g_goto (Y := YX1_wholeStay) (pc := 26) (tgt := 4) dX1_wholeStay_26 rfl ?_
      refine g_loc [2, 3, 1, 0] rfl ?_
      exact ih _ _ _ _ hF
def f_X1_wholeStay_0  (x1 : Int32) (M : Mem) : Option (Int32 × Mem) :=
  f_X1_wholeStay_4 FU x1 0 0 M
set_option maxRecDepth 100000 in
theorem w_X1_wholeStay_0 {R : Int32} {M' : Mem}  (x1 : Int32) (M : Mem) (hF : f_X1_wholeStay_0 x1 M = some (R, M')) : RunF l D cy ad none YX1_wholeStay 0 0 0 (some (.int R)) (lay X M') 0 0 0 [(0, .ref 3), (1, .int x1)] [] (lay X M) := by
  unfold f_X1_wholeStay_0 at hF
  refine g_iconst (Y := YX1_wholeStay) (pc := 0) dX1_wholeStay_0 kI_0 ?_
  refine g_istore_n (Y := YX1_wholeStay) (pc := 1) (L' := [(2, .int 0), (0, .ref 3), (1, .int x1)]) dX1_wholeStay_1 (Nat.le_of_ble_eq_true rfl) rfl ?_
  refine g_iconst (Y := YX1_wholeStay) (pc := 2) dX1_wholeStay_2 kI_0 ?_
  refine g_istore_n (Y := YX1_wholeStay) (pc := 3) (L' := [(3, .int 0), (2, .int 0), (0, .ref 3), (1, .int x1)]) dX1_wholeStay_3 (Nat.le_of_ble_eq_true rfl) rfl ?_
  refine g_loc [2, 3, 1, 0] rfl ?_
  exact w_X1_wholeStay_4  _ _ _ _ _ hF
def f_X1_wholeStay (x1 : Int32) (M : Mem) : Option (Int32 × Mem) := f_X1_wholeStay_0 x1 M
theorem r_X1_wholeStay {x1 R : Int32} {M M' : Mem}  (hF : f_X1_wholeStay x1 M = some (R, M')) : RunS l D cy ad YX1_wholeStay 0 [.ref 3, .int x1] X M (some (.int R)) M' := Run.of 1 (miX1_wholeStay).1 (Nat.le_of_ble_eq_true rfl) (w_X1_wholeStay_0  _ _ hF)
def f_X0_nextBehind_37 (K8 : Int32 → Int32 → Int32 → Mem → Option (Int32 × Mem)) (x1 : Int32) (x2 : Int32) (x3 : Int32) (M : Mem) : Option (Int32 × Mem) :=
  vl (x3 + 1) fun v5 =>
  K8 x1 x2 v5 M
set_option maxRecDepth 100000 in
theorem w_X0_nextBehind_37 {R : Int32} {M' : Mem} {K8 : Int32 → Int32 → Int32 → Mem → Option (Int32 × Mem)} (hK8 : ∀ (x1 x2 x3 : Int32) (M : Mem), K8 x1 x2 x3 M = some (R, M') → RunF l D cy ad none YX0_nextBehind 1 0 0 (some (.int R)) (lay X M') 0 0 8 [(0, .ref 120), (1, .int x1), (2, .int x2), (3, .int x3)] [] (lay X M)) (x1 x2 x3 : Int32) (M : Mem) (hF : f_X0_nextBehind_37 K8 x1 x2 x3 M = some (R, M')) : RunF l D cy ad none YX0_nextBehind 1 0 0 (some (.int R)) (lay X M') 0 0 37 [(0, .ref 120), (1, .int x1), (2, .int x2), (3, .int x3)] [] (lay X M) := by
  unfold f_X0_nextBehind_37 at hF
  refine s_iinc (Y := YX0_nextBehind) (pc := 37) (j := 3) (L' := fun y => [(3, .int y), (0, .ref 120), (1, .int x1), (2, .int x2)]) dX0_nextBehind_37 kI_1 rfl (Nat.le_of_ble_eq_true rfl) (fun _ => rfl) (fun v5 e => ?_)
  replace hF := vl_to e hF; clear e
  refine g_goto (Y := YX0_nextBehind) (pc := 40) (tgt := 8) dX0_nextBehind_40 rfl ?_
  refine g_loc [1, 2, 3, 0] rfl ?_
  exact hK8 _ _ _ _ hF
def f_X0_nextBehind_8  : Nat → Int32 → Int32 → Int32 → Mem → Option (Int32 × Mem)
  | 0, _, _, _, _ => none
  | n + 1, x1, x2, x3, M =>
    if x3 < (M 120 3) then
      gd (0 ≤ x3 ∧ x3.toNatClampNeg < 12) <|
      if x1 < (M 122 x3.toNatClampNeg) then
        gd (0 ≤ x3 ∧ x3.toNatClampNeg < 12) <|
        vl ((if (M 122 x3.toNatClampNeg) < x2 then (M 122 x3.toNatClampNeg) else x2)) fun v7 =>
        f_X0_nextBehind_37 (f_X0_nextBehind_8 n) x1 v7 x3 M
      else
        f_X0_nextBehind_37 (f_X0_nextBehind_8 n) x1 x2 x3 M
    else
      some (x2, M)
set_option maxRecDepth 100000 in
theorem w_X0_nextBehind_8 {R : Int32} {M' : Mem}  : ∀ (n : Nat) (x1 x2 x3 : Int32) (M : Mem), f_X0_nextBehind_8 n x1 x2 x3 M = some (R, M') → RunF l D cy ad none YX0_nextBehind 1 0 0 (some (.int R)) (lay X M') 0 0 8 [(0, .ref 120), (1, .int x1), (2, .int x2), (3, .int x3)] [] (lay X M) := by
  intro n
  induction n with
  | zero => intro x1 x2 x3 M hF; exact absurd hF (by unfold f_X0_nextBehind_8; exact fun h => nomatch h)
  | succ n ih =>
    intro x1 x2 x3 M hF
    unfold f_X0_nextBehind_8 at hF
    refine g_iload_n (Y := YX0_nextBehind) (pc := 8) 3 dX0_nextBehind_8 rfl ?_
    refine g_aload_n (Y := YX0_nextBehind) (pc := 9) 0 dX0_nextBehind_9 rfl ?_
    refine u_getI (Y := YX0_nextBehind) (pc := 10) dX0_nextBehind_10 fl_X0_21 k_120 ?_
    refine g_icmp_ge (Y := YX0_nextBehind) (pc := 13) (tgt := 43) dX0_nextBehind_13 rfl (fun c2 => ?_) (fun c2 => ?_)
    · replace hF := if_f c2 hF
      refine g_iload_n (Y := YX0_nextBehind) (pc := 43) 2 dX0_nextBehind_43 rfl ?_
      exact s_iret (Y := YX0_nextBehind) (pc := 44) dX0_nextBehind_44 rfl hF
    · replace hF := if_t c2 hF
      refine g_aload_n (Y := YX0_nextBehind) (pc := 16) 0 dX0_nextBehind_16 rfl ?_
      refine u_getR (Y := YX0_nextBehind) (pc := 17) (j := 122) dX0_nextBehind_17 fl_X0_15 k_120 rf_120_1 ?_
      refine g_iload_n (Y := YX0_nextBehind) (pc := 20) 3 dX0_nextBehind_20 rfl ?_
      obtain ⟨g3, hF⟩ := gd_some hF
      refine s_iald (Y := YX0_nextBehind) (pc := 21) dX0_nextBehind_21 k_122 n_122 g3 ?_
      refine g_iload_n (Y := YX0_nextBehind) (pc := 22) 1 dX0_nextBehind_22 rfl ?_
      refine g_icmp_le (Y := YX0_nextBehind) (pc := 23) (tgt := 37) dX0_nextBehind_23 rfl (fun c4 => ?_) (fun c4 => ?_)
      · replace hF := if_f c4 hF
        exact w_X0_nextBehind_37 ih _ _ _ _ hF
      · replace hF := if_t c4 hF
        refine g_iload_n (Y := YX0_nextBehind) (pc := 26) 2 dX0_nextBehind_26 rfl ?_
        refine g_aload_n (Y := YX0_nextBehind) (pc := 27) 0 dX0_nextBehind_27 rfl ?_
        refine u_getR (Y := YX0_nextBehind) (pc := 28) (j := 122) dX0_nextBehind_28 fl_X0_15 k_120 rf_120_1 ?_
        refine g_iload_n (Y := YX0_nextBehind) (pc := 31) 3 dX0_nextBehind_31 rfl ?_
        obtain ⟨g6, hF⟩ := gd_some hF
        refine s_iald (Y := YX0_nextBehind) (pc := 32) dX0_nextBehind_32 k_122 n_122 g6 ?_
        refine s_min (Y := YX0_nextBehind) (pc := 33) dX0_nextBehind_33 lk_X0_31 w_min (Nat.le_of_ble_eq_true rfl) (Nat.le_of_ble_eq_true rfl) ?_
        refine g_nm (fun v7 e => ?_)
        replace hF := vl_to e hF; clear e
        refine g_istore_n (Y := YX0_nextBehind) (pc := 36) (L' := [(2, .int v7), (0, .ref 120), (1, .int x1), (3, .int x3)]) dX0_nextBehind_36 (Nat.le_of_ble_eq_true rfl) rfl ?_
        refine g_loc [1, 2, 0, 3] rfl ?_
        exact w_X0_nextBehind_37 ih _ _ _ _ hF
def f_X0_nextBehind_0  (x1 : Int32) (M : Mem) : Option (Int32 × Mem) :=
  vl ((x1 + 400)) fun v1 =>
  f_X0_nextBehind_8 FU x1 v1 0 M
set_option maxRecDepth 100000 in
theorem w_X0_nextBehind_0 {R : Int32} {M' : Mem}  (x1 : Int32) (M : Mem) (hF : f_X0_nextBehind_0 x1 M = some (R, M')) : RunF l D cy ad none YX0_nextBehind 1 0 0 (some (.int R)) (lay X M') 0 0 0 [(0, .ref 120), (1, .int x1)] [] (lay X M) := by
  unfold f_X0_nextBehind_0 at hF
  refine g_iload_n (Y := YX0_nextBehind) (pc := 0) 1 dX0_nextBehind_0 rfl ?_
  refine g_sipush (Y := YX0_nextBehind) (pc := 1) dX0_nextBehind_1 kS_400 ?_
  refine g_iadd (Y := YX0_nextBehind) (pc := 4) dX0_nextBehind_4 ?_
  refine g_nm (fun v1 e => ?_)
  replace hF := vl_to e hF; clear e
  refine g_istore_n (Y := YX0_nextBehind) (pc := 5) (L' := [(2, .int v1), (0, .ref 120), (1, .int x1)]) dX0_nextBehind_5 (Nat.le_of_ble_eq_true rfl) rfl ?_
  refine g_iconst (Y := YX0_nextBehind) (pc := 6) dX0_nextBehind_6 kI_0 ?_
  refine g_istore_n (Y := YX0_nextBehind) (pc := 7) (L' := [(3, .int 0), (2, .int v1), (0, .ref 120), (1, .int x1)]) dX0_nextBehind_7 (Nat.le_of_ble_eq_true rfl) rfl ?_
  refine g_loc [2, 3, 1, 0] rfl ?_
  exact w_X0_nextBehind_8  _ _ _ _ _ hF
def f_X0_nextBehind (x1 : Int32) (M : Mem) : Option (Int32 × Mem) := f_X0_nextBehind_0 x1 M
theorem r_X0_nextBehind {x1 R : Int32} {M M' : Mem}  (hF : f_X0_nextBehind x1 M = some (R, M')) : RunS l D cy ad YX0_nextBehind 1 [.ref 120, .int x1] X M (some (.int R)) M' := Run.of 1 (miX0_nextBehind).1 (Nat.le_of_ble_eq_true rfl) (w_X0_nextBehind_0  _ _ hF)
def f_X0_sounds_45 (K17 : Int32 → Int32 → Int32 → Mem → Option (Int32 × Mem)) (x1 : Int32) (x2 : Int32) (x3 : Int32) (M : Mem) : Option (Int32 × Mem) :=
  vl (x3 + 1) fun v7 =>
  K17 x1 x2 v7 M
set_option maxRecDepth 100000 in
theorem w_X0_sounds_45 {R : Int32} {M' : Mem} {K17 : Int32 → Int32 → Int32 → Mem → Option (Int32 × Mem)} (hK17 : ∀ (x1 x2 x3 : Int32) (M : Mem), K17 x1 x2 x3 M = some (R, M') → RunF l D cy ad none YX0_sounds 1 0 0 (some (.int R)) (lay X M') 0 0 17 [(0, .ref 3), (1, .int x1), (2, .int x2), (3, .int x3)] [] (lay X M)) (x1 x2 x3 : Int32) (M : Mem) (hF : f_X0_sounds_45 K17 x1 x2 x3 M = some (R, M')) : RunF l D cy ad none YX0_sounds 1 0 0 (some (.int R)) (lay X M') 0 0 45 [(0, .ref 3), (1, .int x1), (2, .int x2), (3, .int x3)] [] (lay X M) := by
  unfold f_X0_sounds_45 at hF
  refine s_iinc (Y := YX0_sounds) (pc := 45) (j := 3) (L' := fun y => [(3, .int y), (0, .ref 3), (1, .int x1), (2, .int x2)]) dX0_sounds_45 kI_1 rfl (Nat.le_of_ble_eq_true rfl) (fun _ => rfl) (fun v7 e => ?_)
  replace hF := vl_to e hF; clear e
  refine g_goto (Y := YX0_sounds) (pc := 48) (tgt := 17) dX0_sounds_48 rfl ?_
  refine g_loc [1, 2, 3, 0] rfl ?_
  exact hK17 _ _ _ _ hF
def f_X0_sounds_17  : Nat → Int32 → Int32 → Int32 → Mem → Option (Int32 × Mem)
  | 0, _, _, _, _ => none
  | n + 1, x1, x2, x3, M =>
    if x3 < (M 3 2) then
      bd (f_X10_has x1 x3 M) fun r3 M4 =>
      if r3 = 0 then
        f_X0_sounds_45 (f_X0_sounds_17 n) x1 x2 x3 M4
      else
        gd (0 ≤ x3 ∧ x3.toNatClampNeg < 6) <|
        if (M4 5 x3.toNatClampNeg) = x2 then
          some (1, M4)
        else
          f_X0_sounds_45 (f_X0_sounds_17 n) x1 x2 x3 M4
    else
      some (0, M)
set_option maxRecDepth 100000 in
theorem w_X0_sounds_17 {R : Int32} {M' : Mem}  : ∀ (n : Nat) (x1 x2 x3 : Int32) (M : Mem), f_X0_sounds_17 n x1 x2 x3 M = some (R, M') → RunF l D cy ad none YX0_sounds 1 0 0 (some (.int R)) (lay X M') 0 0 17 [(0, .ref 3), (1, .int x1), (2, .int x2), (3, .int x3)] [] (lay X M) := by
  intro n
  induction n with
  | zero => intro x1 x2 x3 M hF; exact absurd hF (by unfold f_X0_sounds_17; exact fun h => nomatch h)
  | succ n ih =>
    intro x1 x2 x3 M hF
    unfold f_X0_sounds_17 at hF
    refine g_iload_n (Y := YX0_sounds) (pc := 17) 3 dX0_sounds_17 rfl ?_
    refine g_aload_n (Y := YX0_sounds) (pc := 18) 0 dX0_sounds_18 rfl ?_
    refine u_getI (Y := YX0_sounds) (pc := 19) dX0_sounds_19 fl_X0_44 k_3 ?_
    refine g_icmp_ge (Y := YX0_sounds) (pc := 22) (tgt := 51) dX0_sounds_22 rfl (fun c2 => ?_) (fun c2 => ?_)
    · replace hF := if_f c2 hF
      refine g_iconst (Y := YX0_sounds) (pc := 51) dX0_sounds_51 kI_0 ?_
      exact s_zret (Y := YX0_sounds) (pc := 52) dX0_sounds_52 rfl (Or.inl rfl) hF
    · replace hF := if_t c2 hF
      refine g_iload_n (Y := YX0_sounds) (pc := 25) 1 dX0_sounds_25 rfl ?_
      refine g_iload_n (Y := YX0_sounds) (pc := 26) 3 dX0_sounds_26 rfl ?_
      obtain ⟨r3, M4, e5, hF⟩ := bd_some hF
      refine s_callNi (Y := YX0_sounds) (pc := 27) (as := [.int x1, .int x3]) (st := []) (r_X10_has  e5) msX10_has nw_X0 dX0_sounds_27 rfl (Nat.le_of_ble_eq_true rfl) (Nat.le_of_ble_eq_true rfl) rfl ?_
      clear e5
      refine g_if_eq (Y := YX0_sounds) (pc := 30) (tgt := 45) dX0_sounds_30 rfl (fun c6 => ?_) (fun c6 => ?_)
      · replace hF := if_t c6 hF
        exact w_X0_sounds_45 ih _ _ _ _ hF
      · replace hF := if_f c6 hF
        refine g_aload_n (Y := YX0_sounds) (pc := 33) 0 dX0_sounds_33 rfl ?_
        refine u_getR (Y := YX0_sounds) (pc := 34) (j := 5) dX0_sounds_34 fl_X0_53 k_3 rf_3_4 ?_
        refine g_iload_n (Y := YX0_sounds) (pc := 37) 3 dX0_sounds_37 rfl ?_
        obtain ⟨g8, hF⟩ := gd_some hF
        refine s_iald (Y := YX0_sounds) (pc := 38) dX0_sounds_38 k_5 n_5 g8 ?_
        refine g_iload_n (Y := YX0_sounds) (pc := 39) 2 dX0_sounds_39 rfl ?_
        refine g_icmp_ne (Y := YX0_sounds) (pc := 40) (tgt := 45) dX0_sounds_40 rfl (fun c9 => ?_) (fun c9 => ?_)
        · replace hF := if_f c9 hF
          exact w_X0_sounds_45 ih _ _ _ _ hF
        · replace hF := if_t c9 hF
          refine g_iconst (Y := YX0_sounds) (pc := 43) dX0_sounds_43 kI_1 ?_
          exact s_zret (Y := YX0_sounds) (pc := 44) dX0_sounds_44 rfl (Or.inr rfl) hF
def f_X0_sounds_14  (t0 : Int32) (M : Mem) : Option (Int32 × Mem) :=
  gd (t0 = 0 ∨ t0 = 1) <|
  some (t0, M)
set_option maxRecDepth 100000 in
theorem w_X0_sounds_14 {R : Int32} {M' : Mem}  (t0 : Int32) (M : Mem) (hF : f_X0_sounds_14 t0 M = some (R, M')) : RunF l D cy ad none YX0_sounds 1 0 0 (some (.int R)) (lay X M') 0 0 14 [] [.int t0] (lay X M) := by
  unfold f_X0_sounds_14 at hF
  obtain ⟨g11, hF⟩ := gd_some hF
  exact s_zret (Y := YX0_sounds) (pc := 14) dX0_sounds_14 rfl g11 hF
def f_X0_sounds_0  (x1 : Int32) (x2 : Int32) (M : Mem) : Option (Int32 × Mem) :=
  if x2 = (-1) then
    if x1 = 0 then
      f_X0_sounds_14 1 M
    else
      f_X0_sounds_14 0 M
  else
    f_X0_sounds_17 FU x1 x2 0 M
set_option maxRecDepth 100000 in
theorem w_X0_sounds_0 {R : Int32} {M' : Mem}  (x1 x2 : Int32) (M : Mem) (hF : f_X0_sounds_0 x1 x2 M = some (R, M')) : RunF l D cy ad none YX0_sounds 1 0 0 (some (.int R)) (lay X M') 0 0 0 [(0, .ref 3), (1, .int x1), (2, .int x2)] [] (lay X M) := by
  unfold f_X0_sounds_0 at hF
  refine g_iload_n (Y := YX0_sounds) (pc := 0) 2 dX0_sounds_0 rfl ?_
  refine g_iconst (Y := YX0_sounds) (pc := 1) dX0_sounds_1 kI_m1 ?_
  refine g_icmp_ne (Y := YX0_sounds) (pc := 2) (tgt := 15) dX0_sounds_2 rfl (fun c1 => ?_) (fun c1 => ?_)
  · replace hF := if_f c1 hF
    refine g_iconst (Y := YX0_sounds) (pc := 15) dX0_sounds_15 kI_0 ?_
    refine g_istore_n (Y := YX0_sounds) (pc := 16) (L' := [(3, .int 0), (0, .ref 3), (1, .int x1), (2, .int x2)]) dX0_sounds_16 (Nat.le_of_ble_eq_true rfl) rfl ?_
    refine g_loc [1, 2, 3, 0] rfl ?_
    exact w_X0_sounds_17  _ _ _ _ _ hF
  · replace hF := if_t c1 hF
    refine g_iload_n (Y := YX0_sounds) (pc := 5) 1 dX0_sounds_5 rfl ?_
    refine g_if_ne (Y := YX0_sounds) (pc := 6) (tgt := 13) dX0_sounds_6 rfl (fun c10 => ?_) (fun c10 => ?_)
    · replace hF := if_f c10 hF
      refine g_iconst (Y := YX0_sounds) (pc := 13) dX0_sounds_13 kI_0 ?_
      refine g_loc [] rfl ?_
      exact w_X0_sounds_14  _ _ hF
    · replace hF := if_t c10 hF
      refine g_iconst (Y := YX0_sounds) (pc := 9) dX0_sounds_9 kI_1 ?_
      refine g_goto (Y := YX0_sounds) (pc := 10) (tgt := 14) dX0_sounds_10 rfl ?_
      refine g_loc [] rfl ?_
      exact w_X0_sounds_14  _ _ hF
def f_X0_sounds (x1 : Int32) (x2 : Int32) (M : Mem) : Option (Int32 × Mem) := f_X0_sounds_0 x1 x2 M
theorem r_X0_sounds {x1 x2 R : Int32} {M M' : Mem}  (hF : f_X0_sounds x1 x2 M = some (R, M')) : RunS l D cy ad YX0_sounds 1 [.ref 3, .int x1, .int x2] X M (some (.int R)) M' := Run.of 3 (msX0_sounds).1 (Nat.le_of_ble_eq_true rfl) (w_X0_sounds_0  _ _ _ hF)
def f_X0_isSo_50 (K3 : Int32 → Int32 → Mem → Option (Int32 × Mem)) (s2 : Nat) (x3 : Int32) (x4 : Int32) (M : Mem) : Option (Int32 × Mem) :=
  vl (x4 + 1) fun v4 =>
  K3 x3 v4 M
set_option maxRecDepth 100000 in
theorem w_X0_isSo_50 {R : Int32} {M' : Mem} {s2 : Nat} {K3 : Int32 → Int32 → Mem → Option (Int32 × Mem)} (hs2 : isSt s2) (hK3 : ∀ (x3 x4 : Int32) (M : Mem), K3 x3 x4 M = some (R, M') → RunF l D cy ad none YX0_isSo 2 0 0 (some (.int R)) (lay X M') 0 0 3 [(0, .ref 120), (1, .ref 3), (2, .ref s2), (3, .int x3), (4, .int x4)] [] (lay X M)) (x3 x4 : Int32) (M : Mem) (hF : f_X0_isSo_50 K3 s2 x3 x4 M = some (R, M')) : RunF l D cy ad none YX0_isSo 2 0 0 (some (.int R)) (lay X M') 0 0 50 [(0, .ref 120), (1, .ref 3), (2, .ref s2), (3, .int x3), (4, .int x4)] [] (lay X M) := by
  unfold f_X0_isSo_50 at hF
  refine s_iinc (Y := YX0_isSo) (pc := 50) (j := 4) (L' := fun y => [(4, .int y), (0, .ref 120), (1, .ref 3), (2, .ref s2), (3, .int x3)]) dX0_isSo_50 kI_1 rfl (Nat.le_of_ble_eq_true rfl) (fun _ => rfl) (fun v4 e => ?_)
  replace hF := vl_to e hF; clear e
  refine g_goto (Y := YX0_isSo) (pc := 53) (tgt := 3) dX0_isSo_53 rfl ?_
  refine g_loc [1, 2, 3, 4, 0] rfl ?_
  exact hK3 _ _ _ hF
def f_X0_isSo_3 (s2 : Nat) : Nat → Int32 → Int32 → Mem → Option (Int32 × Mem)
  | 0, _, _, _ => none
  | n + 1, x3, x4, M =>
    if x4 < (M 120 3) then
      gd (0 ≤ x4 ∧ x4.toNatClampNeg < 12) <|
      if (M 122 x4.toNatClampNeg) = x3 then
        gd (0 ≤ x4 ∧ x4.toNatClampNeg < 12) <|
        bd (f_X7_bitsIn s2 (M 121 x4.toNatClampNeg) M) fun r6 M7 =>
        gd (0 ≤ x4 ∧ x4.toNatClampNeg < 12) <|
        bd (f_X0_sounds r6 (M7 123 x4.toNatClampNeg) M7) fun r10 M11 =>
        if r10 = 0 then
          some (0, M11)
        else
          f_X0_isSo_50 (f_X0_isSo_3 s2 n) s2 x3 x4 M11
      else
        f_X0_isSo_50 (f_X0_isSo_3 s2 n) s2 x3 x4 M
    else
      some (1, M)
set_option maxRecDepth 100000 in
theorem w_X0_isSo_3 {R : Int32} {M' : Mem} {s2 : Nat} (hs2 : isSt s2) : ∀ (n : Nat) (x3 x4 : Int32) (M : Mem), f_X0_isSo_3 s2 n x3 x4 M = some (R, M') → RunF l D cy ad none YX0_isSo 2 0 0 (some (.int R)) (lay X M') 0 0 3 [(0, .ref 120), (1, .ref 3), (2, .ref s2), (3, .int x3), (4, .int x4)] [] (lay X M) := by
  intro n
  induction n with
  | zero => intro x3 x4 M hF; exact absurd hF (by unfold f_X0_isSo_3; exact fun h => nomatch h)
  | succ n ih =>
    intro x3 x4 M hF
    unfold f_X0_isSo_3 at hF
    refine g_iload (Y := YX0_isSo) (pc := 3) 4 dX0_isSo_3 rfl ?_
    refine g_aload_n (Y := YX0_isSo) (pc := 5) 0 dX0_isSo_5 rfl ?_
    refine u_getI (Y := YX0_isSo) (pc := 6) dX0_isSo_6 fl_X0_21 k_120 ?_
    refine g_icmp_ge (Y := YX0_isSo) (pc := 9) (tgt := 56) dX0_isSo_9 rfl (fun c1 => ?_) (fun c1 => ?_)
    · replace hF := if_f c1 hF
      refine g_iconst (Y := YX0_isSo) (pc := 56) dX0_isSo_56 kI_1 ?_
      exact s_zret (Y := YX0_isSo) (pc := 57) dX0_isSo_57 rfl (Or.inr rfl) hF
    · replace hF := if_t c1 hF
      refine g_aload_n (Y := YX0_isSo) (pc := 12) 0 dX0_isSo_12 rfl ?_
      refine u_getR (Y := YX0_isSo) (pc := 13) (j := 122) dX0_isSo_13 fl_X0_15 k_120 rf_120_1 ?_
      refine g_iload (Y := YX0_isSo) (pc := 16) 4 dX0_isSo_16 rfl ?_
      obtain ⟨g2, hF⟩ := gd_some hF
      refine s_iald (Y := YX0_isSo) (pc := 18) dX0_isSo_18 k_122 n_122 g2 ?_
      refine g_iload_n (Y := YX0_isSo) (pc := 19) 3 dX0_isSo_19 rfl ?_
      refine g_icmp_ne (Y := YX0_isSo) (pc := 20) (tgt := 50) dX0_isSo_20 rfl (fun c3 => ?_) (fun c3 => ?_)
      · replace hF := if_f c3 hF
        exact w_X0_isSo_50 hs2 ih _ _ _ hF
      · replace hF := if_t c3 hF
        refine g_aload_n (Y := YX0_isSo) (pc := 23) 1 dX0_isSo_23 rfl ?_
        refine g_aload_n (Y := YX0_isSo) (pc := 24) 2 dX0_isSo_24 rfl ?_
        refine g_aload_n (Y := YX0_isSo) (pc := 25) 0 dX0_isSo_25 rfl ?_
        refine u_getR (Y := YX0_isSo) (pc := 26) (j := 121) dX0_isSo_26 fl_X0_9 k_120 rf_120_0 ?_
        refine g_iload (Y := YX0_isSo) (pc := 29) 4 dX0_isSo_29 rfl ?_
        obtain ⟨g5, hF⟩ := gd_some hF
        refine s_iald (Y := YX0_isSo) (pc := 31) dX0_isSo_31 k_121 n_121 g5 ?_
        obtain ⟨r6, M7, e8, hF⟩ := bd_some hF
        refine s_callVi (Y := YX0_isSo) (pc := 32) (as := [.int (M 121 x4.toNatClampNeg)]) (st := [.ref 3]) (r_X7_bitsIn hs2 e8) miX7_bitsIn lk_X0_34 dX0_isSo_32 (st_k hs2) rfl (Nat.le_of_ble_eq_true rfl) (Nat.le_of_ble_eq_true rfl) rfl ?_
        clear e8
        refine g_aload_n (Y := YX0_isSo) (pc := 35) 0 dX0_isSo_35 rfl ?_
        refine u_getR (Y := YX0_isSo) (pc := 36) (j := 123) dX0_isSo_36 fl_X0_18 k_120 rf_120_2 ?_
        refine g_iload (Y := YX0_isSo) (pc := 39) 4 dX0_isSo_39 rfl ?_
        obtain ⟨g9, hF⟩ := gd_some hF
        refine s_iald (Y := YX0_isSo) (pc := 41) dX0_isSo_41 k_123 n_123 g9 ?_
        obtain ⟨r10, M11, e12, hF⟩ := bd_some hF
        refine s_callSi (Y := YX0_isSo) (pc := 42) (as := [.ref 3, .int r6, .int (M7 123 x4.toNatClampNeg)]) (st := []) (r_X0_sounds  e12) msX0_sounds lk_X0_40 dX0_isSo_42 rfl (Nat.le_of_ble_eq_true rfl) (Nat.le_of_ble_eq_true rfl) rfl ?_
        clear e12
        refine g_if_ne (Y := YX0_isSo) (pc := 45) (tgt := 50) dX0_isSo_45 rfl (fun c13 => ?_) (fun c13 => ?_)
        · replace hF := if_f c13 hF
          exact w_X0_isSo_50 hs2 ih _ _ _ hF
        · replace hF := if_t c13 hF
          refine g_iconst (Y := YX0_isSo) (pc := 48) dX0_isSo_48 kI_0 ?_
          exact s_zret (Y := YX0_isSo) (pc := 49) dX0_isSo_49 rfl (Or.inl rfl) hF
def f_X0_isSo_0 (s2 : Nat) (x3 : Int32) (M : Mem) : Option (Int32 × Mem) :=
  f_X0_isSo_3 s2 FU x3 0 M
set_option maxRecDepth 100000 in
theorem w_X0_isSo_0 {R : Int32} {M' : Mem} {s2 : Nat} (hs2 : isSt s2) (x3 : Int32) (M : Mem) (hF : f_X0_isSo_0 s2 x3 M = some (R, M')) : RunF l D cy ad none YX0_isSo 2 0 0 (some (.int R)) (lay X M') 0 0 0 [(0, .ref 120), (1, .ref 3), (2, .ref s2), (3, .int x3)] [] (lay X M) := by
  unfold f_X0_isSo_0 at hF
  refine g_iconst (Y := YX0_isSo) (pc := 0) dX0_isSo_0 kI_0 ?_
  refine g_istore (Y := YX0_isSo) (pc := 1) (L' := [(4, .int 0), (0, .ref 120), (1, .ref 3), (2, .ref s2), (3, .int x3)]) dX0_isSo_1 (Nat.le_of_ble_eq_true rfl) rfl ?_
  refine g_loc [1, 2, 3, 4, 0] rfl ?_
  exact w_X0_isSo_3 hs2 _ _ _ _ hF
def f_X0_isSo (s2 : Nat) (x3 : Int32) (M : Mem) : Option (Int32 × Mem) := f_X0_isSo_0 s2 x3 M
theorem r_X0_isSo {s2 : Nat} {x3 R : Int32} {M M' : Mem} (hs2 : isSt s2) (hF : f_X0_isSo s2 x3 M = some (R, M')) : RunS l D cy ad YX0_isSo 2 [.ref 120, .ref 3, .ref s2, .int x3] X M (some (.int R)) M' := Run.of 3 (miX0_isSo).1 (Nat.le_of_ble_eq_true rfl) (w_X0_isSo_0 hs2 _ _ hF)
def f_X9_goBy_0 (s1 : Nat) (x2 : Int32) (M : Mem) : Option (Int32 × Mem) :=
  if (M 128 3) = 0 then
    bd (f_X1_advance s1 (x2 - (M s1 0)) M) fun _ M14 =>
    some (1, M14)
  else
    bd (f_X0_nextBehind ((M s1 0) - (M 128 5)) M) fun r2 M3 =>
    vl (((M 128 5) + r2)) fun v5 =>
    bd (f_X1_advance s1 ((if v5 < x2 then v5 else x2) - (M3 s1 0)) M3) fun _ M7 =>
    bd (f_X0_isSo s1 ((M7 s1 0) - (M7 128 5)) M7) fun r9 M10 =>
    gd (r9 = 0 ∨ r9 = 1) <|
    some (r9, M10)
set_option maxRecDepth 100000 in
theorem w_X9_goBy_0 {R : Int32} {M' : Mem} {s1 : Nat} (hs1 : isSt s1) (x2 : Int32) (M : Mem) (hF : f_X9_goBy_0 s1 x2 M = some (R, M')) : RunF l D cy ad none YX9_goBy 3 0 0 (some (.int R)) (lay X M') 0 0 0 [(0, .ref 128), (1, .ref s1), (2, .int x2)] [] (lay X M) := by
  unfold f_X9_goBy_0 at hF
  refine g_aload_n (Y := YX9_goBy) (pc := 0) 0 dX9_goBy_0 rfl ?_
  refine u_getZ (Y := YX9_goBy) (pc := 1) dX9_goBy_1 fl_X9_44 k_128 ?_
  refine g_if_ne (Y := YX9_goBy) (pc := 4) (tgt := 23) dX9_goBy_4 rfl (fun c1 => ?_) (fun c1 => ?_)
  · replace hF := if_f c1 hF
    refine g_aload_n (Y := YX9_goBy) (pc := 23) 0 dX9_goBy_23 rfl ?_
    refine u_getI (Y := YX9_goBy) (pc := 24) dX9_goBy_24 fl_X9_41 k_128 ?_
    refine g_aload_n (Y := YX9_goBy) (pc := 27) 0 dX9_goBy_27 rfl ?_
    refine u_getR (Y := YX9_goBy) (pc := 28) (j := 120) dX9_goBy_28 fl_X9_15 k_128 rf_128_1 ?_
    refine g_aload_n (Y := YX9_goBy) (pc := 31) 1 dX9_goBy_31 rfl ?_
    refine u_getI (Y := YX9_goBy) (pc := 32) dX9_goBy_32 fl_X9_38 (st_k hs1) ?_
    refine g_aload_n (Y := YX9_goBy) (pc := 35) 0 dX9_goBy_35 rfl ?_
    refine u_getI (Y := YX9_goBy) (pc := 36) dX9_goBy_36 fl_X9_41 k_128 ?_
    refine g_isub (Y := YX9_goBy) (pc := 39) dX9_goBy_39 ?_
    obtain ⟨r2, M3, e4, hF⟩ := bd_some hF
    refine s_callVi (Y := YX9_goBy) (pc := 40) (as := [.int ((M s1 0) - (M 128 5))]) (st := [.int (M 128 5)]) (r_X0_nextBehind  e4) miX0_nextBehind lk_X9_105 dX9_goBy_40 k_120 rfl (Nat.le_of_ble_eq_true rfl) (Nat.le_of_ble_eq_true rfl) rfl ?_
    clear e4
    refine g_iadd (Y := YX9_goBy) (pc := 43) dX9_goBy_43 ?_
    refine g_nm (fun v5 e => ?_)
    replace hF := vl_to e hF; clear e
    refine g_istore_n (Y := YX9_goBy) (pc := 44) (L' := [(3, .int v5), (0, .ref 128), (1, .ref s1), (2, .int x2)]) dX9_goBy_44 (Nat.le_of_ble_eq_true rfl) rfl ?_
    refine g_aload_n (Y := YX9_goBy) (pc := 45) 1 dX9_goBy_45 rfl ?_
    refine u_getR (Y := YX9_goBy) (pc := 46) (j := 3) dX9_goBy_46 fl_X9_9 k_128 rf_128_0 ?_
    refine g_aload_n (Y := YX9_goBy) (pc := 49) 2 dX9_goBy_49 rfl ?_
    refine g_iload_n (Y := YX9_goBy) (pc := 50) 3 dX9_goBy_50 rfl ?_
    refine g_iload_n (Y := YX9_goBy) (pc := 51) 0 dX9_goBy_51 rfl ?_
    refine s_min (Y := YX9_goBy) (pc := 52) dX9_goBy_52 lk_X9_67 w_min (Nat.le_of_ble_eq_true rfl) (Nat.le_of_ble_eq_true rfl) ?_
    refine g_aload_n (Y := YX9_goBy) (pc := 55) 2 dX9_goBy_55 rfl ?_
    refine u_getI (Y := YX9_goBy) (pc := 56) dX9_goBy_56 fl_X9_38 (st_k hs1) ?_
    refine g_isub (Y := YX9_goBy) (pc := 59) dX9_goBy_59 ?_
    obtain ⟨r6, M7, e8, hF⟩ := bd_some hF
    refine s_callVv (Y := YX9_goBy) (pc := 60) (as := [.ref s1, .int ((if v5 < x2 then v5 else x2) - (M3 s1 0))]) (st := []) (r_X1_advance hs1 e8) miX1_advance lk_X9_102 dX9_goBy_60 k_3 rfl (Nat.le_of_ble_eq_true rfl) (Nat.le_of_ble_eq_true rfl) rfl ?_
    clear e8
    refine g_aload_n (Y := YX9_goBy) (pc := 63) 1 dX9_goBy_63 rfl ?_
    refine u_getR (Y := YX9_goBy) (pc := 64) (j := 120) dX9_goBy_64 fl_X9_15 k_128 rf_128_1 ?_
    refine g_aload_n (Y := YX9_goBy) (pc := 67) 1 dX9_goBy_67 rfl ?_
    refine u_getR (Y := YX9_goBy) (pc := 68) (j := 3) dX9_goBy_68 fl_X9_9 k_128 rf_128_0 ?_
    refine g_aload_n (Y := YX9_goBy) (pc := 71) 2 dX9_goBy_71 rfl ?_
    refine g_aload_n (Y := YX9_goBy) (pc := 72) 2 dX9_goBy_72 rfl ?_
    refine u_getI (Y := YX9_goBy) (pc := 73) dX9_goBy_73 fl_X9_38 (st_k hs1) ?_
    refine g_aload_n (Y := YX9_goBy) (pc := 76) 1 dX9_goBy_76 rfl ?_
    refine u_getI (Y := YX9_goBy) (pc := 77) dX9_goBy_77 fl_X9_41 k_128 ?_
    refine g_isub (Y := YX9_goBy) (pc := 80) dX9_goBy_80 ?_
    obtain ⟨r9, M10, e11, hF⟩ := bd_some hF
    refine s_callVi (Y := YX9_goBy) (pc := 81) (as := [.ref 3, .ref s1, .int ((M7 s1 0) - (M7 128 5))]) (st := []) (r_X0_isSo hs1 e11) miX0_isSo lk_X9_110 dX9_goBy_81 k_120 rfl (Nat.le_of_ble_eq_true rfl) (Nat.le_of_ble_eq_true rfl) rfl ?_
    clear e11
    obtain ⟨g12, hF⟩ := gd_some hF
    exact s_zret (Y := YX9_goBy) (pc := 84) dX9_goBy_84 rfl g12 hF
  · replace hF := if_t c1 hF
    refine g_aload_n (Y := YX9_goBy) (pc := 7) 0 dX9_goBy_7 rfl ?_
    refine u_getR (Y := YX9_goBy) (pc := 8) (j := 3) dX9_goBy_8 fl_X9_9 k_128 rf_128_0 ?_
    refine g_aload_n (Y := YX9_goBy) (pc := 11) 1 dX9_goBy_11 rfl ?_
    refine g_iload_n (Y := YX9_goBy) (pc := 12) 2 dX9_goBy_12 rfl ?_
    refine g_aload_n (Y := YX9_goBy) (pc := 13) 1 dX9_goBy_13 rfl ?_
    refine u_getI (Y := YX9_goBy) (pc := 14) dX9_goBy_14 fl_X9_38 (st_k hs1) ?_
    refine g_isub (Y := YX9_goBy) (pc := 17) dX9_goBy_17 ?_
    obtain ⟨r13, M14, e15, hF⟩ := bd_some hF
    refine s_callVv (Y := YX9_goBy) (pc := 18) (as := [.ref s1, .int (x2 - (M s1 0))]) (st := []) (r_X1_advance hs1 e15) miX1_advance lk_X9_102 dX9_goBy_18 k_3 rfl (Nat.le_of_ble_eq_true rfl) (Nat.le_of_ble_eq_true rfl) rfl ?_
    clear e15
    refine g_iconst (Y := YX9_goBy) (pc := 21) dX9_goBy_21 kI_1 ?_
    exact s_zret (Y := YX9_goBy) (pc := 22) dX9_goBy_22 rfl (Or.inr rfl) hF
def f_X9_goBy (s1 : Nat) (x2 : Int32) (M : Mem) : Option (Int32 × Mem) := f_X9_goBy_0 s1 x2 M
theorem r_X9_goBy {s1 : Nat} {x2 R : Int32} {M M' : Mem} (hs1 : isSt s1) (hF : f_X9_goBy s1 x2 M = some (R, M')) : RunS l D cy ad YX9_goBy 3 [.ref 128, .ref s1, .int x2] X M (some (.int R)) M' := Run.of 2 (miX9_goBy).1 (Nat.le_of_ble_eq_true rfl) (w_X9_goBy_0 hs1 _ _ hF)
def f_X9_sendOff_118 (s1 : Nat) (M : Mem) : Option (Int32 × Mem) :=
  gd ((M 128 3) = 0 ∨ (M 128 3) = 1) <|
  some ((M 128 3), M)
set_option maxRecDepth 100000 in
theorem w_X9_sendOff_118 {R : Int32} {M' : Mem} {s1 : Nat} (hs1 : isSt s1) (M : Mem) (hF : f_X9_sendOff_118 s1  M = some (R, M')) : RunF l D cy ad none YX9_sendOff 4 0 0 (some (.int R)) (lay X M') 0 0 118 [(0, .ref 128)] [] (lay X M) := by
  unfold f_X9_sendOff_118 at hF
  refine g_aload_n (Y := YX9_sendOff) (pc := 118) 0 dX9_sendOff_118 rfl ?_
  refine u_getZ (Y := YX9_sendOff) (pc := 119) dX9_sendOff_119 fl_X9_44 k_128 ?_
  obtain ⟨g5, hF⟩ := gd_some hF
  exact s_zret (Y := YX9_sendOff) (pc := 122) dX9_sendOff_122 rfl g5 hF
def f_X9_sendOff_104 (K13 : Int32 → Int32 → Int32 → Int32 → Mem → Option (Int32 × Mem)) (s1 : Nat) (x2 : Int32) (x3 : Int32) (x4 : Int32) (x5 : Int32) (t0 : Int32) (M : Mem) : Option (Int32 × Mem) :=
  bd (f_X9_goBy s1 t0 M) fun r15 M16 =>
  if r15 = 0 then
    some (0, M16)
  else
    vl (x5 + 1) fun v19 =>
    K13 x2 x3 x4 v19 M16
set_option maxRecDepth 100000 in
theorem w_X9_sendOff_104 {R : Int32} {M' : Mem} {s1 : Nat} {K13 : Int32 → Int32 → Int32 → Int32 → Mem → Option (Int32 × Mem)} (hs1 : isSt s1) (hK13 : ∀ (x2 x3 x4 x5 : Int32) (M : Mem), K13 x2 x3 x4 x5 M = some (R, M') → RunF l D cy ad none YX9_sendOff 4 0 0 (some (.int R)) (lay X M') 0 0 13 [(0, .ref 128), (1, .ref s1), (2, .int x2), (3, .int x3), (4, .int x4), (5, .int x5)] [] (lay X M)) (x2 x3 x4 x5 t0 : Int32) (M : Mem) (hF : f_X9_sendOff_104 K13 s1 x2 x3 x4 x5 t0 M = some (R, M')) : RunF l D cy ad none YX9_sendOff 4 0 0 (some (.int R)) (lay X M') 0 0 104 [(0, .ref 128), (1, .ref s1), (2, .int x2), (3, .int x3), (4, .int x4), (5, .int x5)] [.int t0, .ref s1, .ref 128] (lay X M) := by
  unfold f_X9_sendOff_104 at hF
  obtain ⟨r15, M16, e17, hF⟩ := bd_some hF
  refine s_callVi (Y := YX9_sendOff) (pc := 104) (as := [.ref s1, .int t0]) (st := []) (r_X9_goBy hs1 e17) miX9_goBy lk_X9_95 dX9_sendOff_104 k_128 rfl (Nat.le_of_ble_eq_true rfl) (Nat.le_of_ble_eq_true rfl) rfl ?_
  clear e17
  refine g_if_ne (Y := YX9_sendOff) (pc := 107) (tgt := 112) dX9_sendOff_107 rfl (fun c18 => ?_) (fun c18 => ?_)
  · replace hF := if_f c18 hF
    refine s_iinc (Y := YX9_sendOff) (pc := 112) (j := 5) (L' := fun y => [(5, .int y), (0, .ref 128), (1, .ref s1), (2, .int x2), (3, .int x3), (4, .int x4)]) dX9_sendOff_112 kI_1 rfl (Nat.le_of_ble_eq_true rfl) (fun _ => rfl) (fun v19 e => ?_)
    replace hF := vl_to e hF; clear e
    refine g_goto (Y := YX9_sendOff) (pc := 115) (tgt := 13) dX9_sendOff_115 rfl ?_
    refine g_loc [1, 2, 3, 4, 5, 0] rfl ?_
    exact hK13 _ _ _ _ _ hF
  · replace hF := if_t c18 hF
    refine g_iconst (Y := YX9_sendOff) (pc := 110) dX9_sendOff_110 kI_0 ?_
    exact s_zret (Y := YX9_sendOff) (pc := 111) dX9_sendOff_111 rfl (Or.inl rfl) hF
def f_X9_sendOff_49 (K13 : Int32 → Int32 → Int32 → Int32 → Mem → Option (Int32 × Mem)) (s1 : Nat) (x2 : Int32) (x3 : Int32) (x4 : Int32) (x5 : Int32) (M : Mem) : Option (Int32 × Mem) :=
  bd (f_X1_barTo s1 x2 M) fun r8 M9 =>
  if r8 = 0 then
    bd (f_X1_setOff s1 x2 M9) fun _ M21 =>
    some (1, M21)
  else
    gd (0 ≤ x2 ∧ x2.toNatClampNeg < 6) <|
    vl ((M9 4 x2.toNatClampNeg)) fun v13 =>
    if (M9 s1 0) < v13 then
      f_X9_sendOff_104 K13 s1 x2 x3 x4 x5 (if x3 < v13 then x3 else v13) M9
    else
      f_X9_sendOff_104 K13 s1 x2 x3 x4 x5 x3 M9
set_option maxRecDepth 100000 in
theorem w_X9_sendOff_49 {R : Int32} {M' : Mem} {s1 : Nat} {K13 : Int32 → Int32 → Int32 → Int32 → Mem → Option (Int32 × Mem)} (hs1 : isSt s1) (hK13 : ∀ (x2 x3 x4 x5 : Int32) (M : Mem), K13 x2 x3 x4 x5 M = some (R, M') → RunF l D cy ad none YX9_sendOff 4 0 0 (some (.int R)) (lay X M') 0 0 13 [(0, .ref 128), (1, .ref s1), (2, .int x2), (3, .int x3), (4, .int x4), (5, .int x5)] [] (lay X M)) (x2 x3 x4 x5 : Int32) (M : Mem) (hF : f_X9_sendOff_49 K13 s1 x2 x3 x4 x5 M = some (R, M')) : RunF l D cy ad none YX9_sendOff 4 0 0 (some (.int R)) (lay X M') 0 0 49 [(0, .ref 128), (1, .ref s1), (2, .int x2), (3, .int x3), (4, .int x4), (5, .int x5)] [] (lay X M) := by
  unfold f_X9_sendOff_49 at hF
  refine g_aload_n (Y := YX9_sendOff) (pc := 49) 0 dX9_sendOff_49 rfl ?_
  refine u_getR (Y := YX9_sendOff) (pc := 50) (j := 3) dX9_sendOff_50 fl_X9_9 k_128 rf_128_0 ?_
  refine g_aload_n (Y := YX9_sendOff) (pc := 53) 1 dX9_sendOff_53 rfl ?_
  refine g_iload_n (Y := YX9_sendOff) (pc := 54) 2 dX9_sendOff_54 rfl ?_
  obtain ⟨r8, M9, e10, hF⟩ := bd_some hF
  refine s_callVi (Y := YX9_sendOff) (pc := 55) (as := [.ref s1, .int x2]) (st := []) (r_X1_barTo hs1 e10) miX1_barTo lk_X9_84 dX9_sendOff_55 k_3 rfl (Nat.le_of_ble_eq_true rfl) (Nat.le_of_ble_eq_true rfl) rfl ?_
  clear e10
  refine g_if_ne (Y := YX9_sendOff) (pc := 58) (tgt := 72) dX9_sendOff_58 rfl (fun c11 => ?_) (fun c11 => ?_)
  · replace hF := if_f c11 hF
    refine g_aload_n (Y := YX9_sendOff) (pc := 72) 0 dX9_sendOff_72 rfl ?_
    refine u_getR (Y := YX9_sendOff) (pc := 73) (j := 3) dX9_sendOff_73 fl_X9_9 k_128 rf_128_0 ?_
    refine u_getR (Y := YX9_sendOff) (pc := 76) (j := 4) dX9_sendOff_76 fl_X9_92 k_3 rf_3_3 ?_
    refine g_iload_n (Y := YX9_sendOff) (pc := 79) 2 dX9_sendOff_79 rfl ?_
    obtain ⟨g12, hF⟩ := gd_some hF
    refine s_iald (Y := YX9_sendOff) (pc := 80) dX9_sendOff_80 k_4 n_4 g12 ?_
    refine g_nm (fun v13 e => ?_)
    replace hF := vl_to e hF; clear e
    refine g_istore (Y := YX9_sendOff) (pc := 81) (L' := [(6, .int v13), (0, .ref 128), (1, .ref s1), (2, .int x2), (3, .int x3), (4, .int x4), (5, .int x5)]) dX9_sendOff_81 (Nat.le_of_ble_eq_true rfl) rfl ?_
    refine g_aload_n (Y := YX9_sendOff) (pc := 83) 1 dX9_sendOff_83 rfl ?_
    refine g_aload_n (Y := YX9_sendOff) (pc := 84) 2 dX9_sendOff_84 rfl ?_
    refine g_iload (Y := YX9_sendOff) (pc := 85) 0 dX9_sendOff_85 rfl ?_
    refine g_aload_n (Y := YX9_sendOff) (pc := 87) 2 dX9_sendOff_87 rfl ?_
    refine u_getI (Y := YX9_sendOff) (pc := 88) dX9_sendOff_88 fl_X9_38 (st_k hs1) ?_
    refine g_icmp_le (Y := YX9_sendOff) (pc := 91) (tgt := 103) dX9_sendOff_91 rfl (fun c14 => ?_) (fun c14 => ?_)
    · replace hF := if_f c14 hF
      refine g_iload_n (Y := YX9_sendOff) (pc := 103) 4 dX9_sendOff_103 rfl ?_
      refine g_loc [1, 2, 3, 4, 5, 6] rfl ?_
      exact w_X9_sendOff_104 hs1 hK13 _ _ _ _ _ _ hF
    · replace hF := if_t c14 hF
      refine g_iload (Y := YX9_sendOff) (pc := 94) 0 dX9_sendOff_94 rfl ?_
      refine g_iload_n (Y := YX9_sendOff) (pc := 96) 4 dX9_sendOff_96 rfl ?_
      refine s_min (Y := YX9_sendOff) (pc := 97) dX9_sendOff_97 lk_X9_67 w_min (Nat.le_of_ble_eq_true rfl) (Nat.le_of_ble_eq_true rfl) ?_
      refine g_goto (Y := YX9_sendOff) (pc := 100) (tgt := 104) dX9_sendOff_100 rfl ?_
      refine g_loc [1, 2, 3, 4, 5, 6] rfl ?_
      exact w_X9_sendOff_104 hs1 hK13 _ _ _ _ _ _ hF
  · replace hF := if_t c11 hF
    refine g_aload_n (Y := YX9_sendOff) (pc := 61) 0 dX9_sendOff_61 rfl ?_
    refine u_getR (Y := YX9_sendOff) (pc := 62) (j := 3) dX9_sendOff_62 fl_X9_9 k_128 rf_128_0 ?_
    refine g_aload_n (Y := YX9_sendOff) (pc := 65) 1 dX9_sendOff_65 rfl ?_
    refine g_iload_n (Y := YX9_sendOff) (pc := 66) 2 dX9_sendOff_66 rfl ?_
    obtain ⟨r20, M21, e22, hF⟩ := bd_some hF
    refine s_callVv (Y := YX9_sendOff) (pc := 67) (as := [.ref s1, .int x2]) (st := []) (r_X1_setOff hs1 e22) miX1_setOff lk_X9_88 dX9_sendOff_67 k_3 rfl (Nat.le_of_ble_eq_true rfl) (Nat.le_of_ble_eq_true rfl) rfl ?_
    clear e22
    refine g_iconst (Y := YX9_sendOff) (pc := 70) dX9_sendOff_70 kI_1 ?_
    exact s_zret (Y := YX9_sendOff) (pc := 71) dX9_sendOff_71 rfl (Or.inr rfl) hF
def f_X9_sendOff_13 (s1 : Nat) : Nat → Int32 → Int32 → Int32 → Int32 → Mem → Option (Int32 × Mem)
  | 0, _, _, _, _, _ => none
  | n + 1, x2, x3, x4, x5, M =>
    if 400 < x5 then
      f_X9_sendOff_118 s1 M
    else
      if (M s1 0) < x3 then
        if (M 128 3) = 0 then
          if x3 < ((M s1 0) + x4) then
            some (0, M)
          else
            f_X9_sendOff_49 (f_X9_sendOff_13 s1 n) s1 x2 x3 x4 x5 M
        else
          f_X9_sendOff_49 (f_X9_sendOff_13 s1 n) s1 x2 x3 x4 x5 M
      else
        f_X9_sendOff_118 s1 M
set_option maxRecDepth 100000 in
theorem w_X9_sendOff_13 {R : Int32} {M' : Mem} {s1 : Nat} (hs1 : isSt s1) : ∀ (n : Nat) (x2 x3 x4 x5 : Int32) (M : Mem), f_X9_sendOff_13 s1 n x2 x3 x4 x5 M = some (R, M') → RunF l D cy ad none YX9_sendOff 4 0 0 (some (.int R)) (lay X M') 0 0 13 [(0, .ref 128), (1, .ref s1), (2, .int x2), (3, .int x3), (4, .int x4), (5, .int x5)] [] (lay X M) := by
  intro n
  induction n with
  | zero => intro x2 x3 x4 x5 M hF; exact absurd hF (by unfold f_X9_sendOff_13; exact fun h => nomatch h)
  | succ n ih =>
    intro x2 x3 x4 x5 M hF
    unfold f_X9_sendOff_13 at hF
    refine g_iload (Y := YX9_sendOff) (pc := 13) 5 dX9_sendOff_13 rfl ?_
    refine g_sipush (Y := YX9_sendOff) (pc := 15) dX9_sendOff_15 kS_400 ?_
    refine g_icmp_gt (Y := YX9_sendOff) (pc := 18) (tgt := 118) dX9_sendOff_18 rfl (fun c4 => ?_) (fun c4 => ?_)
    · replace hF := if_t c4 hF
      refine g_loc [0] rfl ?_
      exact w_X9_sendOff_118 hs1 _ hF
    · replace hF := if_f c4 hF
      refine g_aload_n (Y := YX9_sendOff) (pc := 21) 1 dX9_sendOff_21 rfl ?_
      refine u_getI (Y := YX9_sendOff) (pc := 22) dX9_sendOff_22 fl_X9_38 (st_k hs1) ?_
      refine g_iload_n (Y := YX9_sendOff) (pc := 25) 3 dX9_sendOff_25 rfl ?_
      refine g_icmp_ge (Y := YX9_sendOff) (pc := 26) (tgt := 118) dX9_sendOff_26 rfl (fun c6 => ?_) (fun c6 => ?_)
      · replace hF := if_f c6 hF
        refine g_loc [0] rfl ?_
        exact w_X9_sendOff_118 hs1 _ hF
      · replace hF := if_t c6 hF
        refine g_aload_n (Y := YX9_sendOff) (pc := 29) 0 dX9_sendOff_29 rfl ?_
        refine u_getZ (Y := YX9_sendOff) (pc := 30) dX9_sendOff_30 fl_X9_44 k_128 ?_
        refine g_if_ne (Y := YX9_sendOff) (pc := 33) (tgt := 49) dX9_sendOff_33 rfl (fun c7 => ?_) (fun c7 => ?_)
        · replace hF := if_f c7 hF
          exact w_X9_sendOff_49 hs1 ih _ _ _ _ _ hF
        · replace hF := if_t c7 hF
          refine g_aload_n (Y := YX9_sendOff) (pc := 36) 1 dX9_sendOff_36 rfl ?_
          refine u_getI (Y := YX9_sendOff) (pc := 37) dX9_sendOff_37 fl_X9_38 (st_k hs1) ?_
          refine g_iload (Y := YX9_sendOff) (pc := 40) 4 dX9_sendOff_40 rfl ?_
          refine g_iadd (Y := YX9_sendOff) (pc := 42) dX9_sendOff_42 ?_
          refine g_iload_n (Y := YX9_sendOff) (pc := 43) 3 dX9_sendOff_43 rfl ?_
          refine g_icmp_le (Y := YX9_sendOff) (pc := 44) (tgt := 49) dX9_sendOff_44 rfl (fun c23 => ?_) (fun c23 => ?_)
          · replace hF := if_f c23 hF
            exact w_X9_sendOff_49 hs1 ih _ _ _ _ _ hF
          · replace hF := if_t c23 hF
            refine g_iconst (Y := YX9_sendOff) (pc := 47) dX9_sendOff_47 kI_0 ?_
            exact s_zret (Y := YX9_sendOff) (pc := 48) dX9_sendOff_48 rfl (Or.inl rfl) hF
def f_X9_sendOff_0 (s1 : Nat) (x2 : Int32) (x3 : Int32) (M : Mem) : Option (Int32 × Mem) :=
  bd (f_X1_wholeStay x2 M) fun r1 M2 =>
  f_X9_sendOff_13 s1 FU x2 x3 r1 0 M2
set_option maxRecDepth 100000 in
theorem w_X9_sendOff_0 {R : Int32} {M' : Mem} {s1 : Nat} (hs1 : isSt s1) (x2 x3 : Int32) (M : Mem) (hF : f_X9_sendOff_0 s1 x2 x3 M = some (R, M')) : RunF l D cy ad none YX9_sendOff 4 0 0 (some (.int R)) (lay X M') 0 0 0 [(0, .ref 128), (1, .ref s1), (2, .int x2), (3, .int x3)] [] (lay X M) := by
  unfold f_X9_sendOff_0 at hF
  refine g_aload_n (Y := YX9_sendOff) (pc := 0) 0 dX9_sendOff_0 rfl ?_
  refine u_getR (Y := YX9_sendOff) (pc := 1) (j := 3) dX9_sendOff_1 fl_X9_9 k_128 rf_128_0 ?_
  refine g_iload_n (Y := YX9_sendOff) (pc := 4) 2 dX9_sendOff_4 rfl ?_
  obtain ⟨r1, M2, e3, hF⟩ := bd_some hF
  refine s_callVi (Y := YX9_sendOff) (pc := 5) (as := [.int x2]) (st := []) (r_X1_wholeStay  e3) miX1_wholeStay lk_X9_78 dX9_sendOff_5 k_3 rfl (Nat.le_of_ble_eq_true rfl) (Nat.le_of_ble_eq_true rfl) rfl ?_
  clear e3
  refine g_istore (Y := YX9_sendOff) (pc := 8) (L' := [(4, .int r1), (0, .ref 128), (1, .ref s1), (2, .int x2), (3, .int x3)]) dX9_sendOff_8 (Nat.le_of_ble_eq_true rfl) rfl ?_
  refine g_iconst (Y := YX9_sendOff) (pc := 10) dX9_sendOff_10 kI_0 ?_
  refine g_istore (Y := YX9_sendOff) (pc := 11) (L' := [(5, .int 0), (4, .int r1), (0, .ref 128), (1, .ref s1), (2, .int x2), (3, .int x3)]) dX9_sendOff_11 (Nat.le_of_ble_eq_true rfl) rfl ?_
  refine g_loc [2, 3, 4, 5, 1, 0] rfl ?_
  exact w_X9_sendOff_13 hs1 _ _ _ _ _ _ hF
def f_X9_sendOff (s1 : Nat) (x2 : Int32) (x3 : Int32) (M : Mem) : Option (Int32 × Mem) := f_X9_sendOff_0 s1 x2 x3 M
theorem r_X9_sendOff {s1 : Nat} {x2 x3 R : Int32} {M M' : Mem} (hs1 : isSt s1) (hF : f_X9_sendOff s1 x2 x3 M = some (R, M')) : RunS l D cy ad YX9_sendOff 4 [.ref 128, .ref s1, .int x2, .int x3] X M (some (.int R)) M' := Run.of 3 (miX9_sendOff).1 (Nat.le_of_ble_eq_true rfl) (w_X9_sendOff_0 hs1 _ _ _ hF)
def f_X9_leadThrough_87  (t0 : Int32) (M : Mem) : Option (Int32 × Mem) :=
  gd (t0 = 0 ∨ t0 = 1) <|
  some (t0, M)
set_option maxRecDepth 100000 in
theorem w_X9_leadThrough_87 {R : Int32} {M' : Mem}  (t0 : Int32) (M : Mem) (hF : f_X9_leadThrough_87 t0 M = some (R, M')) : RunF l D cy ad none YX9_leadThrough 4 0 0 (some (.int R)) (lay X M') 0 0 87 [] [.int t0] (lay X M) := by
  unfold f_X9_leadThrough_87 at hF
  obtain ⟨g3, hF⟩ := gd_some hF
  exact s_zret (Y := YX9_leadThrough) (pc := 87) dX9_leadThrough_87 rfl g3 hF
def f_X9_leadThrough_82  (M : Mem) : Option (Int32 × Mem) :=
  f_X9_leadThrough_87 1 M
set_option maxRecDepth 100000 in
theorem w_X9_leadThrough_82 {R : Int32} {M' : Mem}  (M : Mem) (hF : f_X9_leadThrough_82  M = some (R, M')) : RunF l D cy ad none YX9_leadThrough 4 0 0 (some (.int R)) (lay X M') 0 0 82 [] [] (lay X M) := by
  unfold f_X9_leadThrough_82 at hF
  refine g_iconst (Y := YX9_leadThrough) (pc := 82) dX9_leadThrough_82 kI_1 ?_
  refine g_goto (Y := YX9_leadThrough) (pc := 83) (tgt := 87) dX9_leadThrough_83 rfl ?_
  exact w_X9_leadThrough_87  _ _ hF
def f_X9_leadThrough_62  (x1 : Int32) (M : Mem) : Option (Int32 × Mem) :=
  if (M 128 3) = 0 then
    bd (f_X7_bitsThrough 165 M) fun r4 M5 =>
    if (r4 &&& x1) = x1 then
      f_X9_leadThrough_82 M5
    else
      f_X9_leadThrough_87 0 M5
  else
    f_X9_leadThrough_82 M
set_option maxRecDepth 100000 in
theorem w_X9_leadThrough_62 {R : Int32} {M' : Mem}  (x1 : Int32) (M : Mem) (hF : f_X9_leadThrough_62 x1 M = some (R, M')) : RunF l D cy ad none YX9_leadThrough 4 0 0 (some (.int R)) (lay X M') 0 0 62 [(0, .ref 128), (1, .int x1)] [] (lay X M) := by
  unfold f_X9_leadThrough_62 at hF
  refine g_aload_n (Y := YX9_leadThrough) (pc := 62) 0 dX9_leadThrough_62 rfl ?_
  refine u_getZ (Y := YX9_leadThrough) (pc := 63) dX9_leadThrough_63 fl_X9_44 k_128 ?_
  refine g_if_ne (Y := YX9_leadThrough) (pc := 66) (tgt := 82) dX9_leadThrough_66 rfl (fun c2 => ?_) (fun c2 => ?_)
  · replace hF := if_f c2 hF
    refine g_loc [] rfl ?_
    exact w_X9_leadThrough_82  _ hF
  · replace hF := if_t c2 hF
    refine g_aload_n (Y := YX9_leadThrough) (pc := 69) 0 dX9_leadThrough_69 rfl ?_
    refine u_getR (Y := YX9_leadThrough) (pc := 70) (j := 165) dX9_leadThrough_70 fl_X9_26 k_128 rf_128_6 ?_
    obtain ⟨r4, M5, e6, hF⟩ := bd_some hF
    refine s_callVi (Y := YX9_leadThrough) (pc := 73) (as := []) (st := []) (r_X7_bitsThrough isSt_165 e6) miX7_bitsThrough lk_X9_99 dX9_leadThrough_73 k_165 rfl (Nat.le_of_ble_eq_true rfl) (Nat.le_of_ble_eq_true rfl) rfl ?_
    clear e6
    refine g_iload_n (Y := YX9_leadThrough) (pc := 76) 1 dX9_leadThrough_76 rfl ?_
    refine g_iand (Y := YX9_leadThrough) (pc := 77) dX9_leadThrough_77 ?_
    refine g_iload_n (Y := YX9_leadThrough) (pc := 78) 1 dX9_leadThrough_78 rfl ?_
    refine g_icmp_ne (Y := YX9_leadThrough) (pc := 79) (tgt := 86) dX9_leadThrough_79 rfl (fun c7 => ?_) (fun c7 => ?_)
    · replace hF := if_f c7 hF
      refine g_iconst (Y := YX9_leadThrough) (pc := 86) dX9_leadThrough_86 kI_0 ?_
      refine g_loc [] rfl ?_
      exact w_X9_leadThrough_87  _ _ hF
    · replace hF := if_t c7 hF
      refine g_loc [] rfl ?_
      exact w_X9_leadThrough_82  _ hF
def f_X9_leadThrough_42 (K2 : Int32 → Int32 → Int32 → Mem → Option (Int32 × Mem)) (x1 : Int32) (x2 : Int32) (x3 : Int32) (M : Mem) : Option (Int32 × Mem) :=
  bd (f_X9_goBy 165 x2 M) fun r10 M11 =>
  if r10 = 0 then
    some (0, M11)
  else
    vl (x3 + 1) fun v14 =>
    K2 x1 x2 v14 M11
set_option maxRecDepth 100000 in
theorem w_X9_leadThrough_42 {R : Int32} {M' : Mem} {K2 : Int32 → Int32 → Int32 → Mem → Option (Int32 × Mem)} (hK2 : ∀ (x1 x2 x3 : Int32) (M : Mem), K2 x1 x2 x3 M = some (R, M') → RunF l D cy ad none YX9_leadThrough 4 0 0 (some (.int R)) (lay X M') 0 0 2 [(0, .ref 128), (1, .int x1), (2, .int x2), (3, .int x3)] [] (lay X M)) (x1 x2 x3 : Int32) (M : Mem) (hF : f_X9_leadThrough_42 K2 x1 x2 x3 M = some (R, M')) : RunF l D cy ad none YX9_leadThrough 4 0 0 (some (.int R)) (lay X M') 0 0 42 [(0, .ref 128), (1, .int x1), (2, .int x2), (3, .int x3)] [] (lay X M) := by
  unfold f_X9_leadThrough_42 at hF
  refine g_aload_n (Y := YX9_leadThrough) (pc := 42) 0 dX9_leadThrough_42 rfl ?_
  refine g_aload_n (Y := YX9_leadThrough) (pc := 43) 0 dX9_leadThrough_43 rfl ?_
  refine u_getR (Y := YX9_leadThrough) (pc := 44) (j := 165) dX9_leadThrough_44 fl_X9_26 k_128 rf_128_6 ?_
  refine g_iload_n (Y := YX9_leadThrough) (pc := 47) 2 dX9_leadThrough_47 rfl ?_
  obtain ⟨r10, M11, e12, hF⟩ := bd_some hF
  refine s_callVi (Y := YX9_leadThrough) (pc := 48) (as := [.ref 165, .int x2]) (st := []) (r_X9_goBy isSt_165 e12) miX9_goBy lk_X9_95 dX9_leadThrough_48 k_128 rfl (Nat.le_of_ble_eq_true rfl) (Nat.le_of_ble_eq_true rfl) rfl ?_
  clear e12
  refine g_if_ne (Y := YX9_leadThrough) (pc := 51) (tgt := 56) dX9_leadThrough_51 rfl (fun c13 => ?_) (fun c13 => ?_)
  · replace hF := if_f c13 hF
    refine s_iinc (Y := YX9_leadThrough) (pc := 56) (j := 3) (L' := fun y => [(3, .int y), (0, .ref 128), (1, .int x1), (2, .int x2)]) dX9_leadThrough_56 kI_1 rfl (Nat.le_of_ble_eq_true rfl) (fun _ => rfl) (fun v14 e => ?_)
    replace hF := vl_to e hF; clear e
    refine g_goto (Y := YX9_leadThrough) (pc := 59) (tgt := 2) dX9_leadThrough_59 rfl ?_
    refine g_loc [1, 2, 3, 0] rfl ?_
    exact hK2 _ _ _ _ hF
  · replace hF := if_t c13 hF
    refine g_iconst (Y := YX9_leadThrough) (pc := 54) dX9_leadThrough_54 kI_0 ?_
    exact s_zret (Y := YX9_leadThrough) (pc := 55) dX9_leadThrough_55 rfl (Or.inl rfl) hF
def f_X9_leadThrough_2  : Nat → Int32 → Int32 → Int32 → Mem → Option (Int32 × Mem)
  | 0, _, _, _, _ => none
  | n + 1, x1, x2, x3, M =>
    if 400 < x3 then
      f_X9_leadThrough_62 x1 M
    else
      if (M 165 0) < x2 then
        if (M 128 3) = 0 then
          bd (f_X7_bitsThrough 165 M) fun r15 M16 =>
          if (r15 &&& x1) = x1 then
            some (1, M16)
          else
            f_X9_leadThrough_42 (f_X9_leadThrough_2 n) x1 x2 x3 M16
        else
          f_X9_leadThrough_42 (f_X9_leadThrough_2 n) x1 x2 x3 M
      else
        f_X9_leadThrough_62 x1 M
set_option maxRecDepth 100000 in
theorem w_X9_leadThrough_2 {R : Int32} {M' : Mem}  : ∀ (n : Nat) (x1 x2 x3 : Int32) (M : Mem), f_X9_leadThrough_2 n x1 x2 x3 M = some (R, M') → RunF l D cy ad none YX9_leadThrough 4 0 0 (some (.int R)) (lay X M') 0 0 2 [(0, .ref 128), (1, .int x1), (2, .int x2), (3, .int x3)] [] (lay X M) := by
  intro n
  induction n with
  | zero => intro x1 x2 x3 M hF; exact absurd hF (by unfold f_X9_leadThrough_2; exact fun h => nomatch h)
  | succ n ih =>
    intro x1 x2 x3 M hF
    unfold f_X9_leadThrough_2 at hF
    refine g_iload_n (Y := YX9_leadThrough) (pc := 2) 3 dX9_leadThrough_2 rfl ?_
    refine g_sipush (Y := YX9_leadThrough) (pc := 3) dX9_leadThrough_3 kS_400 ?_
    refine g_icmp_gt (Y := YX9_leadThrough) (pc := 6) (tgt := 62) dX9_leadThrough_6 rfl (fun c1 => ?_) (fun c1 => ?_)
    · replace hF := if_t c1 hF
      refine g_loc [0, 1] rfl ?_
      exact w_X9_leadThrough_62  _ _ hF
    · replace hF := if_f c1 hF
      refine g_aload_n (Y := YX9_leadThrough) (pc := 9) 0 dX9_leadThrough_9 rfl ?_
      refine u_getR (Y := YX9_leadThrough) (pc := 10) (j := 165) dX9_leadThrough_10 fl_X9_26 k_128 rf_128_6 ?_
      refine u_getI (Y := YX9_leadThrough) (pc := 13) dX9_leadThrough_13 fl_X9_38 k_165 ?_
      refine g_iload_n (Y := YX9_leadThrough) (pc := 16) 2 dX9_leadThrough_16 rfl ?_
      refine g_icmp_ge (Y := YX9_leadThrough) (pc := 17) (tgt := 62) dX9_leadThrough_17 rfl (fun c8 => ?_) (fun c8 => ?_)
      · replace hF := if_f c8 hF
        refine g_loc [0, 1] rfl ?_
        exact w_X9_leadThrough_62  _ _ hF
      · replace hF := if_t c8 hF
        refine g_aload_n (Y := YX9_leadThrough) (pc := 20) 0 dX9_leadThrough_20 rfl ?_
        refine u_getZ (Y := YX9_leadThrough) (pc := 21) dX9_leadThrough_21 fl_X9_44 k_128 ?_
        refine g_if_ne (Y := YX9_leadThrough) (pc := 24) (tgt := 42) dX9_leadThrough_24 rfl (fun c9 => ?_) (fun c9 => ?_)
        · replace hF := if_f c9 hF
          exact w_X9_leadThrough_42 ih _ _ _ _ hF
        · replace hF := if_t c9 hF
          refine g_aload_n (Y := YX9_leadThrough) (pc := 27) 0 dX9_leadThrough_27 rfl ?_
          refine u_getR (Y := YX9_leadThrough) (pc := 28) (j := 165) dX9_leadThrough_28 fl_X9_26 k_128 rf_128_6 ?_
          obtain ⟨r15, M16, e17, hF⟩ := bd_some hF
          refine s_callVi (Y := YX9_leadThrough) (pc := 31) (as := []) (st := []) (r_X7_bitsThrough isSt_165 e17) miX7_bitsThrough lk_X9_99 dX9_leadThrough_31 k_165 rfl (Nat.le_of_ble_eq_true rfl) (Nat.le_of_ble_eq_true rfl) rfl ?_
          clear e17
          refine g_iload_n (Y := YX9_leadThrough) (pc := 34) 1 dX9_leadThrough_34 rfl ?_
          refine g_iand (Y := YX9_leadThrough) (pc := 35) dX9_leadThrough_35 ?_
          refine g_iload_n (Y := YX9_leadThrough) (pc := 36) 1 dX9_leadThrough_36 rfl ?_
          refine g_icmp_ne (Y := YX9_leadThrough) (pc := 37) (tgt := 42) dX9_leadThrough_37 rfl (fun c18 => ?_) (fun c18 => ?_)
          · replace hF := if_f c18 hF
            exact w_X9_leadThrough_42 ih _ _ _ _ hF
          · replace hF := if_t c18 hF
            refine g_iconst (Y := YX9_leadThrough) (pc := 40) dX9_leadThrough_40 kI_1 ?_
            exact s_zret (Y := YX9_leadThrough) (pc := 41) dX9_leadThrough_41 rfl (Or.inr rfl) hF
def f_X9_leadThrough_0  (x1 : Int32) (x2 : Int32) (M : Mem) : Option (Int32 × Mem) :=
  f_X9_leadThrough_2 FU x1 x2 0 M
set_option maxRecDepth 100000 in
theorem w_X9_leadThrough_0 {R : Int32} {M' : Mem}  (x1 x2 : Int32) (M : Mem) (hF : f_X9_leadThrough_0 x1 x2 M = some (R, M')) : RunF l D cy ad none YX9_leadThrough 4 0 0 (some (.int R)) (lay X M') 0 0 0 [(0, .ref 128), (1, .int x1), (2, .int x2)] [] (lay X M) := by
  unfold f_X9_leadThrough_0 at hF
  refine g_iconst (Y := YX9_leadThrough) (pc := 0) dX9_leadThrough_0 kI_0 ?_
  refine g_istore_n (Y := YX9_leadThrough) (pc := 1) (L' := [(3, .int 0), (0, .ref 128), (1, .int x1), (2, .int x2)]) dX9_leadThrough_1 (Nat.le_of_ble_eq_true rfl) rfl ?_
  refine g_loc [1, 2, 3, 0] rfl ?_
  exact w_X9_leadThrough_2  _ _ _ _ _ hF
def f_X9_leadThrough (x1 : Int32) (x2 : Int32) (M : Mem) : Option (Int32 × Mem) := f_X9_leadThrough_0 x1 x2 M
theorem r_X9_leadThrough {x1 x2 R : Int32} {M M' : Mem}  (hF : f_X9_leadThrough x1 x2 M = some (R, M')) : RunS l D cy ad YX9_leadThrough 4 [.ref 128, .int x1, .int x2] X M (some (.int R)) M' := Run.of 2 (miX9_leadThrough).1 (Nat.le_of_ble_eq_true rfl) (w_X9_leadThrough_0  _ _ _ hF)
def f_X9_walk_112 (q1 : Nat) (x4 : Int32) (M : Mem) : Option (Int32 × Mem) :=
  vl ((if (6 : Int32) < (M q1 1) then (6 : Int32) else (M q1 1))) fun v6 =>
  gd (0 ≤ v6 ∧ v6.toNatClampNeg < 7) <|
  bd (f_X7_copy 165 (130 + 5 * v6.toNatClampNeg) M) fun _ M9 =>
  bd (f_X5_bits q1 M9) fun r11 M12 =>
  bd (f_X9_leadThrough r11 x4 M12) fun r14 M15 =>
  gd (r14 = 0 ∨ r14 = 1) <|
  some (r14, M15)
set_option maxRecDepth 100000 in
theorem w_X9_walk_112 {R : Int32} {M' : Mem} {q1 : Nat} (hq1 : isOr q1) (x4 : Int32) (M : Mem) (hF : f_X9_walk_112 q1 x4 M = some (R, M')) : RunF l D cy ad none YX9_walk 5 0 0 (some (.int R)) (lay X M') 0 0 112 [(0, .ref 128), (1, .ref q1), (4, .int x4)] [] (lay X M) := by
  unfold f_X9_walk_112 at hF
  refine g_aload_n (Y := YX9_walk) (pc := 112) 0 dX9_walk_112 rfl ?_
  refine u_getR (Y := YX9_walk) (pc := 113) (j := 165) dX9_walk_113 fl_X9_26 k_128 rf_128_6 ?_
  refine g_aload_n (Y := YX9_walk) (pc := 116) 0 dX9_walk_116 rfl ?_
  refine u_getR (Y := YX9_walk) (pc := 117) (j := 129) dX9_walk_117 fl_X9_21 k_128 rf_128_2 ?_
  refine g_aload_n (Y := YX9_walk) (pc := 120) 1 dX9_walk_120 rfl ?_
  refine u_getI (Y := YX9_walk) (pc := 121) dX9_walk_121 fl_X9_54 (or_k hq1) ?_
  refine g_bipush (Y := YX9_walk) (pc := 124) dX9_walk_124 kB_6 ?_
  refine s_min (Y := YX9_walk) (pc := 126) dX9_walk_126 lk_X9_67 w_min (Nat.le_of_ble_eq_true rfl) (Nat.le_of_ble_eq_true rfl) ?_
  refine g_nm (fun v6 e => ?_)
  replace hF := vl_to e hF; clear e
  obtain ⟨g7, hF⟩ := gd_some hF
  refine s_aaldS (Y := YX9_walk) (pc := 129) dX9_walk_129 k_129 n_129 g7 (aft_r g7.2) ?_
  obtain ⟨r8, M9, e10, hF⟩ := bd_some hF
  refine s_callVv (Y := YX9_walk) (pc := 130) (as := [.ref (130 + 5 * v6.toNatClampNeg)]) (st := []) (r_X7_copy isSt_165 (aft_all _ g7.2).2 e10) miX7_copy lk_X9_34 dX9_walk_130 k_165 rfl (Nat.le_of_ble_eq_true rfl) (Nat.le_of_ble_eq_true rfl) rfl ?_
  clear e10
  refine g_aload_n (Y := YX9_walk) (pc := 133) 0 dX9_walk_133 rfl ?_
  refine g_aload_n (Y := YX9_walk) (pc := 134) 1 dX9_walk_134 rfl ?_
  obtain ⟨r11, M12, e13, hF⟩ := bd_some hF
  refine s_callVi (Y := YX9_walk) (pc := 135) (as := []) (st := [.ref 128]) (r_X5_bits hq1 e13) miX5_bits lk_X9_70 dX9_walk_135 (or_k hq1) rfl (Nat.le_of_ble_eq_true rfl) (Nat.le_of_ble_eq_true rfl) rfl ?_
  clear e13
  refine g_iload (Y := YX9_walk) (pc := 138) 2 dX9_walk_138 rfl ?_
  obtain ⟨r14, M15, e16, hF⟩ := bd_some hF
  refine s_callVi (Y := YX9_walk) (pc := 140) (as := [.int r11, .int x4]) (st := []) (r_X9_leadThrough  e16) miX9_leadThrough lk_X9_74 dX9_walk_140 k_128 rfl (Nat.le_of_ble_eq_true rfl) (Nat.le_of_ble_eq_true rfl) rfl ?_
  clear e16
  obtain ⟨g17, hF⟩ := gd_some hF
  exact s_zret (Y := YX9_walk) (pc := 143) dX9_walk_143 rfl g17 hF
def f_X9_walk_38 (q1 : Nat) : Nat → Int32 → Int32 → Mem → Option (Int32 × Mem)
  | 0, _, _, _ => none
  | n + 1, x4, x5, M =>
    if x5 < (M q1 1) then
      if x5 < 6 then
        gd (0 ≤ (x5 + 1) ∧ (x5 + 1).toNatClampNeg < 7) <|
        gd (0 ≤ x5 ∧ x5.toNatClampNeg < 7) <|
        bd (f_X7_copy (130 + 5 * (x5 + 1).toNatClampNeg) (130 + 5 * x5.toNatClampNeg) M) fun _ M22 =>
        gd (0 ≤ (x5 + 1) ∧ (x5 + 1).toNatClampNeg < 7) <|
        gd (0 ≤ x5 ∧ x5.toNatClampNeg < 6) <|
        bd (f_X9_sendOff (130 + 5 * (x5 + 1).toNatClampNeg) (M22 (q1 + 1) x5.toNatClampNeg) x4 M22) fun r26 M27 =>
        if r26 = 0 then
          ml (up M27 128 4 x5) fun M31 =>
          some (0, M31)
        else
          vl (x5 + 1) fun v30 =>
          f_X9_walk_38 q1 n x4 v30 M27
      else
        f_X9_walk_112 q1 x4 M
    else
      f_X9_walk_112 q1 x4 M
set_option maxRecDepth 100000 in
theorem w_X9_walk_38 {R : Int32} {M' : Mem} {q1 : Nat} (hq1 : isOr q1) : ∀ (n : Nat) (x4 x5 : Int32) (M : Mem), f_X9_walk_38 q1 n x4 x5 M = some (R, M') → RunF l D cy ad none YX9_walk 5 0 0 (some (.int R)) (lay X M') 0 0 38 [(0, .ref 128), (1, .ref q1), (4, .int x4), (5, .int x5)] [] (lay X M) := by
  intro n
  induction n with
  | zero => intro x4 x5 M hF; exact absurd hF (by unfold f_X9_walk_38; exact fun h => nomatch h)
  | succ n ih =>
    intro x4 x5 M hF
    unfold f_X9_walk_38 at hF
    refine g_iload (Y := YX9_walk) (pc := 38) 3 dX9_walk_38 rfl ?_
    refine g_aload_n (Y := YX9_walk) (pc := 40) 1 dX9_walk_40 rfl ?_
    refine u_getI (Y := YX9_walk) (pc := 41) dX9_walk_41 fl_X9_54 (or_k hq1) ?_
    refine g_icmp_ge (Y := YX9_walk) (pc := 44) (tgt := 112) dX9_walk_44 rfl (fun c5 => ?_) (fun c5 => ?_)
    · replace hF := if_f c5 hF
      refine g_loc [0, 1, 2] rfl ?_
      exact w_X9_walk_112 hq1 _ _ hF
    · replace hF := if_t c5 hF
      refine g_iload (Y := YX9_walk) (pc := 47) 3 dX9_walk_47 rfl ?_
      refine g_bipush (Y := YX9_walk) (pc := 49) dX9_walk_49 kB_6 ?_
      refine g_icmp_ge (Y := YX9_walk) (pc := 51) (tgt := 112) dX9_walk_51 rfl (fun c18 => ?_) (fun c18 => ?_)
      · replace hF := if_f c18 hF
        refine g_loc [0, 1, 2] rfl ?_
        exact w_X9_walk_112 hq1 _ _ hF
      · replace hF := if_t c18 hF
        refine g_aload_n (Y := YX9_walk) (pc := 54) 0 dX9_walk_54 rfl ?_
        refine u_getR (Y := YX9_walk) (pc := 55) (j := 129) dX9_walk_55 fl_X9_21 k_128 rf_128_2 ?_
        refine g_iload (Y := YX9_walk) (pc := 58) 3 dX9_walk_58 rfl ?_
        refine g_iconst (Y := YX9_walk) (pc := 60) dX9_walk_60 kI_1 ?_
        refine g_iadd (Y := YX9_walk) (pc := 61) dX9_walk_61 ?_
        obtain ⟨g19, hF⟩ := gd_some hF
        refine s_aaldS (Y := YX9_walk) (pc := 62) dX9_walk_62 k_129 n_129 g19 (aft_r g19.2) ?_
        refine g_aload_n (Y := YX9_walk) (pc := 63) 0 dX9_walk_63 rfl ?_
        refine u_getR (Y := YX9_walk) (pc := 64) (j := 129) dX9_walk_64 fl_X9_21 k_128 rf_128_2 ?_
        refine g_iload (Y := YX9_walk) (pc := 67) 3 dX9_walk_67 rfl ?_
        obtain ⟨g20, hF⟩ := gd_some hF
        refine s_aaldS (Y := YX9_walk) (pc := 69) dX9_walk_69 k_129 n_129 g20 (aft_r g20.2) ?_
        obtain ⟨r21, M22, e23, hF⟩ := bd_some hF
        refine s_callVv (Y := YX9_walk) (pc := 70) (as := [.ref (130 + 5 * x5.toNatClampNeg)]) (st := []) (r_X7_copy (aft_all _ g19.2).2 (aft_all _ g20.2).2 e23) miX7_copy lk_X9_34 dX9_walk_70 (st_k (aft_all _ g19.2).2) rfl (Nat.le_of_ble_eq_true rfl) (Nat.le_of_ble_eq_true rfl) rfl ?_
        clear e23
        refine g_aload_n (Y := YX9_walk) (pc := 73) 0 dX9_walk_73 rfl ?_
        refine g_aload_n (Y := YX9_walk) (pc := 74) 0 dX9_walk_74 rfl ?_
        refine u_getR (Y := YX9_walk) (pc := 75) (j := 129) dX9_walk_75 fl_X9_21 k_128 rf_128_2 ?_
        refine g_iload (Y := YX9_walk) (pc := 78) 3 dX9_walk_78 rfl ?_
        refine g_iconst (Y := YX9_walk) (pc := 80) dX9_walk_80 kI_1 ?_
        refine g_iadd (Y := YX9_walk) (pc := 81) dX9_walk_81 ?_
        obtain ⟨g24, hF⟩ := gd_some hF
        refine s_aaldS (Y := YX9_walk) (pc := 82) dX9_walk_82 k_129 n_129 g24 (aft_r g24.2) ?_
        refine g_aload_n (Y := YX9_walk) (pc := 83) 1 dX9_walk_83 rfl ?_
        refine u_getR (Y := YX9_walk) (pc := 84) (j := (q1 + 1)) dX9_walk_84 fl_X9_59 (or_k hq1) (or_r0 hq1) ?_
        refine g_iload (Y := YX9_walk) (pc := 87) 3 dX9_walk_87 rfl ?_
        obtain ⟨g25, hF⟩ := gd_some hF
        refine s_iald (Y := YX9_walk) (pc := 89) dX9_walk_89 (or_k1 hq1) (or_n1 hq1) g25 ?_
        refine g_iload (Y := YX9_walk) (pc := 90) 2 dX9_walk_90 rfl ?_
        obtain ⟨r26, M27, e28, hF⟩ := bd_some hF
        refine s_callVi (Y := YX9_walk) (pc := 92) (as := [.ref (130 + 5 * (x5 + 1).toNatClampNeg), .int (M22 (q1 + 1) x5.toNatClampNeg), .int x4]) (st := []) (r_X9_sendOff (aft_all _ g24.2).2 e28) miX9_sendOff lk_X9_63 dX9_walk_92 k_128 rfl (Nat.le_of_ble_eq_true rfl) (Nat.le_of_ble_eq_true rfl) rfl ?_
        clear e28
        refine g_if_ne (Y := YX9_walk) (pc := 95) (tgt := 106) dX9_walk_95 rfl (fun c29 => ?_) (fun c29 => ?_)
        · replace hF := if_f c29 hF
          refine s_iinc (Y := YX9_walk) (pc := 106) (j := 3) (L' := fun y => [(5, .int y), (0, .ref 128), (1, .ref q1), (4, .int x4)]) dX9_walk_106 kI_1 rfl (Nat.le_of_ble_eq_true rfl) (fun _ => rfl) (fun v30 e => ?_)
          replace hF := vl_to e hF; clear e
          refine g_goto (Y := YX9_walk) (pc := 109) (tgt := 38) dX9_walk_109 rfl ?_
          refine g_loc [1, 2, 3, 0] rfl ?_
          exact ih _ _ _ hF
        · replace hF := if_t c29 hF
          refine g_aload_n (Y := YX9_walk) (pc := 98) 0 dX9_walk_98 rfl ?_
          refine g_iload (Y := YX9_walk) (pc := 99) 3 dX9_walk_99 rfl ?_
          refine u_putI (Y := YX9_walk) (pc := 101) dX9_walk_101 fl_X9_30  k_128 ?_
          refine g_nmM (fun M31 e => ?_)
          replace hF := ml_to e hF; clear e
          refine g_iconst (Y := YX9_walk) (pc := 104) dX9_walk_104 kI_0 ?_
          exact s_zret (Y := YX9_walk) (pc := 105) dX9_walk_105 rfl (Or.inl rfl) hF
def f_X9_walk_18 (q1 : Nat) (x2 : Int32) (x3 : Int32) (M : Mem) : Option (Int32 × Mem) :=
  ml (up M 128 4 (-1)) fun M2 =>
  vl (((M2 128 5) + x3)) fun v3 =>
  vl ((if (0 : Int32) < x2 then x2 else (0 : Int32))) fun v4 =>
  f_X9_walk_38 q1 FU v3 v4 M2
set_option maxRecDepth 100000 in
theorem w_X9_walk_18 {R : Int32} {M' : Mem} {q1 : Nat} (hq1 : isOr q1) (x2 x3 : Int32) (M : Mem) (hF : f_X9_walk_18 q1 x2 x3 M = some (R, M')) : RunF l D cy ad none YX9_walk 5 0 0 (some (.int R)) (lay X M') 0 0 18 [(0, .ref 128), (1, .ref q1), (2, .int x2), (3, .int x3)] [] (lay X M) := by
  unfold f_X9_walk_18 at hF
  refine g_aload_n (Y := YX9_walk) (pc := 18) 0 dX9_walk_18 rfl ?_
  refine g_iconst (Y := YX9_walk) (pc := 19) dX9_walk_19 kI_m1 ?_
  refine u_putI (Y := YX9_walk) (pc := 20) dX9_walk_20 fl_X9_30  k_128 ?_
  refine g_nmM (fun M2 e => ?_)
  replace hF := ml_to e hF; clear e
  refine g_aload_n (Y := YX9_walk) (pc := 23) 0 dX9_walk_23 rfl ?_
  refine u_getI (Y := YX9_walk) (pc := 24) dX9_walk_24 fl_X9_41 k_128 ?_
  refine g_iload_n (Y := YX9_walk) (pc := 27) 3 dX9_walk_27 rfl ?_
  refine g_iadd (Y := YX9_walk) (pc := 28) dX9_walk_28 ?_
  refine g_nm (fun v3 e => ?_)
  replace hF := vl_to e hF; clear e
  refine g_istore (Y := YX9_walk) (pc := 29) (L' := [(4, .int v3), (0, .ref 128), (1, .ref q1), (2, .int x2), (3, .int x3)]) dX9_walk_29 (Nat.le_of_ble_eq_true rfl) rfl ?_
  refine g_iconst (Y := YX9_walk) (pc := 31) dX9_walk_31 kI_0 ?_
  refine g_iload_n (Y := YX9_walk) (pc := 32) 3 dX9_walk_32 rfl ?_
  refine s_max (Y := YX9_walk) (pc := 33) dX9_walk_33 lk_X9_48 w_max (Nat.le_of_ble_eq_true rfl) (Nat.le_of_ble_eq_true rfl) ?_
  refine g_nm (fun v4 e => ?_)
  replace hF := vl_to e hF; clear e
  refine g_istore (Y := YX9_walk) (pc := 36) (L' := [(5, .int v4), (4, .int v3), (0, .ref 128), (1, .ref q1), (2, .int x2), (3, .int x3)]) dX9_walk_36 (Nat.le_of_ble_eq_true rfl) rfl ?_
  refine g_loc [2, 3, 1, 0] rfl ?_
  exact w_X9_walk_38 hq1 _ _ _ _ hF
def f_X9_walk_0 (q1 : Nat) (x2 : Int32) (x3 : Int32) (M : Mem) : Option (Int32 × Mem) :=
  if (M 128 4) = (-1) then
    f_X9_walk_18 q1 x2 x3 M
  else
    if (M 128 4) < x2 then
      some (0, M)
    else
      f_X9_walk_18 q1 x2 x3 M
set_option maxRecDepth 100000 in
theorem w_X9_walk_0 {R : Int32} {M' : Mem} {q1 : Nat} (hq1 : isOr q1) (x2 x3 : Int32) (M : Mem) (hF : f_X9_walk_0 q1 x2 x3 M = some (R, M')) : RunF l D cy ad none YX9_walk 5 0 0 (some (.int R)) (lay X M') 0 0 0 [(0, .ref 128), (1, .ref q1), (2, .int x2), (3, .int x3)] [] (lay X M) := by
  unfold f_X9_walk_0 at hF
  refine g_aload_n (Y := YX9_walk) (pc := 0) 0 dX9_walk_0 rfl ?_
  refine u_getI (Y := YX9_walk) (pc := 1) dX9_walk_1 fl_X9_30 k_128 ?_
  refine g_iconst (Y := YX9_walk) (pc := 4) dX9_walk_4 kI_m1 ?_
  refine g_icmp_eq (Y := YX9_walk) (pc := 5) (tgt := 18) dX9_walk_5 rfl (fun c1 => ?_) (fun c1 => ?_)
  · replace hF := if_t c1 hF
    exact w_X9_walk_18 hq1 _ _ _ hF
  · replace hF := if_f c1 hF
    refine g_iload_n (Y := YX9_walk) (pc := 8) 2 dX9_walk_8 rfl ?_
    refine g_aload_n (Y := YX9_walk) (pc := 9) 0 dX9_walk_9 rfl ?_
    refine u_getI (Y := YX9_walk) (pc := 10) dX9_walk_10 fl_X9_30 k_128 ?_
    refine g_icmp_le (Y := YX9_walk) (pc := 13) (tgt := 18) dX9_walk_13 rfl (fun c32 => ?_) (fun c32 => ?_)
    · replace hF := if_f c32 hF
      exact w_X9_walk_18 hq1 _ _ _ hF
    · replace hF := if_t c32 hF
      refine g_iconst (Y := YX9_walk) (pc := 16) dX9_walk_16 kI_0 ?_
      exact s_zret (Y := YX9_walk) (pc := 17) dX9_walk_17 rfl (Or.inl rfl) hF
def f_X9_walk (q1 : Nat) (x2 : Int32) (x3 : Int32) (M : Mem) : Option (Int32 × Mem) := f_X9_walk_0 q1 x2 x3 M
theorem r_X9_walk {q1 : Nat} {x2 x3 R : Int32} {M M' : Mem} (hq1 : isOr q1) (hF : f_X9_walk q1 x2 x3 M = some (R, M')) : RunS l D cy ad YX9_walk 5 [.ref 128, .ref q1, .int x2, .int x3] X M (some (.int R)) M' := Run.of 3 (miX9_walk).1 (Nat.le_of_ble_eq_true rfl) (w_X9_walk_0 hq1 _ _ _ hF)
def f_X9_minutesGone_0  (M : Mem) : Option (Int32 × Mem) :=
  some (((M 165 0) - (M 128 5)), M)
set_option maxRecDepth 100000 in
theorem w_X9_minutesGone_0 {R : Int32} {M' : Mem}  (M : Mem) (hF : f_X9_minutesGone_0  M = some (R, M')) : RunF l D cy ad none YX9_minutesGone 0 0 0 (some (.int R)) (lay X M') 0 0 0 [(0, .ref 128)] [] (lay X M) := by
  unfold f_X9_minutesGone_0 at hF
  refine g_aload_n (Y := YX9_minutesGone) (pc := 0) 0 dX9_minutesGone_0 rfl ?_
  refine u_getR (Y := YX9_minutesGone) (pc := 1) (j := 165) dX9_minutesGone_1 fl_X9_26 k_128 rf_128_6 ?_
  refine u_getI (Y := YX9_minutesGone) (pc := 4) dX9_minutesGone_4 fl_X9_38 k_165 ?_
  refine g_aload_n (Y := YX9_minutesGone) (pc := 7) 0 dX9_minutesGone_7 rfl ?_
  refine u_getI (Y := YX9_minutesGone) (pc := 8) dX9_minutesGone_8 fl_X9_41 k_128 ?_
  refine g_isub (Y := YX9_minutesGone) (pc := 11) dX9_minutesGone_11 ?_
  exact s_iret (Y := YX9_minutesGone) (pc := 12) dX9_minutesGone_12 rfl hF
def f_X9_minutesGone (M : Mem) : Option (Int32 × Mem) := f_X9_minutesGone_0 M
theorem r_X9_minutesGone {R : Int32} {M M' : Mem}  (hF : f_X9_minutesGone  M = some (R, M')) : RunS l D cy ad YX9_minutesGone 0 [.ref 128] X M (some (.int R)) M' := Run.of 0 (miX9_minutesGone).1 (Nat.le_of_ble_eq_true rfl) (w_X9_minutesGone_0  _ hF)
end NXG
