theorem dX10_late_0 : decode cX10_late 0 = .ok (.iload_n 2, 1) := by decide +kernel
theorem dX10_late_1 : decode cX10_late 1 = .ok (.iconst 1, 1) := by decide +kernel
theorem dX10_late_2 : decode cX10_late 2 = .ok (.if_icmp .lt 17, 3) := by decide +kernel
theorem dX10_late_5 : decode cX10_late 5 = .ok (.iload_n 2, 1) := by decide +kernel
theorem dX10_late_6 : decode cX10_late 6 = .ok (.bipush 30, 2) := by decide +kernel
theorem dX10_late_8 : decode cX10_late 8 = .ok (.if_icmp .gt 11, 3) := by decide +kernel
theorem dX10_late_11 : decode cX10_late 11 = .ok (.aload_n 0, 1) := by decide +kernel
theorem dX10_late_12 : decode cX10_late 12 = .ok (.iload_n 1, 1) := by decide +kernel
theorem dX10_late_13 : decode cX10_late 13 = .ok (.invokevirtual 230, 3) := by decide +kernel
theorem dX10_late_16 : decode cX10_late 16 = .ok (.ifCond .ne 5, 3) := by decide +kernel
theorem dX10_late_19 : decode cX10_late 19 = .ok (.iconst (-1), 1) := by decide +kernel
theorem dX10_late_20 : decode cX10_late 20 = .ok (.ireturn, 1) := by decide +kernel
theorem dX10_late_21 : decode cX10_late 21 = .ok (.aload_n 0, 1) := by decide +kernel
theorem dX10_late_22 : decode cX10_late 22 = .ok (.aload_n 0, 1) := by decide +kernel
theorem dX10_late_23 : decode cX10_late 23 = .ok (.getfield 42, 3) := by decide +kernel
theorem dX10_late_26 : decode cX10_late 26 = .ok (.iload_n 1, 1) := by decide +kernel
theorem dX10_late_27 : decode cX10_late 27 = .ok (.iconst 0, 1) := by decide +kernel
theorem dX10_late_28 : decode cX10_late 28 = .ok (.invokevirtual 372, 3) := by decide +kernel
theorem dX10_late_31 : decode cX10_late 31 = .ok (.aload_n 0, 1) := by decide +kernel
theorem dX10_late_32 : decode cX10_late 32 = .ok (.aload_n 0, 1) := by decide +kernel
theorem dX10_late_33 : decode cX10_late 33 = .ok (.getfield 45, 3) := by decide +kernel
theorem dX10_late_36 : decode cX10_late 36 = .ok (.iload_n 1, 1) := by decide +kernel
theorem dX10_late_37 : decode cX10_late 37 = .ok (.iload_n 2, 1) := by decide +kernel
theorem dX10_late_38 : decode cX10_late 38 = .ok (.invokevirtual 372, 3) := by decide +kernel
theorem dX10_late_41 : decode cX10_late 41 = .ok (.aload_n 0, 1) := by decide +kernel
theorem dX10_late_42 : decode cX10_late 42 = .ok (.getfield 42, 3) := by decide +kernel
theorem dX10_late_45 : decode cX10_late 45 = .ok (.invokevirtual 222, 3) := by decide +kernel
theorem dX10_late_48 : decode cX10_late 48 = .ok (.ifCond .ne 13, 3) := by decide +kernel
theorem dX10_late_51 : decode cX10_late 51 = .ok (.aload_n 0, 1) := by decide +kernel
theorem dX10_late_52 : decode cX10_late 52 = .ok (.getfield 45, 3) := by decide +kernel
theorem dX10_late_55 : decode cX10_late 55 = .ok (.invokevirtual 222, 3) := by decide +kernel
theorem dX10_late_58 : decode cX10_late 58 = .ok (.ifCond .eq 6, 3) := by decide +kernel
theorem dX10_late_61 : decode cX10_late 61 = .ok (.bipush (-2), 2) := by decide +kernel
theorem dX10_late_63 : decode cX10_late 63 = .ok (.ireturn, 1) := by decide +kernel
theorem dX10_late_64 : decode cX10_late 64 = .ok (.aload_n 0, 1) := by decide +kernel
theorem dX10_late_65 : decode cX10_late 65 = .ok (.getfield 35, 3) := by decide +kernel
theorem dX10_late_68 : decode cX10_late 68 = .ok (.invokevirtual 222, 3) := by decide +kernel
theorem dX10_late_71 : decode cX10_late 71 = .ok (.istore_n 3, 1) := by decide +kernel
theorem dX10_late_72 : decode cX10_late 72 = .ok (.iconst 0, 1) := by decide +kernel
theorem dX10_late_73 : decode cX10_late 73 = .ok (.istore 4, 2) := by decide +kernel
theorem dX10_late_75 : decode cX10_late 75 = .ok (.iconst 0, 1) := by decide +kernel
theorem dX10_late_76 : decode cX10_late 76 = .ok (.istore 5, 2) := by decide +kernel
theorem dX10_late_78 : decode cX10_late 78 = .ok (.iconst 0, 1) := by decide +kernel
theorem dX10_late_79 : decode cX10_late 79 = .ok (.istore 6, 2) := by decide +kernel
theorem dX10_late_81 : decode cX10_late 81 = .ok (.iload 6, 2) := by decide +kernel
theorem dX10_late_83 : decode cX10_late 83 = .ok (.aload_n 0, 1) := by decide +kernel
theorem dX10_late_84 : decode cX10_late 84 = .ok (.getfield 19, 3) := by decide +kernel
theorem dX10_late_87 : decode cX10_late 87 = .ok (.getfield 129, 3) := by decide +kernel
theorem dX10_late_90 : decode cX10_late 90 = .ok (.if_icmp .ge 66, 3) := by decide +kernel
theorem dX10_late_93 : decode cX10_late 93 = .ok (.iload_n 3, 1) := by decide +kernel
theorem dX10_late_94 : decode cX10_late 94 = .ok (.iload 6, 2) := by decide +kernel
theorem dX10_late_96 : decode cX10_late 96 = .ok (.invokestatic 362, 3) := by decide +kernel
theorem dX10_late_99 : decode cX10_late 99 = .ok (.ifCond .eq 27, 3) := by decide +kernel
theorem dX10_late_102 : decode cX10_late 102 = .ok (.aload_n 0, 1) := by decide +kernel
theorem dX10_late_103 : decode cX10_late 103 = .ok (.getfield 45, 3) := by decide +kernel
theorem dX10_late_106 : decode cX10_late 106 = .ok (.getfield 179, 3) := by decide +kernel
theorem dX10_late_109 : decode cX10_late 109 = .ok (.iload 6, 2) := by decide +kernel
theorem dX10_late_111 : decode cX10_late 111 = .ok (.iaload, 1) := by decide +kernel
theorem dX10_late_112 : decode cX10_late 112 = .ok (.aload_n 0, 1) := by decide +kernel
theorem dX10_late_113 : decode cX10_late 113 = .ok (.getfield 42, 3) := by decide +kernel
theorem dX10_late_116 : decode cX10_late 116 = .ok (.getfield 179, 3) := by decide +kernel
theorem dX10_late_119 : decode cX10_late 119 = .ok (.iload 6, 2) := by decide +kernel
theorem dX10_late_121 : decode cX10_late 121 = .ok (.iaload, 1) := by decide +kernel
theorem dX10_late_122 : decode cX10_late 122 = .ok (.isub, 1) := by decide +kernel
theorem dX10_late_123 : decode cX10_late 123 = .ok (.goto 4, 3) := by decide +kernel
theorem dX10_late_126 : decode cX10_late 126 = .ok (.iconst 0, 1) := by decide +kernel
theorem dX10_late_127 : decode cX10_late 127 = .ok (.istore 7, 2) := by decide +kernel
theorem dX10_late_129 : decode cX10_late 129 = .ok (.iload 7, 2) := by decide +kernel
theorem dX10_late_131 : decode cX10_late 131 = .ok (.ifCond .le 19, 3) := by decide +kernel
theorem dX10_late_134 : decode cX10_late 134 = .ok (.iload 4, 2) := by decide +kernel
theorem dX10_late_136 : decode cX10_late 136 = .ok (.iconst 1, 1) := by decide +kernel
theorem dX10_late_137 : decode cX10_late 137 = .ok (.iload 6, 2) := by decide +kernel
theorem dX10_late_139 : decode cX10_late 139 = .ok (.ishl, 1) := by decide +kernel
theorem dX10_late_140 : decode cX10_late 140 = .ok (.ior, 1) := by decide +kernel
theorem dX10_late_141 : decode cX10_late 141 = .ok (.istore 4, 2) := by decide +kernel
theorem dX10_late_143 : decode cX10_late 143 = .ok (.iload 5, 2) := by decide +kernel
theorem dX10_late_145 : decode cX10_late 145 = .ok (.iload 7, 2) := by decide +kernel
theorem dX10_late_147 : decode cX10_late 147 = .ok (.iadd, 1) := by decide +kernel
theorem dX10_late_148 : decode cX10_late 148 = .ok (.istore 5, 2) := by decide +kernel
theorem dX10_late_150 : decode cX10_late 150 = .ok (.iinc 6 1, 3) := by decide +kernel
theorem dX10_late_153 : decode cX10_late 153 = .ok (.goto (-72), 3) := by decide +kernel
theorem dX10_late_156 : decode cX10_late 156 = .ok (.aload_n 0, 1) := by decide +kernel
theorem dX10_late_157 : decode cX10_late 157 = .ok (.invokevirtual 246, 3) := by decide +kernel
theorem dX10_late_160 : decode cX10_late 160 = .ok (.aload_n 0, 1) := by decide +kernel
theorem dX10_late_161 : decode cX10_late 161 = .ok (.iload 4, 2) := by decide +kernel
theorem dX10_late_163 : decode cX10_late 163 = .ok (.invokevirtual 252, 3) := by decide +kernel
theorem dX10_late_166 : decode cX10_late 166 = .ok (.aload_n 0, 1) := by decide +kernel
theorem dX10_late_167 : decode cX10_late 167 = .ok (.iload 5, 2) := by decide +kernel
theorem dX10_late_169 : decode cX10_late 169 = .ok (.invokevirtual 252, 3) := by decide +kernel
theorem dX10_late_172 : decode cX10_late 172 = .ok (.aload_n 0, 1) := by decide +kernel
theorem dX10_late_173 : decode cX10_late 173 = .ok (.getfield 45, 3) := by decide +kernel
theorem dX10_late_176 : decode cX10_late 176 = .ok (.iload_n 3, 1) := by decide +kernel
theorem dX10_late_177 : decode cX10_late 177 = .ok (.invokevirtual 282, 3) := by decide +kernel
theorem dX10_late_180 : decode cX10_late 180 = .ok (.aload_n 0, 1) := by decide +kernel
theorem dX10_late_181 : decode cX10_late 181 = .ok (.getfield 42, 3) := by decide +kernel
theorem dX10_late_184 : decode cX10_late 184 = .ok (.iload_n 3, 1) := by decide +kernel
theorem dX10_late_185 : decode cX10_late 185 = .ok (.invokevirtual 282, 3) := by decide +kernel
theorem dX10_late_188 : decode cX10_late 188 = .ok (.isub, 1) := by decide +kernel
theorem dX10_late_189 : decode cX10_late 189 = .ok (.ireturn, 1) := by decide +kernel
theorem dX10_nobodyLater_0 : decode cX10_nobodyLater 0 = .ok (.iconst 0, 1) := by decide +kernel
theorem dX10_nobodyLater_1 : decode cX10_nobodyLater 1 = .ok (.istore_n 2, 1) := by decide +kernel
theorem dX10_nobodyLater_2 : decode cX10_nobodyLater 2 = .ok (.iload_n 2, 1) := by decide +kernel
theorem dX10_nobodyLater_3 : decode cX10_nobodyLater 3 = .ok (.aload_n 0, 1) := by decide +kernel
theorem dX10_nobodyLater_4 : decode cX10_nobodyLater 4 = .ok (.getfield 19, 3) := by decide +kernel
theorem dX10_nobodyLater_7 : decode cX10_nobodyLater 7 = .ok (.getfield 129, 3) := by decide +kernel
theorem dX10_nobodyLater_10 : decode cX10_nobodyLater 10 = .ok (.if_icmp .ge 53, 3) := by decide +kernel
theorem dX10_nobodyLater_13 : decode cX10_nobodyLater 13 = .ok (.iload_n 1, 1) := by decide +kernel
theorem dX10_nobodyLater_14 : decode cX10_nobodyLater 14 = .ok (.iload_n 2, 1) := by decide +kernel
theorem dX10_nobodyLater_15 : decode cX10_nobodyLater 15 = .ok (.invokestatic 362, 3) := by decide +kernel
theorem dX10_nobodyLater_18 : decode cX10_nobodyLater 18 = .ok (.ifCond .eq 39, 3) := by decide +kernel
theorem dX10_nobodyLater_21 : decode cX10_nobodyLater 21 = .ok (.aload_n 0, 1) := by decide +kernel
theorem dX10_nobodyLater_22 : decode cX10_nobodyLater 22 = .ok (.getfield 45, 3) := by decide +kernel
theorem dX10_nobodyLater_25 : decode cX10_nobodyLater 25 = .ok (.getfield 179, 3) := by decide +kernel
theorem dX10_nobodyLater_28 : decode cX10_nobodyLater 28 = .ok (.iload_n 2, 1) := by decide +kernel
theorem dX10_nobodyLater_29 : decode cX10_nobodyLater 29 = .ok (.iaload, 1) := by decide +kernel
theorem dX10_nobodyLater_30 : decode cX10_nobodyLater 30 = .ok (.iconst (-1), 1) := by decide +kernel
theorem dX10_nobodyLater_31 : decode cX10_nobodyLater 31 = .ok (.if_icmp .eq 24, 3) := by decide +kernel
theorem dX10_nobodyLater_34 : decode cX10_nobodyLater 34 = .ok (.aload_n 0, 1) := by decide +kernel
theorem dX10_nobodyLater_35 : decode cX10_nobodyLater 35 = .ok (.getfield 45, 3) := by decide +kernel
theorem dX10_nobodyLater_38 : decode cX10_nobodyLater 38 = .ok (.getfield 179, 3) := by decide +kernel
theorem dX10_nobodyLater_41 : decode cX10_nobodyLater 41 = .ok (.iload_n 2, 1) := by decide +kernel
theorem dX10_nobodyLater_42 : decode cX10_nobodyLater 42 = .ok (.iaload, 1) := by decide +kernel
theorem dX10_nobodyLater_43 : decode cX10_nobodyLater 43 = .ok (.aload_n 0, 1) := by decide +kernel
theorem dX10_nobodyLater_44 : decode cX10_nobodyLater 44 = .ok (.getfield 42, 3) := by decide +kernel
theorem dX10_nobodyLater_47 : decode cX10_nobodyLater 47 = .ok (.getfield 179, 3) := by decide +kernel
theorem dX10_nobodyLater_50 : decode cX10_nobodyLater 50 = .ok (.iload_n 2, 1) := by decide +kernel
theorem dX10_nobodyLater_51 : decode cX10_nobodyLater 51 = .ok (.iaload, 1) := by decide +kernel
theorem dX10_nobodyLater_52 : decode cX10_nobodyLater 52 = .ok (.if_icmp .le 5, 3) := by decide +kernel
theorem dX10_nobodyLater_55 : decode cX10_nobodyLater 55 = .ok (.iconst 0, 1) := by decide +kernel
theorem dX10_nobodyLater_56 : decode cX10_nobodyLater 56 = .ok (.ireturn, 1) := by decide +kernel
theorem dX10_nobodyLater_57 : decode cX10_nobodyLater 57 = .ok (.iinc 2 1, 3) := by decide +kernel
theorem dX10_nobodyLater_60 : decode cX10_nobodyLater 60 = .ok (.goto (-58), 3) := by decide +kernel
theorem dX10_nobodyLater_63 : decode cX10_nobodyLater 63 = .ok (.iconst 1, 1) := by decide +kernel
theorem dX10_nobodyLater_64 : decode cX10_nobodyLater 64 = .ok (.ireturn, 1) := by decide +kernel
theorem dX10_slack_0 : decode cX10_slack 0 = .ok (.aload_n 0, 1) := by decide +kernel
theorem dX10_slack_1 : decode cX10_slack 1 = .ok (.iload_n 1, 1) := by decide +kernel
theorem dX10_slack_2 : decode cX10_slack 2 = .ok (.invokevirtual 230, 3) := by decide +kernel
theorem dX10_slack_5 : decode cX10_slack 5 = .ok (.ifCond .ne 5, 3) := by decide +kernel
theorem dX10_slack_8 : decode cX10_slack 8 = .ok (.iconst (-1), 1) := by decide +kernel
theorem dX10_slack_9 : decode cX10_slack 9 = .ok (.ireturn, 1) := by decide +kernel
theorem dX10_slack_10 : decode cX10_slack 10 = .ok (.aload_n 0, 1) := by decide +kernel
theorem dX10_slack_11 : decode cX10_slack 11 = .ok (.aload_n 0, 1) := by decide +kernel
theorem dX10_slack_12 : decode cX10_slack 12 = .ok (.getfield 42, 3) := by decide +kernel
theorem dX10_slack_15 : decode cX10_slack 15 = .ok (.iload_n 1, 1) := by decide +kernel
theorem dX10_slack_16 : decode cX10_slack 16 = .ok (.iconst 0, 1) := by decide +kernel
theorem dX10_slack_17 : decode cX10_slack 17 = .ok (.invokevirtual 372, 3) := by decide +kernel
theorem dX10_slack_20 : decode cX10_slack 20 = .ok (.aload_n 0, 1) := by decide +kernel
theorem dX10_slack_21 : decode cX10_slack 21 = .ok (.getfield 42, 3) := by decide +kernel
theorem dX10_slack_24 : decode cX10_slack 24 = .ok (.invokevirtual 222, 3) := by decide +kernel
theorem dX10_slack_27 : decode cX10_slack 27 = .ok (.ifCond .eq 6, 3) := by decide +kernel
theorem dX10_slack_30 : decode cX10_slack 30 = .ok (.bipush (-2), 2) := by decide +kernel
theorem dX10_slack_32 : decode cX10_slack 32 = .ok (.ireturn, 1) := by decide +kernel
theorem dX10_slack_33 : decode cX10_slack 33 = .ok (.aload_n 0, 1) := by decide +kernel
theorem dX10_slack_34 : decode cX10_slack 34 = .ok (.getfield 35, 3) := by decide +kernel
theorem dX10_slack_37 : decode cX10_slack 37 = .ok (.invokevirtual 222, 3) := by decide +kernel
theorem dX10_slack_40 : decode cX10_slack 40 = .ok (.iconst 1, 1) := by decide +kernel
theorem dX10_slack_41 : decode cX10_slack 41 = .ok (.iload_n 1, 1) := by decide +kernel
theorem dX10_slack_42 : decode cX10_slack 42 = .ok (.ishl, 1) := by decide +kernel
theorem dX10_slack_43 : decode cX10_slack 43 = .ok (.iconst (-1), 1) := by decide +kernel
theorem dX10_slack_44 : decode cX10_slack 44 = .ok (.ixor, 1) := by decide +kernel
theorem dX10_slack_45 : decode cX10_slack 45 = .ok (.iand, 1) := by decide +kernel
theorem dX10_slack_46 : decode cX10_slack 46 = .ok (.istore_n 2, 1) := by decide +kernel
theorem dX10_slack_47 : decode cX10_slack 47 = .ok (.bipush 30, 2) := by decide +kernel
theorem dX10_slack_49 : decode cX10_slack 49 = .ok (.istore_n 3, 1) := by decide +kernel
theorem dX10_slack_50 : decode cX10_slack 50 = .ok (.iload_n 3, 1) := by decide +kernel
theorem dX10_slack_51 : decode cX10_slack 51 = .ok (.ifCond .le 29, 3) := by decide +kernel
theorem dX10_slack_54 : decode cX10_slack 54 = .ok (.aload_n 0, 1) := by decide +kernel
theorem dX10_slack_55 : decode cX10_slack 55 = .ok (.aload_n 0, 1) := by decide +kernel
theorem dX10_slack_56 : decode cX10_slack 56 = .ok (.getfield 45, 3) := by decide +kernel
theorem dX10_slack_59 : decode cX10_slack 59 = .ok (.iload_n 1, 1) := by decide +kernel
theorem dX10_slack_60 : decode cX10_slack 60 = .ok (.iload_n 3, 1) := by decide +kernel
theorem dX10_slack_61 : decode cX10_slack 61 = .ok (.invokevirtual 372, 3) := by decide +kernel
theorem dX10_slack_64 : decode cX10_slack 64 = .ok (.aload_n 0, 1) := by decide +kernel
theorem dX10_slack_65 : decode cX10_slack 65 = .ok (.iload_n 2, 1) := by decide +kernel
theorem dX10_slack_66 : decode cX10_slack 66 = .ok (.invokevirtual 376, 3) := by decide +kernel
theorem dX10_slack_69 : decode cX10_slack 69 = .ok (.ifCond .eq 5, 3) := by decide +kernel
theorem dX10_slack_72 : decode cX10_slack 72 = .ok (.iload_n 3, 1) := by decide +kernel
theorem dX10_slack_73 : decode cX10_slack 73 = .ok (.ireturn, 1) := by decide +kernel
theorem dX10_slack_74 : decode cX10_slack 74 = .ok (.iinc 3 (-1), 3) := by decide +kernel
theorem dX10_slack_77 : decode cX10_slack 77 = .ok (.goto (-27), 3) := by decide +kernel
theorem dX10_slack_80 : decode cX10_slack 80 = .ok (.iconst 0, 1) := by decide +kernel
theorem dX10_slack_81 : decode cX10_slack 81 = .ok (.ireturn, 1) := by decide +kernel
theorem dX10_dies_0 : decode cX10_dies 0 = .ok (.iload_n 2, 1) := by decide +kernel
theorem dX10_dies_1 : decode cX10_dies 1 = .ok (.iconst 1, 1) := by decide +kernel
theorem dX10_dies_2 : decode cX10_dies 2 = .ok (.if_icmp .lt 31, 3) := by decide +kernel
theorem dX10_dies_5 : decode cX10_dies 5 = .ok (.iload_n 2, 1) := by decide +kernel
theorem dX10_dies_6 : decode cX10_dies 6 = .ok (.bipush 60, 2) := by decide +kernel
theorem dX10_dies_8 : decode cX10_dies 8 = .ok (.if_icmp .gt 25, 3) := by decide +kernel
theorem dX10_dies_11 : decode cX10_dies 11 = .ok (.iload_n 3, 1) := by decide +kernel
theorem dX10_dies_12 : decode cX10_dies 12 = .ok (.iconst 1, 1) := by decide +kernel
theorem dX10_dies_13 : decode cX10_dies 13 = .ok (.if_icmp .lt 20, 3) := by decide +kernel
theorem dX10_dies_16 : decode cX10_dies 16 = .ok (.iload_n 3, 1) := by decide +kernel
theorem dX10_dies_17 : decode cX10_dies 17 = .ok (.bipush 60, 2) := by decide +kernel
theorem dX10_dies_19 : decode cX10_dies 19 = .ok (.if_icmp .gt 14, 3) := by decide +kernel
theorem dX10_dies_22 : decode cX10_dies 22 = .ok (.aload_n 0, 1) := by decide +kernel
theorem dX10_dies_23 : decode cX10_dies 23 = .ok (.getfield 19, 3) := by decide +kernel
theorem dX10_dies_26 : decode cX10_dies 26 = .ok (.iload_n 1, 1) := by decide +kernel
theorem dX10_dies_27 : decode cX10_dies 27 = .ok (.invokevirtual 152, 3) := by decide +kernel
theorem dX10_dies_30 : decode cX10_dies 30 = .ok (.ifCond .ne 5, 3) := by decide +kernel
theorem dX10_dies_33 : decode cX10_dies 33 = .ok (.iconst (-1), 1) := by decide +kernel
theorem dX10_dies_34 : decode cX10_dies 34 = .ok (.ireturn, 1) := by decide +kernel
theorem dX10_dies_35 : decode cX10_dies 35 = .ok (.aload_n 0, 1) := by decide +kernel
theorem dX10_dies_36 : decode cX10_dies 36 = .ok (.getfield 19, 3) := by decide +kernel
theorem dX10_dies_39 : decode cX10_dies 39 = .ok (.iload_n 1, 1) := by decide +kernel
theorem dX10_dies_40 : decode cX10_dies 40 = .ok (.invokevirtual 351, 3) := by decide +kernel
theorem dX10_dies_43 : decode cX10_dies 43 = .ok (.istore 4, 2) := by decide +kernel
theorem dX10_dies_45 : decode cX10_dies 45 = .ok (.iload 4, 2) := by decide +kernel
theorem dX10_dies_47 : decode cX10_dies 47 = .ok (.iconst (-1), 1) := by decide +kernel
theorem dX10_dies_48 : decode cX10_dies 48 = .ok (.if_icmp .ne 7, 3) := by decide +kernel
theorem dX10_dies_51 : decode cX10_dies 51 = .ok (.iconst 0, 1) := by decide +kernel
theorem dX10_dies_52 : decode cX10_dies 52 = .ok (.goto 15, 3) := by decide +kernel
theorem dX10_dies_55 : decode cX10_dies 55 = .ok (.aload_n 0, 1) := by decide +kernel
theorem dX10_dies_56 : decode cX10_dies 56 = .ok (.getfield 19, 3) := by decide +kernel
theorem dX10_dies_59 : decode cX10_dies 59 = .ok (.getfield 201, 3) := by decide +kernel
theorem dX10_dies_62 : decode cX10_dies 62 = .ok (.iload_n 1, 1) := by decide +kernel
theorem dX10_dies_63 : decode cX10_dies 63 = .ok (.aaload, 1) := by decide +kernel
theorem dX10_dies_64 : decode cX10_dies 64 = .ok (.iload 4, 2) := by decide +kernel
theorem dX10_dies_66 : decode cX10_dies 66 = .ok (.iaload, 1) := by decide +kernel
theorem dX10_dies_67 : decode cX10_dies 67 = .ok (.istore 5, 2) := by decide +kernel
theorem dX10_dies_69 : decode cX10_dies 69 = .ok (.iload_n 2, 1) := by decide +kernel
theorem dX10_dies_70 : decode cX10_dies 70 = .ok (.iload 5, 2) := by decide +kernel
theorem dX10_dies_72 : decode cX10_dies 72 = .ok (.if_icmp .ge 6, 3) := by decide +kernel
theorem dX10_dies_75 : decode cX10_dies 75 = .ok (.bipush (-2), 2) := by decide +kernel
theorem dX10_dies_77 : decode cX10_dies 77 = .ok (.ireturn, 1) := by decide +kernel
theorem dX10_dies_78 : decode cX10_dies 78 = .ok (.iconst 0, 1) := by decide +kernel
theorem dX10_dies_79 : decode cX10_dies 79 = .ok (.istore 6, 2) := by decide +kernel
theorem dX10_dies_81 : decode cX10_dies 81 = .ok (.iconst 0, 1) := by decide +kernel
theorem dX10_dies_82 : decode cX10_dies 82 = .ok (.istore 7, 2) := by decide +kernel
theorem dX10_dies_84 : decode cX10_dies 84 = .ok (.iload_n 3, 1) := by decide +kernel
theorem dX10_dies_85 : decode cX10_dies 85 = .ok (.iload_n 2, 1) := by decide +kernel
theorem dX10_dies_86 : decode cX10_dies 86 = .ok (.isub, 1) := by decide +kernel
theorem dX10_dies_87 : decode cX10_dies 87 = .ok (.iload 5, 2) := by decide +kernel
theorem dX10_dies_89 : decode cX10_dies 89 = .ok (.iadd, 1) := by decide +kernel
theorem dX10_dies_90 : decode cX10_dies 90 = .ok (.istore 8, 2) := by decide +kernel
theorem dX10_dies_92 : decode cX10_dies 92 = .ok (.iload 6, 2) := by decide +kernel
theorem dX10_dies_94 : decode cX10_dies 94 = .ok (.bipush 20, 2) := by decide +kernel
theorem dX10_dies_96 : decode cX10_dies 96 = .ok (.if_icmp .ge 27, 3) := by decide +kernel
theorem dX10_dies_99 : decode cX10_dies 99 = .ok (.iload 8, 2) := by decide +kernel
theorem dX10_dies_101 : decode cX10_dies 101 = .ok (.ifCond .le 22, 3) := by decide +kernel
theorem dX10_dies_104 : decode cX10_dies 104 = .ok (.iinc 6 1, 3) := by decide +kernel
theorem dX10_dies_107 : decode cX10_dies 107 = .ok (.iload 8, 2) := by decide +kernel
theorem dX10_dies_109 : decode cX10_dies 109 = .ok (.istore 7, 2) := by decide +kernel
theorem dX10_dies_111 : decode cX10_dies 111 = .ok (.iload 8, 2) := by decide +kernel
theorem dX10_dies_113 : decode cX10_dies 113 = .ok (.iload_n 2, 1) := by decide +kernel
theorem dX10_dies_114 : decode cX10_dies 114 = .ok (.isub, 1) := by decide +kernel
theorem dX10_dies_115 : decode cX10_dies 115 = .ok (.iload 5, 2) := by decide +kernel
theorem dX10_dies_117 : decode cX10_dies 117 = .ok (.iadd, 1) := by decide +kernel
theorem dX10_dies_118 : decode cX10_dies 118 = .ok (.istore 8, 2) := by decide +kernel
theorem dX10_dies_120 : decode cX10_dies 120 = .ok (.goto (-28), 3) := by decide +kernel
theorem dX10_dies_123 : decode cX10_dies 123 = .ok (.aload_n 0, 1) := by decide +kernel
theorem dX10_dies_124 : decode cX10_dies 124 = .ok (.invokevirtual 246, 3) := by decide +kernel
theorem dX10_dies_127 : decode cX10_dies 127 = .ok (.aload_n 0, 1) := by decide +kernel
theorem dX10_dies_128 : decode cX10_dies 128 = .ok (.iload 7, 2) := by decide +kernel
theorem dX10_dies_130 : decode cX10_dies 130 = .ok (.invokevirtual 252, 3) := by decide +kernel
theorem dX10_dies_133 : decode cX10_dies 133 = .ok (.iload 6, 2) := by decide +kernel
theorem dX10_dies_135 : decode cX10_dies 135 = .ok (.ireturn, 1) := by decide +kernel
theorem dX1_lossOf_0 : decode cX1_lossOf 0 = .ok (.aload_n 0, 1) := by decide +kernel
theorem dX1_lossOf_1 : decode cX1_lossOf 1 = .ok (.getfield 25, 3) := by decide +kernel
theorem dX1_lossOf_4 : decode cX1_lossOf 4 = .ok (.iload_n 1, 1) := by decide +kernel
theorem dX1_lossOf_5 : decode cX1_lossOf 5 = .ok (.iaload, 1) := by decide +kernel
theorem dX1_lossOf_6 : decode cX1_lossOf 6 = .ok (.aload_n 0, 1) := by decide +kernel
theorem dX1_lossOf_7 : decode cX1_lossOf 7 = .ok (.getfield 25, 3) := by decide +kernel
theorem dX1_lossOf_10 : decode cX1_lossOf 10 = .ok (.iload_n 2, 1) := by decide +kernel
theorem dX1_lossOf_11 : decode cX1_lossOf 11 = .ok (.iaload, 1) := by decide +kernel
theorem dX1_lossOf_12 : decode cX1_lossOf 12 = .ok (.if_icmp .ne 36, 3) := by decide +kernel
theorem dX1_lossOf_15 : decode cX1_lossOf 15 = .ok (.aload_n 0, 1) := by decide +kernel
theorem dX1_lossOf_16 : decode cX1_lossOf 16 = .ok (.getfield 31, 3) := by decide +kernel
theorem dX1_lossOf_19 : decode cX1_lossOf 19 = .ok (.iload_n 1, 1) := by decide +kernel
theorem dX1_lossOf_20 : decode cX1_lossOf 20 = .ok (.iaload, 1) := by decide +kernel
theorem dX1_lossOf_21 : decode cX1_lossOf 21 = .ok (.aload_n 0, 1) := by decide +kernel
theorem dX1_lossOf_22 : decode cX1_lossOf 22 = .ok (.getfield 31, 3) := by decide +kernel
theorem dX1_lossOf_25 : decode cX1_lossOf 25 = .ok (.iload_n 2, 1) := by decide +kernel
theorem dX1_lossOf_26 : decode cX1_lossOf 26 = .ok (.iaload, 1) := by decide +kernel
theorem dX1_lossOf_27 : decode cX1_lossOf 27 = .ok (.if_icmp .ne 21, 3) := by decide +kernel
theorem dX1_lossOf_30 : decode cX1_lossOf 30 = .ok (.aload_n 0, 1) := by decide +kernel
theorem dX1_lossOf_31 : decode cX1_lossOf 31 = .ok (.getfield 28, 3) := by decide +kernel
theorem dX1_lossOf_34 : decode cX1_lossOf 34 = .ok (.iload_n 1, 1) := by decide +kernel
theorem dX1_lossOf_35 : decode cX1_lossOf 35 = .ok (.iaload, 1) := by decide +kernel
theorem dX1_lossOf_36 : decode cX1_lossOf 36 = .ok (.aload_n 0, 1) := by decide +kernel
theorem dX1_lossOf_37 : decode cX1_lossOf 37 = .ok (.getfield 28, 3) := by decide +kernel
theorem dX1_lossOf_40 : decode cX1_lossOf 40 = .ok (.iload_n 2, 1) := by decide +kernel
theorem dX1_lossOf_41 : decode cX1_lossOf 41 = .ok (.iaload, 1) := by decide +kernel
theorem dX1_lossOf_42 : decode cX1_lossOf 42 = .ok (.iadd, 1) := by decide +kernel
theorem dX1_lossOf_43 : decode cX1_lossOf 43 = .ok (.bipush 40, 2) := by decide +kernel
theorem dX1_lossOf_45 : decode cX1_lossOf 45 = .ok (.if_icmp .le 6, 3) := by decide +kernel
theorem dX1_lossOf_48 : decode cX1_lossOf 48 = .ok (.bipush (-2), 2) := by decide +kernel
theorem dX1_lossOf_50 : decode cX1_lossOf 50 = .ok (.ireturn, 1) := by decide +kernel
theorem dX1_lossOf_51 : decode cX1_lossOf 51 = .ok (.iconst 0, 1) := by decide +kernel
theorem dX1_lossOf_52 : decode cX1_lossOf 52 = .ok (.istore_n 3, 1) := by decide +kernel
theorem dX1_lossOf_53 : decode cX1_lossOf 53 = .ok (.iconst 0, 1) := by decide +kernel
theorem dX1_lossOf_54 : decode cX1_lossOf 54 = .ok (.istore 4, 2) := by decide +kernel
theorem dX1_lossOf_56 : decode cX1_lossOf 56 = .ok (.iload 4, 2) := by decide +kernel
theorem dX1_lossOf_58 : decode cX1_lossOf 58 = .ok (.aload_n 0, 1) := by decide +kernel
theorem dX1_lossOf_59 : decode cX1_lossOf 59 = .ok (.getfield 9, 3) := by decide +kernel
theorem dX1_lossOf_62 : decode cX1_lossOf 62 = .ok (.if_icmp .ge 60, 3) := by decide +kernel
theorem dX1_lossOf_65 : decode cX1_lossOf 65 = .ok (.aload_n 0, 1) := by decide +kernel
theorem dX1_lossOf_66 : decode cX1_lossOf 66 = .ok (.getfield 42, 3) := by decide +kernel
theorem dX1_lossOf_69 : decode cX1_lossOf 69 = .ok (.iload_n 1, 1) := by decide +kernel
theorem dX1_lossOf_70 : decode cX1_lossOf 70 = .ok (.aaload, 1) := by decide +kernel
theorem dX1_lossOf_71 : decode cX1_lossOf 71 = .ok (.iload 4, 2) := by decide +kernel
theorem dX1_lossOf_73 : decode cX1_lossOf 73 = .ok (.iaload, 1) := by decide +kernel
theorem dX1_lossOf_74 : decode cX1_lossOf 74 = .ok (.aload_n 0, 1) := by decide +kernel
theorem dX1_lossOf_75 : decode cX1_lossOf 75 = .ok (.getfield 42, 3) := by decide +kernel
theorem dX1_lossOf_78 : decode cX1_lossOf 78 = .ok (.iload_n 2, 1) := by decide +kernel
theorem dX1_lossOf_79 : decode cX1_lossOf 79 = .ok (.aaload, 1) := by decide +kernel
theorem dX1_lossOf_80 : decode cX1_lossOf 80 = .ok (.iload 4, 2) := by decide +kernel
theorem dX1_lossOf_82 : decode cX1_lossOf 82 = .ok (.iaload, 1) := by decide +kernel
theorem dX1_lossOf_83 : decode cX1_lossOf 83 = .ok (.isub, 1) := by decide +kernel
theorem dX1_lossOf_84 : decode cX1_lossOf 84 = .ok (.istore 5, 2) := by decide +kernel
theorem dX1_lossOf_86 : decode cX1_lossOf 86 = .ok (.iload_n 3, 1) := by decide +kernel
theorem dX1_lossOf_87 : decode cX1_lossOf 87 = .ok (.iload 5, 2) := by decide +kernel
theorem dX1_lossOf_89 : decode cX1_lossOf 89 = .ok (.ifCond .le 15, 3) := by decide +kernel
theorem dX1_lossOf_92 : decode cX1_lossOf 92 = .ok (.iload 5, 2) := by decide +kernel
theorem dX1_lossOf_94 : decode cX1_lossOf 94 = .ok (.aload_n 0, 1) := by decide +kernel
theorem dX1_lossOf_95 : decode cX1_lossOf 95 = .ok (.getfield 28, 3) := by decide +kernel
theorem dX1_lossOf_98 : decode cX1_lossOf 98 = .ok (.iload_n 2, 1) := by decide +kernel
theorem dX1_lossOf_99 : decode cX1_lossOf 99 = .ok (.iaload, 1) := by decide +kernel
theorem dX1_lossOf_100 : decode cX1_lossOf 100 = .ok (.imul, 1) := by decide +kernel
theorem dX1_lossOf_101 : decode cX1_lossOf 101 = .ok (.goto 13, 3) := by decide +kernel
theorem dX1_lossOf_104 : decode cX1_lossOf 104 = .ok (.iload 5, 2) := by decide +kernel
theorem dX1_lossOf_106 : decode cX1_lossOf 106 = .ok (.ineg, 1) := by decide +kernel
theorem dX1_lossOf_107 : decode cX1_lossOf 107 = .ok (.aload_n 0, 1) := by decide +kernel
theorem dX1_lossOf_108 : decode cX1_lossOf 108 = .ok (.getfield 28, 3) := by decide +kernel
theorem dX1_lossOf_111 : decode cX1_lossOf 111 = .ok (.iload_n 1, 1) := by decide +kernel
theorem dX1_lossOf_112 : decode cX1_lossOf 112 = .ok (.iaload, 1) := by decide +kernel
theorem dX1_lossOf_113 : decode cX1_lossOf 113 = .ok (.imul, 1) := by decide +kernel
theorem dX1_lossOf_114 : decode cX1_lossOf 114 = .ok (.iadd, 1) := by decide +kernel
theorem dX1_lossOf_115 : decode cX1_lossOf 115 = .ok (.istore_n 3, 1) := by decide +kernel
theorem dX1_lossOf_116 : decode cX1_lossOf 116 = .ok (.iinc 4 1, 3) := by decide +kernel
theorem dX1_lossOf_119 : decode cX1_lossOf 119 = .ok (.goto (-63), 3) := by decide +kernel
theorem dX1_lossOf_122 : decode cX1_lossOf 122 = .ok (.iload_n 3, 1) := by decide +kernel
theorem dX1_lossOf_123 : decode cX1_lossOf 123 = .ok (.ireturn, 1) := by decide +kernel
theorem dX10_loss_0 : decode cX10_loss 0 = .ok (.aload_n 0, 1) := by decide +kernel
theorem dX10_loss_1 : decode cX10_loss 1 = .ok (.getfield 19, 3) := by decide +kernel
theorem dX10_loss_4 : decode cX10_loss 4 = .ok (.iload_n 1, 1) := by decide +kernel
theorem dX10_loss_5 : decode cX10_loss 5 = .ok (.invokevirtual 152, 3) := by decide +kernel
theorem dX10_loss_8 : decode cX10_loss 8 = .ok (.ifCond .eq 19, 3) := by decide +kernel
theorem dX10_loss_11 : decode cX10_loss 11 = .ok (.aload_n 0, 1) := by decide +kernel
theorem dX10_loss_12 : decode cX10_loss 12 = .ok (.getfield 19, 3) := by decide +kernel
theorem dX10_loss_15 : decode cX10_loss 15 = .ok (.iload_n 2, 1) := by decide +kernel
theorem dX10_loss_16 : decode cX10_loss 16 = .ok (.invokevirtual 152, 3) := by decide +kernel
theorem dX10_loss_19 : decode cX10_loss 19 = .ok (.ifCond .eq 8, 3) := by decide +kernel
theorem dX10_loss_22 : decode cX10_loss 22 = .ok (.iload_n 1, 1) := by decide +kernel
theorem dX10_loss_23 : decode cX10_loss 23 = .ok (.iload_n 2, 1) := by decide +kernel
theorem dX10_loss_24 : decode cX10_loss 24 = .ok (.if_icmp .ne 5, 3) := by decide +kernel
theorem dX10_loss_27 : decode cX10_loss 27 = .ok (.iconst (-1), 1) := by decide +kernel
theorem dX10_loss_28 : decode cX10_loss 28 = .ok (.ireturn, 1) := by decide +kernel
theorem dX10_loss_29 : decode cX10_loss 29 = .ok (.aload_n 0, 1) := by decide +kernel
theorem dX10_loss_30 : decode cX10_loss 30 = .ok (.getfield 19, 3) := by decide +kernel
theorem dX10_loss_33 : decode cX10_loss 33 = .ok (.iload_n 1, 1) := by decide +kernel
theorem dX10_loss_34 : decode cX10_loss 34 = .ok (.iload_n 2, 1) := by decide +kernel
theorem dX10_loss_35 : decode cX10_loss 35 = .ok (.invokevirtual 379, 3) := by decide +kernel
theorem dX10_loss_38 : decode cX10_loss 38 = .ok (.ireturn, 1) := by decide +kernel
theorem dX2_judge_0 : decode cX2_judge 0 = .ok (.iload_n 1, 1) := by decide +kernel
theorem dX2_judge_1 : decode cX2_judge 1 = .ok (.aload_n 0, 1) := by decide +kernel
theorem dX2_judge_2 : decode cX2_judge 2 = .ok (.getfield 22, 3) := by decide +kernel
theorem dX2_judge_5 : decode cX2_judge 5 = .ok (.if_icmp .gt 19, 3) := by decide +kernel
theorem dX2_judge_8 : decode cX2_judge 8 = .ok (.iload_n 1, 1) := by decide +kernel
theorem dX2_judge_9 : decode cX2_judge 9 = .ok (.aload_n 0, 1) := by decide +kernel
theorem dX2_judge_10 : decode cX2_judge 10 = .ok (.getfield 22, 3) := by decide +kernel
theorem dX2_judge_13 : decode cX2_judge 13 = .ok (.if_icmp .ne 36, 3) := by decide +kernel
theorem dX2_judge_16 : decode cX2_judge 16 = .ok (.iload_n 2, 1) := by decide +kernel
theorem dX2_judge_17 : decode cX2_judge 17 = .ok (.aload_n 0, 1) := by decide +kernel
theorem dX2_judge_18 : decode cX2_judge 18 = .ok (.getfield 26, 3) := by decide +kernel
theorem dX2_judge_21 : decode cX2_judge 21 = .ok (.if_icmp .ge 28, 3) := by decide +kernel
theorem dX2_judge_24 : decode cX2_judge 24 = .ok (.aload_n 0, 1) := by decide +kernel
theorem dX2_judge_25 : decode cX2_judge 25 = .ok (.iload_n 1, 1) := by decide +kernel
theorem dX2_judge_26 : decode cX2_judge 26 = .ok (.putfield 22, 3) := by decide +kernel
theorem dX2_judge_29 : decode cX2_judge 29 = .ok (.aload_n 0, 1) := by decide +kernel
theorem dX2_judge_30 : decode cX2_judge 30 = .ok (.iload_n 2, 1) := by decide +kernel
theorem dX2_judge_31 : decode cX2_judge 31 = .ok (.putfield 26, 3) := by decide +kernel
theorem dX2_judge_34 : decode cX2_judge 34 = .ok (.aload_n 0, 1) := by decide +kernel
theorem dX2_judge_35 : decode cX2_judge 35 = .ok (.getfield 15, 3) := by decide +kernel
theorem dX2_judge_38 : decode cX2_judge 38 = .ok (.iconst 0, 1) := by decide +kernel
theorem dX2_judge_39 : decode cX2_judge 39 = .ok (.aload_n 0, 1) := by decide +kernel
theorem dX2_judge_40 : decode cX2_judge 40 = .ok (.getfield 19, 3) := by decide +kernel
theorem dX2_judge_43 : decode cX2_judge 43 = .ok (.iconst 0, 1) := by decide +kernel
theorem dX2_judge_44 : decode cX2_judge 44 = .ok (.bipush 6, 2) := by decide +kernel
theorem dX2_judge_46 : decode cX2_judge 46 = .ok (.invokestatic 46, 3) := by decide +kernel
theorem dX2_judge_49 : decode cX2_judge 49 = .ok (.return_, 1) := by decide +kernel
theorem dX2_pairFrom_0 : decode cX2_pairFrom 0 = .ok (.iload_n 1, 1) := by decide +kernel
theorem dX2_pairFrom_1 : decode cX2_pairFrom 1 = .ok (.aload_n 0, 1) := by decide +kernel
theorem dX2_pairFrom_2 : decode cX2_pairFrom 2 = .ok (.getfield 9, 3) := by decide +kernel
theorem dX2_pairFrom_5 : decode cX2_pairFrom 5 = .ok (.getfield 33, 3) := by decide +kernel
theorem dX2_pairFrom_8 : decode cX2_pairFrom 8 = .ok (.if_icmp .ge 9, 3) := by decide +kernel
theorem dX2_pairFrom_11 : decode cX2_pairFrom 11 = .ok (.iload_n 1, 1) := by decide +kernel
theorem dX2_pairFrom_12 : decode cX2_pairFrom 12 = .ok (.bipush 6, 2) := by decide +kernel
theorem dX2_pairFrom_14 : decode cX2_pairFrom 14 = .ok (.if_icmp .lt 10, 3) := by decide +kernel
theorem dX2_pairFrom_17 : decode cX2_pairFrom 17 = .ok (.aload_n 0, 1) := by decide +kernel
theorem dX2_pairFrom_18 : decode cX2_pairFrom 18 = .ok (.iload_n 2, 1) := by decide +kernel
theorem dX2_pairFrom_19 : decode cX2_pairFrom 19 = .ok (.iload_n 3, 1) := by decide +kernel
theorem dX2_pairFrom_20 : decode cX2_pairFrom 20 = .ok (.invokevirtual 38, 3) := by decide +kernel
theorem dX2_pairFrom_23 : decode cX2_pairFrom 23 = .ok (.return_, 1) := by decide +kernel
theorem dX2_pairFrom_24 : decode cX2_pairFrom 24 = .ok (.aload_n 0, 1) := by decide +kernel
theorem dX2_pairFrom_25 : decode cX2_pairFrom 25 = .ok (.iload_n 1, 1) := by decide +kernel
theorem dX2_pairFrom_26 : decode cX2_pairFrom 26 = .ok (.iconst 1, 1) := by decide +kernel
theorem dX2_pairFrom_27 : decode cX2_pairFrom 27 = .ok (.iadd, 1) := by decide +kernel
theorem dX2_pairFrom_28 : decode cX2_pairFrom 28 = .ok (.iload_n 2, 1) := by decide +kernel
theorem dX2_pairFrom_29 : decode cX2_pairFrom 29 = .ok (.iload_n 3, 1) := by decide +kernel
theorem dX2_pairFrom_30 : decode cX2_pairFrom 30 = .ok (.invokevirtual 29, 3) := by decide +kernel
theorem dX2_pairFrom_33 : decode cX2_pairFrom 33 = .ok (.aload_n 0, 1) := by decide +kernel
theorem dX2_pairFrom_34 : decode cX2_pairFrom 34 = .ok (.getfield 15, 3) := by decide +kernel
theorem dX2_pairFrom_37 : decode cX2_pairFrom 37 = .ok (.iload_n 1, 1) := by decide +kernel
theorem dX2_pairFrom_38 : decode cX2_pairFrom 38 = .ok (.iaload, 1) := by decide +kernel
theorem dX2_pairFrom_39 : decode cX2_pairFrom 39 = .ok (.iconst (-1), 1) := by decide +kernel
theorem dX2_pairFrom_40 : decode cX2_pairFrom 40 = .ok (.if_icmp .eq 4, 3) := by decide +kernel
theorem dX2_pairFrom_43 : decode cX2_pairFrom 43 = .ok (.return_, 1) := by decide +kernel
theorem dX2_pairFrom_44 : decode cX2_pairFrom 44 = .ok (.iload_n 1, 1) := by decide +kernel
theorem dX2_pairFrom_45 : decode cX2_pairFrom 45 = .ok (.iconst 1, 1) := by decide +kernel
theorem dX2_pairFrom_46 : decode cX2_pairFrom 46 = .ok (.iadd, 1) := by decide +kernel
theorem dX2_pairFrom_47 : decode cX2_pairFrom 47 = .ok (.istore 4, 2) := by decide +kernel
theorem dX2_pairFrom_49 : decode cX2_pairFrom 49 = .ok (.iload 4, 2) := by decide +kernel
theorem dX2_pairFrom_51 : decode cX2_pairFrom 51 = .ok (.aload_n 0, 1) := by decide +kernel
theorem dX2_pairFrom_52 : decode cX2_pairFrom 52 = .ok (.getfield 9, 3) := by decide +kernel
theorem dX2_pairFrom_55 : decode cX2_pairFrom 55 = .ok (.getfield 33, 3) := by decide +kernel
theorem dX2_pairFrom_58 : decode cX2_pairFrom 58 = .ok (.if_icmp .ge 89, 3) := by decide +kernel
theorem dX2_pairFrom_61 : decode cX2_pairFrom 61 = .ok (.aload_n 0, 1) := by decide +kernel
theorem dX2_pairFrom_62 : decode cX2_pairFrom 62 = .ok (.getfield 15, 3) := by decide +kernel
theorem dX2_pairFrom_65 : decode cX2_pairFrom 65 = .ok (.iload 4, 2) := by decide +kernel
theorem dX2_pairFrom_67 : decode cX2_pairFrom 67 = .ok (.iaload, 1) := by decide +kernel
theorem dX2_pairFrom_68 : decode cX2_pairFrom 68 = .ok (.iconst (-1), 1) := by decide +kernel
theorem dX2_pairFrom_69 : decode cX2_pairFrom 69 = .ok (.if_icmp .ne 16, 3) := by decide +kernel
theorem dX2_pairFrom_72 : decode cX2_pairFrom 72 = .ok (.aload_n 0, 1) := by decide +kernel
theorem dX2_pairFrom_73 : decode cX2_pairFrom 73 = .ok (.getfield 9, 3) := by decide +kernel
theorem dX2_pairFrom_76 : decode cX2_pairFrom 76 = .ok (.iload_n 1, 1) := by decide +kernel
theorem dX2_pairFrom_77 : decode cX2_pairFrom 77 = .ok (.iload 4, 2) := by decide +kernel
theorem dX2_pairFrom_79 : decode cX2_pairFrom 79 = .ok (.invokevirtual 42, 3) := by decide +kernel
theorem dX2_pairFrom_82 : decode cX2_pairFrom 82 = .ok (.goto 5, 3) := by decide +kernel
theorem dX2_pairFrom_85 : decode cX2_pairFrom 85 = .ok (.bipush (-2), 2) := by decide +kernel
theorem dX2_pairFrom_87 : decode cX2_pairFrom 87 = .ok (.istore 5, 2) := by decide +kernel
theorem dX2_pairFrom_89 : decode cX2_pairFrom 89 = .ok (.iload 5, 2) := by decide +kernel
theorem dX2_pairFrom_91 : decode cX2_pairFrom 91 = .ok (.bipush (-2), 2) := by decide +kernel
theorem dX2_pairFrom_93 : decode cX2_pairFrom 93 = .ok (.if_icmp .eq 48, 3) := by decide +kernel
theorem dX2_pairFrom_96 : decode cX2_pairFrom 96 = .ok (.aload_n 0, 1) := by decide +kernel
theorem dX2_pairFrom_97 : decode cX2_pairFrom 97 = .ok (.getfield 15, 3) := by decide +kernel
theorem dX2_pairFrom_100 : decode cX2_pairFrom 100 = .ok (.iload_n 1, 1) := by decide +kernel
theorem dX2_pairFrom_101 : decode cX2_pairFrom 101 = .ok (.iload 4, 2) := by decide +kernel
theorem dX2_pairFrom_103 : decode cX2_pairFrom 103 = .ok (.iastore, 1) := by decide +kernel
theorem dX2_pairFrom_104 : decode cX2_pairFrom 104 = .ok (.aload_n 0, 1) := by decide +kernel
theorem dX2_pairFrom_105 : decode cX2_pairFrom 105 = .ok (.getfield 15, 3) := by decide +kernel
theorem dX2_pairFrom_108 : decode cX2_pairFrom 108 = .ok (.iload 4, 2) := by decide +kernel
theorem dX2_pairFrom_110 : decode cX2_pairFrom 110 = .ok (.iload_n 1, 1) := by decide +kernel
theorem dX2_pairFrom_111 : decode cX2_pairFrom 111 = .ok (.iastore, 1) := by decide +kernel
theorem dX2_pairFrom_112 : decode cX2_pairFrom 112 = .ok (.aload_n 0, 1) := by decide +kernel
theorem dX2_pairFrom_113 : decode cX2_pairFrom 113 = .ok (.iload_n 1, 1) := by decide +kernel
theorem dX2_pairFrom_114 : decode cX2_pairFrom 114 = .ok (.iconst 1, 1) := by decide +kernel
theorem dX2_pairFrom_115 : decode cX2_pairFrom 115 = .ok (.iadd, 1) := by decide +kernel
theorem dX2_pairFrom_116 : decode cX2_pairFrom 116 = .ok (.iload_n 2, 1) := by decide +kernel
theorem dX2_pairFrom_117 : decode cX2_pairFrom 117 = .ok (.iconst 1, 1) := by decide +kernel
theorem dX2_pairFrom_118 : decode cX2_pairFrom 118 = .ok (.iadd, 1) := by decide +kernel
theorem dX2_pairFrom_119 : decode cX2_pairFrom 119 = .ok (.iload_n 3, 1) := by decide +kernel
theorem dX2_pairFrom_120 : decode cX2_pairFrom 120 = .ok (.iload 5, 2) := by decide +kernel
theorem dX2_pairFrom_122 : decode cX2_pairFrom 122 = .ok (.iadd, 1) := by decide +kernel
theorem dX2_pairFrom_123 : decode cX2_pairFrom 123 = .ok (.invokevirtual 29, 3) := by decide +kernel
theorem dX2_pairFrom_126 : decode cX2_pairFrom 126 = .ok (.aload_n 0, 1) := by decide +kernel
theorem dX2_pairFrom_127 : decode cX2_pairFrom 127 = .ok (.getfield 15, 3) := by decide +kernel
theorem dX2_pairFrom_130 : decode cX2_pairFrom 130 = .ok (.iload_n 1, 1) := by decide +kernel
theorem dX2_pairFrom_131 : decode cX2_pairFrom 131 = .ok (.iconst (-1), 1) := by decide +kernel
theorem dX2_pairFrom_132 : decode cX2_pairFrom 132 = .ok (.iastore, 1) := by decide +kernel
theorem dX2_pairFrom_133 : decode cX2_pairFrom 133 = .ok (.aload_n 0, 1) := by decide +kernel
theorem dX2_pairFrom_134 : decode cX2_pairFrom 134 = .ok (.getfield 15, 3) := by decide +kernel
theorem dX2_pairFrom_137 : decode cX2_pairFrom 137 = .ok (.iload 4, 2) := by decide +kernel
theorem dX2_pairFrom_139 : decode cX2_pairFrom 139 = .ok (.iconst (-1), 1) := by decide +kernel
theorem dX2_pairFrom_140 : decode cX2_pairFrom 140 = .ok (.iastore, 1) := by decide +kernel
theorem dX2_pairFrom_141 : decode cX2_pairFrom 141 = .ok (.iinc 4 1, 3) := by decide +kernel
theorem dX2_pairFrom_144 : decode cX2_pairFrom 144 = .ok (.goto (-95), 3) := by decide +kernel
theorem dX2_pairFrom_147 : decode cX2_pairFrom 147 = .ok (.return_, 1) := by decide +kernel
theorem dX2_find_0 : decode cX2_find 0 = .ok (.iconst 0, 1) := by decide +kernel
theorem dX2_find_1 : decode cX2_find 1 = .ok (.istore_n 1, 1) := by decide +kernel
theorem dX2_find_2 : decode cX2_find 2 = .ok (.iload_n 1, 1) := by decide +kernel
theorem dX2_find_3 : decode cX2_find 3 = .ok (.bipush 6, 2) := by decide +kernel
theorem dX2_find_5 : decode cX2_find 5 = .ok (.if_icmp .ge 16, 3) := by decide +kernel
theorem dX2_find_8 : decode cX2_find 8 = .ok (.aload_n 0, 1) := by decide +kernel
theorem dX2_find_9 : decode cX2_find 9 = .ok (.getfield 15, 3) := by decide +kernel
theorem dX2_find_12 : decode cX2_find 12 = .ok (.iload_n 1, 1) := by decide +kernel
theorem dX2_find_13 : decode cX2_find 13 = .ok (.iconst (-1), 1) := by decide +kernel
theorem dX2_find_14 : decode cX2_find 14 = .ok (.iastore, 1) := by decide +kernel
theorem dX2_find_15 : decode cX2_find 15 = .ok (.iinc 1 1, 3) := by decide +kernel
theorem dX2_find_18 : decode cX2_find 18 = .ok (.goto (-16), 3) := by decide +kernel
theorem dX2_find_21 : decode cX2_find 21 = .ok (.aload_n 0, 1) := by decide +kernel
theorem dX2_find_22 : decode cX2_find 22 = .ok (.iconst (-1), 1) := by decide +kernel
theorem dX2_find_23 : decode cX2_find 23 = .ok (.putfield 22, 3) := by decide +kernel
theorem dX2_find_26 : decode cX2_find 26 = .ok (.aload_n 0, 1) := by decide +kernel
theorem dX2_find_27 : decode cX2_find 27 = .ok (.iconst 0, 1) := by decide +kernel
theorem dX2_find_28 : decode cX2_find 28 = .ok (.putfield 26, 3) := by decide +kernel
theorem dX2_find_31 : decode cX2_find 31 = .ok (.aload_n 0, 1) := by decide +kernel
theorem dX2_find_32 : decode cX2_find 32 = .ok (.iconst 0, 1) := by decide +kernel
theorem dX2_find_33 : decode cX2_find 33 = .ok (.iconst 0, 1) := by decide +kernel
theorem dX2_find_34 : decode cX2_find 34 = .ok (.iconst 0, 1) := by decide +kernel
theorem dX2_find_35 : decode cX2_find 35 = .ok (.invokevirtual 29, 3) := by decide +kernel
theorem dX2_find_38 : decode cX2_find 38 = .ok (.return_, 1) := by decide +kernel
theorem dX10_pairs_0 : decode cX10_pairs 0 = .ok (.aload_n 0, 1) := by decide +kernel
theorem dX10_pairs_1 : decode cX10_pairs 1 = .ok (.getfield 94, 3) := by decide +kernel
theorem dX10_pairs_4 : decode cX10_pairs 4 = .ok (.invokevirtual 382, 3) := by decide +kernel
theorem dX10_pairs_7 : decode cX10_pairs 7 = .ok (.aload_n 0, 1) := by decide +kernel
theorem dX10_pairs_8 : decode cX10_pairs 8 = .ok (.invokevirtual 246, 3) := by decide +kernel
theorem dX10_pairs_11 : decode cX10_pairs 11 = .ok (.aload_n 0, 1) := by decide +kernel
theorem dX10_pairs_12 : decode cX10_pairs 12 = .ok (.aload_n 0, 1) := by decide +kernel
theorem dX10_pairs_13 : decode cX10_pairs 13 = .ok (.getfield 94, 3) := by decide +kernel
theorem dX10_pairs_16 : decode cX10_pairs 16 = .ok (.getfield 385, 3) := by decide +kernel
theorem dX10_pairs_19 : decode cX10_pairs 19 = .ok (.invokevirtual 252, 3) := by decide +kernel
theorem dX10_pairs_22 : decode cX10_pairs 22 = .ok (.iconst 0, 1) := by decide +kernel
theorem dX10_pairs_23 : decode cX10_pairs 23 = .ok (.istore_n 1, 1) := by decide +kernel
theorem dX10_pairs_24 : decode cX10_pairs 24 = .ok (.iload_n 1, 1) := by decide +kernel
theorem dX10_pairs_25 : decode cX10_pairs 25 = .ok (.aload_n 0, 1) := by decide +kernel
theorem dX10_pairs_26 : decode cX10_pairs 26 = .ok (.getfield 19, 3) := by decide +kernel
theorem dX10_pairs_29 : decode cX10_pairs 29 = .ok (.getfield 129, 3) := by decide +kernel
theorem dX10_pairs_32 : decode cX10_pairs 32 = .ok (.if_icmp .ge 22, 3) := by decide +kernel
theorem dX10_pairs_35 : decode cX10_pairs 35 = .ok (.aload_n 0, 1) := by decide +kernel
theorem dX10_pairs_36 : decode cX10_pairs 36 = .ok (.aload_n 0, 1) := by decide +kernel
theorem dX10_pairs_37 : decode cX10_pairs 37 = .ok (.getfield 94, 3) := by decide +kernel
theorem dX10_pairs_40 : decode cX10_pairs 40 = .ok (.getfield 388, 3) := by decide +kernel
theorem dX10_pairs_43 : decode cX10_pairs 43 = .ok (.iload_n 1, 1) := by decide +kernel
theorem dX10_pairs_44 : decode cX10_pairs 44 = .ok (.iaload, 1) := by decide +kernel
theorem dX10_pairs_45 : decode cX10_pairs 45 = .ok (.invokevirtual 252, 3) := by decide +kernel
theorem dX10_pairs_48 : decode cX10_pairs 48 = .ok (.iinc 1 1, 3) := by decide +kernel
theorem dX10_pairs_51 : decode cX10_pairs 51 = .ok (.goto (-27), 3) := by decide +kernel
theorem dX10_pairs_54 : decode cX10_pairs 54 = .ok (.aload_n 0, 1) := by decide +kernel
theorem dX10_pairs_55 : decode cX10_pairs 55 = .ok (.getfield 94, 3) := by decide +kernel
theorem dX10_pairs_58 : decode cX10_pairs 58 = .ok (.getfield 391, 3) := by decide +kernel
theorem dX10_pairs_61 : decode cX10_pairs 61 = .ok (.ireturn, 1) := by decide +kernel
theorem dX10_brief_0 : decode cX10_brief 0 = .ok (.aload_n 0, 1) := by decide +kernel
theorem dX10_brief_1 : decode cX10_brief 1 = .ok (.iload_n 1, 1) := by decide +kernel
theorem dX10_brief_2 : decode cX10_brief 2 = .ok (.invokevirtual 292, 3) := by decide +kernel
theorem dX10_brief_5 : decode cX10_brief 5 = .ok (.ifCond .ne 5, 3) := by decide +kernel
theorem dX10_brief_8 : decode cX10_brief 8 = .ok (.iconst (-1), 1) := by decide +kernel
theorem dX10_brief_9 : decode cX10_brief 9 = .ok (.ireturn, 1) := by decide +kernel
theorem dX10_brief_10 : decode cX10_brief 10 = .ok (.aload_n 0, 1) := by decide +kernel
theorem dX10_brief_11 : decode cX10_brief 11 = .ok (.iload_n 1, 1) := by decide +kernel
theorem dX10_brief_12 : decode cX10_brief 12 = .ok (.sipush 400, 3) := by decide +kernel
theorem dX10_brief_15 : decode cX10_brief 15 = .ok (.invokevirtual 313, 3) := by decide +kernel
theorem dX10_brief_18 : decode cX10_brief 18 = .ok (.istore_n 2, 1) := by decide +kernel
theorem dX10_brief_19 : decode cX10_brief 19 = .ok (.iconst (-1), 1) := by decide +kernel
theorem dX10_brief_20 : decode cX10_brief 20 = .ok (.istore_n 3, 1) := by decide +kernel
theorem dX10_brief_21 : decode cX10_brief 21 = .ok (.iconst (-1), 1) := by decide +kernel
theorem dX10_brief_22 : decode cX10_brief 22 = .ok (.istore 4, 2) := by decide +kernel
theorem dX10_brief_24 : decode cX10_brief 24 = .ok (.iconst 0, 1) := by decide +kernel
theorem dX10_brief_25 : decode cX10_brief 25 = .ok (.istore 5, 2) := by decide +kernel
theorem dX10_brief_27 : decode cX10_brief 27 = .ok (.iload 5, 2) := by decide +kernel
theorem dX10_brief_29 : decode cX10_brief 29 = .ok (.aload_n 0, 1) := by decide +kernel
theorem dX10_brief_30 : decode cX10_brief 30 = .ok (.getfield 19, 3) := by decide +kernel
theorem dX10_brief_33 : decode cX10_brief 33 = .ok (.getfield 129, 3) := by decide +kernel
theorem dX10_brief_36 : decode cX10_brief 36 = .ok (.if_icmp .ge 116, 3) := by decide +kernel
theorem dX10_brief_39 : decode cX10_brief 39 = .ok (.iconst 0, 1) := by decide +kernel
theorem dX10_brief_40 : decode cX10_brief 40 = .ok (.istore 6, 2) := by decide +kernel
theorem dX10_brief_42 : decode cX10_brief 42 = .ok (.iload 6, 2) := by decide +kernel
theorem dX10_brief_44 : decode cX10_brief 44 = .ok (.aload_n 0, 1) := by decide +kernel
theorem dX10_brief_45 : decode cX10_brief 45 = .ok (.getfield 19, 3) := by decide +kernel
theorem dX10_brief_48 : decode cX10_brief 48 = .ok (.getfield 123, 3) := by decide +kernel
theorem dX10_brief_51 : decode cX10_brief 51 = .ok (.if_icmp .ge 95, 3) := by decide +kernel
theorem dX10_brief_54 : decode cX10_brief 54 = .ok (.aload_n 0, 1) := by decide +kernel
theorem dX10_brief_55 : decode cX10_brief 55 = .ok (.getfield 19, 3) := by decide +kernel
theorem dX10_brief_58 : decode cX10_brief 58 = .ok (.getfield 201, 3) := by decide +kernel
theorem dX10_brief_61 : decode cX10_brief 61 = .ok (.iload 5, 2) := by decide +kernel
theorem dX10_brief_63 : decode cX10_brief 63 = .ok (.aaload, 1) := by decide +kernel
theorem dX10_brief_64 : decode cX10_brief 64 = .ok (.iload 6, 2) := by decide +kernel
theorem dX10_brief_66 : decode cX10_brief 66 = .ok (.iaload, 1) := by decide +kernel
theorem dX10_brief_67 : decode cX10_brief 67 = .ok (.istore 7, 2) := by decide +kernel
theorem dX10_brief_69 : decode cX10_brief 69 = .ok (.iload 7, 2) := by decide +kernel
theorem dX10_brief_71 : decode cX10_brief 71 = .ok (.ifCond .le 69, 3) := by decide +kernel
theorem dX10_brief_74 : decode cX10_brief 74 = .ok (.aload_n 0, 1) := by decide +kernel
theorem dX10_brief_75 : decode cX10_brief 75 = .ok (.getfield 19, 3) := by decide +kernel
theorem dX10_brief_78 : decode cX10_brief 78 = .ok (.getfield 201, 3) := by decide +kernel
theorem dX10_brief_81 : decode cX10_brief 81 = .ok (.iload 5, 2) := by decide +kernel
theorem dX10_brief_83 : decode cX10_brief 83 = .ok (.aaload, 1) := by decide +kernel
theorem dX10_brief_84 : decode cX10_brief 84 = .ok (.iload 6, 2) := by decide +kernel
theorem dX10_brief_86 : decode cX10_brief 86 = .ok (.iconst 0, 1) := by decide +kernel
theorem dX10_brief_87 : decode cX10_brief 87 = .ok (.iastore, 1) := by decide +kernel
theorem dX10_brief_88 : decode cX10_brief 88 = .ok (.aload_n 0, 1) := by decide +kernel
theorem dX10_brief_89 : decode cX10_brief 89 = .ok (.iload_n 1, 1) := by decide +kernel
theorem dX10_brief_90 : decode cX10_brief 90 = .ok (.iload_n 2, 1) := by decide +kernel
theorem dX10_brief_91 : decode cX10_brief 91 = .ok (.iconst (-1), 1) := by decide +kernel
theorem dX10_brief_92 : decode cX10_brief 92 = .ok (.if_icmp .ne 9, 3) := by decide +kernel
theorem dX10_brief_95 : decode cX10_brief 95 = .ok (.sipush 400, 3) := by decide +kernel
theorem dX10_brief_98 : decode cX10_brief 98 = .ok (.goto 6, 3) := by decide +kernel
theorem dX10_brief_101 : decode cX10_brief 101 = .ok (.iload_n 2, 1) := by decide +kernel
theorem dX10_brief_102 : decode cX10_brief 102 = .ok (.iconst 1, 1) := by decide +kernel
theorem dX10_brief_103 : decode cX10_brief 103 = .ok (.isub, 1) := by decide +kernel
theorem dX10_brief_104 : decode cX10_brief 104 = .ok (.invokevirtual 313, 3) := by decide +kernel
theorem dX10_brief_107 : decode cX10_brief 107 = .ok (.istore 8, 2) := by decide +kernel
theorem dX10_brief_109 : decode cX10_brief 109 = .ok (.aload_n 0, 1) := by decide +kernel
theorem dX10_brief_110 : decode cX10_brief 110 = .ok (.getfield 19, 3) := by decide +kernel
theorem dX10_brief_113 : decode cX10_brief 113 = .ok (.getfield 201, 3) := by decide +kernel
theorem dX10_brief_116 : decode cX10_brief 116 = .ok (.iload 5, 2) := by decide +kernel
theorem dX10_brief_118 : decode cX10_brief 118 = .ok (.aaload, 1) := by decide +kernel
theorem dX10_brief_119 : decode cX10_brief 119 = .ok (.iload 6, 2) := by decide +kernel
theorem dX10_brief_121 : decode cX10_brief 121 = .ok (.iload 7, 2) := by decide +kernel
theorem dX10_brief_123 : decode cX10_brief 123 = .ok (.iastore, 1) := by decide +kernel
theorem dX10_brief_124 : decode cX10_brief 124 = .ok (.iload 8, 2) := by decide +kernel
theorem dX10_brief_126 : decode cX10_brief 126 = .ok (.iconst (-1), 1) := by decide +kernel
theorem dX10_brief_127 : decode cX10_brief 127 = .ok (.if_icmp .eq 13, 3) := by decide +kernel
theorem dX10_brief_130 : decode cX10_brief 130 = .ok (.iload 8, 2) := by decide +kernel
theorem dX10_brief_132 : decode cX10_brief 132 = .ok (.istore_n 2, 1) := by decide +kernel
theorem dX10_brief_133 : decode cX10_brief 133 = .ok (.iload 5, 2) := by decide +kernel
theorem dX10_brief_135 : decode cX10_brief 135 = .ok (.istore_n 3, 1) := by decide +kernel
theorem dX10_brief_136 : decode cX10_brief 136 = .ok (.iload 6, 2) := by decide +kernel
theorem dX10_brief_138 : decode cX10_brief 138 = .ok (.istore 4, 2) := by decide +kernel
theorem dX10_brief_140 : decode cX10_brief 140 = .ok (.iinc 6 1, 3) := by decide +kernel
theorem dX10_brief_143 : decode cX10_brief 143 = .ok (.goto (-101), 3) := by decide +kernel
theorem dX10_brief_146 : decode cX10_brief 146 = .ok (.iinc 5 1, 3) := by decide +kernel
theorem dX10_brief_149 : decode cX10_brief 149 = .ok (.goto (-122), 3) := by decide +kernel
theorem dX10_brief_152 : decode cX10_brief 152 = .ok (.iload_n 2, 1) := by decide +kernel
theorem dX10_brief_153 : decode cX10_brief 153 = .ok (.iconst (-1), 1) := by decide +kernel
theorem dX10_brief_154 : decode cX10_brief 154 = .ok (.if_icmp .ne 6, 3) := by decide +kernel
theorem dX10_brief_157 : decode cX10_brief 157 = .ok (.bipush (-2), 2) := by decide +kernel
theorem dX10_brief_159 : decode cX10_brief 159 = .ok (.ireturn, 1) := by decide +kernel
theorem dX10_brief_160 : decode cX10_brief 160 = .ok (.aload_n 0, 1) := by decide +kernel
theorem dX10_brief_161 : decode cX10_brief 161 = .ok (.invokevirtual 246, 3) := by decide +kernel
theorem dX10_brief_164 : decode cX10_brief 164 = .ok (.aload_n 0, 1) := by decide +kernel
theorem dX10_brief_165 : decode cX10_brief 165 = .ok (.iload_n 3, 1) := by decide +kernel
theorem dX10_brief_166 : decode cX10_brief 166 = .ok (.invokevirtual 252, 3) := by decide +kernel
theorem dX10_brief_169 : decode cX10_brief 169 = .ok (.aload_n 0, 1) := by decide +kernel
theorem dX10_brief_170 : decode cX10_brief 170 = .ok (.iload 4, 2) := by decide +kernel
theorem dX10_brief_172 : decode cX10_brief 172 = .ok (.invokevirtual 252, 3) := by decide +kernel
theorem dX10_brief_175 : decode cX10_brief 175 = .ok (.iload_n 2, 1) := by decide +kernel
theorem dX10_brief_176 : decode cX10_brief 176 = .ok (.ireturn, 1) := by decide +kernel
theorem dX0_add_0 : decode cX0_add 0 = .ok (.aload_n 0, 1) := by decide +kernel
theorem dX0_add_1 : decode cX0_add 1 = .ok (.getfield 21, 3) := by decide +kernel
theorem dX0_add_4 : decode cX0_add 4 = .ok (.ifCond .lt 12, 3) := by decide +kernel
theorem dX0_add_7 : decode cX0_add 7 = .ok (.aload_n 0, 1) := by decide +kernel
theorem dX0_add_8 : decode cX0_add 8 = .ok (.getfield 21, 3) := by decide +kernel
theorem dX0_add_11 : decode cX0_add 11 = .ok (.bipush 12, 2) := by decide +kernel
theorem dX0_add_13 : decode cX0_add 13 = .ok (.if_icmp .lt 5, 3) := by decide +kernel
theorem dX0_add_16 : decode cX0_add 16 = .ok (.iconst (-1), 1) := by decide +kernel
theorem dX0_add_17 : decode cX0_add 17 = .ok (.ireturn, 1) := by decide +kernel
theorem dX0_add_18 : decode cX0_add 18 = .ok (.aload_n 0, 1) := by decide +kernel
theorem dX0_add_19 : decode cX0_add 19 = .ok (.getfield 9, 3) := by decide +kernel
theorem dX0_add_22 : decode cX0_add 22 = .ok (.aload_n 0, 1) := by decide +kernel
theorem dX0_add_23 : decode cX0_add 23 = .ok (.getfield 21, 3) := by decide +kernel
theorem dX0_add_26 : decode cX0_add 26 = .ok (.iload_n 1, 1) := by decide +kernel
theorem dX0_add_27 : decode cX0_add 27 = .ok (.iastore, 1) := by decide +kernel
theorem dX0_add_28 : decode cX0_add 28 = .ok (.aload_n 0, 1) := by decide +kernel
theorem dX0_add_29 : decode cX0_add 29 = .ok (.getfield 15, 3) := by decide +kernel
theorem dX0_add_32 : decode cX0_add 32 = .ok (.aload_n 0, 1) := by decide +kernel
theorem dX0_add_33 : decode cX0_add 33 = .ok (.getfield 21, 3) := by decide +kernel
theorem dX0_add_36 : decode cX0_add 36 = .ok (.iload_n 2, 1) := by decide +kernel
theorem dX0_add_37 : decode cX0_add 37 = .ok (.iastore, 1) := by decide +kernel
theorem dX0_add_38 : decode cX0_add 38 = .ok (.aload_n 0, 1) := by decide +kernel
theorem dX0_add_39 : decode cX0_add 39 = .ok (.getfield 18, 3) := by decide +kernel
theorem dX0_add_42 : decode cX0_add 42 = .ok (.aload_n 0, 1) := by decide +kernel
theorem dX0_add_43 : decode cX0_add 43 = .ok (.getfield 21, 3) := by decide +kernel
theorem dX0_add_46 : decode cX0_add 46 = .ok (.iload_n 3, 1) := by decide +kernel
theorem dX0_add_47 : decode cX0_add 47 = .ok (.iastore, 1) := by decide +kernel
theorem dX0_add_48 : decode cX0_add 48 = .ok (.aload_n 0, 1) := by decide +kernel
theorem dX0_add_49 : decode cX0_add 49 = .ok (.dup, 1) := by decide +kernel
theorem dX0_add_50 : decode cX0_add 50 = .ok (.getfield 21, 3) := by decide +kernel
theorem dX0_add_53 : decode cX0_add 53 = .ok (.iconst 1, 1) := by decide +kernel
theorem dX0_add_54 : decode cX0_add 54 = .ok (.iadd, 1) := by decide +kernel
theorem dX0_add_55 : decode cX0_add 55 = .ok (.putfield 21, 3) := by decide +kernel
theorem dX0_add_58 : decode cX0_add 58 = .ok (.aload_n 0, 1) := by decide +kernel
theorem dX0_add_59 : decode cX0_add 59 = .ok (.getfield 21, 3) := by decide +kernel
theorem dX0_add_62 : decode cX0_add 62 = .ok (.ireturn, 1) := by decide +kernel
theorem dX10_heard_0 : decode cX10_heard 0 = .ok (.aload_n 0, 1) := by decide +kernel
theorem dX10_heard_1 : decode cX10_heard 1 = .ok (.getfield 19, 3) := by decide +kernel
theorem dX10_heard_4 : decode cX10_heard 4 = .ok (.iload_n 1, 1) := by decide +kernel
theorem dX10_heard_5 : decode cX10_heard 5 = .ok (.invokevirtual 185, 3) := by decide +kernel
theorem dX10_heard_8 : decode cX10_heard 8 = .ok (.ifCond .eq 25, 3) := by decide +kernel
theorem dX10_heard_11 : decode cX10_heard 11 = .ok (.iload_n 2, 1) := by decide +kernel
theorem dX10_heard_12 : decode cX10_heard 12 = .ok (.iconst 1, 1) := by decide +kernel
theorem dX10_heard_13 : decode cX10_heard 13 = .ok (.if_icmp .lt 20, 3) := by decide +kernel
theorem dX10_heard_16 : decode cX10_heard 16 = .ok (.iload_n 2, 1) := by decide +kernel
theorem dX10_heard_17 : decode cX10_heard 17 = .ok (.sipush 300, 3) := by decide +kernel
theorem dX10_heard_20 : decode cX10_heard 20 = .ok (.if_icmp .gt 13, 3) := by decide +kernel
theorem dX10_heard_23 : decode cX10_heard 23 = .ok (.iload_n 3, 1) := by decide +kernel
theorem dX10_heard_24 : decode cX10_heard 24 = .ok (.iconst (-1), 1) := by decide +kernel
theorem dX10_heard_25 : decode cX10_heard 25 = .ok (.if_icmp .lt 8, 3) := by decide +kernel
theorem dX10_heard_28 : decode cX10_heard 28 = .ok (.iload_n 3, 1) := by decide +kernel
theorem dX10_heard_29 : decode cX10_heard 29 = .ok (.iconst 4, 1) := by decide +kernel
theorem dX10_heard_30 : decode cX10_heard 30 = .ok (.if_icmp .le 5, 3) := by decide +kernel
theorem dX10_heard_33 : decode cX10_heard 33 = .ok (.iconst (-1), 1) := by decide +kernel
theorem dX10_heard_34 : decode cX10_heard 34 = .ok (.ireturn, 1) := by decide +kernel
theorem dX10_heard_35 : decode cX10_heard 35 = .ok (.aload_n 0, 1) := by decide +kernel
theorem dX10_heard_36 : decode cX10_heard 36 = .ok (.getfield 66, 3) := by decide +kernel
theorem dX10_heard_39 : decode cX10_heard 39 = .ok (.iload_n 1, 1) := by decide +kernel
theorem dX10_heard_40 : decode cX10_heard 40 = .ok (.iload_n 2, 1) := by decide +kernel
theorem dX10_heard_41 : decode cX10_heard 41 = .ok (.iload_n 3, 1) := by decide +kernel
theorem dX10_heard_42 : decode cX10_heard 42 = .ok (.invokevirtual 394, 3) := by decide +kernel
theorem dX10_heard_45 : decode cX10_heard 45 = .ok (.ireturn, 1) := by decide +kernel
theorem dX10_forget_0 : decode cX10_forget 0 = .ok (.aload_n 0, 1) := by decide +kernel
theorem dX10_forget_1 : decode cX10_forget 1 = .ok (.getfield 66, 3) := by decide +kernel
theorem dX10_forget_4 : decode cX10_forget 4 = .ok (.getfield 396, 3) := by decide +kernel
theorem dX10_forget_7 : decode cX10_forget 7 = .ok (.istore_n 1, 1) := by decide +kernel
theorem dX10_forget_8 : decode cX10_forget 8 = .ok (.aload_n 0, 1) := by decide +kernel
theorem dX10_forget_9 : decode cX10_forget 9 = .ok (.getfield 66, 3) := by decide +kernel
theorem dX10_forget_12 : decode cX10_forget 12 = .ok (.iconst 0, 1) := by decide +kernel
theorem dX10_forget_13 : decode cX10_forget 13 = .ok (.putfield 396, 3) := by decide +kernel
theorem dX10_forget_16 : decode cX10_forget 16 = .ok (.iload_n 1, 1) := by decide +kernel
theorem dX10_forget_17 : decode cX10_forget 17 = .ok (.ireturn, 1) := by decide +kernel
theorem dX0_latest_0 : decode cX0_latest 0 = .ok (.iconst 0, 1) := by decide +kernel
theorem dX0_latest_1 : decode cX0_latest 1 = .ok (.istore_n 1, 1) := by decide +kernel
theorem dX0_latest_2 : decode cX0_latest 2 = .ok (.iconst 0, 1) := by decide +kernel
theorem dX0_latest_3 : decode cX0_latest 3 = .ok (.istore_n 2, 1) := by decide +kernel
theorem dX0_latest_4 : decode cX0_latest 4 = .ok (.iload_n 2, 1) := by decide +kernel
theorem dX0_latest_5 : decode cX0_latest 5 = .ok (.aload_n 0, 1) := by decide +kernel
theorem dX0_latest_6 : decode cX0_latest 6 = .ok (.getfield 21, 3) := by decide +kernel
theorem dX0_latest_9 : decode cX0_latest 9 = .ok (.if_icmp .ge 20, 3) := by decide +kernel
theorem dX0_latest_12 : decode cX0_latest 12 = .ok (.iload_n 1, 1) := by decide +kernel
theorem dX0_latest_13 : decode cX0_latest 13 = .ok (.aload_n 0, 1) := by decide +kernel
theorem dX0_latest_14 : decode cX0_latest 14 = .ok (.getfield 15, 3) := by decide +kernel
theorem dX0_latest_17 : decode cX0_latest 17 = .ok (.iload_n 2, 1) := by decide +kernel
theorem dX0_latest_18 : decode cX0_latest 18 = .ok (.iaload, 1) := by decide +kernel
theorem dX0_latest_19 : decode cX0_latest 19 = .ok (.invokestatic 25, 3) := by decide +kernel
theorem dX0_latest_22 : decode cX0_latest 22 = .ok (.istore_n 1, 1) := by decide +kernel
theorem dX0_latest_23 : decode cX0_latest 23 = .ok (.iinc 2 1, 3) := by decide +kernel
theorem dX0_latest_26 : decode cX0_latest 26 = .ok (.goto (-22), 3) := by decide +kernel
theorem dX0_latest_29 : decode cX0_latest 29 = .ok (.iload_n 1, 1) := by decide +kernel
theorem dX0_latest_30 : decode cX0_latest 30 = .ok (.ireturn, 1) := by decide +kernel
theorem dX10_fits_0 : decode cX10_fits 0 = .ok (.aload_n 0, 1) := by decide +kernel
theorem dX10_fits_1 : decode cX10_fits 1 = .ok (.iload_n 1, 1) := by decide +kernel
theorem dX10_fits_2 : decode cX10_fits 2 = .ok (.invokevirtual 292, 3) := by decide +kernel
theorem dX10_fits_5 : decode cX10_fits 5 = .ok (.ifCond .ne 5, 3) := by decide +kernel
theorem dX10_fits_8 : decode cX10_fits 8 = .ok (.iconst (-1), 1) := by decide +kernel
theorem dX10_fits_9 : decode cX10_fits 9 = .ok (.ireturn, 1) := by decide +kernel
theorem dX10_fits_10 : decode cX10_fits 10 = .ok (.iconst 0, 1) := by decide +kernel
theorem dX10_fits_11 : decode cX10_fits 11 = .ok (.istore_n 2, 1) := by decide +kernel
theorem dX10_fits_12 : decode cX10_fits 12 = .ok (.aload_n 0, 1) := by decide +kernel
theorem dX10_fits_13 : decode cX10_fits 13 = .ok (.iload_n 1, 1) := by decide +kernel
theorem dX10_fits_14 : decode cX10_fits 14 = .ok (.iconst 1, 1) := by decide +kernel
theorem dX10_fits_15 : decode cX10_fits 15 = .ok (.invokevirtual 319, 3) := by decide +kernel
theorem dX10_fits_18 : decode cX10_fits 18 = .ok (.istore_n 3, 1) := by decide +kernel
theorem dX10_fits_19 : decode cX10_fits 19 = .ok (.iconst 0, 1) := by decide +kernel
theorem dX10_fits_20 : decode cX10_fits 20 = .ok (.istore 4, 2) := by decide +kernel
theorem dX10_fits_22 : decode cX10_fits 22 = .ok (.iload 4, 2) := by decide +kernel
theorem dX10_fits_24 : decode cX10_fits 24 = .ok (.sipush 720, 3) := by decide +kernel
theorem dX10_fits_27 : decode cX10_fits 27 = .ok (.if_icmp .ge 62, 3) := by decide +kernel
theorem dX10_fits_30 : decode cX10_fits 30 = .ok (.iload_n 3, 1) := by decide +kernel
theorem dX10_fits_31 : decode cX10_fits 31 = .ok (.iconst (-1), 1) := by decide +kernel
theorem dX10_fits_32 : decode cX10_fits 32 = .ok (.if_icmp .eq 57, 3) := by decide +kernel
theorem dX10_fits_35 : decode cX10_fits 35 = .ok (.aload_n 0, 1) := by decide +kernel
theorem dX10_fits_36 : decode cX10_fits 36 = .ok (.getfield 85, 3) := by decide +kernel
theorem dX10_fits_39 : decode cX10_fits 39 = .ok (.aload_n 0, 1) := by decide +kernel
theorem dX10_fits_40 : decode cX10_fits 40 = .ok (.getfield 73, 3) := by decide +kernel
theorem dX10_fits_43 : decode cX10_fits 43 = .ok (.iload_n 3, 1) := by decide +kernel
theorem dX10_fits_44 : decode cX10_fits 44 = .ok (.aload_n 0, 1) := by decide +kernel
theorem dX10_fits_45 : decode cX10_fits 45 = .ok (.getfield 66, 3) := by decide +kernel
theorem dX10_fits_48 : decode cX10_fits 48 = .ok (.invokevirtual 397, 3) := by decide +kernel
theorem dX10_fits_51 : decode cX10_fits 51 = .ok (.invokevirtual 299, 3) := by decide +kernel
theorem dX10_fits_54 : decode cX10_fits 54 = .ok (.ifCond .eq 21, 3) := by decide +kernel
theorem dX10_fits_57 : decode cX10_fits 57 = .ok (.iload_n 2, 1) := by decide +kernel
theorem dX10_fits_58 : decode cX10_fits 58 = .ok (.ifCond .ne 14, 3) := by decide +kernel
theorem dX10_fits_61 : decode cX10_fits 61 = .ok (.aload_n 0, 1) := by decide +kernel
theorem dX10_fits_62 : decode cX10_fits 62 = .ok (.getfield 77, 3) := by decide +kernel
theorem dX10_fits_65 : decode cX10_fits 65 = .ok (.aload_n 0, 1) := by decide +kernel
theorem dX10_fits_66 : decode cX10_fits 66 = .ok (.getfield 73, 3) := by decide +kernel
theorem dX10_fits_69 : decode cX10_fits 69 = .ok (.invokevirtual 323, 3) := by decide +kernel
theorem dX10_fits_72 : decode cX10_fits 72 = .ok (.iinc 2 1, 3) := by decide +kernel
theorem dX10_fits_75 : decode cX10_fits 75 = .ok (.aload_n 0, 1) := by decide +kernel
theorem dX10_fits_76 : decode cX10_fits 76 = .ok (.getfield 73, 3) := by decide +kernel
theorem dX10_fits_79 : decode cX10_fits 79 = .ok (.invokevirtual 326, 3) := by decide +kernel
theorem dX10_fits_82 : decode cX10_fits 82 = .ok (.istore_n 3, 1) := by decide +kernel
theorem dX10_fits_83 : decode cX10_fits 83 = .ok (.iinc 4 1, 3) := by decide +kernel
theorem dX10_fits_86 : decode cX10_fits 86 = .ok (.goto (-64), 3) := by decide +kernel
theorem dX10_fits_89 : decode cX10_fits 89 = .ok (.aload_n 0, 1) := by decide +kernel
theorem dX10_fits_90 : decode cX10_fits 90 = .ok (.invokevirtual 246, 3) := by decide +kernel
theorem dX10_fits_93 : decode cX10_fits 93 = .ok (.iload_n 2, 1) := by decide +kernel
theorem dX10_fits_94 : decode cX10_fits 94 = .ok (.ifCond .le 7, 3) := by decide +kernel
theorem dX10_fits_97 : decode cX10_fits 97 = .ok (.aload_n 0, 1) := by decide +kernel
theorem dX10_fits_98 : decode cX10_fits 98 = .ok (.invokevirtual 316, 3) := by decide +kernel
theorem dX10_fits_101 : decode cX10_fits 101 = .ok (.iload_n 2, 1) := by decide +kernel
theorem dX10_fits_102 : decode cX10_fits 102 = .ok (.ireturn, 1) := by decide +kernel
theorem dX10_began_0 : decode cX10_began 0 = .ok (.aload_n 0, 1) := by decide +kernel
theorem dX10_began_1 : decode cX10_began 1 = .ok (.iload_n 1, 1) := by decide +kernel
theorem dX10_began_2 : decode cX10_began 2 = .ok (.invokevirtual 292, 3) := by decide +kernel
theorem dX10_began_5 : decode cX10_began 5 = .ok (.ifCond .ne 5, 3) := by decide +kernel
theorem dX10_began_8 : decode cX10_began 8 = .ok (.iconst (-1), 1) := by decide +kernel
theorem dX10_began_9 : decode cX10_began 9 = .ok (.ireturn, 1) := by decide +kernel
theorem dX10_began_10 : decode cX10_began 10 = .ok (.iconst 0, 1) := by decide +kernel
theorem dX10_began_11 : decode cX10_began 11 = .ok (.istore_n 2, 1) := by decide +kernel
theorem dX10_began_12 : decode cX10_began 12 = .ok (.iconst 0, 1) := by decide +kernel
theorem dX10_began_13 : decode cX10_began 13 = .ok (.istore_n 3, 1) := by decide +kernel
theorem dX10_began_14 : decode cX10_began 14 = .ok (.aload_n 0, 1) := by decide +kernel
theorem dX10_began_15 : decode cX10_began 15 = .ok (.iload_n 1, 1) := by decide +kernel
theorem dX10_began_16 : decode cX10_began 16 = .ok (.iconst 1, 1) := by decide +kernel
theorem dX10_began_17 : decode cX10_began 17 = .ok (.invokevirtual 319, 3) := by decide +kernel
theorem dX10_began_20 : decode cX10_began 20 = .ok (.istore 4, 2) := by decide +kernel
theorem dX10_began_22 : decode cX10_began 22 = .ok (.iconst 0, 1) := by decide +kernel
theorem dX10_began_23 : decode cX10_began 23 = .ok (.istore 5, 2) := by decide +kernel
theorem dX10_began_25 : decode cX10_began 25 = .ok (.iload 5, 2) := by decide +kernel
theorem dX10_began_27 : decode cX10_began 27 = .ok (.sipush 720, 3) := by decide +kernel
theorem dX10_began_30 : decode cX10_began 30 = .ok (.if_icmp .ge 83, 3) := by decide +kernel
theorem dX10_began_33 : decode cX10_began 33 = .ok (.iload 4, 2) := by decide +kernel
theorem dX10_began_35 : decode cX10_began 35 = .ok (.iconst (-1), 1) := by decide +kernel
theorem dX10_began_36 : decode cX10_began 36 = .ok (.if_icmp .eq 77, 3) := by decide +kernel
theorem dX10_began_39 : decode cX10_began 39 = .ok (.aload_n 0, 1) := by decide +kernel
theorem dX10_began_40 : decode cX10_began 40 = .ok (.getfield 85, 3) := by decide +kernel
theorem dX10_began_43 : decode cX10_began 43 = .ok (.aload_n 0, 1) := by decide +kernel
theorem dX10_began_44 : decode cX10_began 44 = .ok (.getfield 73, 3) := by decide +kernel
theorem dX10_began_47 : decode cX10_began 47 = .ok (.iload 4, 2) := by decide +kernel
theorem dX10_began_49 : decode cX10_began 49 = .ok (.aload_n 0, 1) := by decide +kernel
theorem dX10_began_50 : decode cX10_began 50 = .ok (.getfield 66, 3) := by decide +kernel
theorem dX10_began_53 : decode cX10_began 53 = .ok (.invokevirtual 397, 3) := by decide +kernel
theorem dX10_began_56 : decode cX10_began 56 = .ok (.invokevirtual 299, 3) := by decide +kernel
theorem dX10_began_59 : decode cX10_began 59 = .ok (.ifCond .eq 39, 3) := by decide +kernel
theorem dX10_began_62 : decode cX10_began 62 = .ok (.iload_n 2, 1) := by decide +kernel
theorem dX10_began_63 : decode cX10_began 63 = .ok (.iconst 1, 1) := by decide +kernel
theorem dX10_began_64 : decode cX10_began 64 = .ok (.aload_n 0, 1) := by decide +kernel
theorem dX10_began_65 : decode cX10_began 65 = .ok (.getfield 73, 3) := by decide +kernel
theorem dX10_began_68 : decode cX10_began 68 = .ok (.getfield 307, 3) := by decide +kernel
theorem dX10_began_71 : decode cX10_began 71 = .ok (.iconst 0, 1) := by decide +kernel
theorem dX10_began_72 : decode cX10_began 72 = .ok (.iaload, 1) := by decide +kernel
theorem dX10_began_73 : decode cX10_began 73 = .ok (.ishl, 1) := by decide +kernel
theorem dX10_began_74 : decode cX10_began 74 = .ok (.ior, 1) := by decide +kernel
theorem dX10_began_75 : decode cX10_began 75 = .ok (.istore_n 2, 1) := by decide +kernel
theorem dX10_began_76 : decode cX10_began 76 = .ok (.iload_n 3, 1) := by decide +kernel
theorem dX10_began_77 : decode cX10_began 77 = .ok (.iconst 1, 1) := by decide +kernel
theorem dX10_began_78 : decode cX10_began 78 = .ok (.aload_n 0, 1) := by decide +kernel
theorem dX10_began_79 : decode cX10_began 79 = .ok (.getfield 73, 3) := by decide +kernel
theorem dX10_began_82 : decode cX10_began 82 = .ok (.getfield 307, 3) := by decide +kernel
theorem dX10_began_85 : decode cX10_began 85 = .ok (.aload_n 0, 1) := by decide +kernel
theorem dX10_began_86 : decode cX10_began 86 = .ok (.getfield 73, 3) := by decide +kernel
theorem dX10_began_89 : decode cX10_began 89 = .ok (.getfield 303, 3) := by decide +kernel
theorem dX10_began_92 : decode cX10_began 92 = .ok (.iconst 1, 1) := by decide +kernel
theorem dX10_began_93 : decode cX10_began 93 = .ok (.isub, 1) := by decide +kernel
theorem dX10_began_94 : decode cX10_began 94 = .ok (.iaload, 1) := by decide +kernel
theorem dX10_began_95 : decode cX10_began 95 = .ok (.ishl, 1) := by decide +kernel
theorem dX10_began_96 : decode cX10_began 96 = .ok (.ior, 1) := by decide +kernel
theorem dX10_began_97 : decode cX10_began 97 = .ok (.istore_n 3, 1) := by decide +kernel
theorem dX10_began_98 : decode cX10_began 98 = .ok (.aload_n 0, 1) := by decide +kernel
theorem dX10_began_99 : decode cX10_began 99 = .ok (.getfield 73, 3) := by decide +kernel
theorem dX10_began_102 : decode cX10_began 102 = .ok (.invokevirtual 326, 3) := by decide +kernel
theorem dX10_began_105 : decode cX10_began 105 = .ok (.istore 4, 2) := by decide +kernel
theorem dX10_began_107 : decode cX10_began 107 = .ok (.iinc 5 1, 3) := by decide +kernel
theorem dX10_began_110 : decode cX10_began 110 = .ok (.goto (-85), 3) := by decide +kernel
theorem dX10_began_113 : decode cX10_began 113 = .ok (.aload_n 0, 1) := by decide +kernel
theorem dX10_began_114 : decode cX10_began 114 = .ok (.invokevirtual 246, 3) := by decide +kernel
theorem dX10_began_117 : decode cX10_began 117 = .ok (.aload_n 0, 1) := by decide +kernel
theorem dX10_began_118 : decode cX10_began 118 = .ok (.iload_n 3, 1) := by decide +kernel
theorem dX10_began_119 : decode cX10_began 119 = .ok (.invokevirtual 252, 3) := by decide +kernel
theorem dX10_began_122 : decode cX10_began 122 = .ok (.iload_n 2, 1) := by decide +kernel
theorem dX10_began_123 : decode cX10_began 123 = .ok (.ireturn, 1) := by decide +kernel
theorem dX5_draw_0 : decode cX5_draw 0 = .ok (.iload_n 2, 1) := by decide +kernel
theorem dX5_draw_1 : decode cX5_draw 1 = .ok (.istore_n 3, 1) := by decide +kernel
theorem dX5_draw_2 : decode cX5_draw 2 = .ok (.aload_n 0, 1) := by decide +kernel
theorem dX5_draw_3 : decode cX5_draw 3 = .ok (.iload_n 1, 1) := by decide +kernel
theorem dX5_draw_4 : decode cX5_draw 4 = .ok (.invokevirtual 51, 3) := by decide +kernel
theorem dX5_draw_7 : decode cX5_draw 7 = .ok (.iconst 0, 1) := by decide +kernel
theorem dX5_draw_8 : decode cX5_draw 8 = .ok (.istore 4, 2) := by decide +kernel
theorem dX5_draw_10 : decode cX5_draw 10 = .ok (.iload 4, 2) := by decide +kernel
theorem dX5_draw_12 : decode cX5_draw 12 = .ok (.aload_n 0, 1) := by decide +kernel
theorem dX5_draw_13 : decode cX5_draw 13 = .ok (.getfield 15, 3) := by decide +kernel
theorem dX5_draw_16 : decode cX5_draw 16 = .ok (.if_icmp .ge 86, 3) := by decide +kernel
theorem dX5_draw_19 : decode cX5_draw 19 = .ok (.iload_n 3, 1) := by decide +kernel
theorem dX5_draw_20 : decode cX5_draw 20 = .ok (.ldc 55, 2) := by decide +kernel
theorem dX5_draw_22 : decode cX5_draw 22 = .ok (.imul, 1) := by decide +kernel
theorem dX5_draw_23 : decode cX5_draw 23 = .ok (.sipush 12345, 3) := by decide +kernel
theorem dX5_draw_26 : decode cX5_draw 26 = .ok (.iadd, 1) := by decide +kernel
theorem dX5_draw_27 : decode cX5_draw 27 = .ok (.istore_n 3, 1) := by decide +kernel
theorem dX5_draw_28 : decode cX5_draw 28 = .ok (.iload 4, 2) := by decide +kernel
theorem dX5_draw_30 : decode cX5_draw 30 = .ok (.iload_n 3, 1) := by decide +kernel
theorem dX5_draw_31 : decode cX5_draw 31 = .ok (.bipush 16, 2) := by decide +kernel
theorem dX5_draw_33 : decode cX5_draw 33 = .ok (.iushr, 1) := by decide +kernel
theorem dX5_draw_34 : decode cX5_draw 34 = .ok (.aload_n 0, 1) := by decide +kernel
theorem dX5_draw_35 : decode cX5_draw 35 = .ok (.getfield 15, 3) := by decide +kernel
theorem dX5_draw_38 : decode cX5_draw 38 = .ok (.iload 4, 2) := by decide +kernel
theorem dX5_draw_40 : decode cX5_draw 40 = .ok (.isub, 1) := by decide +kernel
theorem dX5_draw_41 : decode cX5_draw 41 = .ok (.irem, 1) := by decide +kernel
theorem dX5_draw_42 : decode cX5_draw 42 = .ok (.iadd, 1) := by decide +kernel
theorem dX5_draw_43 : decode cX5_draw 43 = .ok (.istore 5, 2) := by decide +kernel
theorem dX5_draw_45 : decode cX5_draw 45 = .ok (.aload_n 0, 1) := by decide +kernel
theorem dX5_draw_46 : decode cX5_draw 46 = .ok (.getfield 9, 3) := by decide +kernel
theorem dX5_draw_49 : decode cX5_draw 49 = .ok (.iload 5, 2) := by decide +kernel
theorem dX5_draw_51 : decode cX5_draw 51 = .ok (.iaload, 1) := by decide +kernel
theorem dX5_draw_52 : decode cX5_draw 52 = .ok (.istore 6, 2) := by decide +kernel
theorem dX5_draw_54 : decode cX5_draw 54 = .ok (.iload 5, 2) := by decide +kernel
theorem dX5_draw_56 : decode cX5_draw 56 = .ok (.istore 7, 2) := by decide +kernel
theorem dX5_draw_58 : decode cX5_draw 58 = .ok (.iload 7, 2) := by decide +kernel
theorem dX5_draw_60 : decode cX5_draw 60 = .ok (.iload 4, 2) := by decide +kernel
theorem dX5_draw_62 : decode cX5_draw 62 = .ok (.if_icmp .le 25, 3) := by decide +kernel
theorem dX5_draw_65 : decode cX5_draw 65 = .ok (.aload_n 0, 1) := by decide +kernel
theorem dX5_draw_66 : decode cX5_draw 66 = .ok (.getfield 9, 3) := by decide +kernel
theorem dX5_draw_69 : decode cX5_draw 69 = .ok (.iload 7, 2) := by decide +kernel
theorem dX5_draw_71 : decode cX5_draw 71 = .ok (.aload_n 0, 1) := by decide +kernel
theorem dX5_draw_72 : decode cX5_draw 72 = .ok (.getfield 9, 3) := by decide +kernel
theorem dX5_draw_75 : decode cX5_draw 75 = .ok (.iload 7, 2) := by decide +kernel
theorem dX5_draw_77 : decode cX5_draw 77 = .ok (.iconst 1, 1) := by decide +kernel
theorem dX5_draw_78 : decode cX5_draw 78 = .ok (.isub, 1) := by decide +kernel
theorem dX5_draw_79 : decode cX5_draw 79 = .ok (.iaload, 1) := by decide +kernel
theorem dX5_draw_80 : decode cX5_draw 80 = .ok (.iastore, 1) := by decide +kernel
theorem dX5_draw_81 : decode cX5_draw 81 = .ok (.iinc 7 (-1), 3) := by decide +kernel
theorem dX5_draw_84 : decode cX5_draw 84 = .ok (.goto (-26), 3) := by decide +kernel
theorem dX5_draw_87 : decode cX5_draw 87 = .ok (.aload_n 0, 1) := by decide +kernel
theorem dX5_draw_88 : decode cX5_draw 88 = .ok (.getfield 9, 3) := by decide +kernel
theorem dX5_draw_91 : decode cX5_draw 91 = .ok (.iload 4, 2) := by decide +kernel
theorem dX5_draw_93 : decode cX5_draw 93 = .ok (.iload 6, 2) := by decide +kernel
theorem dX5_draw_95 : decode cX5_draw 95 = .ok (.iastore, 1) := by decide +kernel
theorem dX5_draw_96 : decode cX5_draw 96 = .ok (.iinc 4 1, 3) := by decide +kernel
theorem dX5_draw_99 : decode cX5_draw 99 = .ok (.goto (-89), 3) := by decide +kernel
theorem dX5_draw_102 : decode cX5_draw 102 = .ok (.iload_n 3, 1) := by decide +kernel
theorem dX5_draw_103 : decode cX5_draw 103 = .ok (.ireturn, 1) := by decide +kernel
theorem dX10_season_0 : decode cX10_season 0 = .ok (.iload_n 3, 1) := by decide +kernel
theorem dX10_season_1 : decode cX10_season 1 = .ok (.iconst 1, 1) := by decide +kernel
theorem dX10_season_2 : decode cX10_season 2 = .ok (.if_icmp .lt 17, 3) := by decide +kernel
theorem dX10_season_5 : decode cX10_season 5 = .ok (.iload_n 3, 1) := by decide +kernel
theorem dX10_season_6 : decode cX10_season 6 = .ok (.bipush 20, 2) := by decide +kernel
theorem dX10_season_8 : decode cX10_season 8 = .ok (.if_icmp .gt 11, 3) := by decide +kernel
theorem dX10_season_11 : decode cX10_season 11 = .ok (.aload_n 0, 1) := by decide +kernel
theorem dX10_season_12 : decode cX10_season 12 = .ok (.iload_n 1, 1) := by decide +kernel
theorem dX10_season_13 : decode cX10_season 13 = .ok (.invokevirtual 292, 3) := by decide +kernel
theorem dX10_season_16 : decode cX10_season 16 = .ok (.ifCond .ne 5, 3) := by decide +kernel
theorem dX10_season_19 : decode cX10_season 19 = .ok (.iconst (-1), 1) := by decide +kernel
theorem dX10_season_20 : decode cX10_season 20 = .ok (.ireturn, 1) := by decide +kernel
theorem dX10_season_21 : decode cX10_season 21 = .ok (.iload_n 2, 1) := by decide +kernel
theorem dX10_season_22 : decode cX10_season 22 = .ok (.istore 4, 2) := by decide +kernel
theorem dX10_season_24 : decode cX10_season 24 = .ok (.iconst 0, 1) := by decide +kernel
theorem dX10_season_25 : decode cX10_season 25 = .ok (.istore 5, 2) := by decide +kernel
theorem dX10_season_27 : decode cX10_season 27 = .ok (.iconst (-1), 1) := by decide +kernel
theorem dX10_season_28 : decode cX10_season 28 = .ok (.istore 6, 2) := by decide +kernel
theorem dX10_season_30 : decode cX10_season 30 = .ok (.iconst (-1), 1) := by decide +kernel
theorem dX10_season_31 : decode cX10_season 31 = .ok (.istore 7, 2) := by decide +kernel
theorem dX10_season_33 : decode cX10_season 33 = .ok (.iconst (-1), 1) := by decide +kernel
theorem dX10_season_34 : decode cX10_season 34 = .ok (.istore 8, 2) := by decide +kernel
theorem dX10_season_36 : decode cX10_season 36 = .ok (.aload_n 0, 1) := by decide +kernel
theorem dX10_season_37 : decode cX10_season 37 = .ok (.getfield 85, 3) := by decide +kernel
theorem dX10_season_40 : decode cX10_season 40 = .ok (.aload_n 0, 1) := by decide +kernel
theorem dX10_season_41 : decode cX10_season 41 = .ok (.getfield 35, 3) := by decide +kernel
theorem dX10_season_44 : decode cX10_season 44 = .ok (.iconst 0, 1) := by decide +kernel
theorem dX10_season_45 : decode cX10_season 45 = .ok (.invokevirtual 295, 3) := by decide +kernel
theorem dX10_season_48 : decode cX10_season 48 = .ok (.iconst 0, 1) := by decide +kernel
theorem dX10_season_49 : decode cX10_season 49 = .ok (.istore 9, 2) := by decide +kernel
theorem dX10_season_51 : decode cX10_season 51 = .ok (.iload 9, 2) := by decide +kernel
theorem dX10_season_53 : decode cX10_season 53 = .ok (.iload_n 3, 1) := by decide +kernel
theorem dX10_season_54 : decode cX10_season 54 = .ok (.if_icmp .ge 81, 3) := by decide +kernel
theorem dX10_season_57 : decode cX10_season 57 = .ok (.aload_n 0, 1) := by decide +kernel
theorem dX10_season_58 : decode cX10_season 58 = .ok (.getfield 73, 3) := by decide +kernel
theorem dX10_season_61 : decode cX10_season 61 = .ok (.iload_n 1, 1) := by decide +kernel
theorem dX10_season_62 : decode cX10_season 62 = .ok (.iload 4, 2) := by decide +kernel
theorem dX10_season_64 : decode cX10_season 64 = .ok (.invokevirtual 400, 3) := by decide +kernel
theorem dX10_season_67 : decode cX10_season 67 = .ok (.istore 4, 2) := by decide +kernel
theorem dX10_season_69 : decode cX10_season 69 = .ok (.aload_n 0, 1) := by decide +kernel
theorem dX10_season_70 : decode cX10_season 70 = .ok (.getfield 85, 3) := by decide +kernel
theorem dX10_season_73 : decode cX10_season 73 = .ok (.aload_n 0, 1) := by decide +kernel
theorem dX10_season_74 : decode cX10_season 74 = .ok (.getfield 73, 3) := by decide +kernel
theorem dX10_season_77 : decode cX10_season 77 = .ok (.iconst 0, 1) := by decide +kernel
theorem dX10_season_78 : decode cX10_season 78 = .ok (.sipush 400, 3) := by decide +kernel
theorem dX10_season_81 : decode cX10_season 81 = .ok (.invokevirtual 299, 3) := by decide +kernel
theorem dX10_season_84 : decode cX10_season 84 = .ok (.ifCond .eq 45, 3) := by decide +kernel
theorem dX10_season_87 : decode cX10_season 87 = .ok (.aload_n 0, 1) := by decide +kernel
theorem dX10_season_88 : decode cX10_season 88 = .ok (.getfield 85, 3) := by decide +kernel
theorem dX10_season_91 : decode cX10_season 91 = .ok (.invokevirtual 310, 3) := by decide +kernel
theorem dX10_season_94 : decode cX10_season 94 = .ok (.istore 10, 2) := by decide +kernel
theorem dX10_season_96 : decode cX10_season 96 = .ok (.iinc 5 1, 3) := by decide +kernel
theorem dX10_season_99 : decode cX10_season 99 = .ok (.iload 7, 2) := by decide +kernel
theorem dX10_season_101 : decode cX10_season 101 = .ok (.iload 10, 2) := by decide +kernel
theorem dX10_season_103 : decode cX10_season 103 = .ok (.invokestatic 357, 3) := by decide +kernel
theorem dX10_season_106 : decode cX10_season 106 = .ok (.istore 7, 2) := by decide +kernel
theorem dX10_season_108 : decode cX10_season 108 = .ok (.iload 6, 2) := by decide +kernel
theorem dX10_season_110 : decode cX10_season 110 = .ok (.iconst (-1), 1) := by decide +kernel
theorem dX10_season_111 : decode cX10_season 111 = .ok (.if_icmp .eq 10, 3) := by decide +kernel
theorem dX10_season_114 : decode cX10_season 114 = .ok (.iload 10, 2) := by decide +kernel
theorem dX10_season_116 : decode cX10_season 116 = .ok (.iload 6, 2) := by decide +kernel
theorem dX10_season_118 : decode cX10_season 118 = .ok (.if_icmp .ge 11, 3) := by decide +kernel
theorem dX10_season_121 : decode cX10_season 121 = .ok (.iload 10, 2) := by decide +kernel
theorem dX10_season_123 : decode cX10_season 123 = .ok (.istore 6, 2) := by decide +kernel
theorem dX10_season_125 : decode cX10_season 125 = .ok (.iload 9, 2) := by decide +kernel
theorem dX10_season_127 : decode cX10_season 127 = .ok (.istore 8, 2) := by decide +kernel
theorem dX10_season_129 : decode cX10_season 129 = .ok (.iinc 9 1, 3) := by decide +kernel
theorem dX10_season_132 : decode cX10_season 132 = .ok (.goto (-81), 3) := by decide +kernel
theorem dX10_season_135 : decode cX10_season 135 = .ok (.aload_n 0, 1) := by decide +kernel
theorem dX10_season_136 : decode cX10_season 136 = .ok (.invokevirtual 246, 3) := by decide +kernel
theorem dX10_season_139 : decode cX10_season 139 = .ok (.aload_n 0, 1) := by decide +kernel
theorem dX10_season_140 : decode cX10_season 140 = .ok (.iload 6, 2) := by decide +kernel
theorem dX10_season_142 : decode cX10_season 142 = .ok (.invokevirtual 252, 3) := by decide +kernel
theorem dX10_season_145 : decode cX10_season 145 = .ok (.aload_n 0, 1) := by decide +kernel
theorem dX10_season_146 : decode cX10_season 146 = .ok (.iload 7, 2) := by decide +kernel
theorem dX10_season_148 : decode cX10_season 148 = .ok (.invokevirtual 252, 3) := by decide +kernel
theorem dX10_season_151 : decode cX10_season 151 = .ok (.aload_n 0, 1) := by decide +kernel
theorem dX10_season_152 : decode cX10_season 152 = .ok (.iload 8, 2) := by decide +kernel
theorem dX10_season_154 : decode cX10_season 154 = .ok (.invokevirtual 252, 3) := by decide +kernel
theorem dX10_season_157 : decode cX10_season 157 = .ok (.iload 5, 2) := by decide +kernel
theorem dX10_season_159 : decode cX10_season 159 = .ok (.ireturn, 1) := by decide +kernel
theorem dX10_keep_0 : decode cX10_keep 0 = .ok (.iload_n 1, 1) := by decide +kernel
theorem dX10_keep_1 : decode cX10_keep 1 = .ok (.ifCond .lt 8, 3) := by decide +kernel
theorem dX10_keep_4 : decode cX10_keep 4 = .ok (.iload_n 1, 1) := by decide +kernel
theorem dX10_keep_5 : decode cX10_keep 5 = .ok (.iconst 2, 1) := by decide +kernel
theorem dX10_keep_6 : decode cX10_keep 6 = .ok (.if_icmp .lt 5, 3) := by decide +kernel
theorem dX10_keep_9 : decode cX10_keep 9 = .ok (.iconst 0, 1) := by decide +kernel
theorem dX10_keep_10 : decode cX10_keep 10 = .ok (.ireturn, 1) := by decide +kernel
theorem dX10_keep_11 : decode cX10_keep 11 = .ok (.aload_n 0, 1) := by decide +kernel
theorem dX10_keep_12 : decode cX10_keep 12 = .ok (.getfield 55, 3) := by decide +kernel
theorem dX10_keep_15 : decode cX10_keep 15 = .ok (.iload_n 1, 1) := by decide +kernel
theorem dX10_keep_16 : decode cX10_keep 16 = .ok (.aaload, 1) := by decide +kernel
theorem dX10_keep_17 : decode cX10_keep 17 = .ok (.aload_n 0, 1) := by decide +kernel
theorem dX10_keep_18 : decode cX10_keep 18 = .ok (.getfield 35, 3) := by decide +kernel
theorem dX10_keep_21 : decode cX10_keep 21 = .ok (.invokevirtual 268, 3) := by decide +kernel
theorem dX10_keep_24 : decode cX10_keep 24 = .ok (.aload_n 0, 1) := by decide +kernel
theorem dX10_keep_25 : decode cX10_keep 25 = .ok (.getfield 59, 3) := by decide +kernel
theorem dX10_keep_28 : decode cX10_keep 28 = .ok (.iload_n 1, 1) := by decide +kernel
theorem dX10_keep_29 : decode cX10_keep 29 = .ok (.aload_n 0, 1) := by decide +kernel
theorem dX10_keep_30 : decode cX10_keep 30 = .ok (.getfield 19, 3) := by decide +kernel
theorem dX10_keep_33 : decode cX10_keep 33 = .ok (.getfield 129, 3) := by decide +kernel
theorem dX10_keep_36 : decode cX10_keep 36 = .ok (.iastore, 1) := by decide +kernel
theorem dX10_keep_37 : decode cX10_keep 37 = .ok (.iconst 1, 1) := by decide +kernel
theorem dX10_keep_38 : decode cX10_keep 38 = .ok (.ireturn, 1) := by decide +kernel
theorem dX10_again_0 : decode cX10_again 0 = .ok (.iload_n 1, 1) := by decide +kernel
theorem dX10_again_1 : decode cX10_again 1 = .ok (.ifCond .lt 24, 3) := by decide +kernel
theorem dX10_again_4 : decode cX10_again 4 = .ok (.iload_n 1, 1) := by decide +kernel
theorem dX10_again_5 : decode cX10_again 5 = .ok (.iconst 2, 1) := by decide +kernel
theorem dX10_again_6 : decode cX10_again 6 = .ok (.if_icmp .ge 19, 3) := by decide +kernel
theorem dX10_again_9 : decode cX10_again 9 = .ok (.aload_n 0, 1) := by decide +kernel
theorem dX10_again_10 : decode cX10_again 10 = .ok (.getfield 59, 3) := by decide +kernel
theorem dX10_again_13 : decode cX10_again 13 = .ok (.iload_n 1, 1) := by decide +kernel
theorem dX10_again_14 : decode cX10_again 14 = .ok (.iaload, 1) := by decide +kernel
theorem dX10_again_15 : decode cX10_again 15 = .ok (.aload_n 0, 1) := by decide +kernel
theorem dX10_again_16 : decode cX10_again 16 = .ok (.getfield 19, 3) := by decide +kernel
theorem dX10_again_19 : decode cX10_again 19 = .ok (.getfield 129, 3) := by decide +kernel
theorem dX10_again_22 : decode cX10_again 22 = .ok (.if_icmp .eq 5, 3) := by decide +kernel
theorem dX10_again_25 : decode cX10_again 25 = .ok (.iconst 0, 1) := by decide +kernel
theorem dX10_again_26 : decode cX10_again 26 = .ok (.ireturn, 1) := by decide +kernel
theorem dX10_again_27 : decode cX10_again 27 = .ok (.aload_n 0, 1) := by decide +kernel
theorem dX10_again_28 : decode cX10_again 28 = .ok (.getfield 35, 3) := by decide +kernel
theorem dX10_again_31 : decode cX10_again 31 = .ok (.aload_n 0, 1) := by decide +kernel
theorem dX10_again_32 : decode cX10_again 32 = .ok (.getfield 55, 3) := by decide +kernel
theorem dX10_again_35 : decode cX10_again 35 = .ok (.iload_n 1, 1) := by decide +kernel
theorem dX10_again_36 : decode cX10_again 36 = .ok (.aaload, 1) := by decide +kernel
theorem dX10_again_37 : decode cX10_again 37 = .ok (.invokevirtual 268, 3) := by decide +kernel
theorem dX10_again_40 : decode cX10_again 40 = .ok (.aload_n 0, 1) := by decide +kernel
theorem dX10_again_41 : decode cX10_again 41 = .ok (.getfield 51, 3) := by decide +kernel
theorem dX10_again_44 : decode cX10_again 44 = .ok (.invokevirtual 135, 3) := by decide +kernel
theorem dX10_again_47 : decode cX10_again 47 = .ok (.iconst 1, 1) := by decide +kernel
theorem dX10_again_48 : decode cX10_again 48 = .ok (.ireturn, 1) := by decide +kernel
theorem dX10_count_0 : decode cX10_count 0 = .ok (.iload_n 1, 1) := by decide +kernel
theorem dX10_count_1 : decode cX10_count 1 = .ok (.tableswitch 171 0 10 #[59, 67, 75, 83, 111, 119, 127, 142, 150, 158, 163], 59) := by decide +kernel
theorem dX10_count_60 : decode cX10_count 60 = .ok (.aload_n 0, 1) := by decide +kernel
theorem dX10_count_61 : decode cX10_count 61 = .ok (.getfield 19, 3) := by decide +kernel
theorem dX10_count_64 : decode cX10_count 64 = .ok (.getfield 123, 3) := by decide +kernel
theorem dX10_count_67 : decode cX10_count 67 = .ok (.ireturn, 1) := by decide +kernel
theorem dX10_count_68 : decode cX10_count 68 = .ok (.aload_n 0, 1) := by decide +kernel
theorem dX10_count_69 : decode cX10_count 69 = .ok (.getfield 19, 3) := by decide +kernel
theorem dX10_count_72 : decode cX10_count 72 = .ok (.getfield 129, 3) := by decide +kernel
theorem dX10_count_75 : decode cX10_count 75 = .ok (.ireturn, 1) := by decide +kernel
theorem dX10_count_76 : decode cX10_count 76 = .ok (.aload_n 0, 1) := by decide +kernel
theorem dX10_count_77 : decode cX10_count 77 = .ok (.getfield 35, 3) := by decide +kernel
theorem dX10_count_80 : decode cX10_count 80 = .ok (.getfield 237, 3) := by decide +kernel
theorem dX10_count_83 : decode cX10_count 83 = .ok (.ireturn, 1) := by decide +kernel
theorem dX10_count_84 : decode cX10_count 84 = .ok (.aload_n 0, 1) := by decide +kernel
theorem dX10_count_85 : decode cX10_count 85 = .ok (.getfield 19, 3) := by decide +kernel
theorem dX10_count_88 : decode cX10_count 88 = .ok (.invokevirtual 194, 3) := by decide +kernel
theorem dX10_count_91 : decode cX10_count 91 = .ok (.aload_n 0, 1) := by decide +kernel
theorem dX10_count_92 : decode cX10_count 92 = .ok (.getfield 35, 3) := by decide +kernel
theorem dX10_count_95 : decode cX10_count 95 = .ok (.invokevirtual 222, 3) := by decide +kernel
theorem dX10_count_98 : decode cX10_count 98 = .ok (.iconst (-1), 1) := by decide +kernel
theorem dX10_count_99 : decode cX10_count 99 = .ok (.ixor, 1) := by decide +kernel
theorem dX10_count_100 : decode cX10_count 100 = .ok (.iand, 1) := by decide +kernel
theorem dX10_count_101 : decode cX10_count 101 = .ok (.aload_n 0, 1) := by decide +kernel
theorem dX10_count_102 : decode cX10_count 102 = .ok (.getfield 35, 3) := by decide +kernel
theorem dX10_count_105 : decode cX10_count 105 = .ok (.invokevirtual 240, 3) := by decide +kernel
theorem dX10_count_108 : decode cX10_count 108 = .ok (.iconst (-1), 1) := by decide +kernel
theorem dX10_count_109 : decode cX10_count 109 = .ok (.ixor, 1) := by decide +kernel
theorem dX10_count_110 : decode cX10_count 110 = .ok (.iand, 1) := by decide +kernel
theorem dX10_count_111 : decode cX10_count 111 = .ok (.ireturn, 1) := by decide +kernel
theorem dX10_count_112 : decode cX10_count 112 = .ok (.aload_n 0, 1) := by decide +kernel
theorem dX10_count_113 : decode cX10_count 113 = .ok (.getfield 35, 3) := by decide +kernel
theorem dX10_count_116 : decode cX10_count 116 = .ok (.invokevirtual 222, 3) := by decide +kernel
theorem dX10_count_119 : decode cX10_count 119 = .ok (.ireturn, 1) := by decide +kernel
theorem dX10_count_120 : decode cX10_count 120 = .ok (.aload_n 0, 1) := by decide +kernel
theorem dX10_count_121 : decode cX10_count 121 = .ok (.getfield 35, 3) := by decide +kernel
theorem dX10_count_124 : decode cX10_count 124 = .ok (.invokevirtual 240, 3) := by decide +kernel
theorem dX10_count_127 : decode cX10_count 127 = .ok (.ireturn, 1) := by decide +kernel
theorem dX10_count_128 : decode cX10_count 128 = .ok (.aload_n 0, 1) := by decide +kernel
theorem dX10_count_129 : decode cX10_count 129 = .ok (.getfield 35, 3) := by decide +kernel
theorem dX10_count_132 : decode cX10_count 132 = .ok (.aload_n 0, 1) := by decide +kernel
theorem dX10_count_133 : decode cX10_count 133 = .ok (.getfield 19, 3) := by decide +kernel
theorem dX10_count_136 : decode cX10_count 136 = .ok (.invokevirtual 194, 3) := by decide +kernel
theorem dX10_count_139 : decode cX10_count 139 = .ok (.invokevirtual 259, 3) := by decide +kernel
theorem dX10_count_142 : decode cX10_count 142 = .ok (.ireturn, 1) := by decide +kernel
theorem dX10_count_143 : decode cX10_count 143 = .ok (.aload_n 0, 1) := by decide +kernel
theorem dX10_count_144 : decode cX10_count 144 = .ok (.getfield 66, 3) := by decide +kernel
theorem dX10_count_147 : decode cX10_count 147 = .ok (.getfield 396, 3) := by decide +kernel
theorem dX10_count_150 : decode cX10_count 150 = .ok (.ireturn, 1) := by decide +kernel
theorem dX10_count_151 : decode cX10_count 151 = .ok (.aload_n 0, 1) := by decide +kernel
theorem dX10_count_152 : decode cX10_count 152 = .ok (.getfield 51, 3) := by decide +kernel
theorem dX10_count_155 : decode cX10_count 155 = .ok (.getfield 277, 3) := by decide +kernel
theorem dX10_count_158 : decode cX10_count 158 = .ok (.ireturn, 1) := by decide +kernel
theorem dX10_count_159 : decode cX10_count 159 = .ok (.aload_n 0, 1) := by decide +kernel
theorem dX10_count_160 : decode cX10_count 160 = .ok (.getfield 101, 3) := by decide +kernel
theorem dX10_count_163 : decode cX10_count 163 = .ok (.ireturn, 1) := by decide +kernel
theorem dX10_count_164 : decode cX10_count 164 = .ok (.aload_n 0, 1) := by decide +kernel
theorem dX10_count_165 : decode cX10_count 165 = .ok (.getfield 10, 3) := by decide +kernel
theorem dX10_count_168 : decode cX10_count 168 = .ok (.getfield 120, 3) := by decide +kernel
theorem dX10_count_171 : decode cX10_count 171 = .ok (.ireturn, 1) := by decide +kernel
theorem dX10_count_172 : decode cX10_count 172 = .ok (.iconst (-1), 1) := by decide +kernel
theorem dX10_count_173 : decode cX10_count 173 = .ok (.ireturn, 1) := by decide +kernel
section NXG
variable {l : Launch} {D : va_G} {cy : Nat → ClassId} {ad : Nat → Nat} {dT : Nat} {X : Mm}
def f_X10_late_19  (M : Mem) : Option (Int32 × Mem) :=
  some ((-1), M)
set_option maxRecDepth 100000 in
theorem w_X10_late_19 {R : Int32} {M' : Mem}  (M : Mem) (hF : f_X10_late_19  M = some (R, M')) : RunF l D cy ad none YX10_late 5 0 0 (some (.int R)) (lay X M') 0 0 19 [] [] (lay X M) := by
  unfold f_X10_late_19 at hF
  refine g_iconst (Y := YX10_late) (pc := 19) dX10_late_19 kI_m1 ?_
  exact s_iret (Y := YX10_late) (pc := 20) dX10_late_20 rfl hF
def f_X10_late_61  (M : Mem) : Option (Int32 × Mem) :=
  some ((-2), M)
set_option maxRecDepth 100000 in
theorem w_X10_late_61 {R : Int32} {M' : Mem}  (M : Mem) (hF : f_X10_late_61  M = some (R, M')) : RunF l D cy ad none YX10_late 5 0 0 (some (.int R)) (lay X M') 0 0 61 [] [] (lay X M) := by
  unfold f_X10_late_61 at hF
  refine g_bipush (Y := YX10_late) (pc := 61) dX10_late_61 kB_m2 ?_
  exact s_iret (Y := YX10_late) (pc := 63) dX10_late_63 rfl hF
def f_X10_late_150 (K81 : Int32 → Int32 → Int32 → Int32 → Mem → Option (Int32 × Mem)) (x3 : Int32) (x4 : Int32) (x5 : Int32) (x6 : Int32) (M : Mem) : Option (Int32 × Mem) :=
  vl (x6 + 1) fun v45 =>
  K81 x3 x4 x5 v45 M
set_option maxRecDepth 100000 in
theorem w_X10_late_150 {R : Int32} {M' : Mem} {K81 : Int32 → Int32 → Int32 → Int32 → Mem → Option (Int32 × Mem)} (hK81 : ∀ (x3 x4 x5 x6 : Int32) (M : Mem), K81 x3 x4 x5 x6 M = some (R, M') → RunF l D cy ad none YX10_late 5 0 0 (some (.int R)) (lay X M') 0 0 81 [(0, .ref 0), (3, .int x3), (4, .int x4), (5, .int x5), (6, .int x6)] [] (lay X M)) (x3 x4 x5 x6 : Int32) (M : Mem) (hF : f_X10_late_150 K81 x3 x4 x5 x6 M = some (R, M')) : RunF l D cy ad none YX10_late 5 0 0 (some (.int R)) (lay X M') 0 0 150 [(0, .ref 0), (3, .int x3), (4, .int x4), (5, .int x5), (6, .int x6)] [] (lay X M) := by
  unfold f_X10_late_150 at hF
  refine s_iinc (Y := YX10_late) (pc := 150) (j := 4) (L' := fun y => [(6, .int y), (0, .ref 0), (3, .int x3), (4, .int x4), (5, .int x5)]) dX10_late_150 kI_1 rfl (Nat.le_of_ble_eq_true rfl) (fun _ => rfl) (fun v45 e => ?_)
  replace hF := vl_to e hF; clear e
  refine g_goto (Y := YX10_late) (pc := 153) (tgt := 81) dX10_late_153 rfl ?_
  refine g_loc [1, 2, 3, 4, 0] rfl ?_
  exact hK81 _ _ _ _ _ hF
def f_X10_late_127 (K81 : Int32 → Int32 → Int32 → Int32 → Mem → Option (Int32 × Mem)) (x3 : Int32) (x4 : Int32) (x5 : Int32) (x6 : Int32) (t0 : Int32) (M : Mem) : Option (Int32 × Mem) :=
  if 0 < t0 then
    vl ((x4 ||| (1 <<< (x6 &&& 31)))) fun v46 =>
    vl ((x5 + t0)) fun v47 =>
    f_X10_late_150 K81 x3 v46 v47 x6 M
  else
    f_X10_late_150 K81 x3 x4 x5 x6 M
set_option maxRecDepth 100000 in
theorem w_X10_late_127 {R : Int32} {M' : Mem} {K81 : Int32 → Int32 → Int32 → Int32 → Mem → Option (Int32 × Mem)} (hK81 : ∀ (x3 x4 x5 x6 : Int32) (M : Mem), K81 x3 x4 x5 x6 M = some (R, M') → RunF l D cy ad none YX10_late 5 0 0 (some (.int R)) (lay X M') 0 0 81 [(0, .ref 0), (3, .int x3), (4, .int x4), (5, .int x5), (6, .int x6)] [] (lay X M)) (x3 x4 x5 x6 t0 : Int32) (M : Mem) (hF : f_X10_late_127 K81 x3 x4 x5 x6 t0 M = some (R, M')) : RunF l D cy ad none YX10_late 5 0 0 (some (.int R)) (lay X M') 0 0 127 [(0, .ref 0), (3, .int x3), (4, .int x4), (5, .int x5), (6, .int x6)] [.int t0] (lay X M) := by
  unfold f_X10_late_127 at hF
  refine g_istore (Y := YX10_late) (pc := 127) (L' := [(7, .int t0), (0, .ref 0), (3, .int x3), (4, .int x4), (5, .int x5), (6, .int x6)]) dX10_late_127 (Nat.le_of_ble_eq_true rfl) rfl ?_
  refine g_iload (Y := YX10_late) (pc := 129) 0 dX10_late_129 rfl ?_
  refine g_if_le (Y := YX10_late) (pc := 131) (tgt := 150) dX10_late_131 rfl (fun c44 => ?_) (fun c44 => ?_)
  · replace hF := if_f c44 hF
    refine g_loc [1, 2, 3, 4, 5] rfl ?_
    exact w_X10_late_150 hK81 _ _ _ _ _ hF
  · replace hF := if_t c44 hF
    refine g_iload (Y := YX10_late) (pc := 134) 3 dX10_late_134 rfl ?_
    refine g_iconst (Y := YX10_late) (pc := 136) dX10_late_136 kI_1 ?_
    refine g_iload (Y := YX10_late) (pc := 137) 5 dX10_late_137 rfl ?_
    refine g_ishl (Y := YX10_late) (pc := 139) dX10_late_139 ?_
    refine g_ior (Y := YX10_late) (pc := 140) dX10_late_140 ?_
    refine g_nm (fun v46 e => ?_)
    replace hF := vl_to e hF; clear e
    refine g_istore (Y := YX10_late) (pc := 141) (L' := [(4, .int v46), (7, .int t0), (0, .ref 0), (3, .int x3), (5, .int x5), (6, .int x6)]) dX10_late_141 (Nat.le_of_ble_eq_true rfl) rfl ?_
    refine g_iload (Y := YX10_late) (pc := 143) 4 dX10_late_143 rfl ?_
    refine g_iload (Y := YX10_late) (pc := 145) 1 dX10_late_145 rfl ?_
    refine g_iadd (Y := YX10_late) (pc := 147) dX10_late_147 ?_
    refine g_nm (fun v47 e => ?_)
    replace hF := vl_to e hF; clear e
    refine g_istore (Y := YX10_late) (pc := 148) (L' := [(5, .int v47), (4, .int v46), (7, .int t0), (0, .ref 0), (3, .int x3), (6, .int x6)]) dX10_late_148 (Nat.le_of_ble_eq_true rfl) rfl ?_
    refine g_loc [3, 4, 1, 0, 5] rfl ?_
    exact w_X10_late_150 hK81 _ _ _ _ _ hF
def f_X10_late_81  : Nat → Int32 → Int32 → Int32 → Int32 → Mem → Option (Int32 × Mem)
  | 0, _, _, _, _, _ => none
  | n + 1, x3, x4, x5, x6, M =>
    if x6 < (M 3 2) then
      bd (f_X10_has x3 x6 M) fun r40 M41 =>
      if r40 = 0 then
        f_X10_late_127 (f_X10_late_81 n) x3 x4 x5 x6 0 M41
      else
        gd (0 ≤ x6 ∧ x6.toNatClampNeg < 6) <|
        gd (0 ≤ x6 ∧ x6.toNatClampNeg < 6) <|
        vl (((M41 45 x6.toNatClampNeg) - (M41 40 x6.toNatClampNeg))) fun v50 =>
        f_X10_late_127 (f_X10_late_81 n) x3 x4 x5 x6 v50 M41
    else
      bd (f_X10_clearRow M) fun _ M26 =>
      bd (f_X10_tell x4 M26) fun _ M29 =>
      bd (f_X10_tell x5 M29) fun _ M32 =>
      bd (f_X7_lastThrough 41 x3 M32) fun r34 M35 =>
      bd (f_X7_lastThrough 36 x3 M35) fun r37 M38 =>
      some ((r34 - r37), M38)
set_option maxRecDepth 100000 in
theorem w_X10_late_81 {R : Int32} {M' : Mem}  : ∀ (n : Nat) (x3 x4 x5 x6 : Int32) (M : Mem), f_X10_late_81 n x3 x4 x5 x6 M = some (R, M') → RunF l D cy ad none YX10_late 5 0 0 (some (.int R)) (lay X M') 0 0 81 [(0, .ref 0), (3, .int x3), (4, .int x4), (5, .int x5), (6, .int x6)] [] (lay X M) := by
  intro n
  induction n with
  | zero => intro x3 x4 x5 x6 M hF; exact absurd hF (by unfold f_X10_late_81; exact fun h => nomatch h)
  | succ n ih =>
    intro x3 x4 x5 x6 M hF
    unfold f_X10_late_81 at hF
    refine g_iload (Y := YX10_late) (pc := 81) 4 dX10_late_81 rfl ?_
    refine g_aload_n (Y := YX10_late) (pc := 83) 0 dX10_late_83 rfl ?_
    refine u_getR (Y := YX10_late) (pc := 84) (j := 3) dX10_late_84 fl_X10_19 k_0 rf_0_1 ?_
    refine u_getI (Y := YX10_late) (pc := 87) dX10_late_87 fl_X10_129 k_3 ?_
    refine g_icmp_ge (Y := YX10_late) (pc := 90) (tgt := 156) dX10_late_90 rfl (fun c24 => ?_) (fun c24 => ?_)
    · replace hF := if_f c24 hF
      refine g_aload_n (Y := YX10_late) (pc := 156) 0 dX10_late_156 rfl ?_
      obtain ⟨r25, M26, e27, hF⟩ := bd_some hF
      refine s_callVv (Y := YX10_late) (pc := 157) (as := []) (st := []) (r_X10_clearRow  e27) miX10_clearRow lk_X10_246 dX10_late_157 k_0 rfl (Nat.le_of_ble_eq_true rfl) (Nat.le_of_ble_eq_true rfl) rfl ?_
      clear e27
      refine g_aload_n (Y := YX10_late) (pc := 160) 0 dX10_late_160 rfl ?_
      refine g_iload (Y := YX10_late) (pc := 161) 2 dX10_late_161 rfl ?_
      obtain ⟨r28, M29, e30, hF⟩ := bd_some hF
      refine s_callVv (Y := YX10_late) (pc := 163) (as := [.int x4]) (st := []) (r_X10_tell  e30) miX10_tell lk_X10_252 dX10_late_163 k_0 rfl (Nat.le_of_ble_eq_true rfl) (Nat.le_of_ble_eq_true rfl) rfl ?_
      clear e30
      refine g_aload_n (Y := YX10_late) (pc := 166) 0 dX10_late_166 rfl ?_
      refine g_iload (Y := YX10_late) (pc := 167) 3 dX10_late_167 rfl ?_
      obtain ⟨r31, M32, e33, hF⟩ := bd_some hF
      refine s_callVv (Y := YX10_late) (pc := 169) (as := [.int x5]) (st := []) (r_X10_tell  e33) miX10_tell lk_X10_252 dX10_late_169 k_0 rfl (Nat.le_of_ble_eq_true rfl) (Nat.le_of_ble_eq_true rfl) rfl ?_
      clear e33
      refine g_aload_n (Y := YX10_late) (pc := 172) 0 dX10_late_172 rfl ?_
      refine u_getR (Y := YX10_late) (pc := 173) (j := 41) dX10_late_173 fl_X10_45 k_0 rf_0_6 ?_
      refine g_iload_n (Y := YX10_late) (pc := 176) 1 dX10_late_176 rfl ?_
      obtain ⟨r34, M35, e36, hF⟩ := bd_some hF
      refine s_callVi (Y := YX10_late) (pc := 177) (as := [.int x3]) (st := []) (r_X7_lastThrough isSt_41 e36) miX7_lastThrough lk_X10_282 dX10_late_177 k_41 rfl (Nat.le_of_ble_eq_true rfl) (Nat.le_of_ble_eq_true rfl) rfl ?_
      clear e36
      refine g_aload_n (Y := YX10_late) (pc := 180) 0 dX10_late_180 rfl ?_
      refine u_getR (Y := YX10_late) (pc := 181) (j := 36) dX10_late_181 fl_X10_42 k_0 rf_0_5 ?_
      refine g_iload_n (Y := YX10_late) (pc := 184) 1 dX10_late_184 rfl ?_
      obtain ⟨r37, M38, e39, hF⟩ := bd_some hF
      refine s_callVi (Y := YX10_late) (pc := 185) (as := [.int x3]) (st := [.int r34]) (r_X7_lastThrough isSt_36 e39) miX7_lastThrough lk_X10_282 dX10_late_185 k_36 rfl (Nat.le_of_ble_eq_true rfl) (Nat.le_of_ble_eq_true rfl) rfl ?_
      clear e39
      refine g_isub (Y := YX10_late) (pc := 188) dX10_late_188 ?_
      exact s_iret (Y := YX10_late) (pc := 189) dX10_late_189 rfl hF
    · replace hF := if_t c24 hF
      refine g_iload_n (Y := YX10_late) (pc := 93) 1 dX10_late_93 rfl ?_
      refine g_iload (Y := YX10_late) (pc := 94) 4 dX10_late_94 rfl ?_
      obtain ⟨r40, M41, e42, hF⟩ := bd_some hF
      refine s_callSi (Y := YX10_late) (pc := 96) (as := [.int x3, .int x6]) (st := []) (r_X10_has  e42) msX10_has lk_X10_362 dX10_late_96 rfl (Nat.le_of_ble_eq_true rfl) (Nat.le_of_ble_eq_true rfl) rfl ?_
      clear e42
      refine g_if_eq (Y := YX10_late) (pc := 99) (tgt := 126) dX10_late_99 rfl (fun c43 => ?_) (fun c43 => ?_)
      · replace hF := if_t c43 hF
        refine g_iconst (Y := YX10_late) (pc := 126) dX10_late_126 kI_0 ?_
        exact w_X10_late_127 ih _ _ _ _ _ _ hF
      · replace hF := if_f c43 hF
        refine g_aload_n (Y := YX10_late) (pc := 102) 0 dX10_late_102 rfl ?_
        refine u_getR (Y := YX10_late) (pc := 103) (j := 41) dX10_late_103 fl_X10_45 k_0 rf_0_6 ?_
        refine u_getR (Y := YX10_late) (pc := 106) (j := 45) dX10_late_106 fl_X10_179 k_41 (st_r7 isSt_41) ?_
        refine g_iload (Y := YX10_late) (pc := 109) 4 dX10_late_109 rfl ?_
        obtain ⟨g48, hF⟩ := gd_some hF
        refine s_iald (Y := YX10_late) (pc := 111) dX10_late_111 k_45 n_45 g48 ?_
        refine g_aload_n (Y := YX10_late) (pc := 112) 0 dX10_late_112 rfl ?_
        refine u_getR (Y := YX10_late) (pc := 113) (j := 36) dX10_late_113 fl_X10_42 k_0 rf_0_5 ?_
        refine u_getR (Y := YX10_late) (pc := 116) (j := 40) dX10_late_116 fl_X10_179 k_36 (st_r7 isSt_36) ?_
        refine g_iload (Y := YX10_late) (pc := 119) 4 dX10_late_119 rfl ?_
        obtain ⟨g49, hF⟩ := gd_some hF
        refine s_iald (Y := YX10_late) (pc := 121) dX10_late_121 k_40 n_40 g49 ?_
        refine g_isub (Y := YX10_late) (pc := 122) dX10_late_122 ?_
        refine g_nm (fun v50 e => ?_)
        replace hF := vl_to e hF; clear e
        refine g_goto (Y := YX10_late) (pc := 123) (tgt := 127) dX10_late_123 rfl ?_
        exact w_X10_late_127 ih _ _ _ _ _ _ hF
def f_X10_late_0  (x1 : Int32) (x2 : Int32) (M : Mem) : Option (Int32 × Mem) :=
  if x2 < 1 then
    f_X10_late_19 M
  else
    if 30 < x2 then
      f_X10_late_19 M
    else
      bd (f_X10_isInside x1 M) fun r3 M4 =>
      if r3 = 0 then
        f_X10_late_19 M4
      else
        bd (f_X10_foresee 36 x1 0 M4) fun _ M8 =>
        bd (f_X10_foresee 41 x1 x2 M8) fun _ M11 =>
        bd (f_X7_bitsInside 36 M11) fun r13 M14 =>
        if r13 = 0 then
          bd (f_X7_bitsInside 41 M14) fun r17 M18 =>
          if r17 = 0 then
            bd (f_X7_bitsInside 26 M18) fun r21 M22 =>
            f_X10_late_81 FU r21 0 0 0 M22
          else
            f_X10_late_61 M18
        else
          f_X10_late_61 M14
set_option maxRecDepth 100000 in
theorem w_X10_late_0 {R : Int32} {M' : Mem}  (x1 x2 : Int32) (M : Mem) (hF : f_X10_late_0 x1 x2 M = some (R, M')) : RunF l D cy ad none YX10_late 5 0 0 (some (.int R)) (lay X M') 0 0 0 [(0, .ref 0), (1, .int x1), (2, .int x2)] [] (lay X M) := by
  unfold f_X10_late_0 at hF
  refine g_iload_n (Y := YX10_late) (pc := 0) 2 dX10_late_0 rfl ?_
  refine g_iconst (Y := YX10_late) (pc := 1) dX10_late_1 kI_1 ?_
  refine g_icmp_lt (Y := YX10_late) (pc := 2) (tgt := 19) dX10_late_2 rfl (fun c1 => ?_) (fun c1 => ?_)
  · replace hF := if_t c1 hF
    refine g_loc [] rfl ?_
    exact w_X10_late_19  _ hF
  · replace hF := if_f c1 hF
    refine g_iload_n (Y := YX10_late) (pc := 5) 2 dX10_late_5 rfl ?_
    refine g_bipush (Y := YX10_late) (pc := 6) dX10_late_6 kB_30 ?_
    refine g_icmp_gt (Y := YX10_late) (pc := 8) (tgt := 19) dX10_late_8 rfl (fun c2 => ?_) (fun c2 => ?_)
    · replace hF := if_t c2 hF
      refine g_loc [] rfl ?_
      exact w_X10_late_19  _ hF
    · replace hF := if_f c2 hF
      refine g_aload_n (Y := YX10_late) (pc := 11) 0 dX10_late_11 rfl ?_
      refine g_iload_n (Y := YX10_late) (pc := 12) 1 dX10_late_12 rfl ?_
      obtain ⟨r3, M4, e5, hF⟩ := bd_some hF
      refine s_callVi (Y := YX10_late) (pc := 13) (as := [.int x1]) (st := []) (r_X10_isInside  e5) miX10_isInside lk_X10_230 dX10_late_13 k_0 rfl (Nat.le_of_ble_eq_true rfl) (Nat.le_of_ble_eq_true rfl) rfl ?_
      clear e5
      refine g_if_ne (Y := YX10_late) (pc := 16) (tgt := 21) dX10_late_16 rfl (fun c6 => ?_) (fun c6 => ?_)
      · replace hF := if_f c6 hF
        refine g_aload_n (Y := YX10_late) (pc := 21) 0 dX10_late_21 rfl ?_
        refine g_aload_n (Y := YX10_late) (pc := 22) 0 dX10_late_22 rfl ?_
        refine u_getR (Y := YX10_late) (pc := 23) (j := 36) dX10_late_23 fl_X10_42 k_0 rf_0_5 ?_
        refine g_iload_n (Y := YX10_late) (pc := 26) 1 dX10_late_26 rfl ?_
        refine g_iconst (Y := YX10_late) (pc := 27) dX10_late_27 kI_0 ?_
        obtain ⟨r7, M8, e9, hF⟩ := bd_some hF
        refine s_callVv (Y := YX10_late) (pc := 28) (as := [.ref 36, .int x1, .int 0]) (st := []) (r_X10_foresee isSt_36 e9) miX10_foresee lk_X10_372 dX10_late_28 k_0 rfl (Nat.le_of_ble_eq_true rfl) (Nat.le_of_ble_eq_true rfl) rfl ?_
        clear e9
        refine g_aload_n (Y := YX10_late) (pc := 31) 0 dX10_late_31 rfl ?_
        refine g_aload_n (Y := YX10_late) (pc := 32) 0 dX10_late_32 rfl ?_
        refine u_getR (Y := YX10_late) (pc := 33) (j := 41) dX10_late_33 fl_X10_45 k_0 rf_0_6 ?_
        refine g_iload_n (Y := YX10_late) (pc := 36) 1 dX10_late_36 rfl ?_
        refine g_iload_n (Y := YX10_late) (pc := 37) 2 dX10_late_37 rfl ?_
        obtain ⟨r10, M11, e12, hF⟩ := bd_some hF
        refine s_callVv (Y := YX10_late) (pc := 38) (as := [.ref 41, .int x1, .int x2]) (st := []) (r_X10_foresee isSt_41 e12) miX10_foresee lk_X10_372 dX10_late_38 k_0 rfl (Nat.le_of_ble_eq_true rfl) (Nat.le_of_ble_eq_true rfl) rfl ?_
        clear e12
        refine g_aload_n (Y := YX10_late) (pc := 41) 0 dX10_late_41 rfl ?_
        refine u_getR (Y := YX10_late) (pc := 42) (j := 36) dX10_late_42 fl_X10_42 k_0 rf_0_5 ?_
        obtain ⟨r13, M14, e15, hF⟩ := bd_some hF
        refine s_callVi (Y := YX10_late) (pc := 45) (as := []) (st := []) (r_X7_bitsInside isSt_36 e15) miX7_bitsInside lk_X10_222 dX10_late_45 k_36 rfl (Nat.le_of_ble_eq_true rfl) (Nat.le_of_ble_eq_true rfl) rfl ?_
        clear e15
        refine g_if_ne (Y := YX10_late) (pc := 48) (tgt := 61) dX10_late_48 rfl (fun c16 => ?_) (fun c16 => ?_)
        · replace hF := if_f c16 hF
          refine g_loc [] rfl ?_
          exact w_X10_late_61  _ hF
        · replace hF := if_t c16 hF
          refine g_aload_n (Y := YX10_late) (pc := 51) 0 dX10_late_51 rfl ?_
          refine u_getR (Y := YX10_late) (pc := 52) (j := 41) dX10_late_52 fl_X10_45 k_0 rf_0_6 ?_
          obtain ⟨r17, M18, e19, hF⟩ := bd_some hF
          refine s_callVi (Y := YX10_late) (pc := 55) (as := []) (st := []) (r_X7_bitsInside isSt_41 e19) miX7_bitsInside lk_X10_222 dX10_late_55 k_41 rfl (Nat.le_of_ble_eq_true rfl) (Nat.le_of_ble_eq_true rfl) rfl ?_
          clear e19
          refine g_if_eq (Y := YX10_late) (pc := 58) (tgt := 64) dX10_late_58 rfl (fun c20 => ?_) (fun c20 => ?_)
          · replace hF := if_t c20 hF
            refine g_aload_n (Y := YX10_late) (pc := 64) 0 dX10_late_64 rfl ?_
            refine u_getR (Y := YX10_late) (pc := 65) (j := 26) dX10_late_65 fl_X10_35 k_0 rf_0_3 ?_
            obtain ⟨r21, M22, e23, hF⟩ := bd_some hF
            refine s_callVi (Y := YX10_late) (pc := 68) (as := []) (st := []) (r_X7_bitsInside isSt_26 e23) miX7_bitsInside lk_X10_222 dX10_late_68 k_26 rfl (Nat.le_of_ble_eq_true rfl) (Nat.le_of_ble_eq_true rfl) rfl ?_
            clear e23
            refine g_istore_n (Y := YX10_late) (pc := 71) (L' := [(3, .int r21), (0, .ref 0), (1, .int x1), (2, .int x2)]) dX10_late_71 (Nat.le_of_ble_eq_true rfl) rfl ?_
            refine g_iconst (Y := YX10_late) (pc := 72) dX10_late_72 kI_0 ?_
            refine g_istore (Y := YX10_late) (pc := 73) (L' := [(4, .int 0), (3, .int r21), (0, .ref 0), (1, .int x1), (2, .int x2)]) dX10_late_73 (Nat.le_of_ble_eq_true rfl) rfl ?_
            refine g_iconst (Y := YX10_late) (pc := 75) dX10_late_75 kI_0 ?_
            refine g_istore (Y := YX10_late) (pc := 76) (L' := [(5, .int 0), (4, .int 0), (3, .int r21), (0, .ref 0), (1, .int x1), (2, .int x2)]) dX10_late_76 (Nat.le_of_ble_eq_true rfl) rfl ?_
            refine g_iconst (Y := YX10_late) (pc := 78) dX10_late_78 kI_0 ?_
            refine g_istore (Y := YX10_late) (pc := 79) (L' := [(6, .int 0), (5, .int 0), (4, .int 0), (3, .int r21), (0, .ref 0), (1, .int x1), (2, .int x2)]) dX10_late_79 (Nat.le_of_ble_eq_true rfl) rfl ?_
            refine g_loc [4, 3, 2, 1, 0] rfl ?_
            exact w_X10_late_81  _ _ _ _ _ _ hF
          · replace hF := if_f c20 hF
            refine g_loc [] rfl ?_
            exact w_X10_late_61  _ hF
      · replace hF := if_t c6 hF
        refine g_loc [] rfl ?_
        exact w_X10_late_19  _ hF
def f_X10_late (x1 : Int32) (x2 : Int32) (M : Mem) : Option (Int32 × Mem) := f_X10_late_0 x1 x2 M
theorem r_X10_late {x1 x2 R : Int32} {M M' : Mem}  (hF : f_X10_late x1 x2 M = some (R, M')) : RunS l D cy ad YX10_late 5 [.ref 0, .int x1, .int x2] X M (some (.int R)) M' := Run.of 2 (miX10_late).1 (Nat.le_of_ble_eq_true rfl) (w_X10_late_0  _ _ _ hF)
def f_X10_nobodyLater_57 (K2 : Int32 → Int32 → Mem → Option (Int32 × Mem)) (x1 : Int32) (x2 : Int32) (M : Mem) : Option (Int32 × Mem) :=
  vl (x2 + 1) fun v6 =>
  K2 x1 v6 M
set_option maxRecDepth 100000 in
theorem w_X10_nobodyLater_57 {R : Int32} {M' : Mem} {K2 : Int32 → Int32 → Mem → Option (Int32 × Mem)} (hK2 : ∀ (x1 x2 : Int32) (M : Mem), K2 x1 x2 M = some (R, M') → RunF l D cy ad none YX10_nobodyLater 1 0 0 (some (.int R)) (lay X M') 0 0 2 [(0, .ref 0), (1, .int x1), (2, .int x2)] [] (lay X M)) (x1 x2 : Int32) (M : Mem) (hF : f_X10_nobodyLater_57 K2 x1 x2 M = some (R, M')) : RunF l D cy ad none YX10_nobodyLater 1 0 0 (some (.int R)) (lay X M') 0 0 57 [(0, .ref 0), (1, .int x1), (2, .int x2)] [] (lay X M) := by
  unfold f_X10_nobodyLater_57 at hF
  refine s_iinc (Y := YX10_nobodyLater) (pc := 57) (j := 2) (L' := fun y => [(2, .int y), (0, .ref 0), (1, .int x1)]) dX10_nobodyLater_57 kI_1 rfl (Nat.le_of_ble_eq_true rfl) (fun _ => rfl) (fun v6 e => ?_)
  replace hF := vl_to e hF; clear e
  refine g_goto (Y := YX10_nobodyLater) (pc := 60) (tgt := 2) dX10_nobodyLater_60 rfl ?_
  refine g_loc [1, 2, 0] rfl ?_
  exact hK2 _ _ _ hF
def f_X10_nobodyLater_55  (M : Mem) : Option (Int32 × Mem) :=
  some (0, M)
set_option maxRecDepth 100000 in
theorem w_X10_nobodyLater_55 {R : Int32} {M' : Mem}  (M : Mem) (hF : f_X10_nobodyLater_55  M = some (R, M')) : RunF l D cy ad none YX10_nobodyLater 1 0 0 (some (.int R)) (lay X M') 0 0 55 [] [] (lay X M) := by
  unfold f_X10_nobodyLater_55 at hF
  refine g_iconst (Y := YX10_nobodyLater) (pc := 55) dX10_nobodyLater_55 kI_0 ?_
  exact s_zret (Y := YX10_nobodyLater) (pc := 56) dX10_nobodyLater_56 rfl (Or.inl rfl) hF
def f_X10_nobodyLater_2  : Nat → Int32 → Int32 → Mem → Option (Int32 × Mem)
  | 0, _, _, _ => none
  | n + 1, x1, x2, M =>
    if x2 < (M 3 2) then
      bd (f_X10_has x1 x2 M) fun r2 M3 =>
      if r2 = 0 then
        f_X10_nobodyLater_57 (f_X10_nobodyLater_2 n) x1 x2 M3
      else
        gd (0 ≤ x2 ∧ x2.toNatClampNeg < 6) <|
        if (M3 45 x2.toNatClampNeg) = (-1) then
          f_X10_nobodyLater_55 M3
        else
          gd (0 ≤ x2 ∧ x2.toNatClampNeg < 6) <|
          gd (0 ≤ x2 ∧ x2.toNatClampNeg < 6) <|
          if (M3 40 x2.toNatClampNeg) < (M3 45 x2.toNatClampNeg) then
            f_X10_nobodyLater_55 M3
          else
            f_X10_nobodyLater_57 (f_X10_nobodyLater_2 n) x1 x2 M3
    else
      some (1, M)
set_option maxRecDepth 100000 in
theorem w_X10_nobodyLater_2 {R : Int32} {M' : Mem}  : ∀ (n : Nat) (x1 x2 : Int32) (M : Mem), f_X10_nobodyLater_2 n x1 x2 M = some (R, M') → RunF l D cy ad none YX10_nobodyLater 1 0 0 (some (.int R)) (lay X M') 0 0 2 [(0, .ref 0), (1, .int x1), (2, .int x2)] [] (lay X M) := by
  intro n
  induction n with
  | zero => intro x1 x2 M hF; exact absurd hF (by unfold f_X10_nobodyLater_2; exact fun h => nomatch h)
  | succ n ih =>
    intro x1 x2 M hF
    unfold f_X10_nobodyLater_2 at hF
    refine g_iload_n (Y := YX10_nobodyLater) (pc := 2) 2 dX10_nobodyLater_2 rfl ?_
    refine g_aload_n (Y := YX10_nobodyLater) (pc := 3) 0 dX10_nobodyLater_3 rfl ?_
    refine u_getR (Y := YX10_nobodyLater) (pc := 4) (j := 3) dX10_nobodyLater_4 fl_X10_19 k_0 rf_0_1 ?_
    refine u_getI (Y := YX10_nobodyLater) (pc := 7) dX10_nobodyLater_7 fl_X10_129 k_3 ?_
    refine g_icmp_ge (Y := YX10_nobodyLater) (pc := 10) (tgt := 63) dX10_nobodyLater_10 rfl (fun c1 => ?_) (fun c1 => ?_)
    · replace hF := if_f c1 hF
      refine g_iconst (Y := YX10_nobodyLater) (pc := 63) dX10_nobodyLater_63 kI_1 ?_
      exact s_zret (Y := YX10_nobodyLater) (pc := 64) dX10_nobodyLater_64 rfl (Or.inr rfl) hF
    · replace hF := if_t c1 hF
      refine g_iload_n (Y := YX10_nobodyLater) (pc := 13) 1 dX10_nobodyLater_13 rfl ?_
      refine g_iload_n (Y := YX10_nobodyLater) (pc := 14) 2 dX10_nobodyLater_14 rfl ?_
      obtain ⟨r2, M3, e4, hF⟩ := bd_some hF
      refine s_callSi (Y := YX10_nobodyLater) (pc := 15) (as := [.int x1, .int x2]) (st := []) (r_X10_has  e4) msX10_has lk_X10_362 dX10_nobodyLater_15 rfl (Nat.le_of_ble_eq_true rfl) (Nat.le_of_ble_eq_true rfl) rfl ?_
      clear e4
      refine g_if_eq (Y := YX10_nobodyLater) (pc := 18) (tgt := 57) dX10_nobodyLater_18 rfl (fun c5 => ?_) (fun c5 => ?_)
      · replace hF := if_t c5 hF
        exact w_X10_nobodyLater_57 ih _ _ _ hF
      · replace hF := if_f c5 hF
        refine g_aload_n (Y := YX10_nobodyLater) (pc := 21) 0 dX10_nobodyLater_21 rfl ?_
        refine u_getR (Y := YX10_nobodyLater) (pc := 22) (j := 41) dX10_nobodyLater_22 fl_X10_45 k_0 rf_0_6 ?_
        refine u_getR (Y := YX10_nobodyLater) (pc := 25) (j := 45) dX10_nobodyLater_25 fl_X10_179 k_41 (st_r7 isSt_41) ?_
        refine g_iload_n (Y := YX10_nobodyLater) (pc := 28) 2 dX10_nobodyLater_28 rfl ?_
        obtain ⟨g7, hF⟩ := gd_some hF
        refine s_iald (Y := YX10_nobodyLater) (pc := 29) dX10_nobodyLater_29 k_45 n_45 g7 ?_
        refine g_iconst (Y := YX10_nobodyLater) (pc := 30) dX10_nobodyLater_30 kI_m1 ?_
        refine g_icmp_eq (Y := YX10_nobodyLater) (pc := 31) (tgt := 55) dX10_nobodyLater_31 rfl (fun c8 => ?_) (fun c8 => ?_)
        · replace hF := if_t c8 hF
          refine g_loc [] rfl ?_
          exact w_X10_nobodyLater_55  _ hF
        · replace hF := if_f c8 hF
          refine g_aload_n (Y := YX10_nobodyLater) (pc := 34) 0 dX10_nobodyLater_34 rfl ?_
          refine u_getR (Y := YX10_nobodyLater) (pc := 35) (j := 41) dX10_nobodyLater_35 fl_X10_45 k_0 rf_0_6 ?_
          refine u_getR (Y := YX10_nobodyLater) (pc := 38) (j := 45) dX10_nobodyLater_38 fl_X10_179 k_41 (st_r7 isSt_41) ?_
          refine g_iload_n (Y := YX10_nobodyLater) (pc := 41) 2 dX10_nobodyLater_41 rfl ?_
          obtain ⟨g9, hF⟩ := gd_some hF
          refine s_iald (Y := YX10_nobodyLater) (pc := 42) dX10_nobodyLater_42 k_45 n_45 g9 ?_
          refine g_aload_n (Y := YX10_nobodyLater) (pc := 43) 0 dX10_nobodyLater_43 rfl ?_
          refine u_getR (Y := YX10_nobodyLater) (pc := 44) (j := 36) dX10_nobodyLater_44 fl_X10_42 k_0 rf_0_5 ?_
          refine u_getR (Y := YX10_nobodyLater) (pc := 47) (j := 40) dX10_nobodyLater_47 fl_X10_179 k_36 (st_r7 isSt_36) ?_
          refine g_iload_n (Y := YX10_nobodyLater) (pc := 50) 2 dX10_nobodyLater_50 rfl ?_
          obtain ⟨g10, hF⟩ := gd_some hF
          refine s_iald (Y := YX10_nobodyLater) (pc := 51) dX10_nobodyLater_51 k_40 n_40 g10 ?_
          refine g_icmp_le (Y := YX10_nobodyLater) (pc := 52) (tgt := 57) dX10_nobodyLater_52 rfl (fun c11 => ?_) (fun c11 => ?_)
          · replace hF := if_f c11 hF
            exact w_X10_nobodyLater_57 ih _ _ _ hF
          · replace hF := if_t c11 hF
            refine g_loc [] rfl ?_
            exact w_X10_nobodyLater_55  _ hF
def f_X10_nobodyLater_0  (x1 : Int32) (M : Mem) : Option (Int32 × Mem) :=
  f_X10_nobodyLater_2 FU x1 0 M
set_option maxRecDepth 100000 in
theorem w_X10_nobodyLater_0 {R : Int32} {M' : Mem}  (x1 : Int32) (M : Mem) (hF : f_X10_nobodyLater_0 x1 M = some (R, M')) : RunF l D cy ad none YX10_nobodyLater 1 0 0 (some (.int R)) (lay X M') 0 0 0 [(0, .ref 0), (1, .int x1)] [] (lay X M) := by
  unfold f_X10_nobodyLater_0 at hF
  refine g_iconst (Y := YX10_nobodyLater) (pc := 0) dX10_nobodyLater_0 kI_0 ?_
  refine g_istore_n (Y := YX10_nobodyLater) (pc := 1) (L' := [(2, .int 0), (0, .ref 0), (1, .int x1)]) dX10_nobodyLater_1 (Nat.le_of_ble_eq_true rfl) rfl ?_
  refine g_loc [1, 2, 0] rfl ?_
  exact w_X10_nobodyLater_2  _ _ _ _ hF
def f_X10_nobodyLater (x1 : Int32) (M : Mem) : Option (Int32 × Mem) := f_X10_nobodyLater_0 x1 M
theorem r_X10_nobodyLater {x1 R : Int32} {M M' : Mem}  (hF : f_X10_nobodyLater x1 M = some (R, M')) : RunS l D cy ad YX10_nobodyLater 1 [.ref 0, .int x1] X M (some (.int R)) M' := Run.of 1 (miX10_nobodyLater).1 (Nat.le_of_ble_eq_true rfl) (w_X10_nobodyLater_0  _ _ hF)
def f_X10_slack_50  : Nat → Int32 → Int32 → Int32 → Mem → Option (Int32 × Mem)
  | 0, _, _, _, _ => none
  | n + 1, x1, x2, x3, M =>
    if 0 < x3 then
      bd (f_X10_foresee 41 x1 x3 M) fun _ M18 =>
      bd (f_X10_nobodyLater x2 M18) fun r20 M21 =>
      if r20 = 0 then
        vl (x3 + (-1)) fun v24 =>
        f_X10_slack_50 n x1 x2 v24 M21
      else
        some (x3, M21)
    else
      some (0, M)
set_option maxRecDepth 100000 in
theorem w_X10_slack_50 {R : Int32} {M' : Mem}  : ∀ (n : Nat) (x1 x2 x3 : Int32) (M : Mem), f_X10_slack_50 n x1 x2 x3 M = some (R, M') → RunF l D cy ad none YX10_slack 5 0 0 (some (.int R)) (lay X M') 0 0 50 [(0, .ref 0), (1, .int x1), (2, .int x2), (3, .int x3)] [] (lay X M) := by
  intro n
  induction n with
  | zero => intro x1 x2 x3 M hF; exact absurd hF (by unfold f_X10_slack_50; exact fun h => nomatch h)
  | succ n ih =>
    intro x1 x2 x3 M hF
    unfold f_X10_slack_50 at hF
    refine g_iload_n (Y := YX10_slack) (pc := 50) 3 dX10_slack_50 rfl ?_
    refine g_if_le (Y := YX10_slack) (pc := 51) (tgt := 80) dX10_slack_51 rfl (fun c16 => ?_) (fun c16 => ?_)
    · replace hF := if_f c16 hF
      refine g_iconst (Y := YX10_slack) (pc := 80) dX10_slack_80 kI_0 ?_
      exact s_iret (Y := YX10_slack) (pc := 81) dX10_slack_81 rfl hF
    · replace hF := if_t c16 hF
      refine g_aload_n (Y := YX10_slack) (pc := 54) 0 dX10_slack_54 rfl ?_
      refine g_aload_n (Y := YX10_slack) (pc := 55) 0 dX10_slack_55 rfl ?_
      refine u_getR (Y := YX10_slack) (pc := 56) (j := 41) dX10_slack_56 fl_X10_45 k_0 rf_0_6 ?_
      refine g_iload_n (Y := YX10_slack) (pc := 59) 1 dX10_slack_59 rfl ?_
      refine g_iload_n (Y := YX10_slack) (pc := 60) 3 dX10_slack_60 rfl ?_
      obtain ⟨r17, M18, e19, hF⟩ := bd_some hF
      refine s_callVv (Y := YX10_slack) (pc := 61) (as := [.ref 41, .int x1, .int x3]) (st := []) (r_X10_foresee isSt_41 e19) miX10_foresee lk_X10_372 dX10_slack_61 k_0 rfl (Nat.le_of_ble_eq_true rfl) (Nat.le_of_ble_eq_true rfl) rfl ?_
      clear e19
      refine g_aload_n (Y := YX10_slack) (pc := 64) 0 dX10_slack_64 rfl ?_
      refine g_iload_n (Y := YX10_slack) (pc := 65) 2 dX10_slack_65 rfl ?_
      obtain ⟨r20, M21, e22, hF⟩ := bd_some hF
      refine s_callVi (Y := YX10_slack) (pc := 66) (as := [.int x2]) (st := []) (r_X10_nobodyLater  e22) miX10_nobodyLater lk_X10_376 dX10_slack_66 k_0 rfl (Nat.le_of_ble_eq_true rfl) (Nat.le_of_ble_eq_true rfl) rfl ?_
      clear e22
      refine g_if_eq (Y := YX10_slack) (pc := 69) (tgt := 74) dX10_slack_69 rfl (fun c23 => ?_) (fun c23 => ?_)
      · replace hF := if_t c23 hF
        refine s_iinc (Y := YX10_slack) (pc := 74) (j := 3) (L' := fun y => [(3, .int y), (0, .ref 0), (1, .int x1), (2, .int x2)]) dX10_slack_74 kI_m1 rfl (Nat.le_of_ble_eq_true rfl) (fun _ => rfl) (fun v24 e => ?_)
        replace hF := vl_to e hF; clear e
        refine g_goto (Y := YX10_slack) (pc := 77) (tgt := 50) dX10_slack_77 rfl ?_
        refine g_loc [1, 2, 3, 0] rfl ?_
        exact ih _ _ _ _ hF
      · replace hF := if_f c23 hF
        refine g_iload_n (Y := YX10_slack) (pc := 72) 3 dX10_slack_72 rfl ?_
        exact s_iret (Y := YX10_slack) (pc := 73) dX10_slack_73 rfl hF
def f_X10_slack_0  (x1 : Int32) (M : Mem) : Option (Int32 × Mem) :=
  bd (f_X10_isInside x1 M) fun r1 M2 =>
  if r1 = 0 then
    some ((-1), M2)
  else
    bd (f_X10_foresee 36 x1 0 M2) fun _ M6 =>
    bd (f_X7_bitsInside 36 M6) fun r8 M9 =>
    if r8 = 0 then
      bd (f_X7_bitsInside 26 M9) fun r12 M13 =>
      vl ((r12 &&& ((1 <<< (x1 &&& 31)) ^^^ (-1)))) fun v15 =>
      f_X10_slack_50 FU x1 v15 30 M13
    else
      some ((-2), M9)
set_option maxRecDepth 100000 in
theorem w_X10_slack_0 {R : Int32} {M' : Mem}  (x1 : Int32) (M : Mem) (hF : f_X10_slack_0 x1 M = some (R, M')) : RunF l D cy ad none YX10_slack 5 0 0 (some (.int R)) (lay X M') 0 0 0 [(0, .ref 0), (1, .int x1)] [] (lay X M) := by
  unfold f_X10_slack_0 at hF
  refine g_aload_n (Y := YX10_slack) (pc := 0) 0 dX10_slack_0 rfl ?_
  refine g_iload_n (Y := YX10_slack) (pc := 1) 1 dX10_slack_1 rfl ?_
  obtain ⟨r1, M2, e3, hF⟩ := bd_some hF
  refine s_callVi (Y := YX10_slack) (pc := 2) (as := [.int x1]) (st := []) (r_X10_isInside  e3) miX10_isInside lk_X10_230 dX10_slack_2 k_0 rfl (Nat.le_of_ble_eq_true rfl) (Nat.le_of_ble_eq_true rfl) rfl ?_
  clear e3
  refine g_if_ne (Y := YX10_slack) (pc := 5) (tgt := 10) dX10_slack_5 rfl (fun c4 => ?_) (fun c4 => ?_)
  · replace hF := if_f c4 hF
    refine g_aload_n (Y := YX10_slack) (pc := 10) 0 dX10_slack_10 rfl ?_
    refine g_aload_n (Y := YX10_slack) (pc := 11) 0 dX10_slack_11 rfl ?_
    refine u_getR (Y := YX10_slack) (pc := 12) (j := 36) dX10_slack_12 fl_X10_42 k_0 rf_0_5 ?_
    refine g_iload_n (Y := YX10_slack) (pc := 15) 1 dX10_slack_15 rfl ?_
    refine g_iconst (Y := YX10_slack) (pc := 16) dX10_slack_16 kI_0 ?_
    obtain ⟨r5, M6, e7, hF⟩ := bd_some hF
    refine s_callVv (Y := YX10_slack) (pc := 17) (as := [.ref 36, .int x1, .int 0]) (st := []) (r_X10_foresee isSt_36 e7) miX10_foresee lk_X10_372 dX10_slack_17 k_0 rfl (Nat.le_of_ble_eq_true rfl) (Nat.le_of_ble_eq_true rfl) rfl ?_
    clear e7
    refine g_aload_n (Y := YX10_slack) (pc := 20) 0 dX10_slack_20 rfl ?_
    refine u_getR (Y := YX10_slack) (pc := 21) (j := 36) dX10_slack_21 fl_X10_42 k_0 rf_0_5 ?_
    obtain ⟨r8, M9, e10, hF⟩ := bd_some hF
    refine s_callVi (Y := YX10_slack) (pc := 24) (as := []) (st := []) (r_X7_bitsInside isSt_36 e10) miX7_bitsInside lk_X10_222 dX10_slack_24 k_36 rfl (Nat.le_of_ble_eq_true rfl) (Nat.le_of_ble_eq_true rfl) rfl ?_
    clear e10
    refine g_if_eq (Y := YX10_slack) (pc := 27) (tgt := 33) dX10_slack_27 rfl (fun c11 => ?_) (fun c11 => ?_)
    · replace hF := if_t c11 hF
      refine g_aload_n (Y := YX10_slack) (pc := 33) 0 dX10_slack_33 rfl ?_
      refine u_getR (Y := YX10_slack) (pc := 34) (j := 26) dX10_slack_34 fl_X10_35 k_0 rf_0_3 ?_
      obtain ⟨r12, M13, e14, hF⟩ := bd_some hF
      refine s_callVi (Y := YX10_slack) (pc := 37) (as := []) (st := []) (r_X7_bitsInside isSt_26 e14) miX7_bitsInside lk_X10_222 dX10_slack_37 k_26 rfl (Nat.le_of_ble_eq_true rfl) (Nat.le_of_ble_eq_true rfl) rfl ?_
      clear e14
      refine g_iconst (Y := YX10_slack) (pc := 40) dX10_slack_40 kI_1 ?_
      refine g_iload_n (Y := YX10_slack) (pc := 41) 1 dX10_slack_41 rfl ?_
      refine g_ishl (Y := YX10_slack) (pc := 42) dX10_slack_42 ?_
      refine g_iconst (Y := YX10_slack) (pc := 43) dX10_slack_43 kI_m1 ?_
      refine g_ixor (Y := YX10_slack) (pc := 44) dX10_slack_44 ?_
      refine g_iand (Y := YX10_slack) (pc := 45) dX10_slack_45 ?_
      refine g_nm (fun v15 e => ?_)
      replace hF := vl_to e hF; clear e
      refine g_istore_n (Y := YX10_slack) (pc := 46) (L' := [(2, .int v15), (0, .ref 0), (1, .int x1)]) dX10_slack_46 (Nat.le_of_ble_eq_true rfl) rfl ?_
      refine g_bipush (Y := YX10_slack) (pc := 47) dX10_slack_47 kB_30 ?_
      refine g_istore_n (Y := YX10_slack) (pc := 49) (L' := [(3, .int 30), (2, .int v15), (0, .ref 0), (1, .int x1)]) dX10_slack_49 (Nat.le_of_ble_eq_true rfl) rfl ?_
      refine g_loc [2, 3, 1, 0] rfl ?_
      exact w_X10_slack_50  _ _ _ _ _ hF
    · replace hF := if_f c11 hF
      refine g_bipush (Y := YX10_slack) (pc := 30) dX10_slack_30 kB_m2 ?_
      exact s_iret (Y := YX10_slack) (pc := 32) dX10_slack_32 rfl hF
  · replace hF := if_t c4 hF
    refine g_iconst (Y := YX10_slack) (pc := 8) dX10_slack_8 kI_m1 ?_
    exact s_iret (Y := YX10_slack) (pc := 9) dX10_slack_9 rfl hF
def f_X10_slack (x1 : Int32) (M : Mem) : Option (Int32 × Mem) := f_X10_slack_0 x1 M
theorem r_X10_slack {x1 R : Int32} {M M' : Mem}  (hF : f_X10_slack x1 M = some (R, M')) : RunS l D cy ad YX10_slack 5 [.ref 0, .int x1] X M (some (.int R)) M' := Run.of 1 (miX10_slack).1 (Nat.le_of_ble_eq_true rfl) (w_X10_slack_0  _ _ hF)
def f_X10_dies_33  (M : Mem) : Option (Int32 × Mem) :=
  some ((-1), M)
set_option maxRecDepth 100000 in
theorem w_X10_dies_33 {R : Int32} {M' : Mem}  (M : Mem) (hF : f_X10_dies_33  M = some (R, M')) : RunF l D cy ad none YX10_dies 2 0 0 (some (.int R)) (lay X M') 0 0 33 [] [] (lay X M) := by
  unfold f_X10_dies_33 at hF
  refine g_iconst (Y := YX10_dies) (pc := 33) dX10_dies_33 kI_m1 ?_
  exact s_iret (Y := YX10_dies) (pc := 34) dX10_dies_34 rfl hF
def f_X10_dies_123  (x6 : Int32) (x7 : Int32) (M : Mem) : Option (Int32 × Mem) :=
  bd (f_X10_clearRow M) fun _ M20 =>
  bd (f_X10_tell x7 M20) fun _ M23 =>
  some (x6, M23)
set_option maxRecDepth 100000 in
theorem w_X10_dies_123 {R : Int32} {M' : Mem}  (x6 x7 : Int32) (M : Mem) (hF : f_X10_dies_123 x6 x7 M = some (R, M')) : RunF l D cy ad none YX10_dies 2 0 0 (some (.int R)) (lay X M') 0 0 123 [(0, .ref 0), (6, .int x6), (7, .int x7)] [] (lay X M) := by
  unfold f_X10_dies_123 at hF
  refine g_aload_n (Y := YX10_dies) (pc := 123) 0 dX10_dies_123 rfl ?_
  obtain ⟨r19, M20, e21, hF⟩ := bd_some hF
  refine s_callVv (Y := YX10_dies) (pc := 124) (as := []) (st := []) (r_X10_clearRow  e21) miX10_clearRow lk_X10_246 dX10_dies_124 k_0 rfl (Nat.le_of_ble_eq_true rfl) (Nat.le_of_ble_eq_true rfl) rfl ?_
  clear e21
  refine g_aload_n (Y := YX10_dies) (pc := 127) 0 dX10_dies_127 rfl ?_
  refine g_iload (Y := YX10_dies) (pc := 128) 2 dX10_dies_128 rfl ?_
  obtain ⟨r22, M23, e24, hF⟩ := bd_some hF
  refine s_callVv (Y := YX10_dies) (pc := 130) (as := [.int x7]) (st := []) (r_X10_tell  e24) miX10_tell lk_X10_252 dX10_dies_130 k_0 rfl (Nat.le_of_ble_eq_true rfl) (Nat.le_of_ble_eq_true rfl) rfl ?_
  clear e24
  refine g_iload (Y := YX10_dies) (pc := 133) 1 dX10_dies_133 rfl ?_
  exact s_iret (Y := YX10_dies) (pc := 135) dX10_dies_135 rfl hF
def f_X10_dies_92  : Nat → Int32 → Int32 → Int32 → Int32 → Int32 → Mem → Option (Int32 × Mem)
  | 0, _, _, _, _, _, _ => none
  | n + 1, x2, x5, x6, x7, x8, M =>
    if x6 < 20 then
      if 0 < x8 then
        vl (x6 + 1) fun v26 =>
        vl (((x8 - x2) + x5)) fun v27 =>
        f_X10_dies_92 n x2 x5 v26 x8 v27 M
      else
        f_X10_dies_123 x6 x7 M
    else
      f_X10_dies_123 x6 x7 M
set_option maxRecDepth 100000 in
theorem w_X10_dies_92 {R : Int32} {M' : Mem}  : ∀ (n : Nat) (x2 x5 x6 x7 x8 : Int32) (M : Mem), f_X10_dies_92 n x2 x5 x6 x7 x8 M = some (R, M') → RunF l D cy ad none YX10_dies 2 0 0 (some (.int R)) (lay X M') 0 0 92 [(0, .ref 0), (2, .int x2), (5, .int x5), (6, .int x6), (7, .int x7), (8, .int x8)] [] (lay X M) := by
  intro n
  induction n with
  | zero => intro x2 x5 x6 x7 x8 M hF; exact absurd hF (by unfold f_X10_dies_92; exact fun h => nomatch h)
  | succ n ih =>
    intro x2 x5 x6 x7 x8 M hF
    unfold f_X10_dies_92 at hF
    refine g_iload (Y := YX10_dies) (pc := 92) 3 dX10_dies_92 rfl ?_
    refine g_bipush (Y := YX10_dies) (pc := 94) dX10_dies_94 kB_20 ?_
    refine g_icmp_ge (Y := YX10_dies) (pc := 96) (tgt := 123) dX10_dies_96 rfl (fun c18 => ?_) (fun c18 => ?_)
    · replace hF := if_f c18 hF
      refine g_loc [0, 3, 4] rfl ?_
      exact w_X10_dies_123  _ _ _ hF
    · replace hF := if_t c18 hF
      refine g_iload (Y := YX10_dies) (pc := 99) 5 dX10_dies_99 rfl ?_
      refine g_if_le (Y := YX10_dies) (pc := 101) (tgt := 123) dX10_dies_101 rfl (fun c25 => ?_) (fun c25 => ?_)
      · replace hF := if_f c25 hF
        refine g_loc [0, 3, 4] rfl ?_
        exact w_X10_dies_123  _ _ _ hF
      · replace hF := if_t c25 hF
        refine s_iinc (Y := YX10_dies) (pc := 104) (j := 3) (L' := fun y => [(6, .int y), (0, .ref 0), (2, .int x2), (5, .int x5), (7, .int x7), (8, .int x8)]) dX10_dies_104 kI_1 rfl (Nat.le_of_ble_eq_true rfl) (fun _ => rfl) (fun v26 e => ?_)
        replace hF := vl_to e hF; clear e
        refine g_iload (Y := YX10_dies) (pc := 107) 5 dX10_dies_107 rfl ?_
        refine g_istore (Y := YX10_dies) (pc := 109) (L' := [(7, .int x8), (6, .int v26), (0, .ref 0), (2, .int x2), (5, .int x5), (8, .int x8)]) dX10_dies_109 (Nat.le_of_ble_eq_true rfl) rfl ?_
        refine g_iload (Y := YX10_dies) (pc := 111) 5 dX10_dies_111 rfl ?_
        refine g_iload_n (Y := YX10_dies) (pc := 113) 3 dX10_dies_113 rfl ?_
        refine g_isub (Y := YX10_dies) (pc := 114) dX10_dies_114 ?_
        refine g_iload (Y := YX10_dies) (pc := 115) 4 dX10_dies_115 rfl ?_
        refine g_iadd (Y := YX10_dies) (pc := 117) dX10_dies_117 ?_
        refine g_nm (fun v27 e => ?_)
        replace hF := vl_to e hF; clear e
        refine g_istore (Y := YX10_dies) (pc := 118) (L' := [(8, .int v27), (7, .int x8), (6, .int v26), (0, .ref 0), (2, .int x2), (5, .int x5)]) dX10_dies_118 (Nat.le_of_ble_eq_true rfl) rfl ?_
        refine g_goto (Y := YX10_dies) (pc := 120) (tgt := 92) dX10_dies_120 rfl ?_
        refine g_loc [3, 4, 5, 2, 1, 0] rfl ?_
        exact ih _ _ _ _ _ _ hF
def f_X10_dies_67  (x2 : Int32) (x3 : Int32) (t0 : Int32) (M : Mem) : Option (Int32 × Mem) :=
  if x2 < t0 then
    some ((-2), M)
  else
    vl (((x3 - x2) + t0)) fun v17 =>
    f_X10_dies_92 FU x2 t0 0 0 v17 M
set_option maxRecDepth 100000 in
theorem w_X10_dies_67 {R : Int32} {M' : Mem}  (x2 x3 t0 : Int32) (M : Mem) (hF : f_X10_dies_67 x2 x3 t0 M = some (R, M')) : RunF l D cy ad none YX10_dies 2 0 0 (some (.int R)) (lay X M') 0 0 67 [(0, .ref 0), (2, .int x2), (3, .int x3)] [.int t0] (lay X M) := by
  unfold f_X10_dies_67 at hF
  refine g_istore (Y := YX10_dies) (pc := 67) (L' := [(5, .int t0), (0, .ref 0), (2, .int x2), (3, .int x3)]) dX10_dies_67 (Nat.le_of_ble_eq_true rfl) rfl ?_
  refine g_iload_n (Y := YX10_dies) (pc := 69) 2 dX10_dies_69 rfl ?_
  refine g_iload (Y := YX10_dies) (pc := 70) 0 dX10_dies_70 rfl ?_
  refine g_icmp_ge (Y := YX10_dies) (pc := 72) (tgt := 78) dX10_dies_72 rfl (fun c16 => ?_) (fun c16 => ?_)
  · replace hF := if_f c16 hF
    refine g_iconst (Y := YX10_dies) (pc := 78) dX10_dies_78 kI_0 ?_
    refine g_istore (Y := YX10_dies) (pc := 79) (L' := [(6, .int 0), (5, .int t0), (0, .ref 0), (2, .int x2), (3, .int x3)]) dX10_dies_79 (Nat.le_of_ble_eq_true rfl) rfl ?_
    refine g_iconst (Y := YX10_dies) (pc := 81) dX10_dies_81 kI_0 ?_
    refine g_istore (Y := YX10_dies) (pc := 82) (L' := [(7, .int 0), (6, .int 0), (5, .int t0), (0, .ref 0), (2, .int x2), (3, .int x3)]) dX10_dies_82 (Nat.le_of_ble_eq_true rfl) rfl ?_
    refine g_iload_n (Y := YX10_dies) (pc := 84) 5 dX10_dies_84 rfl ?_
    refine g_iload_n (Y := YX10_dies) (pc := 85) 4 dX10_dies_85 rfl ?_
    refine g_isub (Y := YX10_dies) (pc := 86) dX10_dies_86 ?_
    refine g_iload (Y := YX10_dies) (pc := 87) 2 dX10_dies_87 rfl ?_
    refine g_iadd (Y := YX10_dies) (pc := 89) dX10_dies_89 ?_
    refine g_nm (fun v17 e => ?_)
    replace hF := vl_to e hF; clear e
    refine g_istore (Y := YX10_dies) (pc := 90) (L' := [(8, .int v17), (7, .int 0), (6, .int 0), (5, .int t0), (0, .ref 0), (2, .int x2), (3, .int x3)]) dX10_dies_90 (Nat.le_of_ble_eq_true rfl) rfl ?_
    refine g_loc [4, 5, 3, 2, 1, 0] rfl ?_
    exact w_X10_dies_92  _ _ _ _ _ _ _ hF
  · replace hF := if_t c16 hF
    refine g_bipush (Y := YX10_dies) (pc := 75) dX10_dies_75 kB_m2 ?_
    exact s_iret (Y := YX10_dies) (pc := 77) dX10_dies_77 rfl hF
def f_X10_dies_0  (x1 : Int32) (x2 : Int32) (x3 : Int32) (M : Mem) : Option (Int32 × Mem) :=
  if x2 < 1 then
    f_X10_dies_33 M
  else
    if 60 < x2 then
      f_X10_dies_33 M
    else
      if x3 < 1 then
        f_X10_dies_33 M
      else
        if 60 < x3 then
          f_X10_dies_33 M
        else
          bd (f_X1_hasGroup x1 M) fun r5 M6 =>
          if r5 = 0 then
            f_X10_dies_33 M6
          else
            bd (f_X1_longestPlace x1 M6) fun r9 M10 =>
            if r9 = (-1) then
              f_X10_dies_67 x2 x3 0 M10
            else
              gd (0 ≤ x1 ∧ x1.toNatClampNeg < 6) <|
              gd (0 ≤ r9 ∧ r9.toNatClampNeg < 6) <|
              vl ((M10 (17 + x1.toNatClampNeg) r9.toNatClampNeg)) fun v15 =>
              f_X10_dies_67 x2 x3 v15 M10
set_option maxRecDepth 100000 in
theorem w_X10_dies_0 {R : Int32} {M' : Mem}  (x1 x2 x3 : Int32) (M : Mem) (hF : f_X10_dies_0 x1 x2 x3 M = some (R, M')) : RunF l D cy ad none YX10_dies 2 0 0 (some (.int R)) (lay X M') 0 0 0 [(0, .ref 0), (1, .int x1), (2, .int x2), (3, .int x3)] [] (lay X M) := by
  unfold f_X10_dies_0 at hF
  refine g_iload_n (Y := YX10_dies) (pc := 0) 2 dX10_dies_0 rfl ?_
  refine g_iconst (Y := YX10_dies) (pc := 1) dX10_dies_1 kI_1 ?_
  refine g_icmp_lt (Y := YX10_dies) (pc := 2) (tgt := 33) dX10_dies_2 rfl (fun c1 => ?_) (fun c1 => ?_)
  · replace hF := if_t c1 hF
    refine g_loc [] rfl ?_
    exact w_X10_dies_33  _ hF
  · replace hF := if_f c1 hF
    refine g_iload_n (Y := YX10_dies) (pc := 5) 2 dX10_dies_5 rfl ?_
    refine g_bipush (Y := YX10_dies) (pc := 6) dX10_dies_6 kB_60 ?_
    refine g_icmp_gt (Y := YX10_dies) (pc := 8) (tgt := 33) dX10_dies_8 rfl (fun c2 => ?_) (fun c2 => ?_)
    · replace hF := if_t c2 hF
      refine g_loc [] rfl ?_
      exact w_X10_dies_33  _ hF
    · replace hF := if_f c2 hF
      refine g_iload_n (Y := YX10_dies) (pc := 11) 3 dX10_dies_11 rfl ?_
      refine g_iconst (Y := YX10_dies) (pc := 12) dX10_dies_12 kI_1 ?_
      refine g_icmp_lt (Y := YX10_dies) (pc := 13) (tgt := 33) dX10_dies_13 rfl (fun c3 => ?_) (fun c3 => ?_)
      · replace hF := if_t c3 hF
        refine g_loc [] rfl ?_
        exact w_X10_dies_33  _ hF
      · replace hF := if_f c3 hF
        refine g_iload_n (Y := YX10_dies) (pc := 16) 3 dX10_dies_16 rfl ?_
        refine g_bipush (Y := YX10_dies) (pc := 17) dX10_dies_17 kB_60 ?_
        refine g_icmp_gt (Y := YX10_dies) (pc := 19) (tgt := 33) dX10_dies_19 rfl (fun c4 => ?_) (fun c4 => ?_)
        · replace hF := if_t c4 hF
          refine g_loc [] rfl ?_
          exact w_X10_dies_33  _ hF
        · replace hF := if_f c4 hF
          refine g_aload_n (Y := YX10_dies) (pc := 22) 0 dX10_dies_22 rfl ?_
          refine u_getR (Y := YX10_dies) (pc := 23) (j := 3) dX10_dies_23 fl_X10_19 k_0 rf_0_1 ?_
          refine g_iload_n (Y := YX10_dies) (pc := 26) 1 dX10_dies_26 rfl ?_
          obtain ⟨r5, M6, e7, hF⟩ := bd_some hF
          refine s_callVi (Y := YX10_dies) (pc := 27) (as := [.int x1]) (st := []) (r_X1_hasGroup  e7) miX1_hasGroup lk_X10_152 dX10_dies_27 k_3 rfl (Nat.le_of_ble_eq_true rfl) (Nat.le_of_ble_eq_true rfl) rfl ?_
          clear e7
          refine g_if_ne (Y := YX10_dies) (pc := 30) (tgt := 35) dX10_dies_30 rfl (fun c8 => ?_) (fun c8 => ?_)
          · replace hF := if_f c8 hF
            refine g_aload_n (Y := YX10_dies) (pc := 35) 0 dX10_dies_35 rfl ?_
            refine u_getR (Y := YX10_dies) (pc := 36) (j := 3) dX10_dies_36 fl_X10_19 k_0 rf_0_1 ?_
            refine g_iload_n (Y := YX10_dies) (pc := 39) 1 dX10_dies_39 rfl ?_
            obtain ⟨r9, M10, e11, hF⟩ := bd_some hF
            refine s_callVi (Y := YX10_dies) (pc := 40) (as := [.int x1]) (st := []) (r_X1_longestPlace  e11) miX1_longestPlace lk_X10_351 dX10_dies_40 k_3 rfl (Nat.le_of_ble_eq_true rfl) (Nat.le_of_ble_eq_true rfl) rfl ?_
            clear e11
            refine g_istore (Y := YX10_dies) (pc := 43) (L' := [(4, .int r9), (0, .ref 0), (1, .int x1), (2, .int x2), (3, .int x3)]) dX10_dies_43 (Nat.le_of_ble_eq_true rfl) rfl ?_
            refine g_iload (Y := YX10_dies) (pc := 45) 0 dX10_dies_45 rfl ?_
            refine g_iconst (Y := YX10_dies) (pc := 47) dX10_dies_47 kI_m1 ?_
            refine g_icmp_ne (Y := YX10_dies) (pc := 48) (tgt := 55) dX10_dies_48 rfl (fun c12 => ?_) (fun c12 => ?_)
            · replace hF := if_f c12 hF
              refine g_aload_n (Y := YX10_dies) (pc := 55) 1 dX10_dies_55 rfl ?_
              refine u_getR (Y := YX10_dies) (pc := 56) (j := 3) dX10_dies_56 fl_X10_19 k_0 rf_0_1 ?_
              refine u_getR (Y := YX10_dies) (pc := 59) (j := 16) dX10_dies_59 fl_X10_201 k_3 rf_3_9 ?_
              refine g_iload_n (Y := YX10_dies) (pc := 62) 2 dX10_dies_62 rfl ?_
              obtain ⟨g13, hF⟩ := gd_some hF
              refine s_aaldA (Y := YX10_dies) (pc := 63) dX10_dies_63 k_16 n_16 g13 (stay_r g13.2) ?_
              refine g_iload (Y := YX10_dies) (pc := 64) 0 dX10_dies_64 rfl ?_
              obtain ⟨g14, hF⟩ := gd_some hF
              refine s_iald (Y := YX10_dies) (pc := 66) dX10_dies_66 (stay_all _ g13.2).2.1 (stay_all _ g13.2).2.2 g14 ?_
              refine g_nm (fun v15 e => ?_)
              replace hF := vl_to e hF; clear e
              refine g_loc [1, 3, 4] rfl ?_
              exact w_X10_dies_67  _ _ _ _ hF
            · replace hF := if_t c12 hF
              refine g_iconst (Y := YX10_dies) (pc := 51) dX10_dies_51 kI_0 ?_
              refine g_goto (Y := YX10_dies) (pc := 52) (tgt := 67) dX10_dies_52 rfl ?_
              refine g_loc [1, 3, 4] rfl ?_
              exact w_X10_dies_67  _ _ _ _ hF
          · replace hF := if_t c8 hF
            refine g_loc [] rfl ?_
            exact w_X10_dies_33  _ hF
def f_X10_dies (x1 : Int32) (x2 : Int32) (x3 : Int32) (M : Mem) : Option (Int32 × Mem) := f_X10_dies_0 x1 x2 x3 M
theorem r_X10_dies {x1 x2 x3 R : Int32} {M M' : Mem}  (hF : f_X10_dies x1 x2 x3 M = some (R, M')) : RunS l D cy ad YX10_dies 2 [.ref 0, .int x1, .int x2, .int x3] X M (some (.int R)) M' := Run.of 3 (miX10_dies).1 (Nat.le_of_ble_eq_true rfl) (w_X10_dies_0  _ _ _ _ hF)
def f_X1_lossOf_48  (M : Mem) : Option (Int32 × Mem) :=
  some ((-2), M)
set_option maxRecDepth 100000 in
theorem w_X1_lossOf_48 {R : Int32} {M' : Mem}  (M : Mem) (hF : f_X1_lossOf_48  M = some (R, M')) : RunF l D cy ad none YX1_lossOf 0 0 0 (some (.int R)) (lay X M') 0 0 48 [] [] (lay X M) := by
  unfold f_X1_lossOf_48 at hF
  refine g_bipush (Y := YX1_lossOf) (pc := 48) dX1_lossOf_48 kB_m2 ?_
  exact s_iret (Y := YX1_lossOf) (pc := 50) dX1_lossOf_50 rfl hF
def f_X1_lossOf_114 (K56 : Int32 → Int32 → Int32 → Int32 → Mem → Option (Int32 × Mem)) (x1 : Int32) (x2 : Int32) (x4 : Int32) (t1 : Int32) (t0 : Int32) (M : Mem) : Option (Int32 × Mem) :=
  vl ((t1 + t0)) fun v19 =>
  vl (x4 + 1) fun v20 =>
  K56 x1 x2 v19 v20 M
set_option maxRecDepth 100000 in
theorem w_X1_lossOf_114 {R : Int32} {M' : Mem} {K56 : Int32 → Int32 → Int32 → Int32 → Mem → Option (Int32 × Mem)} (hK56 : ∀ (x1 x2 x3 x4 : Int32) (M : Mem), K56 x1 x2 x3 x4 M = some (R, M') → RunF l D cy ad none YX1_lossOf 0 0 0 (some (.int R)) (lay X M') 0 0 56 [(0, .ref 3), (1, .int x1), (2, .int x2), (3, .int x3), (4, .int x4)] [] (lay X M)) (x1 x2 x4 t1 t0 : Int32) (M : Mem) (hF : f_X1_lossOf_114 K56 x1 x2 x4 t1 t0 M = some (R, M')) : RunF l D cy ad none YX1_lossOf 0 0 0 (some (.int R)) (lay X M') 0 0 114 [(0, .ref 3), (1, .int x1), (2, .int x2), (4, .int x4)] [.int t0, .int t1] (lay X M) := by
  unfold f_X1_lossOf_114 at hF
  refine g_iadd (Y := YX1_lossOf) (pc := 114) dX1_lossOf_114 ?_
  refine g_nm (fun v19 e => ?_)
  replace hF := vl_to e hF; clear e
  refine g_istore_n (Y := YX1_lossOf) (pc := 115) (L' := [(3, .int v19), (0, .ref 3), (1, .int x1), (2, .int x2), (4, .int x4)]) dX1_lossOf_115 (Nat.le_of_ble_eq_true rfl) rfl ?_
  refine s_iinc (Y := YX1_lossOf) (pc := 116) (j := 4) (L' := fun y => [(4, .int y), (3, .int v19), (0, .ref 3), (1, .int x1), (2, .int x2)]) dX1_lossOf_116 kI_1 rfl (Nat.le_of_ble_eq_true rfl) (fun _ => rfl) (fun v20 e => ?_)
  replace hF := vl_to e hF; clear e
  refine g_goto (Y := YX1_lossOf) (pc := 119) (tgt := 56) dX1_lossOf_119 rfl ?_
  refine g_loc [2, 3, 4, 1, 0] rfl ?_
  exact hK56 _ _ _ _ _ hF
def f_X1_lossOf_56  : Nat → Int32 → Int32 → Int32 → Int32 → Mem → Option (Int32 × Mem)
  | 0, _, _, _, _, _ => none
  | n + 1, x1, x2, x3, x4, M =>
    if x4 < (M 3 0) then
      gd (0 ≤ x1 ∧ x1.toNatClampNeg < 6) <|
      gd (0 ≤ x4 ∧ x4.toNatClampNeg < 6) <|
      gd (0 ≤ x2 ∧ x2.toNatClampNeg < 6) <|
      gd (0 ≤ x4 ∧ x4.toNatClampNeg < 6) <|
      vl (((M (17 + x1.toNatClampNeg) x4.toNatClampNeg) - (M (17 + x2.toNatClampNeg) x4.toNatClampNeg))) fun v16 =>
      if 0 < v16 then
        gd (0 ≤ x2 ∧ x2.toNatClampNeg < 6) <|
        f_X1_lossOf_114 (f_X1_lossOf_56 n) x1 x2 x4 x3 (v16 * (M 6 x2.toNatClampNeg)) M
      else
        gd (0 ≤ x1 ∧ x1.toNatClampNeg < 6) <|
        f_X1_lossOf_114 (f_X1_lossOf_56 n) x1 x2 x4 x3 ((-v16) * (M 6 x1.toNatClampNeg)) M
    else
      some (x3, M)
set_option maxRecDepth 100000 in
theorem w_X1_lossOf_56 {R : Int32} {M' : Mem}  : ∀ (n : Nat) (x1 x2 x3 x4 : Int32) (M : Mem), f_X1_lossOf_56 n x1 x2 x3 x4 M = some (R, M') → RunF l D cy ad none YX1_lossOf 0 0 0 (some (.int R)) (lay X M') 0 0 56 [(0, .ref 3), (1, .int x1), (2, .int x2), (3, .int x3), (4, .int x4)] [] (lay X M) := by
  intro n
  induction n with
  | zero => intro x1 x2 x3 x4 M hF; exact absurd hF (by unfold f_X1_lossOf_56; exact fun h => nomatch h)
  | succ n ih =>
    intro x1 x2 x3 x4 M hF
    unfold f_X1_lossOf_56 at hF
    refine g_iload (Y := YX1_lossOf) (pc := 56) 4 dX1_lossOf_56 rfl ?_
    refine g_aload_n (Y := YX1_lossOf) (pc := 58) 0 dX1_lossOf_58 rfl ?_
    refine u_getI (Y := YX1_lossOf) (pc := 59) dX1_lossOf_59 fl_X1_9 k_3 ?_
    refine g_icmp_ge (Y := YX1_lossOf) (pc := 62) (tgt := 122) dX1_lossOf_62 rfl (fun c11 => ?_) (fun c11 => ?_)
    · replace hF := if_f c11 hF
      refine g_iload_n (Y := YX1_lossOf) (pc := 122) 3 dX1_lossOf_122 rfl ?_
      exact s_iret (Y := YX1_lossOf) (pc := 123) dX1_lossOf_123 rfl hF
    · replace hF := if_t c11 hF
      refine g_aload_n (Y := YX1_lossOf) (pc := 65) 0 dX1_lossOf_65 rfl ?_
      refine u_getR (Y := YX1_lossOf) (pc := 66) (j := 16) dX1_lossOf_66 fl_X1_42 k_3 rf_3_9 ?_
      refine g_iload_n (Y := YX1_lossOf) (pc := 69) 1 dX1_lossOf_69 rfl ?_
      obtain ⟨g12, hF⟩ := gd_some hF
      refine s_aaldA (Y := YX1_lossOf) (pc := 70) dX1_lossOf_70 k_16 n_16 g12 (stay_r g12.2) ?_
      refine g_iload (Y := YX1_lossOf) (pc := 71) 4 dX1_lossOf_71 rfl ?_
      obtain ⟨g13, hF⟩ := gd_some hF
      refine s_iald (Y := YX1_lossOf) (pc := 73) dX1_lossOf_73 (stay_all _ g12.2).2.1 (stay_all _ g12.2).2.2 g13 ?_
      refine g_aload_n (Y := YX1_lossOf) (pc := 74) 0 dX1_lossOf_74 rfl ?_
      refine u_getR (Y := YX1_lossOf) (pc := 75) (j := 16) dX1_lossOf_75 fl_X1_42 k_3 rf_3_9 ?_
      refine g_iload_n (Y := YX1_lossOf) (pc := 78) 2 dX1_lossOf_78 rfl ?_
      obtain ⟨g14, hF⟩ := gd_some hF
      refine s_aaldA (Y := YX1_lossOf) (pc := 79) dX1_lossOf_79 k_16 n_16 g14 (stay_r g14.2) ?_
      refine g_iload (Y := YX1_lossOf) (pc := 80) 4 dX1_lossOf_80 rfl ?_
      obtain ⟨g15, hF⟩ := gd_some hF
      refine s_iald (Y := YX1_lossOf) (pc := 82) dX1_lossOf_82 (stay_all _ g14.2).2.1 (stay_all _ g14.2).2.2 g15 ?_
      refine g_isub (Y := YX1_lossOf) (pc := 83) dX1_lossOf_83 ?_
      refine g_nm (fun v16 e => ?_)
      replace hF := vl_to e hF; clear e
      refine g_istore (Y := YX1_lossOf) (pc := 84) (L' := [(5, .int v16), (0, .ref 3), (1, .int x1), (2, .int x2), (3, .int x3), (4, .int x4)]) dX1_lossOf_84 (Nat.le_of_ble_eq_true rfl) rfl ?_
      refine g_iload_n (Y := YX1_lossOf) (pc := 86) 4 dX1_lossOf_86 rfl ?_
      refine g_iload (Y := YX1_lossOf) (pc := 87) 0 dX1_lossOf_87 rfl ?_
      refine g_if_le (Y := YX1_lossOf) (pc := 89) (tgt := 104) dX1_lossOf_89 rfl (fun c17 => ?_) (fun c17 => ?_)
      · replace hF := if_f c17 hF
        refine g_iload (Y := YX1_lossOf) (pc := 104) 0 dX1_lossOf_104 rfl ?_
        refine g_ineg (Y := YX1_lossOf) (pc := 106) dX1_lossOf_106 ?_
        refine g_aload_n (Y := YX1_lossOf) (pc := 107) 1 dX1_lossOf_107 rfl ?_
        refine u_getR (Y := YX1_lossOf) (pc := 108) (j := 6) dX1_lossOf_108 fl_X1_28 k_3 rf_3_5 ?_
        refine g_iload_n (Y := YX1_lossOf) (pc := 111) 2 dX1_lossOf_111 rfl ?_
        obtain ⟨g18, hF⟩ := gd_some hF
        refine s_iald (Y := YX1_lossOf) (pc := 112) dX1_lossOf_112 k_6 n_6 g18 ?_
        refine g_imul (Y := YX1_lossOf) (pc := 113) dX1_lossOf_113 ?_
        refine g_loc [1, 2, 3, 5] rfl ?_
        exact w_X1_lossOf_114 ih _ _ _ _ _ _ hF
      · replace hF := if_t c17 hF
        refine g_iload (Y := YX1_lossOf) (pc := 92) 0 dX1_lossOf_92 rfl ?_
        refine g_aload_n (Y := YX1_lossOf) (pc := 94) 1 dX1_lossOf_94 rfl ?_
        refine u_getR (Y := YX1_lossOf) (pc := 95) (j := 6) dX1_lossOf_95 fl_X1_28 k_3 rf_3_5 ?_
        refine g_iload_n (Y := YX1_lossOf) (pc := 98) 3 dX1_lossOf_98 rfl ?_
        obtain ⟨g21, hF⟩ := gd_some hF
        refine s_iald (Y := YX1_lossOf) (pc := 99) dX1_lossOf_99 k_6 n_6 g21 ?_
        refine g_imul (Y := YX1_lossOf) (pc := 100) dX1_lossOf_100 ?_
        refine g_goto (Y := YX1_lossOf) (pc := 101) (tgt := 114) dX1_lossOf_101 rfl ?_
        refine g_loc [1, 2, 3, 5] rfl ?_
        exact w_X1_lossOf_114 ih _ _ _ _ _ _ hF
def f_X1_lossOf_0  (x1 : Int32) (x2 : Int32) (M : Mem) : Option (Int32 × Mem) :=
  gd (0 ≤ x1 ∧ x1.toNatClampNeg < 6) <|
  gd (0 ≤ x2 ∧ x2.toNatClampNeg < 6) <|
  if (M 5 x1.toNatClampNeg) = (M 5 x2.toNatClampNeg) then
    gd (0 ≤ x1 ∧ x1.toNatClampNeg < 6) <|
    gd (0 ≤ x2 ∧ x2.toNatClampNeg < 6) <|
    if (M 7 x1.toNatClampNeg) = (M 7 x2.toNatClampNeg) then
      gd (0 ≤ x1 ∧ x1.toNatClampNeg < 6) <|
      gd (0 ≤ x2 ∧ x2.toNatClampNeg < 6) <|
      vl (((M 6 x1.toNatClampNeg) + (M 6 x2.toNatClampNeg))) fun v9 =>
      if 40 < v9 then
        f_X1_lossOf_48 M
      else
        f_X1_lossOf_56 FU x1 x2 0 0 M
    else
      f_X1_lossOf_48 M
  else
    f_X1_lossOf_48 M
set_option maxRecDepth 100000 in
theorem w_X1_lossOf_0 {R : Int32} {M' : Mem}  (x1 x2 : Int32) (M : Mem) (hF : f_X1_lossOf_0 x1 x2 M = some (R, M')) : RunF l D cy ad none YX1_lossOf 0 0 0 (some (.int R)) (lay X M') 0 0 0 [(0, .ref 3), (1, .int x1), (2, .int x2)] [] (lay X M) := by
  unfold f_X1_lossOf_0 at hF
  refine g_aload_n (Y := YX1_lossOf) (pc := 0) 0 dX1_lossOf_0 rfl ?_
  refine u_getR (Y := YX1_lossOf) (pc := 1) (j := 5) dX1_lossOf_1 fl_X1_25 k_3 rf_3_4 ?_
  refine g_iload_n (Y := YX1_lossOf) (pc := 4) 1 dX1_lossOf_4 rfl ?_
  obtain ⟨g1, hF⟩ := gd_some hF
  refine s_iald (Y := YX1_lossOf) (pc := 5) dX1_lossOf_5 k_5 n_5 g1 ?_
  refine g_aload_n (Y := YX1_lossOf) (pc := 6) 0 dX1_lossOf_6 rfl ?_
  refine u_getR (Y := YX1_lossOf) (pc := 7) (j := 5) dX1_lossOf_7 fl_X1_25 k_3 rf_3_4 ?_
  refine g_iload_n (Y := YX1_lossOf) (pc := 10) 2 dX1_lossOf_10 rfl ?_
  obtain ⟨g2, hF⟩ := gd_some hF
  refine s_iald (Y := YX1_lossOf) (pc := 11) dX1_lossOf_11 k_5 n_5 g2 ?_
  refine g_icmp_ne (Y := YX1_lossOf) (pc := 12) (tgt := 48) dX1_lossOf_12 rfl (fun c3 => ?_) (fun c3 => ?_)
  · replace hF := if_f c3 hF
    refine g_loc [] rfl ?_
    exact w_X1_lossOf_48  _ hF
  · replace hF := if_t c3 hF
    refine g_aload_n (Y := YX1_lossOf) (pc := 15) 0 dX1_lossOf_15 rfl ?_
    refine u_getR (Y := YX1_lossOf) (pc := 16) (j := 7) dX1_lossOf_16 fl_X1_31 k_3 rf_3_6 ?_
    refine g_iload_n (Y := YX1_lossOf) (pc := 19) 1 dX1_lossOf_19 rfl ?_
    obtain ⟨g4, hF⟩ := gd_some hF
    refine s_iald (Y := YX1_lossOf) (pc := 20) dX1_lossOf_20 k_7 n_7 g4 ?_
    refine g_aload_n (Y := YX1_lossOf) (pc := 21) 0 dX1_lossOf_21 rfl ?_
    refine u_getR (Y := YX1_lossOf) (pc := 22) (j := 7) dX1_lossOf_22 fl_X1_31 k_3 rf_3_6 ?_
    refine g_iload_n (Y := YX1_lossOf) (pc := 25) 2 dX1_lossOf_25 rfl ?_
    obtain ⟨g5, hF⟩ := gd_some hF
    refine s_iald (Y := YX1_lossOf) (pc := 26) dX1_lossOf_26 k_7 n_7 g5 ?_
    refine g_icmp_ne (Y := YX1_lossOf) (pc := 27) (tgt := 48) dX1_lossOf_27 rfl (fun c6 => ?_) (fun c6 => ?_)
    · replace hF := if_f c6 hF
      refine g_loc [] rfl ?_
      exact w_X1_lossOf_48  _ hF
    · replace hF := if_t c6 hF
      refine g_aload_n (Y := YX1_lossOf) (pc := 30) 0 dX1_lossOf_30 rfl ?_
      refine u_getR (Y := YX1_lossOf) (pc := 31) (j := 6) dX1_lossOf_31 fl_X1_28 k_3 rf_3_5 ?_
      refine g_iload_n (Y := YX1_lossOf) (pc := 34) 1 dX1_lossOf_34 rfl ?_
      obtain ⟨g7, hF⟩ := gd_some hF
      refine s_iald (Y := YX1_lossOf) (pc := 35) dX1_lossOf_35 k_6 n_6 g7 ?_
      refine g_aload_n (Y := YX1_lossOf) (pc := 36) 0 dX1_lossOf_36 rfl ?_
      refine u_getR (Y := YX1_lossOf) (pc := 37) (j := 6) dX1_lossOf_37 fl_X1_28 k_3 rf_3_5 ?_
      refine g_iload_n (Y := YX1_lossOf) (pc := 40) 2 dX1_lossOf_40 rfl ?_
      obtain ⟨g8, hF⟩ := gd_some hF
      refine s_iald (Y := YX1_lossOf) (pc := 41) dX1_lossOf_41 k_6 n_6 g8 ?_
      refine g_iadd (Y := YX1_lossOf) (pc := 42) dX1_lossOf_42 ?_
      refine g_nm (fun v9 e => ?_)
      replace hF := vl_to e hF; clear e
      refine g_bipush (Y := YX1_lossOf) (pc := 43) dX1_lossOf_43 kB_40 ?_
      refine g_icmp_le (Y := YX1_lossOf) (pc := 45) (tgt := 51) dX1_lossOf_45 rfl (fun c10 => ?_) (fun c10 => ?_)
      · replace hF := if_f c10 hF
        refine g_iconst (Y := YX1_lossOf) (pc := 51) dX1_lossOf_51 kI_0 ?_
        refine g_istore_n (Y := YX1_lossOf) (pc := 52) (L' := [(3, .int 0), (0, .ref 3), (1, .int x1), (2, .int x2)]) dX1_lossOf_52 (Nat.le_of_ble_eq_true rfl) rfl ?_
        refine g_iconst (Y := YX1_lossOf) (pc := 53) dX1_lossOf_53 kI_0 ?_
        refine g_istore (Y := YX1_lossOf) (pc := 54) (L' := [(4, .int 0), (3, .int 0), (0, .ref 3), (1, .int x1), (2, .int x2)]) dX1_lossOf_54 (Nat.le_of_ble_eq_true rfl) rfl ?_
        refine g_loc [2, 3, 4, 1, 0] rfl ?_
        exact w_X1_lossOf_56  _ _ _ _ _ _ hF
      · replace hF := if_t c10 hF
        refine g_loc [] rfl ?_
        exact w_X1_lossOf_48  _ hF
def f_X1_lossOf (x1 : Int32) (x2 : Int32) (M : Mem) : Option (Int32 × Mem) := f_X1_lossOf_0 x1 x2 M
theorem r_X1_lossOf {x1 x2 R : Int32} {M M' : Mem}  (hF : f_X1_lossOf x1 x2 M = some (R, M')) : RunS l D cy ad YX1_lossOf 0 [.ref 3, .int x1, .int x2] X M (some (.int R)) M' := Run.of 2 (miX1_lossOf).1 (Nat.le_of_ble_eq_true rfl) (w_X1_lossOf_0  _ _ _ hF)
def f_X10_loss_27  (M : Mem) : Option (Int32 × Mem) :=
  some ((-1), M)
set_option maxRecDepth 100000 in
theorem w_X10_loss_27 {R : Int32} {M' : Mem}  (M : Mem) (hF : f_X10_loss_27  M = some (R, M')) : RunF l D cy ad none YX10_loss 1 0 0 (some (.int R)) (lay X M') 0 0 27 [] [] (lay X M) := by
  unfold f_X10_loss_27 at hF
  refine g_iconst (Y := YX10_loss) (pc := 27) dX10_loss_27 kI_m1 ?_
  exact s_iret (Y := YX10_loss) (pc := 28) dX10_loss_28 rfl hF
def f_X10_loss_0  (x1 : Int32) (x2 : Int32) (M : Mem) : Option (Int32 × Mem) :=
  bd (f_X1_hasGroup x1 M) fun r1 M2 =>
  if r1 = 0 then
    f_X10_loss_27 M2
  else
    bd (f_X1_hasGroup x2 M2) fun r5 M6 =>
    if r5 = 0 then
      f_X10_loss_27 M6
    else
      if x1 = x2 then
        f_X10_loss_27 M6
      else
        bd (f_X1_lossOf x1 x2 M6) fun r10 M11 =>
        some (r10, M11)
set_option maxRecDepth 100000 in
theorem w_X10_loss_0 {R : Int32} {M' : Mem}  (x1 x2 : Int32) (M : Mem) (hF : f_X10_loss_0 x1 x2 M = some (R, M')) : RunF l D cy ad none YX10_loss 1 0 0 (some (.int R)) (lay X M') 0 0 0 [(0, .ref 0), (1, .int x1), (2, .int x2)] [] (lay X M) := by
  unfold f_X10_loss_0 at hF
  refine g_aload_n (Y := YX10_loss) (pc := 0) 0 dX10_loss_0 rfl ?_
  refine u_getR (Y := YX10_loss) (pc := 1) (j := 3) dX10_loss_1 fl_X10_19 k_0 rf_0_1 ?_
  refine g_iload_n (Y := YX10_loss) (pc := 4) 1 dX10_loss_4 rfl ?_
  obtain ⟨r1, M2, e3, hF⟩ := bd_some hF
  refine s_callVi (Y := YX10_loss) (pc := 5) (as := [.int x1]) (st := []) (r_X1_hasGroup  e3) miX1_hasGroup lk_X10_152 dX10_loss_5 k_3 rfl (Nat.le_of_ble_eq_true rfl) (Nat.le_of_ble_eq_true rfl) rfl ?_
  clear e3
  refine g_if_eq (Y := YX10_loss) (pc := 8) (tgt := 27) dX10_loss_8 rfl (fun c4 => ?_) (fun c4 => ?_)
  · replace hF := if_t c4 hF
    refine g_loc [] rfl ?_
    exact w_X10_loss_27  _ hF
  · replace hF := if_f c4 hF
    refine g_aload_n (Y := YX10_loss) (pc := 11) 0 dX10_loss_11 rfl ?_
    refine u_getR (Y := YX10_loss) (pc := 12) (j := 3) dX10_loss_12 fl_X10_19 k_0 rf_0_1 ?_
    refine g_iload_n (Y := YX10_loss) (pc := 15) 2 dX10_loss_15 rfl ?_
    obtain ⟨r5, M6, e7, hF⟩ := bd_some hF
    refine s_callVi (Y := YX10_loss) (pc := 16) (as := [.int x2]) (st := []) (r_X1_hasGroup  e7) miX1_hasGroup lk_X10_152 dX10_loss_16 k_3 rfl (Nat.le_of_ble_eq_true rfl) (Nat.le_of_ble_eq_true rfl) rfl ?_
    clear e7
    refine g_if_eq (Y := YX10_loss) (pc := 19) (tgt := 27) dX10_loss_19 rfl (fun c8 => ?_) (fun c8 => ?_)
    · replace hF := if_t c8 hF
      refine g_loc [] rfl ?_
      exact w_X10_loss_27  _ hF
    · replace hF := if_f c8 hF
      refine g_iload_n (Y := YX10_loss) (pc := 22) 1 dX10_loss_22 rfl ?_
      refine g_iload_n (Y := YX10_loss) (pc := 23) 2 dX10_loss_23 rfl ?_
      refine g_icmp_ne (Y := YX10_loss) (pc := 24) (tgt := 29) dX10_loss_24 rfl (fun c9 => ?_) (fun c9 => ?_)
      · replace hF := if_f c9 hF
        refine g_aload_n (Y := YX10_loss) (pc := 29) 0 dX10_loss_29 rfl ?_
        refine u_getR (Y := YX10_loss) (pc := 30) (j := 3) dX10_loss_30 fl_X10_19 k_0 rf_0_1 ?_
        refine g_iload_n (Y := YX10_loss) (pc := 33) 1 dX10_loss_33 rfl ?_
        refine g_iload_n (Y := YX10_loss) (pc := 34) 2 dX10_loss_34 rfl ?_
        obtain ⟨r10, M11, e12, hF⟩ := bd_some hF
        refine s_callVi (Y := YX10_loss) (pc := 35) (as := [.int x1, .int x2]) (st := []) (r_X1_lossOf  e12) miX1_lossOf lk_X10_379 dX10_loss_35 k_3 rfl (Nat.le_of_ble_eq_true rfl) (Nat.le_of_ble_eq_true rfl) rfl ?_
        clear e12
        exact s_iret (Y := YX10_loss) (pc := 38) dX10_loss_38 rfl hF
      · replace hF := if_t c9 hF
        refine g_loc [] rfl ?_
        exact w_X10_loss_27  _ hF
def f_X10_loss (x1 : Int32) (x2 : Int32) (M : Mem) : Option (Int32 × Mem) := f_X10_loss_0 x1 x2 M
theorem r_X10_loss {x1 x2 R : Int32} {M M' : Mem}  (hF : f_X10_loss x1 x2 M = some (R, M')) : RunS l D cy ad YX10_loss 1 [.ref 0, .int x1, .int x2] X M (some (.int R)) M' := Run.of 2 (miX10_loss).1 (Nat.le_of_ble_eq_true rfl) (w_X10_loss_0  _ _ _ hF)
def f_X2_judge_49  (M : Mem) : Option (Int32 × Mem) :=
  some (0, M)
set_option maxRecDepth 100000 in
theorem w_X2_judge_49 {R : Int32} {M' : Mem}  (M : Mem) (hF : f_X2_judge_49  M = some (R, M')) : RunF l D cy ad none YX2_judge 1 0 0 none (lay X M') 0 0 49 [] [] (lay X M) := by
  unfold f_X2_judge_49 at hF
  exact s_vret (Y := YX2_judge) (pc := 49) dX2_judge_49 rfl hF
def f_X2_judge_24  (x1 : Int32) (x2 : Int32) (M : Mem) : Option (Int32 × Mem) :=
  ml (up M 170 3 x1) fun M2 =>
  ml (up M2 170 4 x2) fun M3 =>
  gd (cpOk M3 171 0 0 6 6 6) <|
  ml (cpM M3 171 172 0 0 6) fun M5 =>
  f_X2_judge_49 M5
set_option maxRecDepth 100000 in
theorem w_X2_judge_24 {R : Int32} {M' : Mem}  (x1 x2 : Int32) (M : Mem) (hF : f_X2_judge_24 x1 x2 M = some (R, M')) : RunF l D cy ad none YX2_judge 1 0 0 none (lay X M') 0 0 24 [(0, .ref 170), (1, .int x1), (2, .int x2)] [] (lay X M) := by
  unfold f_X2_judge_24 at hF
  refine g_aload_n (Y := YX2_judge) (pc := 24) 0 dX2_judge_24 rfl ?_
  refine g_iload_n (Y := YX2_judge) (pc := 25) 1 dX2_judge_25 rfl ?_
  refine u_putI (Y := YX2_judge) (pc := 26) dX2_judge_26 fl_X2_22  k_170 ?_
  refine g_nmM (fun M2 e => ?_)
  replace hF := ml_to e hF; clear e
  refine g_aload_n (Y := YX2_judge) (pc := 29) 0 dX2_judge_29 rfl ?_
  refine g_iload_n (Y := YX2_judge) (pc := 30) 2 dX2_judge_30 rfl ?_
  refine u_putI (Y := YX2_judge) (pc := 31) dX2_judge_31 fl_X2_26  k_170 ?_
  refine g_nmM (fun M3 e => ?_)
  replace hF := ml_to e hF; clear e
  refine g_aload_n (Y := YX2_judge) (pc := 34) 0 dX2_judge_34 rfl ?_
  refine u_getR (Y := YX2_judge) (pc := 35) (j := 171) dX2_judge_35 fl_X2_15 k_170 rf_170_1 ?_
  refine g_iconst (Y := YX2_judge) (pc := 38) dX2_judge_38 kI_0 ?_
  refine g_aload_n (Y := YX2_judge) (pc := 39) 0 dX2_judge_39 rfl ?_
  refine u_getR (Y := YX2_judge) (pc := 40) (j := 172) dX2_judge_40 fl_X2_19 k_170 rf_170_2 ?_
  refine g_iconst (Y := YX2_judge) (pc := 43) dX2_judge_43 kI_0 ?_
  refine g_bipush (Y := YX2_judge) (pc := 44) dX2_judge_44 kB_6 ?_
  obtain ⟨g4, hF⟩ := gd_some hF
  refine s_copy (Y := YX2_judge) (pc := 46) dX2_judge_46 lk_X2_46 w_copy k_171 k_172 n_171 n_172 g4 (Nat.le_of_ble_eq_true rfl) (Nat.le_of_ble_eq_true rfl) (Nat.le_of_ble_eq_true rfl) ?_
  refine g_nmM (fun M5 e => ?_)
  replace hF := ml_to e hF; clear e
  refine g_loc [] rfl ?_
  exact w_X2_judge_49  _ hF
def f_X2_judge_0  (x1 : Int32) (x2 : Int32) (M : Mem) : Option (Int32 × Mem) :=
  if (M 170 3) < x1 then
    f_X2_judge_24 x1 x2 M
  else
    if x1 = (M 170 3) then
      if x2 < (M 170 4) then
        f_X2_judge_24 x1 x2 M
      else
        f_X2_judge_49 M
    else
      f_X2_judge_49 M
set_option maxRecDepth 100000 in
theorem w_X2_judge_0 {R : Int32} {M' : Mem}  (x1 x2 : Int32) (M : Mem) (hF : f_X2_judge_0 x1 x2 M = some (R, M')) : RunF l D cy ad none YX2_judge 1 0 0 none (lay X M') 0 0 0 [(0, .ref 170), (1, .int x1), (2, .int x2)] [] (lay X M) := by
  unfold f_X2_judge_0 at hF
  refine g_iload_n (Y := YX2_judge) (pc := 0) 1 dX2_judge_0 rfl ?_
  refine g_aload_n (Y := YX2_judge) (pc := 1) 0 dX2_judge_1 rfl ?_
  refine u_getI (Y := YX2_judge) (pc := 2) dX2_judge_2 fl_X2_22 k_170 ?_
  refine g_icmp_gt (Y := YX2_judge) (pc := 5) (tgt := 24) dX2_judge_5 rfl (fun c1 => ?_) (fun c1 => ?_)
  · replace hF := if_t c1 hF
    exact w_X2_judge_24  _ _ _ hF
  · replace hF := if_f c1 hF
    refine g_iload_n (Y := YX2_judge) (pc := 8) 1 dX2_judge_8 rfl ?_
    refine g_aload_n (Y := YX2_judge) (pc := 9) 0 dX2_judge_9 rfl ?_
    refine u_getI (Y := YX2_judge) (pc := 10) dX2_judge_10 fl_X2_22 k_170 ?_
    refine g_icmp_ne (Y := YX2_judge) (pc := 13) (tgt := 49) dX2_judge_13 rfl (fun c6 => ?_) (fun c6 => ?_)
    · replace hF := if_f c6 hF
      refine g_loc [] rfl ?_
      exact w_X2_judge_49  _ hF
    · replace hF := if_t c6 hF
      refine g_iload_n (Y := YX2_judge) (pc := 16) 2 dX2_judge_16 rfl ?_
      refine g_aload_n (Y := YX2_judge) (pc := 17) 0 dX2_judge_17 rfl ?_
      refine u_getI (Y := YX2_judge) (pc := 18) dX2_judge_18 fl_X2_26 k_170 ?_
      refine g_icmp_ge (Y := YX2_judge) (pc := 21) (tgt := 49) dX2_judge_21 rfl (fun c7 => ?_) (fun c7 => ?_)
      · replace hF := if_f c7 hF
        refine g_loc [] rfl ?_
        exact w_X2_judge_49  _ hF
      · replace hF := if_t c7 hF
        exact w_X2_judge_24  _ _ _ hF
def f_X2_judge (x1 : Int32) (x2 : Int32) (M : Mem) : Option (Int32 × Mem) := f_X2_judge_0 x1 x2 M
theorem r_X2_judge {x1 x2 R : Int32} {M M' : Mem}  (hF : f_X2_judge x1 x2 M = some (R, M')) : RunS l D cy ad YX2_judge 1 [.ref 170, .int x1, .int x2] X M none M' := Run.of 2 (miX2_judge).1 (Nat.le_of_ble_eq_true rfl) (w_X2_judge_0  _ _ _ hF)
def f_X2_pairFrom_17 (T : Int32 → Int32 → Int32 → Mem → Option (Int32 × Mem)) (x2 : Int32) (x3 : Int32) (M : Mem) : Option (Int32 × Mem) :=
  bd (f_X2_judge x2 x3 M) fun _ M3 =>
  some (0, M3)
set_option maxRecDepth 100000 in
theorem w_X2_pairFrom_17 {T : Int32 → Int32 → Int32 → Mem → Option (Int32 × Mem)} {R : Int32} {M' : Mem} (hT : ∀ (y0 y1 y2 : Int32) (M : Mem) (R : Int32) (M' : Mem), T y0 y1 y2 M = some (R, M') → RunS l D cy ad YX2_pairFrom dT [.ref 170, .int y0, .int y1, .int y2] X M none M') (x2 x3 : Int32) (M : Mem) (hF : f_X2_pairFrom_17 T x2 x3 M = some (R, M')) : RunF l D cy ad none YX2_pairFrom (dT + 4) 0 0 none (lay X M') 0 0 17 [(0, .ref 170), (2, .int x2), (3, .int x3)] [] (lay X M) := by
  unfold f_X2_pairFrom_17 at hF
  refine g_aload_n (Y := YX2_pairFrom) (pc := 17) 0 dX2_pairFrom_17 rfl ?_
  refine g_iload_n (Y := YX2_pairFrom) (pc := 18) 1 dX2_pairFrom_18 rfl ?_
  refine g_iload_n (Y := YX2_pairFrom) (pc := 19) 2 dX2_pairFrom_19 rfl ?_
  obtain ⟨r2, M3, e4, hF⟩ := bd_some hF
  refine s_callVv (Y := YX2_pairFrom) (pc := 20) (as := [.int x2, .int x3]) (st := []) (r_X2_judge  e4) miX2_judge lk_X2_38 dX2_pairFrom_20 k_170 rfl (Nat.le_of_ble_eq_true rfl) (by omega) rfl ?_
  clear e4
  exact s_vret (Y := YX2_pairFrom) (pc := 23) dX2_pairFrom_23 rfl hF
def f_X2_pairFrom_141 (T : Int32 → Int32 → Int32 → Mem → Option (Int32 × Mem)) (K49 : Int32 → Int32 → Int32 → Int32 → Mem → Option (Int32 × Mem)) (x1 : Int32) (x2 : Int32) (x3 : Int32) (x4 : Int32) (M : Mem) : Option (Int32 × Mem) :=
  vl (x4 + 1) fun v16 =>
  K49 x1 x2 x3 v16 M
set_option maxRecDepth 100000 in
theorem w_X2_pairFrom_141 {T : Int32 → Int32 → Int32 → Mem → Option (Int32 × Mem)} {R : Int32} {M' : Mem} {K49 : Int32 → Int32 → Int32 → Int32 → Mem → Option (Int32 × Mem)} (hT : ∀ (y0 y1 y2 : Int32) (M : Mem) (R : Int32) (M' : Mem), T y0 y1 y2 M = some (R, M') → RunS l D cy ad YX2_pairFrom dT [.ref 170, .int y0, .int y1, .int y2] X M none M') (hK49 : ∀ (x1 x2 x3 x4 : Int32) (M : Mem), K49 x1 x2 x3 x4 M = some (R, M') → RunF l D cy ad none YX2_pairFrom (dT + 4) 0 0 none (lay X M') 0 0 49 [(0, .ref 170), (1, .int x1), (2, .int x2), (3, .int x3), (4, .int x4)] [] (lay X M)) (x1 x2 x3 x4 : Int32) (M : Mem) (hF : f_X2_pairFrom_141 T K49 x1 x2 x3 x4 M = some (R, M')) : RunF l D cy ad none YX2_pairFrom (dT + 4) 0 0 none (lay X M') 0 0 141 [(0, .ref 170), (1, .int x1), (2, .int x2), (3, .int x3), (4, .int x4)] [] (lay X M) := by
  unfold f_X2_pairFrom_141 at hF
  refine s_iinc (Y := YX2_pairFrom) (pc := 141) (j := 4) (L' := fun y => [(4, .int y), (0, .ref 170), (1, .int x1), (2, .int x2), (3, .int x3)]) dX2_pairFrom_141 kI_1 rfl (Nat.le_of_ble_eq_true rfl) (fun _ => rfl) (fun v16 e => ?_)
  replace hF := vl_to e hF; clear e
  refine g_goto (Y := YX2_pairFrom) (pc := 144) (tgt := 49) dX2_pairFrom_144 rfl ?_
  refine g_loc [1, 2, 3, 4, 0] rfl ?_
  exact hK49 _ _ _ _ _ hF
def f_X2_pairFrom_87 (T : Int32 → Int32 → Int32 → Mem → Option (Int32 × Mem)) (K49 : Int32 → Int32 → Int32 → Int32 → Mem → Option (Int32 × Mem)) (x1 : Int32) (x2 : Int32) (x3 : Int32) (x4 : Int32) (t0 : Int32) (M : Mem) : Option (Int32 × Mem) :=
  if t0 = (-2) then
    f_X2_pairFrom_141 T K49 x1 x2 x3 x4 M
  else
    gd (0 ≤ x1 ∧ x1.toNatClampNeg < 6) <|
    ml (up M 171 x1.toNatClampNeg x4) fun M18 =>
    gd (0 ≤ x4 ∧ x4.toNatClampNeg < 6) <|
    ml (up M18 171 x4.toNatClampNeg x1) fun M20 =>
    bd (T (x1 + 1) (x2 + 1) (x3 + t0) M20) fun _ M22 =>
    gd (0 ≤ x1 ∧ x1.toNatClampNeg < 6) <|
    ml (up M22 171 x1.toNatClampNeg (-1)) fun M25 =>
    gd (0 ≤ x4 ∧ x4.toNatClampNeg < 6) <|
    ml (up M25 171 x4.toNatClampNeg (-1)) fun M27 =>
    f_X2_pairFrom_141 T K49 x1 x2 x3 x4 M27
set_option maxRecDepth 100000 in
theorem w_X2_pairFrom_87 {T : Int32 → Int32 → Int32 → Mem → Option (Int32 × Mem)} {R : Int32} {M' : Mem} {K49 : Int32 → Int32 → Int32 → Int32 → Mem → Option (Int32 × Mem)} (hT : ∀ (y0 y1 y2 : Int32) (M : Mem) (R : Int32) (M' : Mem), T y0 y1 y2 M = some (R, M') → RunS l D cy ad YX2_pairFrom dT [.ref 170, .int y0, .int y1, .int y2] X M none M') (hK49 : ∀ (x1 x2 x3 x4 : Int32) (M : Mem), K49 x1 x2 x3 x4 M = some (R, M') → RunF l D cy ad none YX2_pairFrom (dT + 4) 0 0 none (lay X M') 0 0 49 [(0, .ref 170), (1, .int x1), (2, .int x2), (3, .int x3), (4, .int x4)] [] (lay X M)) (x1 x2 x3 x4 t0 : Int32) (M : Mem) (hF : f_X2_pairFrom_87 T K49 x1 x2 x3 x4 t0 M = some (R, M')) : RunF l D cy ad none YX2_pairFrom (dT + 4) 0 0 none (lay X M') 0 0 87 [(0, .ref 170), (1, .int x1), (2, .int x2), (3, .int x3), (4, .int x4)] [.int t0] (lay X M) := by
  unfold f_X2_pairFrom_87 at hF
  refine g_istore (Y := YX2_pairFrom) (pc := 87) (L' := [(5, .int t0), (0, .ref 170), (1, .int x1), (2, .int x2), (3, .int x3), (4, .int x4)]) dX2_pairFrom_87 (Nat.le_of_ble_eq_true rfl) rfl ?_
  refine g_iload (Y := YX2_pairFrom) (pc := 89) 0 dX2_pairFrom_89 rfl ?_
  refine g_bipush (Y := YX2_pairFrom) (pc := 91) dX2_pairFrom_91 kB_m2 ?_
  refine g_icmp_eq (Y := YX2_pairFrom) (pc := 93) (tgt := 141) dX2_pairFrom_93 rfl (fun c15 => ?_) (fun c15 => ?_)
  · replace hF := if_t c15 hF
    refine g_loc [1, 2, 3, 4, 5] rfl ?_
    exact w_X2_pairFrom_141 hT hK49 _ _ _ _ _ hF
  · replace hF := if_f c15 hF
    refine g_aload_n (Y := YX2_pairFrom) (pc := 96) 1 dX2_pairFrom_96 rfl ?_
    refine u_getR (Y := YX2_pairFrom) (pc := 97) (j := 171) dX2_pairFrom_97 fl_X2_15 k_170 rf_170_1 ?_
    refine g_iload_n (Y := YX2_pairFrom) (pc := 100) 2 dX2_pairFrom_100 rfl ?_
    refine g_iload (Y := YX2_pairFrom) (pc := 101) 5 dX2_pairFrom_101 rfl ?_
    obtain ⟨g17, hF⟩ := gd_some hF
    refine s_iast (Y := YX2_pairFrom) (pc := 103) dX2_pairFrom_103 k_171 n_171 g17 ?_
    refine g_nmM (fun M18 e => ?_)
    replace hF := ml_to e hF; clear e
    refine g_aload_n (Y := YX2_pairFrom) (pc := 104) 1 dX2_pairFrom_104 rfl ?_
    refine u_getR (Y := YX2_pairFrom) (pc := 105) (j := 171) dX2_pairFrom_105 fl_X2_15 k_170 rf_170_1 ?_
    refine g_iload (Y := YX2_pairFrom) (pc := 108) 5 dX2_pairFrom_108 rfl ?_
    refine g_iload_n (Y := YX2_pairFrom) (pc := 110) 2 dX2_pairFrom_110 rfl ?_
    obtain ⟨g19, hF⟩ := gd_some hF
    refine s_iast (Y := YX2_pairFrom) (pc := 111) dX2_pairFrom_111 k_171 n_171 g19 ?_
    refine g_nmM (fun M20 e => ?_)
    replace hF := ml_to e hF; clear e
    refine g_aload_n (Y := YX2_pairFrom) (pc := 112) 1 dX2_pairFrom_112 rfl ?_
    refine g_iload_n (Y := YX2_pairFrom) (pc := 113) 2 dX2_pairFrom_113 rfl ?_
    refine g_iconst (Y := YX2_pairFrom) (pc := 114) dX2_pairFrom_114 kI_1 ?_
    refine g_iadd (Y := YX2_pairFrom) (pc := 115) dX2_pairFrom_115 ?_
    refine g_iload_n (Y := YX2_pairFrom) (pc := 116) 3 dX2_pairFrom_116 rfl ?_
    refine g_iconst (Y := YX2_pairFrom) (pc := 117) dX2_pairFrom_117 kI_1 ?_
    refine g_iadd (Y := YX2_pairFrom) (pc := 118) dX2_pairFrom_118 ?_
    refine g_iload_n (Y := YX2_pairFrom) (pc := 119) 4 dX2_pairFrom_119 rfl ?_
    refine g_iload (Y := YX2_pairFrom) (pc := 120) 0 dX2_pairFrom_120 rfl ?_
    refine g_iadd (Y := YX2_pairFrom) (pc := 122) dX2_pairFrom_122 ?_
    obtain ⟨r21, M22, e23, hF⟩ := bd_some hF
    refine s_callVv (Y := YX2_pairFrom) (pc := 123) (as := [.int (x1 + 1), .int (x2 + 1), .int (x3 + t0)]) (st := []) (hT _ _ _ _ _ _ e23) miX2_pairFrom lk_X2_29 dX2_pairFrom_123 k_170 rfl (Nat.le_of_ble_eq_true rfl) (by omega) rfl ?_
    clear e23
    refine g_aload_n (Y := YX2_pairFrom) (pc := 126) 1 dX2_pairFrom_126 rfl ?_
    refine u_getR (Y := YX2_pairFrom) (pc := 127) (j := 171) dX2_pairFrom_127 fl_X2_15 k_170 rf_170_1 ?_
    refine g_iload_n (Y := YX2_pairFrom) (pc := 130) 2 dX2_pairFrom_130 rfl ?_
    refine g_iconst (Y := YX2_pairFrom) (pc := 131) dX2_pairFrom_131 kI_m1 ?_
    obtain ⟨g24, hF⟩ := gd_some hF
    refine s_iast (Y := YX2_pairFrom) (pc := 132) dX2_pairFrom_132 k_171 n_171 g24 ?_
    refine g_nmM (fun M25 e => ?_)
    replace hF := ml_to e hF; clear e
    refine g_aload_n (Y := YX2_pairFrom) (pc := 133) 1 dX2_pairFrom_133 rfl ?_
    refine u_getR (Y := YX2_pairFrom) (pc := 134) (j := 171) dX2_pairFrom_134 fl_X2_15 k_170 rf_170_1 ?_
    refine g_iload (Y := YX2_pairFrom) (pc := 137) 5 dX2_pairFrom_137 rfl ?_
    refine g_iconst (Y := YX2_pairFrom) (pc := 139) dX2_pairFrom_139 kI_m1 ?_
    obtain ⟨g26, hF⟩ := gd_some hF
    refine s_iast (Y := YX2_pairFrom) (pc := 140) dX2_pairFrom_140 k_171 n_171 g26 ?_
    refine g_nmM (fun M27 e => ?_)
    replace hF := ml_to e hF; clear e
    refine g_loc [1, 2, 3, 4, 5] rfl ?_
    exact w_X2_pairFrom_141 hT hK49 _ _ _ _ _ hF
def f_X2_pairFrom_49 (T : Int32 → Int32 → Int32 → Mem → Option (Int32 × Mem)) : Nat → Int32 → Int32 → Int32 → Int32 → Mem → Option (Int32 × Mem)
  | 0, _, _, _, _, _ => none
  | n + 1, x1, x2, x3, x4, M =>
    if x4 < (M 3 2) then
      gd (0 ≤ x4 ∧ x4.toNatClampNeg < 6) <|
      if (M 171 x4.toNatClampNeg) = (-1) then
        bd (f_X1_lossOf x1 x4 M) fun r28 M29 =>
        f_X2_pairFrom_87 T (f_X2_pairFrom_49 T n) x1 x2 x3 x4 r28 M29
      else
        f_X2_pairFrom_87 T (f_X2_pairFrom_49 T n) x1 x2 x3 x4 (-2) M
    else
      some (0, M)
set_option maxRecDepth 100000 in
theorem w_X2_pairFrom_49 {T : Int32 → Int32 → Int32 → Mem → Option (Int32 × Mem)} {R : Int32} {M' : Mem} (hT : ∀ (y0 y1 y2 : Int32) (M : Mem) (R : Int32) (M' : Mem), T y0 y1 y2 M = some (R, M') → RunS l D cy ad YX2_pairFrom dT [.ref 170, .int y0, .int y1, .int y2] X M none M') : ∀ (n : Nat) (x1 x2 x3 x4 : Int32) (M : Mem), f_X2_pairFrom_49 T n x1 x2 x3 x4 M = some (R, M') → RunF l D cy ad none YX2_pairFrom (dT + 4) 0 0 none (lay X M') 0 0 49 [(0, .ref 170), (1, .int x1), (2, .int x2), (3, .int x3), (4, .int x4)] [] (lay X M) := by
  intro n
  induction n with
  | zero => intro x1 x2 x3 x4 M hF; exact absurd hF (by unfold f_X2_pairFrom_49; exact fun h => nomatch h)
  | succ n ih =>
    intro x1 x2 x3 x4 M hF
    unfold f_X2_pairFrom_49 at hF
    refine g_iload (Y := YX2_pairFrom) (pc := 49) 4 dX2_pairFrom_49 rfl ?_
    refine g_aload_n (Y := YX2_pairFrom) (pc := 51) 0 dX2_pairFrom_51 rfl ?_
    refine u_getR (Y := YX2_pairFrom) (pc := 52) (j := 3) dX2_pairFrom_52 fl_X2_9 k_170 rf_170_0 ?_
    refine u_getI (Y := YX2_pairFrom) (pc := 55) dX2_pairFrom_55 fl_X2_33 k_3 ?_
    refine g_icmp_ge (Y := YX2_pairFrom) (pc := 58) (tgt := 147) dX2_pairFrom_58 rfl (fun c12 => ?_) (fun c12 => ?_)
    · replace hF := if_f c12 hF
      exact s_vret (Y := YX2_pairFrom) (pc := 147) dX2_pairFrom_147 rfl hF
    · replace hF := if_t c12 hF
      refine g_aload_n (Y := YX2_pairFrom) (pc := 61) 0 dX2_pairFrom_61 rfl ?_
      refine u_getR (Y := YX2_pairFrom) (pc := 62) (j := 171) dX2_pairFrom_62 fl_X2_15 k_170 rf_170_1 ?_
      refine g_iload (Y := YX2_pairFrom) (pc := 65) 4 dX2_pairFrom_65 rfl ?_
      obtain ⟨g13, hF⟩ := gd_some hF
      refine s_iald (Y := YX2_pairFrom) (pc := 67) dX2_pairFrom_67 k_171 n_171 g13 ?_
      refine g_iconst (Y := YX2_pairFrom) (pc := 68) dX2_pairFrom_68 kI_m1 ?_
      refine g_icmp_ne (Y := YX2_pairFrom) (pc := 69) (tgt := 85) dX2_pairFrom_69 rfl (fun c14 => ?_) (fun c14 => ?_)
      · replace hF := if_f c14 hF
        refine g_bipush (Y := YX2_pairFrom) (pc := 85) dX2_pairFrom_85 kB_m2 ?_
        exact w_X2_pairFrom_87 hT ih _ _ _ _ _ _ hF
      · replace hF := if_t c14 hF
        refine g_aload_n (Y := YX2_pairFrom) (pc := 72) 0 dX2_pairFrom_72 rfl ?_
        refine u_getR (Y := YX2_pairFrom) (pc := 73) (j := 3) dX2_pairFrom_73 fl_X2_9 k_170 rf_170_0 ?_
        refine g_iload_n (Y := YX2_pairFrom) (pc := 76) 1 dX2_pairFrom_76 rfl ?_
        refine g_iload (Y := YX2_pairFrom) (pc := 77) 4 dX2_pairFrom_77 rfl ?_
        obtain ⟨r28, M29, e30, hF⟩ := bd_some hF
        refine s_callVi (Y := YX2_pairFrom) (pc := 79) (as := [.int x1, .int x4]) (st := []) (r_X1_lossOf  e30) miX1_lossOf lk_X2_42 dX2_pairFrom_79 k_3 rfl (Nat.le_of_ble_eq_true rfl) (by omega) rfl ?_
        clear e30
        refine g_goto (Y := YX2_pairFrom) (pc := 82) (tgt := 87) dX2_pairFrom_82 rfl ?_
        exact w_X2_pairFrom_87 hT ih _ _ _ _ _ _ hF
def f_X2_pairFrom_0 (T : Int32 → Int32 → Int32 → Mem → Option (Int32 × Mem)) (x1 : Int32) (x2 : Int32) (x3 : Int32) (M : Mem) : Option (Int32 × Mem) :=
  if x1 < (M 3 2) then
    if x1 < 6 then
      bd (T (x1 + 1) x2 x3 M) fun _ M7 =>
      gd (0 ≤ x1 ∧ x1.toNatClampNeg < 6) <|
      if (M7 171 x1.toNatClampNeg) = (-1) then
        vl ((x1 + 1)) fun v11 =>
        f_X2_pairFrom_49 T FU x1 x2 x3 v11 M7
      else
        some (0, M7)
    else
      f_X2_pairFrom_17 T x2 x3 M
  else
    f_X2_pairFrom_17 T x2 x3 M
set_option maxRecDepth 100000 in
theorem w_X2_pairFrom_0 {T : Int32 → Int32 → Int32 → Mem → Option (Int32 × Mem)} {R : Int32} {M' : Mem} (hT : ∀ (y0 y1 y2 : Int32) (M : Mem) (R : Int32) (M' : Mem), T y0 y1 y2 M = some (R, M') → RunS l D cy ad YX2_pairFrom dT [.ref 170, .int y0, .int y1, .int y2] X M none M') (x1 x2 x3 : Int32) (M : Mem) (hF : f_X2_pairFrom_0 T x1 x2 x3 M = some (R, M')) : RunF l D cy ad none YX2_pairFrom (dT + 4) 0 0 none (lay X M') 0 0 0 [(0, .ref 170), (1, .int x1), (2, .int x2), (3, .int x3)] [] (lay X M) := by
  unfold f_X2_pairFrom_0 at hF
  refine g_iload_n (Y := YX2_pairFrom) (pc := 0) 1 dX2_pairFrom_0 rfl ?_
  refine g_aload_n (Y := YX2_pairFrom) (pc := 1) 0 dX2_pairFrom_1 rfl ?_
  refine u_getR (Y := YX2_pairFrom) (pc := 2) (j := 3) dX2_pairFrom_2 fl_X2_9 k_170 rf_170_0 ?_
  refine u_getI (Y := YX2_pairFrom) (pc := 5) dX2_pairFrom_5 fl_X2_33 k_3 ?_
  refine g_icmp_ge (Y := YX2_pairFrom) (pc := 8) (tgt := 17) dX2_pairFrom_8 rfl (fun c1 => ?_) (fun c1 => ?_)
  · replace hF := if_f c1 hF
    refine g_loc [0, 2, 3] rfl ?_
    exact w_X2_pairFrom_17 hT _ _ _ hF
  · replace hF := if_t c1 hF
    refine g_iload_n (Y := YX2_pairFrom) (pc := 11) 1 dX2_pairFrom_11 rfl ?_
    refine g_bipush (Y := YX2_pairFrom) (pc := 12) dX2_pairFrom_12 kB_6 ?_
    refine g_icmp_lt (Y := YX2_pairFrom) (pc := 14) (tgt := 24) dX2_pairFrom_14 rfl (fun c5 => ?_) (fun c5 => ?_)
    · replace hF := if_t c5 hF
      refine g_aload_n (Y := YX2_pairFrom) (pc := 24) 0 dX2_pairFrom_24 rfl ?_
      refine g_iload_n (Y := YX2_pairFrom) (pc := 25) 1 dX2_pairFrom_25 rfl ?_
      refine g_iconst (Y := YX2_pairFrom) (pc := 26) dX2_pairFrom_26 kI_1 ?_
      refine g_iadd (Y := YX2_pairFrom) (pc := 27) dX2_pairFrom_27 ?_
      refine g_iload_n (Y := YX2_pairFrom) (pc := 28) 2 dX2_pairFrom_28 rfl ?_
      refine g_iload_n (Y := YX2_pairFrom) (pc := 29) 3 dX2_pairFrom_29 rfl ?_
      obtain ⟨r6, M7, e8, hF⟩ := bd_some hF
      refine s_callVv (Y := YX2_pairFrom) (pc := 30) (as := [.int (x1 + 1), .int x2, .int x3]) (st := []) (hT _ _ _ _ _ _ e8) miX2_pairFrom lk_X2_29 dX2_pairFrom_30 k_170 rfl (Nat.le_of_ble_eq_true rfl) (by omega) rfl ?_
      clear e8
      refine g_aload_n (Y := YX2_pairFrom) (pc := 33) 0 dX2_pairFrom_33 rfl ?_
      refine u_getR (Y := YX2_pairFrom) (pc := 34) (j := 171) dX2_pairFrom_34 fl_X2_15 k_170 rf_170_1 ?_
      refine g_iload_n (Y := YX2_pairFrom) (pc := 37) 1 dX2_pairFrom_37 rfl ?_
      obtain ⟨g9, hF⟩ := gd_some hF
      refine s_iald (Y := YX2_pairFrom) (pc := 38) dX2_pairFrom_38 k_171 n_171 g9 ?_
      refine g_iconst (Y := YX2_pairFrom) (pc := 39) dX2_pairFrom_39 kI_m1 ?_
      refine g_icmp_eq (Y := YX2_pairFrom) (pc := 40) (tgt := 44) dX2_pairFrom_40 rfl (fun c10 => ?_) (fun c10 => ?_)
      · replace hF := if_t c10 hF
        refine g_iload_n (Y := YX2_pairFrom) (pc := 44) 1 dX2_pairFrom_44 rfl ?_
        refine g_iconst (Y := YX2_pairFrom) (pc := 45) dX2_pairFrom_45 kI_1 ?_
        refine g_iadd (Y := YX2_pairFrom) (pc := 46) dX2_pairFrom_46 ?_
        refine g_nm (fun v11 e => ?_)
        replace hF := vl_to e hF; clear e
        refine g_istore (Y := YX2_pairFrom) (pc := 47) (L' := [(4, .int v11), (0, .ref 170), (1, .int x1), (2, .int x2), (3, .int x3)]) dX2_pairFrom_47 (Nat.le_of_ble_eq_true rfl) rfl ?_
        refine g_loc [1, 2, 3, 4, 0] rfl ?_
        exact w_X2_pairFrom_49 hT _ _ _ _ _ _ hF
      · replace hF := if_f c10 hF
        exact s_vret (Y := YX2_pairFrom) (pc := 43) dX2_pairFrom_43 rfl hF
    · replace hF := if_f c5 hF
      refine g_loc [0, 2, 3] rfl ?_
      exact w_X2_pairFrom_17 hT _ _ _ hF
def b_X2_pairFrom (T : Int32 → Int32 → Int32 → Mem → Option (Int32 × Mem)) (x1 : Int32) (x2 : Int32) (x3 : Int32) (M : Mem) : Option (Int32 × Mem) := f_X2_pairFrom_0 T x1 x2 x3 M
theorem rb_X2_pairFrom {x1 x2 x3 R : Int32} {M M' : Mem} {T : Int32 → Int32 → Int32 → Mem → Option (Int32 × Mem)} (hT : ∀ (y0 y1 y2 : Int32) (M : Mem) (R : Int32) (M' : Mem), T y0 y1 y2 M = some (R, M') → RunS l D cy ad YX2_pairFrom dT [.ref 170, .int y0, .int y1, .int y2] X M none M') (hF : b_X2_pairFrom T x1 x2 x3 M = some (R, M')) : RunS l D cy ad YX2_pairFrom (dT + 4) [.ref 170, .int x1, .int x2, .int x3] X M none M' := Run.of 3 (miX2_pairFrom).1 (Nat.le_of_ble_eq_true rfl) (w_X2_pairFrom_0 hT _ _ _ _ hF)
def f_X2_pairFrom : Nat → Int32 → Int32 → Int32 → Mem → Option (Int32 × Mem)
  | 0, _, _, _, _ => none
  | n + 1, x1, x2, x3, M => b_X2_pairFrom (f_X2_pairFrom n) x1 x2 x3 M
theorem rn_X2_pairFrom : ∀ (n : Nat) (x1 x2 x3 : Int32) (M : Mem) (R : Int32) (M' : Mem), f_X2_pairFrom n x1 x2 x3 M = some (R, M') → RunS l D cy ad YX2_pairFrom (4 * n) [.ref 170, .int x1, .int x2, .int x3] X M none M'
  | 0, _, _, _, _, _, _, h => nomatch h
  | n + 1, x1, x2, x3, M, R, M', h => rb_X2_pairFrom (dT := 4 * n) (fun y0 y1 y2 M R M' h => rn_X2_pairFrom n y0 y1 y2 M R M' h) h
theorem r_X2_pairFrom {x1 x2 x3 : Int32} {M M' : Mem} {R : Int32} (hF : f_X2_pairFrom RU x1 x2 x3 M = some (R, M')) : RunS l D cy ad YX2_pairFrom 400 [.ref 170, .int x1, .int x2, .int x3] X M none M' := rn_X2_pairFrom RU x1 x2 x3 M R M' hF
def f_X2_find_2  : Nat → Int32 → Mem → Option (Int32 × Mem)
  | 0, _, _ => none
  | n + 1, x1, M =>
    if x1 < 6 then
      gd (0 ≤ x1 ∧ x1.toNatClampNeg < 6) <|
      ml (up M 171 x1.toNatClampNeg (-1)) fun M8 =>
      vl (x1 + 1) fun v9 =>
      f_X2_find_2 n v9 M8
    else
      ml (up M 170 3 (-1)) fun M2 =>
      ml (up M2 170 4 0) fun M3 =>
      bd (f_X2_pairFrom RU 0 0 0 M3) fun _ M5 =>
      some (0, M5)
set_option maxRecDepth 100000 in
theorem w_X2_find_2 {R : Int32} {M' : Mem}  : ∀ (n : Nat) (x1 : Int32) (M : Mem), f_X2_find_2 n x1 M = some (R, M') → RunF l D cy ad none YX2_find 401 0 0 none (lay X M') 0 0 2 [(0, .ref 170), (1, .int x1)] [] (lay X M) := by
  intro n
  induction n with
  | zero => intro x1 M hF; exact absurd hF (by unfold f_X2_find_2; exact fun h => nomatch h)
  | succ n ih =>
    intro x1 M hF
    unfold f_X2_find_2 at hF
    refine g_iload_n (Y := YX2_find) (pc := 2) 1 dX2_find_2 rfl ?_
    refine g_bipush (Y := YX2_find) (pc := 3) dX2_find_3 kB_6 ?_
    refine g_icmp_ge (Y := YX2_find) (pc := 5) (tgt := 21) dX2_find_5 rfl (fun c1 => ?_) (fun c1 => ?_)
    · replace hF := if_f c1 hF
      refine g_aload_n (Y := YX2_find) (pc := 21) 0 dX2_find_21 rfl ?_
      refine g_iconst (Y := YX2_find) (pc := 22) dX2_find_22 kI_m1 ?_
      refine u_putI (Y := YX2_find) (pc := 23) dX2_find_23 fl_X2_22  k_170 ?_
      refine g_nmM (fun M2 e => ?_)
      replace hF := ml_to e hF; clear e
      refine g_aload_n (Y := YX2_find) (pc := 26) 0 dX2_find_26 rfl ?_
      refine g_iconst (Y := YX2_find) (pc := 27) dX2_find_27 kI_0 ?_
      refine u_putI (Y := YX2_find) (pc := 28) dX2_find_28 fl_X2_26  k_170 ?_
      refine g_nmM (fun M3 e => ?_)
      replace hF := ml_to e hF; clear e
      refine g_aload_n (Y := YX2_find) (pc := 31) 0 dX2_find_31 rfl ?_
      refine g_iconst (Y := YX2_find) (pc := 32) dX2_find_32 kI_0 ?_
      refine g_iconst (Y := YX2_find) (pc := 33) dX2_find_33 kI_0 ?_
      refine g_iconst (Y := YX2_find) (pc := 34) dX2_find_34 kI_0 ?_
      obtain ⟨r4, M5, e6, hF⟩ := bd_some hF
      refine s_callVv (Y := YX2_find) (pc := 35) (as := [.int 0, .int 0, .int 0]) (st := []) (r_X2_pairFrom  e6) miX2_pairFrom lk_X2_29 dX2_find_35 k_170 rfl (Nat.le_of_ble_eq_true rfl) (Nat.le_of_ble_eq_true rfl) rfl ?_
      clear e6
      exact s_vret (Y := YX2_find) (pc := 38) dX2_find_38 rfl hF
    · replace hF := if_t c1 hF
      refine g_aload_n (Y := YX2_find) (pc := 8) 0 dX2_find_8 rfl ?_
      refine u_getR (Y := YX2_find) (pc := 9) (j := 171) dX2_find_9 fl_X2_15 k_170 rf_170_1 ?_
      refine g_iload_n (Y := YX2_find) (pc := 12) 1 dX2_find_12 rfl ?_
      refine g_iconst (Y := YX2_find) (pc := 13) dX2_find_13 kI_m1 ?_
      obtain ⟨g7, hF⟩ := gd_some hF
      refine s_iast (Y := YX2_find) (pc := 14) dX2_find_14 k_171 n_171 g7 ?_
      refine g_nmM (fun M8 e => ?_)
      replace hF := ml_to e hF; clear e
      refine s_iinc (Y := YX2_find) (pc := 15) (j := 1) (L' := fun y => [(1, .int y), (0, .ref 170)]) dX2_find_15 kI_1 rfl (Nat.le_of_ble_eq_true rfl) (fun _ => rfl) (fun v9 e => ?_)
      replace hF := vl_to e hF; clear e
      refine g_goto (Y := YX2_find) (pc := 18) (tgt := 2) dX2_find_18 rfl ?_
      refine g_loc [1, 0] rfl ?_
      exact ih _ _ hF
def f_X2_find_0  (M : Mem) : Option (Int32 × Mem) :=
  f_X2_find_2 FU 0 M
set_option maxRecDepth 100000 in
theorem w_X2_find_0 {R : Int32} {M' : Mem}  (M : Mem) (hF : f_X2_find_0  M = some (R, M')) : RunF l D cy ad none YX2_find 401 0 0 none (lay X M') 0 0 0 [(0, .ref 170)] [] (lay X M) := by
  unfold f_X2_find_0 at hF
  refine g_iconst (Y := YX2_find) (pc := 0) dX2_find_0 kI_0 ?_
  refine g_istore_n (Y := YX2_find) (pc := 1) (L' := [(1, .int 0), (0, .ref 170)]) dX2_find_1 (Nat.le_of_ble_eq_true rfl) rfl ?_
  refine g_loc [1, 0] rfl ?_
  exact w_X2_find_2  _ _ _ hF
def f_X2_find (M : Mem) : Option (Int32 × Mem) := f_X2_find_0 M
theorem r_X2_find {R : Int32} {M M' : Mem}  (hF : f_X2_find  M = some (R, M')) : RunS l D cy ad YX2_find 401 [.ref 170] X M none M' := Run.of 0 (miX2_find).1 (Nat.le_of_ble_eq_true rfl) (w_X2_find_0  _ hF)
def f_X10_pairs_24  : Nat → Int32 → Mem → Option (Int32 × Mem)
  | 0, _, _ => none
  | n + 1, x1, M =>
    if x1 < (M 3 2) then
      gd (0 ≤ x1 ∧ x1.toNatClampNeg < 6) <|
      bd (f_X10_tell (M 172 x1.toNatClampNeg) M) fun _ M13 =>
      vl (x1 + 1) fun v15 =>
      f_X10_pairs_24 n v15 M13
    else
      some ((M 170 3), M)
set_option maxRecDepth 100000 in
theorem w_X10_pairs_24 {R : Int32} {M' : Mem}  : ∀ (n : Nat) (x1 : Int32) (M : Mem), f_X10_pairs_24 n x1 M = some (R, M') → RunF l D cy ad none YX10_pairs 402 0 0 (some (.int R)) (lay X M') 0 0 24 [(0, .ref 0), (1, .int x1)] [] (lay X M) := by
  intro n
  induction n with
  | zero => intro x1 M hF; exact absurd hF (by unfold f_X10_pairs_24; exact fun h => nomatch h)
  | succ n ih =>
    intro x1 M hF
    unfold f_X10_pairs_24 at hF
    refine g_iload_n (Y := YX10_pairs) (pc := 24) 1 dX10_pairs_24 rfl ?_
    refine g_aload_n (Y := YX10_pairs) (pc := 25) 0 dX10_pairs_25 rfl ?_
    refine u_getR (Y := YX10_pairs) (pc := 26) (j := 3) dX10_pairs_26 fl_X10_19 k_0 rf_0_1 ?_
    refine u_getI (Y := YX10_pairs) (pc := 29) dX10_pairs_29 fl_X10_129 k_3 ?_
    refine g_icmp_ge (Y := YX10_pairs) (pc := 32) (tgt := 54) dX10_pairs_32 rfl (fun c10 => ?_) (fun c10 => ?_)
    · replace hF := if_f c10 hF
      refine g_aload_n (Y := YX10_pairs) (pc := 54) 0 dX10_pairs_54 rfl ?_
      refine u_getR (Y := YX10_pairs) (pc := 55) (j := 170) dX10_pairs_55 fl_X10_94 k_0 rf_0_14 ?_
      refine u_getI (Y := YX10_pairs) (pc := 58) dX10_pairs_58 fl_X10_391 k_170 ?_
      exact s_iret (Y := YX10_pairs) (pc := 61) dX10_pairs_61 rfl hF
    · replace hF := if_t c10 hF
      refine g_aload_n (Y := YX10_pairs) (pc := 35) 0 dX10_pairs_35 rfl ?_
      refine g_aload_n (Y := YX10_pairs) (pc := 36) 0 dX10_pairs_36 rfl ?_
      refine u_getR (Y := YX10_pairs) (pc := 37) (j := 170) dX10_pairs_37 fl_X10_94 k_0 rf_0_14 ?_
      refine u_getR (Y := YX10_pairs) (pc := 40) (j := 172) dX10_pairs_40 fl_X10_388 k_170 rf_170_2 ?_
      refine g_iload_n (Y := YX10_pairs) (pc := 43) 1 dX10_pairs_43 rfl ?_
      obtain ⟨g11, hF⟩ := gd_some hF
      refine s_iald (Y := YX10_pairs) (pc := 44) dX10_pairs_44 k_172 n_172 g11 ?_
      obtain ⟨r12, M13, e14, hF⟩ := bd_some hF
      refine s_callVv (Y := YX10_pairs) (pc := 45) (as := [.int (M 172 x1.toNatClampNeg)]) (st := []) (r_X10_tell  e14) miX10_tell lk_X10_252 dX10_pairs_45 k_0 rfl (Nat.le_of_ble_eq_true rfl) (Nat.le_of_ble_eq_true rfl) rfl ?_
      clear e14
      refine s_iinc (Y := YX10_pairs) (pc := 48) (j := 1) (L' := fun y => [(1, .int y), (0, .ref 0)]) dX10_pairs_48 kI_1 rfl (Nat.le_of_ble_eq_true rfl) (fun _ => rfl) (fun v15 e => ?_)
      replace hF := vl_to e hF; clear e
      refine g_goto (Y := YX10_pairs) (pc := 51) (tgt := 24) dX10_pairs_51 rfl ?_
      refine g_loc [1, 0] rfl ?_
      exact ih _ _ hF
def f_X10_pairs_0  (M : Mem) : Option (Int32 × Mem) :=
  bd (f_X2_find M) fun _ M2 =>
  bd (f_X10_clearRow M2) fun _ M5 =>
  bd (f_X10_tell (M5 170 4) M5) fun _ M8 =>
  f_X10_pairs_24 FU 0 M8
set_option maxRecDepth 100000 in
theorem w_X10_pairs_0 {R : Int32} {M' : Mem}  (M : Mem) (hF : f_X10_pairs_0  M = some (R, M')) : RunF l D cy ad none YX10_pairs 402 0 0 (some (.int R)) (lay X M') 0 0 0 [(0, .ref 0)] [] (lay X M) := by
  unfold f_X10_pairs_0 at hF
  refine g_aload_n (Y := YX10_pairs) (pc := 0) 0 dX10_pairs_0 rfl ?_
  refine u_getR (Y := YX10_pairs) (pc := 1) (j := 170) dX10_pairs_1 fl_X10_94 k_0 rf_0_14 ?_
  obtain ⟨r1, M2, e3, hF⟩ := bd_some hF
  refine s_callVv (Y := YX10_pairs) (pc := 4) (as := []) (st := []) (r_X2_find  e3) miX2_find lk_X10_382 dX10_pairs_4 k_170 rfl (Nat.le_of_ble_eq_true rfl) (Nat.le_of_ble_eq_true rfl) rfl ?_
  clear e3
  refine g_aload_n (Y := YX10_pairs) (pc := 7) 0 dX10_pairs_7 rfl ?_
  obtain ⟨r4, M5, e6, hF⟩ := bd_some hF
  refine s_callVv (Y := YX10_pairs) (pc := 8) (as := []) (st := []) (r_X10_clearRow  e6) miX10_clearRow lk_X10_246 dX10_pairs_8 k_0 rfl (Nat.le_of_ble_eq_true rfl) (Nat.le_of_ble_eq_true rfl) rfl ?_
  clear e6
  refine g_aload_n (Y := YX10_pairs) (pc := 11) 0 dX10_pairs_11 rfl ?_
  refine g_aload_n (Y := YX10_pairs) (pc := 12) 0 dX10_pairs_12 rfl ?_
  refine u_getR (Y := YX10_pairs) (pc := 13) (j := 170) dX10_pairs_13 fl_X10_94 k_0 rf_0_14 ?_
  refine u_getI (Y := YX10_pairs) (pc := 16) dX10_pairs_16 fl_X10_385 k_170 ?_
  obtain ⟨r7, M8, e9, hF⟩ := bd_some hF
  refine s_callVv (Y := YX10_pairs) (pc := 19) (as := [.int (M5 170 4)]) (st := []) (r_X10_tell  e9) miX10_tell lk_X10_252 dX10_pairs_19 k_0 rfl (Nat.le_of_ble_eq_true rfl) (Nat.le_of_ble_eq_true rfl) rfl ?_
  clear e9
  refine g_iconst (Y := YX10_pairs) (pc := 22) dX10_pairs_22 kI_0 ?_
  refine g_istore_n (Y := YX10_pairs) (pc := 23) (L' := [(1, .int 0), (0, .ref 0)]) dX10_pairs_23 (Nat.le_of_ble_eq_true rfl) rfl ?_
  refine g_loc [1, 0] rfl ?_
  exact w_X10_pairs_24  _ _ _ hF
def f_X10_pairs (M : Mem) : Option (Int32 × Mem) := f_X10_pairs_0 M
theorem r_X10_pairs {R : Int32} {M M' : Mem}  (hF : f_X10_pairs  M = some (R, M')) : RunS l D cy ad YX10_pairs 402 [.ref 0] X M (some (.int R)) M' := Run.of 0 (miX10_pairs).1 (Nat.le_of_ble_eq_true rfl) (w_X10_pairs_0  _ hF)
def f_X10_brief_140 (K27 : Int32 → Int32 → Int32 → Int32 → Int32 → Mem → Option (Int32 × Mem)) (K42 : Int32 → Int32 → Int32 → Int32 → Int32 → Int32 → Mem → Option (Int32 × Mem)) (x1 : Int32) (x2 : Int32) (x3 : Int32) (x4 : Int32) (x5 : Int32) (x6 : Int32) (M : Mem) : Option (Int32 × Mem) :=
  vl (x6 + 1) fun v25 =>
  K42 x1 x2 x3 x4 x5 v25 M
set_option maxRecDepth 100000 in
theorem w_X10_brief_140 {R : Int32} {M' : Mem} {K27 : Int32 → Int32 → Int32 → Int32 → Int32 → Mem → Option (Int32 × Mem)} {K42 : Int32 → Int32 → Int32 → Int32 → Int32 → Int32 → Mem → Option (Int32 × Mem)} (hK27 : ∀ (x1 x2 x3 x4 x5 : Int32) (M : Mem), K27 x1 x2 x3 x4 x5 M = some (R, M') → RunF l D cy ad none YX10_brief 7 0 0 (some (.int R)) (lay X M') 0 0 27 [(0, .ref 0), (1, .int x1), (2, .int x2), (3, .int x3), (4, .int x4), (5, .int x5)] [] (lay X M)) (hK42 : ∀ (x1 x2 x3 x4 x5 x6 : Int32) (M : Mem), K42 x1 x2 x3 x4 x5 x6 M = some (R, M') → RunF l D cy ad none YX10_brief 7 0 0 (some (.int R)) (lay X M') 0 0 42 [(0, .ref 0), (1, .int x1), (2, .int x2), (3, .int x3), (4, .int x4), (5, .int x5), (6, .int x6)] [] (lay X M)) (x1 x2 x3 x4 x5 x6 : Int32) (M : Mem) (hF : f_X10_brief_140 K27 K42 x1 x2 x3 x4 x5 x6 M = some (R, M')) : RunF l D cy ad none YX10_brief 7 0 0 (some (.int R)) (lay X M') 0 0 140 [(0, .ref 0), (1, .int x1), (2, .int x2), (3, .int x3), (4, .int x4), (5, .int x5), (6, .int x6)] [] (lay X M) := by
  unfold f_X10_brief_140 at hF
  refine s_iinc (Y := YX10_brief) (pc := 140) (j := 6) (L' := fun y => [(6, .int y), (0, .ref 0), (1, .int x1), (2, .int x2), (3, .int x3), (4, .int x4), (5, .int x5)]) dX10_brief_140 kI_1 rfl (Nat.le_of_ble_eq_true rfl) (fun _ => rfl) (fun v25 e => ?_)
  replace hF := vl_to e hF; clear e
  refine g_goto (Y := YX10_brief) (pc := 143) (tgt := 42) dX10_brief_143 rfl ?_
  refine g_loc [1, 2, 3, 4, 5, 6, 0] rfl ?_
  exact hK42 _ _ _ _ _ _ _ hF
def f_X10_brief_104 (K27 : Int32 → Int32 → Int32 → Int32 → Int32 → Mem → Option (Int32 × Mem)) (K42 : Int32 → Int32 → Int32 → Int32 → Int32 → Int32 → Mem → Option (Int32 × Mem)) (x1 : Int32) (x2 : Int32) (x3 : Int32) (x4 : Int32) (x5 : Int32) (x6 : Int32) (x7 : Int32) (t1 : Int32) (t0 : Int32) (M : Mem) : Option (Int32 × Mem) :=
  bd (f_X10_findSoonest t1 t0 M) fun r30 M31 =>
  gd (0 ≤ x5 ∧ x5.toNatClampNeg < 6) <|
  gd (0 ≤ x6 ∧ x6.toNatClampNeg < 6) <|
  ml (up M31 (17 + x5.toNatClampNeg) x6.toNatClampNeg x7) fun M35 =>
  if r30 = (-1) then
    f_X10_brief_140 K27 K42 x1 x2 x3 x4 x5 x6 M35
  else
    f_X10_brief_140 K27 K42 x1 r30 x5 x6 x5 x6 M35
set_option maxRecDepth 100000 in
theorem w_X10_brief_104 {R : Int32} {M' : Mem} {K27 : Int32 → Int32 → Int32 → Int32 → Int32 → Mem → Option (Int32 × Mem)} {K42 : Int32 → Int32 → Int32 → Int32 → Int32 → Int32 → Mem → Option (Int32 × Mem)} (hK27 : ∀ (x1 x2 x3 x4 x5 : Int32) (M : Mem), K27 x1 x2 x3 x4 x5 M = some (R, M') → RunF l D cy ad none YX10_brief 7 0 0 (some (.int R)) (lay X M') 0 0 27 [(0, .ref 0), (1, .int x1), (2, .int x2), (3, .int x3), (4, .int x4), (5, .int x5)] [] (lay X M)) (hK42 : ∀ (x1 x2 x3 x4 x5 x6 : Int32) (M : Mem), K42 x1 x2 x3 x4 x5 x6 M = some (R, M') → RunF l D cy ad none YX10_brief 7 0 0 (some (.int R)) (lay X M') 0 0 42 [(0, .ref 0), (1, .int x1), (2, .int x2), (3, .int x3), (4, .int x4), (5, .int x5), (6, .int x6)] [] (lay X M)) (x1 x2 x3 x4 x5 x6 x7 t1 t0 : Int32) (M : Mem) (hF : f_X10_brief_104 K27 K42 x1 x2 x3 x4 x5 x6 x7 t1 t0 M = some (R, M')) : RunF l D cy ad none YX10_brief 7 0 0 (some (.int R)) (lay X M') 0 0 104 [(0, .ref 0), (1, .int x1), (2, .int x2), (3, .int x3), (4, .int x4), (5, .int x5), (6, .int x6), (7, .int x7)] [.int t0, .int t1, .ref 0] (lay X M) := by
  unfold f_X10_brief_104 at hF
  obtain ⟨r30, M31, e32, hF⟩ := bd_some hF
  refine s_callVi (Y := YX10_brief) (pc := 104) (as := [.int t1, .int t0]) (st := []) (r_X10_findSoonest  e32) miX10_findSoonest lk_X10_313 dX10_brief_104 k_0 rfl (Nat.le_of_ble_eq_true rfl) (Nat.le_of_ble_eq_true rfl) rfl ?_
  clear e32
  refine g_istore (Y := YX10_brief) (pc := 107) (L' := [(8, .int r30), (0, .ref 0), (1, .int x1), (2, .int x2), (3, .int x3), (4, .int x4), (5, .int x5), (6, .int x6), (7, .int x7)]) dX10_brief_107 (Nat.le_of_ble_eq_true rfl) rfl ?_
  refine g_aload_n (Y := YX10_brief) (pc := 109) 1 dX10_brief_109 rfl ?_
  refine u_getR (Y := YX10_brief) (pc := 110) (j := 3) dX10_brief_110 fl_X10_19 k_0 rf_0_1 ?_
  refine u_getR (Y := YX10_brief) (pc := 113) (j := 16) dX10_brief_113 fl_X10_201 k_3 rf_3_9 ?_
  refine g_iload (Y := YX10_brief) (pc := 116) 6 dX10_brief_116 rfl ?_
  obtain ⟨g33, hF⟩ := gd_some hF
  refine s_aaldA (Y := YX10_brief) (pc := 118) dX10_brief_118 k_16 n_16 g33 (stay_r g33.2) ?_
  refine g_iload (Y := YX10_brief) (pc := 119) 7 dX10_brief_119 rfl ?_
  refine g_iload (Y := YX10_brief) (pc := 121) 8 dX10_brief_121 rfl ?_
  obtain ⟨g34, hF⟩ := gd_some hF
  refine s_iast (Y := YX10_brief) (pc := 123) dX10_brief_123 (stay_all _ g33.2).2.1 (stay_all _ g33.2).2.2 g34 ?_
  refine g_nmM (fun M35 e => ?_)
  replace hF := ml_to e hF; clear e
  refine g_iload (Y := YX10_brief) (pc := 124) 0 dX10_brief_124 rfl ?_
  refine g_iconst (Y := YX10_brief) (pc := 126) dX10_brief_126 kI_m1 ?_
  refine g_icmp_eq (Y := YX10_brief) (pc := 127) (tgt := 140) dX10_brief_127 rfl (fun c36 => ?_) (fun c36 => ?_)
  · replace hF := if_t c36 hF
    refine g_loc [1, 2, 3, 4, 5, 6, 7] rfl ?_
    exact w_X10_brief_140 hK27 hK42 _ _ _ _ _ _ _ hF
  · replace hF := if_f c36 hF
    refine g_iload (Y := YX10_brief) (pc := 130) 0 dX10_brief_130 rfl ?_
    refine g_istore_n (Y := YX10_brief) (pc := 132) (L' := [(2, .int r30), (8, .int r30), (0, .ref 0), (1, .int x1), (3, .int x3), (4, .int x4), (5, .int x5), (6, .int x6), (7, .int x7)]) dX10_brief_132 (Nat.le_of_ble_eq_true rfl) rfl ?_
    refine g_iload (Y := YX10_brief) (pc := 133) 6 dX10_brief_133 rfl ?_
    refine g_istore_n (Y := YX10_brief) (pc := 135) (L' := [(3, .int x5), (2, .int r30), (8, .int r30), (0, .ref 0), (1, .int x1), (4, .int x4), (5, .int x5), (6, .int x6), (7, .int x7)]) dX10_brief_135 (Nat.le_of_ble_eq_true rfl) rfl ?_
    refine g_iload (Y := YX10_brief) (pc := 136) 7 dX10_brief_136 rfl ?_
    refine g_istore (Y := YX10_brief) (pc := 138) (L' := [(4, .int x6), (3, .int x5), (2, .int r30), (8, .int r30), (0, .ref 0), (1, .int x1), (5, .int x5), (6, .int x6), (7, .int x7)]) dX10_brief_138 (Nat.le_of_ble_eq_true rfl) rfl ?_
    refine g_loc [4, 5, 2, 1, 0, 6, 7] rfl ?_
    exact w_X10_brief_140 hK27 hK42 _ _ _ _ _ _ _ hF
def f_X10_brief_42 (K27 : Int32 → Int32 → Int32 → Int32 → Int32 → Mem → Option (Int32 × Mem)) : Nat → Int32 → Int32 → Int32 → Int32 → Int32 → Int32 → Mem → Option (Int32 × Mem)
  | 0, _, _, _, _, _, _, _ => none
  | n + 1, x1, x2, x3, x4, x5, x6, M =>
    if x6 < (M 3 0) then
      gd (0 ≤ x5 ∧ x5.toNatClampNeg < 6) <|
      gd (0 ≤ x6 ∧ x6.toNatClampNeg < 6) <|
      vl ((M (17 + x5.toNatClampNeg) x6.toNatClampNeg)) fun v23 =>
      if 0 < v23 then
        gd (0 ≤ x5 ∧ x5.toNatClampNeg < 6) <|
        gd (0 ≤ x6 ∧ x6.toNatClampNeg < 6) <|
        ml (up M (17 + x5.toNatClampNeg) x6.toNatClampNeg 0) fun M28 =>
        if x2 = (-1) then
          f_X10_brief_104 K27 (f_X10_brief_42 K27 n) x1 x2 x3 x4 x5 x6 v23 x1 400 M28
        else
          f_X10_brief_104 K27 (f_X10_brief_42 K27 n) x1 x2 x3 x4 x5 x6 v23 x1 (x2 - 1) M28
      else
        f_X10_brief_140 K27 (f_X10_brief_42 K27 n) x1 x2 x3 x4 x5 x6 M
    else
      vl (x5 + 1) fun v20 =>
      K27 x1 x2 x3 x4 v20 M
set_option maxRecDepth 100000 in
theorem w_X10_brief_42 {R : Int32} {M' : Mem} {K27 : Int32 → Int32 → Int32 → Int32 → Int32 → Mem → Option (Int32 × Mem)} (hK27 : ∀ (x1 x2 x3 x4 x5 : Int32) (M : Mem), K27 x1 x2 x3 x4 x5 M = some (R, M') → RunF l D cy ad none YX10_brief 7 0 0 (some (.int R)) (lay X M') 0 0 27 [(0, .ref 0), (1, .int x1), (2, .int x2), (3, .int x3), (4, .int x4), (5, .int x5)] [] (lay X M)) : ∀ (n : Nat) (x1 x2 x3 x4 x5 x6 : Int32) (M : Mem), f_X10_brief_42 K27 n x1 x2 x3 x4 x5 x6 M = some (R, M') → RunF l D cy ad none YX10_brief 7 0 0 (some (.int R)) (lay X M') 0 0 42 [(0, .ref 0), (1, .int x1), (2, .int x2), (3, .int x3), (4, .int x4), (5, .int x5), (6, .int x6)] [] (lay X M) := by
  intro n
  induction n with
  | zero => intro x1 x2 x3 x4 x5 x6 M hF; exact absurd hF (by unfold f_X10_brief_42; exact fun h => nomatch h)
  | succ n ih =>
    intro x1 x2 x3 x4 x5 x6 M hF
    unfold f_X10_brief_42 at hF
    refine g_iload (Y := YX10_brief) (pc := 42) 6 dX10_brief_42 rfl ?_
    refine g_aload_n (Y := YX10_brief) (pc := 44) 0 dX10_brief_44 rfl ?_
    refine u_getR (Y := YX10_brief) (pc := 45) (j := 3) dX10_brief_45 fl_X10_19 k_0 rf_0_1 ?_
    refine u_getI (Y := YX10_brief) (pc := 48) dX10_brief_48 fl_X10_123 k_3 ?_
    refine g_icmp_ge (Y := YX10_brief) (pc := 51) (tgt := 146) dX10_brief_51 rfl (fun c19 => ?_) (fun c19 => ?_)
    · replace hF := if_f c19 hF
      refine s_iinc (Y := YX10_brief) (pc := 146) (j := 5) (L' := fun y => [(5, .int y), (0, .ref 0), (1, .int x1), (2, .int x2), (3, .int x3), (4, .int x4), (6, .int x6)]) dX10_brief_146 kI_1 rfl (Nat.le_of_ble_eq_true rfl) (fun _ => rfl) (fun v20 e => ?_)
      replace hF := vl_to e hF; clear e
      refine g_goto (Y := YX10_brief) (pc := 149) (tgt := 27) dX10_brief_149 rfl ?_
      refine g_loc [1, 2, 3, 4, 5, 0] rfl ?_
      exact hK27 _ _ _ _ _ _ hF
    · replace hF := if_t c19 hF
      refine g_aload_n (Y := YX10_brief) (pc := 54) 0 dX10_brief_54 rfl ?_
      refine u_getR (Y := YX10_brief) (pc := 55) (j := 3) dX10_brief_55 fl_X10_19 k_0 rf_0_1 ?_
      refine u_getR (Y := YX10_brief) (pc := 58) (j := 16) dX10_brief_58 fl_X10_201 k_3 rf_3_9 ?_
      refine g_iload (Y := YX10_brief) (pc := 61) 5 dX10_brief_61 rfl ?_
      obtain ⟨g21, hF⟩ := gd_some hF
      refine s_aaldA (Y := YX10_brief) (pc := 63) dX10_brief_63 k_16 n_16 g21 (stay_r g21.2) ?_
      refine g_iload (Y := YX10_brief) (pc := 64) 6 dX10_brief_64 rfl ?_
      obtain ⟨g22, hF⟩ := gd_some hF
      refine s_iald (Y := YX10_brief) (pc := 66) dX10_brief_66 (stay_all _ g21.2).2.1 (stay_all _ g21.2).2.2 g22 ?_
      refine g_nm (fun v23 e => ?_)
      replace hF := vl_to e hF; clear e
      refine g_istore (Y := YX10_brief) (pc := 67) (L' := [(7, .int v23), (0, .ref 0), (1, .int x1), (2, .int x2), (3, .int x3), (4, .int x4), (5, .int x5), (6, .int x6)]) dX10_brief_67 (Nat.le_of_ble_eq_true rfl) rfl ?_
      refine g_iload (Y := YX10_brief) (pc := 69) 0 dX10_brief_69 rfl ?_
      refine g_if_le (Y := YX10_brief) (pc := 71) (tgt := 140) dX10_brief_71 rfl (fun c24 => ?_) (fun c24 => ?_)
      · replace hF := if_f c24 hF
        refine g_loc [1, 2, 3, 4, 5, 6, 7] rfl ?_
        exact w_X10_brief_140 hK27 ih _ _ _ _ _ _ _ hF
      · replace hF := if_t c24 hF
        refine g_aload_n (Y := YX10_brief) (pc := 74) 1 dX10_brief_74 rfl ?_
        refine u_getR (Y := YX10_brief) (pc := 75) (j := 3) dX10_brief_75 fl_X10_19 k_0 rf_0_1 ?_
        refine u_getR (Y := YX10_brief) (pc := 78) (j := 16) dX10_brief_78 fl_X10_201 k_3 rf_3_9 ?_
        refine g_iload (Y := YX10_brief) (pc := 81) 6 dX10_brief_81 rfl ?_
        obtain ⟨g26, hF⟩ := gd_some hF
        refine s_aaldA (Y := YX10_brief) (pc := 83) dX10_brief_83 k_16 n_16 g26 (stay_r g26.2) ?_
        refine g_iload (Y := YX10_brief) (pc := 84) 7 dX10_brief_84 rfl ?_
        refine g_iconst (Y := YX10_brief) (pc := 86) dX10_brief_86 kI_0 ?_
        obtain ⟨g27, hF⟩ := gd_some hF
        refine s_iast (Y := YX10_brief) (pc := 87) dX10_brief_87 (stay_all _ g26.2).2.1 (stay_all _ g26.2).2.2 g27 ?_
        refine g_nmM (fun M28 e => ?_)
        replace hF := ml_to e hF; clear e
        refine g_aload_n (Y := YX10_brief) (pc := 88) 1 dX10_brief_88 rfl ?_
        refine g_iload_n (Y := YX10_brief) (pc := 89) 2 dX10_brief_89 rfl ?_
        refine g_iload_n (Y := YX10_brief) (pc := 90) 3 dX10_brief_90 rfl ?_
        refine g_iconst (Y := YX10_brief) (pc := 91) dX10_brief_91 kI_m1 ?_
        refine g_icmp_ne (Y := YX10_brief) (pc := 92) (tgt := 101) dX10_brief_92 rfl (fun c29 => ?_) (fun c29 => ?_)
        · replace hF := if_f c29 hF
          refine g_iload_n (Y := YX10_brief) (pc := 101) 3 dX10_brief_101 rfl ?_
          refine g_iconst (Y := YX10_brief) (pc := 102) dX10_brief_102 kI_1 ?_
          refine g_isub (Y := YX10_brief) (pc := 103) dX10_brief_103 ?_
          refine g_loc [1, 2, 3, 4, 5, 6, 7, 0] rfl ?_
          exact w_X10_brief_104 hK27 ih _ _ _ _ _ _ _ _ _ _ hF
        · replace hF := if_t c29 hF
          refine g_sipush (Y := YX10_brief) (pc := 95) dX10_brief_95 kS_400 ?_
          refine g_goto (Y := YX10_brief) (pc := 98) (tgt := 104) dX10_brief_98 rfl ?_
          refine g_loc [1, 2, 3, 4, 5, 6, 7, 0] rfl ?_
          exact w_X10_brief_104 hK27 ih _ _ _ _ _ _ _ _ _ _ hF
def f_X10_brief_27  : Nat → Int32 → Int32 → Int32 → Int32 → Int32 → Mem → Option (Int32 × Mem)
  | 0, _, _, _, _, _, _ => none
  | n + 1, x1, x2, x3, x4, x5, M =>
    if x5 < (M 3 2) then
      f_X10_brief_42 (f_X10_brief_27 n) FU x1 x2 x3 x4 x5 0 M
    else
      if x2 = (-1) then
        some ((-2), M)
      else
        bd (f_X10_clearRow M) fun _ M11 =>
        bd (f_X10_tell x3 M11) fun _ M14 =>
        bd (f_X10_tell x4 M14) fun _ M17 =>
        some (x2, M17)
set_option maxRecDepth 100000 in
theorem w_X10_brief_27 {R : Int32} {M' : Mem}  : ∀ (n : Nat) (x1 x2 x3 x4 x5 : Int32) (M : Mem), f_X10_brief_27 n x1 x2 x3 x4 x5 M = some (R, M') → RunF l D cy ad none YX10_brief 7 0 0 (some (.int R)) (lay X M') 0 0 27 [(0, .ref 0), (1, .int x1), (2, .int x2), (3, .int x3), (4, .int x4), (5, .int x5)] [] (lay X M) := by
  intro n
  induction n with
  | zero => intro x1 x2 x3 x4 x5 M hF; exact absurd hF (by unfold f_X10_brief_27; exact fun h => nomatch h)
  | succ n ih =>
    intro x1 x2 x3 x4 x5 M hF
    unfold f_X10_brief_27 at hF
    refine g_iload (Y := YX10_brief) (pc := 27) 5 dX10_brief_27 rfl ?_
    refine g_aload_n (Y := YX10_brief) (pc := 29) 0 dX10_brief_29 rfl ?_
    refine u_getR (Y := YX10_brief) (pc := 30) (j := 3) dX10_brief_30 fl_X10_19 k_0 rf_0_1 ?_
    refine u_getI (Y := YX10_brief) (pc := 33) dX10_brief_33 fl_X10_129 k_3 ?_
    refine g_icmp_ge (Y := YX10_brief) (pc := 36) (tgt := 152) dX10_brief_36 rfl (fun c8 => ?_) (fun c8 => ?_)
    · replace hF := if_f c8 hF
      refine g_iload_n (Y := YX10_brief) (pc := 152) 2 dX10_brief_152 rfl ?_
      refine g_iconst (Y := YX10_brief) (pc := 153) dX10_brief_153 kI_m1 ?_
      refine g_icmp_ne (Y := YX10_brief) (pc := 154) (tgt := 160) dX10_brief_154 rfl (fun c9 => ?_) (fun c9 => ?_)
      · replace hF := if_f c9 hF
        refine g_aload_n (Y := YX10_brief) (pc := 160) 0 dX10_brief_160 rfl ?_
        obtain ⟨r10, M11, e12, hF⟩ := bd_some hF
        refine s_callVv (Y := YX10_brief) (pc := 161) (as := []) (st := []) (r_X10_clearRow  e12) miX10_clearRow lk_X10_246 dX10_brief_161 k_0 rfl (Nat.le_of_ble_eq_true rfl) (Nat.le_of_ble_eq_true rfl) rfl ?_
        clear e12
        refine g_aload_n (Y := YX10_brief) (pc := 164) 0 dX10_brief_164 rfl ?_
        refine g_iload_n (Y := YX10_brief) (pc := 165) 3 dX10_brief_165 rfl ?_
        obtain ⟨r13, M14, e15, hF⟩ := bd_some hF
        refine s_callVv (Y := YX10_brief) (pc := 166) (as := [.int x3]) (st := []) (r_X10_tell  e15) miX10_tell lk_X10_252 dX10_brief_166 k_0 rfl (Nat.le_of_ble_eq_true rfl) (Nat.le_of_ble_eq_true rfl) rfl ?_
        clear e15
        refine g_aload_n (Y := YX10_brief) (pc := 169) 0 dX10_brief_169 rfl ?_
        refine g_iload (Y := YX10_brief) (pc := 170) 4 dX10_brief_170 rfl ?_
        obtain ⟨r16, M17, e18, hF⟩ := bd_some hF
        refine s_callVv (Y := YX10_brief) (pc := 172) (as := [.int x4]) (st := []) (r_X10_tell  e18) miX10_tell lk_X10_252 dX10_brief_172 k_0 rfl (Nat.le_of_ble_eq_true rfl) (Nat.le_of_ble_eq_true rfl) rfl ?_
        clear e18
        refine g_iload_n (Y := YX10_brief) (pc := 175) 2 dX10_brief_175 rfl ?_
        exact s_iret (Y := YX10_brief) (pc := 176) dX10_brief_176 rfl hF
      · replace hF := if_t c9 hF
        refine g_bipush (Y := YX10_brief) (pc := 157) dX10_brief_157 kB_m2 ?_
        exact s_iret (Y := YX10_brief) (pc := 159) dX10_brief_159 rfl hF
    · replace hF := if_t c8 hF
      refine g_iconst (Y := YX10_brief) (pc := 39) dX10_brief_39 kI_0 ?_
      refine g_istore (Y := YX10_brief) (pc := 40) (L' := [(6, .int 0), (0, .ref 0), (1, .int x1), (2, .int x2), (3, .int x3), (4, .int x4), (5, .int x5)]) dX10_brief_40 (Nat.le_of_ble_eq_true rfl) rfl ?_
      refine g_loc [1, 2, 3, 4, 5, 6, 0] rfl ?_
      exact w_X10_brief_42 ih _ _ _ _ _ _ _ _ hF
def f_X10_brief_0  (x1 : Int32) (M : Mem) : Option (Int32 × Mem) :=
  bd (f_X10_areOutside x1 M) fun r1 M2 =>
  if r1 = 0 then
    some ((-1), M2)
  else
    bd (f_X10_findSoonest x1 400 M2) fun r5 M6 =>
    f_X10_brief_27 FU x1 r5 (-1) (-1) 0 M6
set_option maxRecDepth 100000 in
theorem w_X10_brief_0 {R : Int32} {M' : Mem}  (x1 : Int32) (M : Mem) (hF : f_X10_brief_0 x1 M = some (R, M')) : RunF l D cy ad none YX10_brief 7 0 0 (some (.int R)) (lay X M') 0 0 0 [(0, .ref 0), (1, .int x1)] [] (lay X M) := by
  unfold f_X10_brief_0 at hF
  refine g_aload_n (Y := YX10_brief) (pc := 0) 0 dX10_brief_0 rfl ?_
  refine g_iload_n (Y := YX10_brief) (pc := 1) 1 dX10_brief_1 rfl ?_
  obtain ⟨r1, M2, e3, hF⟩ := bd_some hF
  refine s_callVi (Y := YX10_brief) (pc := 2) (as := [.int x1]) (st := []) (r_X10_areOutside  e3) miX10_areOutside lk_X10_292 dX10_brief_2 k_0 rfl (Nat.le_of_ble_eq_true rfl) (Nat.le_of_ble_eq_true rfl) rfl ?_
  clear e3
  refine g_if_ne (Y := YX10_brief) (pc := 5) (tgt := 10) dX10_brief_5 rfl (fun c4 => ?_) (fun c4 => ?_)
  · replace hF := if_f c4 hF
    refine g_aload_n (Y := YX10_brief) (pc := 10) 0 dX10_brief_10 rfl ?_
    refine g_iload_n (Y := YX10_brief) (pc := 11) 1 dX10_brief_11 rfl ?_
    refine g_sipush (Y := YX10_brief) (pc := 12) dX10_brief_12 kS_400 ?_
    obtain ⟨r5, M6, e7, hF⟩ := bd_some hF
    refine s_callVi (Y := YX10_brief) (pc := 15) (as := [.int x1, .int 400]) (st := []) (r_X10_findSoonest  e7) miX10_findSoonest lk_X10_313 dX10_brief_15 k_0 rfl (Nat.le_of_ble_eq_true rfl) (Nat.le_of_ble_eq_true rfl) rfl ?_
    clear e7
    refine g_istore_n (Y := YX10_brief) (pc := 18) (L' := [(2, .int r5), (0, .ref 0), (1, .int x1)]) dX10_brief_18 (Nat.le_of_ble_eq_true rfl) rfl ?_
    refine g_iconst (Y := YX10_brief) (pc := 19) dX10_brief_19 kI_m1 ?_
    refine g_istore_n (Y := YX10_brief) (pc := 20) (L' := [(3, .int (-1)), (2, .int r5), (0, .ref 0), (1, .int x1)]) dX10_brief_20 (Nat.le_of_ble_eq_true rfl) rfl ?_
    refine g_iconst (Y := YX10_brief) (pc := 21) dX10_brief_21 kI_m1 ?_
    refine g_istore (Y := YX10_brief) (pc := 22) (L' := [(4, .int (-1)), (3, .int (-1)), (2, .int r5), (0, .ref 0), (1, .int x1)]) dX10_brief_22 (Nat.le_of_ble_eq_true rfl) rfl ?_
    refine g_iconst (Y := YX10_brief) (pc := 24) dX10_brief_24 kI_0 ?_
    refine g_istore (Y := YX10_brief) (pc := 25) (L' := [(5, .int 0), (4, .int (-1)), (3, .int (-1)), (2, .int r5), (0, .ref 0), (1, .int x1)]) dX10_brief_25 (Nat.le_of_ble_eq_true rfl) rfl ?_
    refine g_loc [4, 5, 3, 2, 1, 0] rfl ?_
    exact w_X10_brief_27  _ _ _ _ _ _ _ hF
  · replace hF := if_t c4 hF
    refine g_iconst (Y := YX10_brief) (pc := 8) dX10_brief_8 kI_m1 ?_
    exact s_iret (Y := YX10_brief) (pc := 9) dX10_brief_9 rfl hF
def f_X10_brief (x1 : Int32) (M : Mem) : Option (Int32 × Mem) := f_X10_brief_0 x1 M
theorem r_X10_brief {x1 R : Int32} {M M' : Mem}  (hF : f_X10_brief x1 M = some (R, M')) : RunS l D cy ad YX10_brief 7 [.ref 0, .int x1] X M (some (.int R)) M' := Run.of 1 (miX10_brief).1 (Nat.le_of_ble_eq_true rfl) (w_X10_brief_0  _ _ hF)
def f_X0_add_16  (M : Mem) : Option (Int32 × Mem) :=
  some ((-1), M)
set_option maxRecDepth 100000 in
theorem w_X0_add_16 {R : Int32} {M' : Mem}  (M : Mem) (hF : f_X0_add_16  M = some (R, M')) : RunF l D cy ad none YX0_add 0 0 0 (some (.int R)) (lay X M') 0 0 16 [] [] (lay X M) := by
  unfold f_X0_add_16 at hF
  refine g_iconst (Y := YX0_add) (pc := 16) dX0_add_16 kI_m1 ?_
  exact s_iret (Y := YX0_add) (pc := 17) dX0_add_17 rfl hF
def f_X0_add_0  (x1 : Int32) (x2 : Int32) (x3 : Int32) (M : Mem) : Option (Int32 × Mem) :=
  if (M 120 3) < 0 then
    f_X0_add_16 M
  else
    if (M 120 3) < 12 then
      gd (0 ≤ (M 120 3) ∧ (M 120 3).toNatClampNeg < 12) <|
      ml (up M 121 (M 120 3).toNatClampNeg x1) fun M4 =>
      gd (0 ≤ (M4 120 3) ∧ (M4 120 3).toNatClampNeg < 12) <|
      ml (up M4 122 (M4 120 3).toNatClampNeg x2) fun M6 =>
      gd (0 ≤ (M6 120 3) ∧ (M6 120 3).toNatClampNeg < 12) <|
      ml (up M6 123 (M6 120 3).toNatClampNeg x3) fun M8 =>
      ml (up M8 120 3 ((M8 120 3) + 1)) fun M9 =>
      some ((M9 120 3), M9)
    else
      f_X0_add_16 M
set_option maxRecDepth 100000 in
theorem w_X0_add_0 {R : Int32} {M' : Mem}  (x1 x2 x3 : Int32) (M : Mem) (hF : f_X0_add_0 x1 x2 x3 M = some (R, M')) : RunF l D cy ad none YX0_add 0 0 0 (some (.int R)) (lay X M') 0 0 0 [(0, .ref 120), (1, .int x1), (2, .int x2), (3, .int x3)] [] (lay X M) := by
  unfold f_X0_add_0 at hF
  refine g_aload_n (Y := YX0_add) (pc := 0) 0 dX0_add_0 rfl ?_
  refine u_getI (Y := YX0_add) (pc := 1) dX0_add_1 fl_X0_21 k_120 ?_
  refine g_if_lt (Y := YX0_add) (pc := 4) (tgt := 16) dX0_add_4 rfl (fun c1 => ?_) (fun c1 => ?_)
  · replace hF := if_t c1 hF
    refine g_loc [] rfl ?_
    exact w_X0_add_16  _ hF
  · replace hF := if_f c1 hF
    refine g_aload_n (Y := YX0_add) (pc := 7) 0 dX0_add_7 rfl ?_
    refine u_getI (Y := YX0_add) (pc := 8) dX0_add_8 fl_X0_21 k_120 ?_
    refine g_bipush (Y := YX0_add) (pc := 11) dX0_add_11 kB_12 ?_
    refine g_icmp_lt (Y := YX0_add) (pc := 13) (tgt := 18) dX0_add_13 rfl (fun c2 => ?_) (fun c2 => ?_)
    · replace hF := if_t c2 hF
      refine g_aload_n (Y := YX0_add) (pc := 18) 0 dX0_add_18 rfl ?_
      refine u_getR (Y := YX0_add) (pc := 19) (j := 121) dX0_add_19 fl_X0_9 k_120 rf_120_0 ?_
      refine g_aload_n (Y := YX0_add) (pc := 22) 0 dX0_add_22 rfl ?_
      refine u_getI (Y := YX0_add) (pc := 23) dX0_add_23 fl_X0_21 k_120 ?_
      refine g_iload_n (Y := YX0_add) (pc := 26) 1 dX0_add_26 rfl ?_
      obtain ⟨g3, hF⟩ := gd_some hF
      refine s_iast (Y := YX0_add) (pc := 27) dX0_add_27 k_121 n_121 g3 ?_
      refine g_nmM (fun M4 e => ?_)
      replace hF := ml_to e hF; clear e
      refine g_aload_n (Y := YX0_add) (pc := 28) 0 dX0_add_28 rfl ?_
      refine u_getR (Y := YX0_add) (pc := 29) (j := 122) dX0_add_29 fl_X0_15 k_120 rf_120_1 ?_
      refine g_aload_n (Y := YX0_add) (pc := 32) 0 dX0_add_32 rfl ?_
      refine u_getI (Y := YX0_add) (pc := 33) dX0_add_33 fl_X0_21 k_120 ?_
      refine g_iload_n (Y := YX0_add) (pc := 36) 2 dX0_add_36 rfl ?_
      obtain ⟨g5, hF⟩ := gd_some hF
      refine s_iast (Y := YX0_add) (pc := 37) dX0_add_37 k_122 n_122 g5 ?_
      refine g_nmM (fun M6 e => ?_)
      replace hF := ml_to e hF; clear e
      refine g_aload_n (Y := YX0_add) (pc := 38) 0 dX0_add_38 rfl ?_
      refine u_getR (Y := YX0_add) (pc := 39) (j := 123) dX0_add_39 fl_X0_18 k_120 rf_120_2 ?_
      refine g_aload_n (Y := YX0_add) (pc := 42) 0 dX0_add_42 rfl ?_
      refine u_getI (Y := YX0_add) (pc := 43) dX0_add_43 fl_X0_21 k_120 ?_
      refine g_iload_n (Y := YX0_add) (pc := 46) 3 dX0_add_46 rfl ?_
      obtain ⟨g7, hF⟩ := gd_some hF
      refine s_iast (Y := YX0_add) (pc := 47) dX0_add_47 k_123 n_123 g7 ?_
      refine g_nmM (fun M8 e => ?_)
      replace hF := ml_to e hF; clear e
      refine g_aload_n (Y := YX0_add) (pc := 48) 0 dX0_add_48 rfl ?_
      refine g_dup (Y := YX0_add) (pc := 49) dX0_add_49 rfl ?_
      refine u_getI (Y := YX0_add) (pc := 50) dX0_add_50 fl_X0_21 k_120 ?_
      refine g_iconst (Y := YX0_add) (pc := 53) dX0_add_53 kI_1 ?_
      refine g_iadd (Y := YX0_add) (pc := 54) dX0_add_54 ?_
      refine u_putI (Y := YX0_add) (pc := 55) dX0_add_55 fl_X0_21  k_120 ?_
      refine g_nmM (fun M9 e => ?_)
      replace hF := ml_to e hF; clear e
      refine g_aload_n (Y := YX0_add) (pc := 58) 0 dX0_add_58 rfl ?_
      refine u_getI (Y := YX0_add) (pc := 59) dX0_add_59 fl_X0_21 k_120 ?_
      exact s_iret (Y := YX0_add) (pc := 62) dX0_add_62 rfl hF
    · replace hF := if_f c2 hF
      refine g_loc [] rfl ?_
      exact w_X0_add_16  _ hF
def f_X0_add (x1 : Int32) (x2 : Int32) (x3 : Int32) (M : Mem) : Option (Int32 × Mem) := f_X0_add_0 x1 x2 x3 M
theorem r_X0_add {x1 x2 x3 R : Int32} {M M' : Mem}  (hF : f_X0_add x1 x2 x3 M = some (R, M')) : RunS l D cy ad YX0_add 0 [.ref 120, .int x1, .int x2, .int x3] X M (some (.int R)) M' := Run.of 3 (miX0_add).1 (Nat.le_of_ble_eq_true rfl) (w_X0_add_0  _ _ _ _ hF)
def f_X10_heard_33  (M : Mem) : Option (Int32 × Mem) :=
  some ((-1), M)
set_option maxRecDepth 100000 in
theorem w_X10_heard_33 {R : Int32} {M' : Mem}  (M : Mem) (hF : f_X10_heard_33  M = some (R, M')) : RunF l D cy ad none YX10_heard 1 0 0 (some (.int R)) (lay X M') 0 0 33 [] [] (lay X M) := by
  unfold f_X10_heard_33 at hF
  refine g_iconst (Y := YX10_heard) (pc := 33) dX10_heard_33 kI_m1 ?_
  exact s_iret (Y := YX10_heard) (pc := 34) dX10_heard_34 rfl hF
def f_X10_heard_0  (x1 : Int32) (x2 : Int32) (x3 : Int32) (M : Mem) : Option (Int32 × Mem) :=
  bd (f_X1_hasRoom x1 M) fun r1 M2 =>
  if r1 = 0 then
    f_X10_heard_33 M2
  else
    if x2 < 1 then
      f_X10_heard_33 M2
    else
      if 300 < x2 then
        f_X10_heard_33 M2
      else
        if x3 < (-1) then
          f_X10_heard_33 M2
        else
          if 4 < x3 then
            f_X10_heard_33 M2
          else
            bd (f_X0_add x1 x2 x3 M2) fun r9 M10 =>
            some (r9, M10)
set_option maxRecDepth 100000 in
theorem w_X10_heard_0 {R : Int32} {M' : Mem}  (x1 x2 x3 : Int32) (M : Mem) (hF : f_X10_heard_0 x1 x2 x3 M = some (R, M')) : RunF l D cy ad none YX10_heard 1 0 0 (some (.int R)) (lay X M') 0 0 0 [(0, .ref 0), (1, .int x1), (2, .int x2), (3, .int x3)] [] (lay X M) := by
  unfold f_X10_heard_0 at hF
  refine g_aload_n (Y := YX10_heard) (pc := 0) 0 dX10_heard_0 rfl ?_
  refine u_getR (Y := YX10_heard) (pc := 1) (j := 3) dX10_heard_1 fl_X10_19 k_0 rf_0_1 ?_
  refine g_iload_n (Y := YX10_heard) (pc := 4) 1 dX10_heard_4 rfl ?_
  obtain ⟨r1, M2, e3, hF⟩ := bd_some hF
  refine s_callVi (Y := YX10_heard) (pc := 5) (as := [.int x1]) (st := []) (r_X1_hasRoom  e3) miX1_hasRoom lk_X10_185 dX10_heard_5 k_3 rfl (Nat.le_of_ble_eq_true rfl) (Nat.le_of_ble_eq_true rfl) rfl ?_
  clear e3
  refine g_if_eq (Y := YX10_heard) (pc := 8) (tgt := 33) dX10_heard_8 rfl (fun c4 => ?_) (fun c4 => ?_)
  · replace hF := if_t c4 hF
    refine g_loc [] rfl ?_
    exact w_X10_heard_33  _ hF
  · replace hF := if_f c4 hF
    refine g_iload_n (Y := YX10_heard) (pc := 11) 2 dX10_heard_11 rfl ?_
    refine g_iconst (Y := YX10_heard) (pc := 12) dX10_heard_12 kI_1 ?_
    refine g_icmp_lt (Y := YX10_heard) (pc := 13) (tgt := 33) dX10_heard_13 rfl (fun c5 => ?_) (fun c5 => ?_)
    · replace hF := if_t c5 hF
      refine g_loc [] rfl ?_
      exact w_X10_heard_33  _ hF
    · replace hF := if_f c5 hF
      refine g_iload_n (Y := YX10_heard) (pc := 16) 2 dX10_heard_16 rfl ?_
      refine g_sipush (Y := YX10_heard) (pc := 17) dX10_heard_17 kS_300 ?_
      refine g_icmp_gt (Y := YX10_heard) (pc := 20) (tgt := 33) dX10_heard_20 rfl (fun c6 => ?_) (fun c6 => ?_)
      · replace hF := if_t c6 hF
        refine g_loc [] rfl ?_
        exact w_X10_heard_33  _ hF
      · replace hF := if_f c6 hF
        refine g_iload_n (Y := YX10_heard) (pc := 23) 3 dX10_heard_23 rfl ?_
        refine g_iconst (Y := YX10_heard) (pc := 24) dX10_heard_24 kI_m1 ?_
        refine g_icmp_lt (Y := YX10_heard) (pc := 25) (tgt := 33) dX10_heard_25 rfl (fun c7 => ?_) (fun c7 => ?_)
        · replace hF := if_t c7 hF
          refine g_loc [] rfl ?_
          exact w_X10_heard_33  _ hF
        · replace hF := if_f c7 hF
          refine g_iload_n (Y := YX10_heard) (pc := 28) 3 dX10_heard_28 rfl ?_
          refine g_iconst (Y := YX10_heard) (pc := 29) dX10_heard_29 kI_4 ?_
          refine g_icmp_le (Y := YX10_heard) (pc := 30) (tgt := 35) dX10_heard_30 rfl (fun c8 => ?_) (fun c8 => ?_)
          · replace hF := if_f c8 hF
            refine g_aload_n (Y := YX10_heard) (pc := 35) 0 dX10_heard_35 rfl ?_
            refine u_getR (Y := YX10_heard) (pc := 36) (j := 120) dX10_heard_36 fl_X10_66 k_0 rf_0_10 ?_
            refine g_iload_n (Y := YX10_heard) (pc := 39) 1 dX10_heard_39 rfl ?_
            refine g_iload_n (Y := YX10_heard) (pc := 40) 2 dX10_heard_40 rfl ?_
            refine g_iload_n (Y := YX10_heard) (pc := 41) 3 dX10_heard_41 rfl ?_
            obtain ⟨r9, M10, e11, hF⟩ := bd_some hF
            refine s_callVi (Y := YX10_heard) (pc := 42) (as := [.int x1, .int x2, .int x3]) (st := []) (r_X0_add  e11) miX0_add lk_X10_394 dX10_heard_42 k_120 rfl (Nat.le_of_ble_eq_true rfl) (Nat.le_of_ble_eq_true rfl) rfl ?_
            clear e11
            exact s_iret (Y := YX10_heard) (pc := 45) dX10_heard_45 rfl hF
          · replace hF := if_t c8 hF
            refine g_loc [] rfl ?_
            exact w_X10_heard_33  _ hF
def f_X10_heard (x1 : Int32) (x2 : Int32) (x3 : Int32) (M : Mem) : Option (Int32 × Mem) := f_X10_heard_0 x1 x2 x3 M
theorem r_X10_heard {x1 x2 x3 R : Int32} {M M' : Mem}  (hF : f_X10_heard x1 x2 x3 M = some (R, M')) : RunS l D cy ad YX10_heard 1 [.ref 0, .int x1, .int x2, .int x3] X M (some (.int R)) M' := Run.of 3 (miX10_heard).1 (Nat.le_of_ble_eq_true rfl) (w_X10_heard_0  _ _ _ _ hF)
def f_X10_forget_0  (M : Mem) : Option (Int32 × Mem) :=
  vl ((M 120 3)) fun v1 =>
  ml (up M 120 3 0) fun M2 =>
  some (v1, M2)
set_option maxRecDepth 100000 in
theorem w_X10_forget_0 {R : Int32} {M' : Mem}  (M : Mem) (hF : f_X10_forget_0  M = some (R, M')) : RunF l D cy ad none YX10_forget 0 0 0 (some (.int R)) (lay X M') 0 0 0 [(0, .ref 0)] [] (lay X M) := by
  unfold f_X10_forget_0 at hF
  refine g_aload_n (Y := YX10_forget) (pc := 0) 0 dX10_forget_0 rfl ?_
  refine u_getR (Y := YX10_forget) (pc := 1) (j := 120) dX10_forget_1 fl_X10_66 k_0 rf_0_10 ?_
  refine u_getI (Y := YX10_forget) (pc := 4) dX10_forget_4 fl_X10_396 k_120 ?_
  refine g_nm (fun v1 e => ?_)
  replace hF := vl_to e hF; clear e
  refine g_istore_n (Y := YX10_forget) (pc := 7) (L' := [(1, .int v1), (0, .ref 0)]) dX10_forget_7 (Nat.le_of_ble_eq_true rfl) rfl ?_
  refine g_aload_n (Y := YX10_forget) (pc := 8) 1 dX10_forget_8 rfl ?_
  refine u_getR (Y := YX10_forget) (pc := 9) (j := 120) dX10_forget_9 fl_X10_66 k_0 rf_0_10 ?_
  refine g_iconst (Y := YX10_forget) (pc := 12) dX10_forget_12 kI_0 ?_
  refine u_putI (Y := YX10_forget) (pc := 13) dX10_forget_13 fl_X10_396  k_120 ?_
  refine g_nmM (fun M2 e => ?_)
  replace hF := ml_to e hF; clear e
  refine g_iload_n (Y := YX10_forget) (pc := 16) 0 dX10_forget_16 rfl ?_
  exact s_iret (Y := YX10_forget) (pc := 17) dX10_forget_17 rfl hF
def f_X10_forget (M : Mem) : Option (Int32 × Mem) := f_X10_forget_0 M
theorem r_X10_forget {R : Int32} {M M' : Mem}  (hF : f_X10_forget  M = some (R, M')) : RunS l D cy ad YX10_forget 0 [.ref 0] X M (some (.int R)) M' := Run.of 0 (miX10_forget).1 (Nat.le_of_ble_eq_true rfl) (w_X10_forget_0  _ hF)
def f_X0_latest_4  : Nat → Int32 → Int32 → Mem → Option (Int32 × Mem)
  | 0, _, _, _ => none
  | n + 1, x1, x2, M =>
    if x2 < (M 120 3) then
      gd (0 ≤ x2 ∧ x2.toNatClampNeg < 12) <|
      vl ((if x1 < (M 122 x2.toNatClampNeg) then (M 122 x2.toNatClampNeg) else x1)) fun v3 =>
      vl (x2 + 1) fun v4 =>
      f_X0_latest_4 n v3 v4 M
    else
      some (x1, M)
set_option maxRecDepth 100000 in
theorem w_X0_latest_4 {R : Int32} {M' : Mem}  : ∀ (n : Nat) (x1 x2 : Int32) (M : Mem), f_X0_latest_4 n x1 x2 M = some (R, M') → RunF l D cy ad none YX0_latest 1 0 0 (some (.int R)) (lay X M') 0 0 4 [(0, .ref 120), (1, .int x1), (2, .int x2)] [] (lay X M) := by
  intro n
  induction n with
  | zero => intro x1 x2 M hF; exact absurd hF (by unfold f_X0_latest_4; exact fun h => nomatch h)
  | succ n ih =>
    intro x1 x2 M hF
    unfold f_X0_latest_4 at hF
    refine g_iload_n (Y := YX0_latest) (pc := 4) 2 dX0_latest_4 rfl ?_
    refine g_aload_n (Y := YX0_latest) (pc := 5) 0 dX0_latest_5 rfl ?_
    refine u_getI (Y := YX0_latest) (pc := 6) dX0_latest_6 fl_X0_21 k_120 ?_
    refine g_icmp_ge (Y := YX0_latest) (pc := 9) (tgt := 29) dX0_latest_9 rfl (fun c1 => ?_) (fun c1 => ?_)
    · replace hF := if_f c1 hF
      refine g_iload_n (Y := YX0_latest) (pc := 29) 1 dX0_latest_29 rfl ?_
      exact s_iret (Y := YX0_latest) (pc := 30) dX0_latest_30 rfl hF
    · replace hF := if_t c1 hF
      refine g_iload_n (Y := YX0_latest) (pc := 12) 1 dX0_latest_12 rfl ?_
      refine g_aload_n (Y := YX0_latest) (pc := 13) 0 dX0_latest_13 rfl ?_
      refine u_getR (Y := YX0_latest) (pc := 14) (j := 122) dX0_latest_14 fl_X0_15 k_120 rf_120_1 ?_
      refine g_iload_n (Y := YX0_latest) (pc := 17) 2 dX0_latest_17 rfl ?_
      obtain ⟨g2, hF⟩ := gd_some hF
      refine s_iald (Y := YX0_latest) (pc := 18) dX0_latest_18 k_122 n_122 g2 ?_
      refine s_max (Y := YX0_latest) (pc := 19) dX0_latest_19 lk_X0_25 w_max (Nat.le_of_ble_eq_true rfl) (Nat.le_of_ble_eq_true rfl) ?_
      refine g_nm (fun v3 e => ?_)
      replace hF := vl_to e hF; clear e
      refine g_istore_n (Y := YX0_latest) (pc := 22) (L' := [(1, .int v3), (0, .ref 120), (2, .int x2)]) dX0_latest_22 (Nat.le_of_ble_eq_true rfl) rfl ?_
      refine s_iinc (Y := YX0_latest) (pc := 23) (j := 2) (L' := fun y => [(2, .int y), (1, .int v3), (0, .ref 120)]) dX0_latest_23 kI_1 rfl (Nat.le_of_ble_eq_true rfl) (fun _ => rfl) (fun v4 e => ?_)
      replace hF := vl_to e hF; clear e
      refine g_goto (Y := YX0_latest) (pc := 26) (tgt := 4) dX0_latest_26 rfl ?_
      refine g_loc [2, 1, 0] rfl ?_
      exact ih _ _ _ hF
def f_X0_latest_0  (M : Mem) : Option (Int32 × Mem) :=
  f_X0_latest_4 FU 0 0 M
set_option maxRecDepth 100000 in
theorem w_X0_latest_0 {R : Int32} {M' : Mem}  (M : Mem) (hF : f_X0_latest_0  M = some (R, M')) : RunF l D cy ad none YX0_latest 1 0 0 (some (.int R)) (lay X M') 0 0 0 [(0, .ref 120)] [] (lay X M) := by
  unfold f_X0_latest_0 at hF
  refine g_iconst (Y := YX0_latest) (pc := 0) dX0_latest_0 kI_0 ?_
  refine g_istore_n (Y := YX0_latest) (pc := 1) (L' := [(1, .int 0), (0, .ref 120)]) dX0_latest_1 (Nat.le_of_ble_eq_true rfl) rfl ?_
  refine g_iconst (Y := YX0_latest) (pc := 2) dX0_latest_2 kI_0 ?_
  refine g_istore_n (Y := YX0_latest) (pc := 3) (L' := [(2, .int 0), (1, .int 0), (0, .ref 120)]) dX0_latest_3 (Nat.le_of_ble_eq_true rfl) rfl ?_
  refine g_loc [2, 1, 0] rfl ?_
  exact w_X0_latest_4  _ _ _ _ hF
def f_X0_latest (M : Mem) : Option (Int32 × Mem) := f_X0_latest_0 M
theorem r_X0_latest {R : Int32} {M M' : Mem}  (hF : f_X0_latest  M = some (R, M')) : RunS l D cy ad YX0_latest 1 [.ref 120] X M (some (.int R)) M' := Run.of 0 (miX0_latest).1 (Nat.le_of_ble_eq_true rfl) (w_X0_latest_0  _ hF)
def f_X10_fits_101  (x2 : Int32) (M : Mem) : Option (Int32 × Mem) :=
  some (x2, M)
set_option maxRecDepth 100000 in
theorem w_X10_fits_101 {R : Int32} {M' : Mem}  (x2 : Int32) (M : Mem) (hF : f_X10_fits_101 x2 M = some (R, M')) : RunF l D cy ad none YX10_fits 6 0 0 (some (.int R)) (lay X M') 0 0 101 [(2, .int x2)] [] (lay X M) := by
  unfold f_X10_fits_101 at hF
  refine g_iload_n (Y := YX10_fits) (pc := 101) 0 dX10_fits_101 rfl ?_
  exact s_iret (Y := YX10_fits) (pc := 102) dX10_fits_102 rfl hF
def f_X10_fits_89  (x2 : Int32) (M : Mem) : Option (Int32 × Mem) :=
  bd (f_X10_clearRow M) fun _ M10 =>
  if 0 < x2 then
    bd (f_X10_tellFound M10) fun _ M14 =>
    f_X10_fits_101 x2 M14
  else
    f_X10_fits_101 x2 M10
set_option maxRecDepth 100000 in
theorem w_X10_fits_89 {R : Int32} {M' : Mem}  (x2 : Int32) (M : Mem) (hF : f_X10_fits_89 x2 M = some (R, M')) : RunF l D cy ad none YX10_fits 6 0 0 (some (.int R)) (lay X M') 0 0 89 [(0, .ref 0), (2, .int x2)] [] (lay X M) := by
  unfold f_X10_fits_89 at hF
  refine g_aload_n (Y := YX10_fits) (pc := 89) 0 dX10_fits_89 rfl ?_
  obtain ⟨r9, M10, e11, hF⟩ := bd_some hF
  refine s_callVv (Y := YX10_fits) (pc := 90) (as := []) (st := []) (r_X10_clearRow  e11) miX10_clearRow lk_X10_246 dX10_fits_90 k_0 rfl (Nat.le_of_ble_eq_true rfl) (Nat.le_of_ble_eq_true rfl) rfl ?_
  clear e11
  refine g_iload_n (Y := YX10_fits) (pc := 93) 1 dX10_fits_93 rfl ?_
  refine g_if_le (Y := YX10_fits) (pc := 94) (tgt := 101) dX10_fits_94 rfl (fun c12 => ?_) (fun c12 => ?_)
  · replace hF := if_f c12 hF
    refine g_loc [1] rfl ?_
    exact w_X10_fits_101  _ _ hF
  · replace hF := if_t c12 hF
    refine g_aload_n (Y := YX10_fits) (pc := 97) 0 dX10_fits_97 rfl ?_
    obtain ⟨r13, M14, e15, hF⟩ := bd_some hF
    refine s_callVv (Y := YX10_fits) (pc := 98) (as := []) (st := []) (r_X10_tellFound  e15) miX10_tellFound lk_X10_316 dX10_fits_98 k_0 rfl (Nat.le_of_ble_eq_true rfl) (Nat.le_of_ble_eq_true rfl) rfl ?_
    clear e15
    refine g_loc [1] rfl ?_
    exact w_X10_fits_101  _ _ hF
def f_X10_fits_75 (K22 : Int32 → Int32 → Int32 → Mem → Option (Int32 × Mem)) (x2 : Int32) (x4 : Int32) (M : Mem) : Option (Int32 × Mem) :=
  bd (f_X5_turnToNext 124 M) fun r24 M25 =>
  vl (x4 + 1) fun v27 =>
  K22 x2 r24 v27 M25
set_option maxRecDepth 100000 in
theorem w_X10_fits_75 {R : Int32} {M' : Mem} {K22 : Int32 → Int32 → Int32 → Mem → Option (Int32 × Mem)} (hK22 : ∀ (x2 x3 x4 : Int32) (M : Mem), K22 x2 x3 x4 M = some (R, M') → RunF l D cy ad none YX10_fits 6 0 0 (some (.int R)) (lay X M') 0 0 22 [(0, .ref 0), (2, .int x2), (3, .int x3), (4, .int x4)] [] (lay X M)) (x2 x4 : Int32) (M : Mem) (hF : f_X10_fits_75 K22 x2 x4 M = some (R, M')) : RunF l D cy ad none YX10_fits 6 0 0 (some (.int R)) (lay X M') 0 0 75 [(0, .ref 0), (2, .int x2), (4, .int x4)] [] (lay X M) := by
  unfold f_X10_fits_75 at hF
  refine g_aload_n (Y := YX10_fits) (pc := 75) 0 dX10_fits_75 rfl ?_
  refine u_getR (Y := YX10_fits) (pc := 76) (j := 124) dX10_fits_76 fl_X10_73 k_0 rf_0_11 ?_
  obtain ⟨r24, M25, e26, hF⟩ := bd_some hF
  refine s_callVi (Y := YX10_fits) (pc := 79) (as := []) (st := []) (r_X5_turnToNext (Or.inl rfl) e26) miX5_turnToNext lk_X10_326 dX10_fits_79 k_124 rfl (Nat.le_of_ble_eq_true rfl) (Nat.le_of_ble_eq_true rfl) rfl ?_
  clear e26
  refine g_istore_n (Y := YX10_fits) (pc := 82) (L' := [(3, .int r24), (0, .ref 0), (2, .int x2), (4, .int x4)]) dX10_fits_82 (Nat.le_of_ble_eq_true rfl) rfl ?_
  refine s_iinc (Y := YX10_fits) (pc := 83) (j := 3) (L' := fun y => [(4, .int y), (3, .int r24), (0, .ref 0), (2, .int x2)]) dX10_fits_83 kI_1 rfl (Nat.le_of_ble_eq_true rfl) (fun _ => rfl) (fun v27 e => ?_)
  replace hF := vl_to e hF; clear e
  refine g_goto (Y := YX10_fits) (pc := 86) (tgt := 22) dX10_fits_86 rfl ?_
  refine g_loc [2, 3, 1, 0] rfl ?_
  exact hK22 _ _ _ _ hF
def f_X10_fits_72 (K22 : Int32 → Int32 → Int32 → Mem → Option (Int32 × Mem)) (x2 : Int32) (x4 : Int32) (M : Mem) : Option (Int32 × Mem) :=
  vl (x2 + 1) fun v29 =>
  f_X10_fits_75 K22 v29 x4 M
set_option maxRecDepth 100000 in
theorem w_X10_fits_72 {R : Int32} {M' : Mem} {K22 : Int32 → Int32 → Int32 → Mem → Option (Int32 × Mem)} (hK22 : ∀ (x2 x3 x4 : Int32) (M : Mem), K22 x2 x3 x4 M = some (R, M') → RunF l D cy ad none YX10_fits 6 0 0 (some (.int R)) (lay X M') 0 0 22 [(0, .ref 0), (2, .int x2), (3, .int x3), (4, .int x4)] [] (lay X M)) (x2 x4 : Int32) (M : Mem) (hF : f_X10_fits_72 K22 x2 x4 M = some (R, M')) : RunF l D cy ad none YX10_fits 6 0 0 (some (.int R)) (lay X M') 0 0 72 [(0, .ref 0), (2, .int x2), (4, .int x4)] [] (lay X M) := by
  unfold f_X10_fits_72 at hF
  refine s_iinc (Y := YX10_fits) (pc := 72) (j := 1) (L' := fun y => [(2, .int y), (0, .ref 0), (4, .int x4)]) dX10_fits_72 kI_1 rfl (Nat.le_of_ble_eq_true rfl) (fun _ => rfl) (fun v29 e => ?_)
  replace hF := vl_to e hF; clear e
  refine g_loc [1, 0, 2] rfl ?_
  exact w_X10_fits_75 hK22 _ _ _ hF
def f_X10_fits_22  : Nat → Int32 → Int32 → Int32 → Mem → Option (Int32 × Mem)
  | 0, _, _, _, _ => none
  | n + 1, x2, x3, x4, M =>
    if x4 < 720 then
      if x3 = (-1) then
        f_X10_fits_89 x2 M
      else
        bd (f_X0_latest M) fun r17 M18 =>
        bd (f_X9_walk 124 x3 r17 M18) fun r20 M21 =>
        if r20 = 0 then
          f_X10_fits_75 (f_X10_fits_22 n) x2 x4 M21
        else
          if x2 = 0 then
            bd (f_X5_copy 126 124 M21) fun _ M31 =>
            f_X10_fits_72 (f_X10_fits_22 n) x2 x4 M31
          else
            f_X10_fits_72 (f_X10_fits_22 n) x2 x4 M21
    else
      f_X10_fits_89 x2 M
set_option maxRecDepth 100000 in
theorem w_X10_fits_22 {R : Int32} {M' : Mem}  : ∀ (n : Nat) (x2 x3 x4 : Int32) (M : Mem), f_X10_fits_22 n x2 x3 x4 M = some (R, M') → RunF l D cy ad none YX10_fits 6 0 0 (some (.int R)) (lay X M') 0 0 22 [(0, .ref 0), (2, .int x2), (3, .int x3), (4, .int x4)] [] (lay X M) := by
  intro n
  induction n with
  | zero => intro x2 x3 x4 M hF; exact absurd hF (by unfold f_X10_fits_22; exact fun h => nomatch h)
  | succ n ih =>
    intro x2 x3 x4 M hF
    unfold f_X10_fits_22 at hF
    refine g_iload (Y := YX10_fits) (pc := 22) 3 dX10_fits_22 rfl ?_
    refine g_sipush (Y := YX10_fits) (pc := 24) dX10_fits_24 kS_720 ?_
    refine g_icmp_ge (Y := YX10_fits) (pc := 27) (tgt := 89) dX10_fits_27 rfl (fun c8 => ?_) (fun c8 => ?_)
    · replace hF := if_f c8 hF
      refine g_loc [0, 1] rfl ?_
      exact w_X10_fits_89  _ _ hF
    · replace hF := if_t c8 hF
      refine g_iload_n (Y := YX10_fits) (pc := 30) 2 dX10_fits_30 rfl ?_
      refine g_iconst (Y := YX10_fits) (pc := 31) dX10_fits_31 kI_m1 ?_
      refine g_icmp_eq (Y := YX10_fits) (pc := 32) (tgt := 89) dX10_fits_32 rfl (fun c16 => ?_) (fun c16 => ?_)
      · replace hF := if_t c16 hF
        refine g_loc [0, 1] rfl ?_
        exact w_X10_fits_89  _ _ hF
      · replace hF := if_f c16 hF
        refine g_aload_n (Y := YX10_fits) (pc := 35) 0 dX10_fits_35 rfl ?_
        refine u_getR (Y := YX10_fits) (pc := 36) (j := 128) dX10_fits_36 fl_X10_85 k_0 rf_0_13 ?_
        refine g_aload_n (Y := YX10_fits) (pc := 39) 0 dX10_fits_39 rfl ?_
        refine u_getR (Y := YX10_fits) (pc := 40) (j := 124) dX10_fits_40 fl_X10_73 k_0 rf_0_11 ?_
        refine g_iload_n (Y := YX10_fits) (pc := 43) 2 dX10_fits_43 rfl ?_
        refine g_aload_n (Y := YX10_fits) (pc := 44) 0 dX10_fits_44 rfl ?_
        refine u_getR (Y := YX10_fits) (pc := 45) (j := 120) dX10_fits_45 fl_X10_66 k_0 rf_0_10 ?_
        obtain ⟨r17, M18, e19, hF⟩ := bd_some hF
        refine s_callVi (Y := YX10_fits) (pc := 48) (as := []) (st := [.int x3, .ref 124, .ref 128]) (r_X0_latest  e19) miX0_latest lk_X10_397 dX10_fits_48 k_120 rfl (Nat.le_of_ble_eq_true rfl) (Nat.le_of_ble_eq_true rfl) rfl ?_
        clear e19
        obtain ⟨r20, M21, e22, hF⟩ := bd_some hF
        refine s_callVi (Y := YX10_fits) (pc := 51) (as := [.ref 124, .int x3, .int r17]) (st := []) (r_X9_walk (Or.inl rfl) e22) miX9_walk lk_X10_299 dX10_fits_51 k_128 rfl (Nat.le_of_ble_eq_true rfl) (Nat.le_of_ble_eq_true rfl) rfl ?_
        clear e22
        refine g_if_eq (Y := YX10_fits) (pc := 54) (tgt := 75) dX10_fits_54 rfl (fun c23 => ?_) (fun c23 => ?_)
        · replace hF := if_t c23 hF
          refine g_loc [0, 1, 3] rfl ?_
          exact w_X10_fits_75 ih _ _ _ hF
        · replace hF := if_f c23 hF
          refine g_iload_n (Y := YX10_fits) (pc := 57) 1 dX10_fits_57 rfl ?_
          refine g_if_ne (Y := YX10_fits) (pc := 58) (tgt := 72) dX10_fits_58 rfl (fun c28 => ?_) (fun c28 => ?_)
          · replace hF := if_f c28 hF
            refine g_loc [0, 1, 3] rfl ?_
            exact w_X10_fits_72 ih _ _ _ hF
          · replace hF := if_t c28 hF
            refine g_aload_n (Y := YX10_fits) (pc := 61) 0 dX10_fits_61 rfl ?_
            refine u_getR (Y := YX10_fits) (pc := 62) (j := 126) dX10_fits_62 fl_X10_77 k_0 rf_0_12 ?_
            refine g_aload_n (Y := YX10_fits) (pc := 65) 0 dX10_fits_65 rfl ?_
            refine u_getR (Y := YX10_fits) (pc := 66) (j := 124) dX10_fits_66 fl_X10_73 k_0 rf_0_11 ?_
            obtain ⟨r30, M31, e32, hF⟩ := bd_some hF
            refine s_callVv (Y := YX10_fits) (pc := 69) (as := [.ref 124]) (st := []) (r_X5_copy (Or.inr rfl) (Or.inl rfl) e32) miX5_copy lk_X10_323 dX10_fits_69 k_126 rfl (Nat.le_of_ble_eq_true rfl) (Nat.le_of_ble_eq_true rfl) rfl ?_
            clear e32
            refine g_loc [0, 1, 3] rfl ?_
            exact w_X10_fits_72 ih _ _ _ hF
def f_X10_fits_0  (x1 : Int32) (M : Mem) : Option (Int32 × Mem) :=
  bd (f_X10_areOutside x1 M) fun r1 M2 =>
  if r1 = 0 then
    some ((-1), M2)
  else
    bd (f_X10_beginOrders x1 1 M2) fun r5 M6 =>
    f_X10_fits_22 FU 0 r5 0 M6
set_option maxRecDepth 100000 in
theorem w_X10_fits_0 {R : Int32} {M' : Mem}  (x1 : Int32) (M : Mem) (hF : f_X10_fits_0 x1 M = some (R, M')) : RunF l D cy ad none YX10_fits 6 0 0 (some (.int R)) (lay X M') 0 0 0 [(0, .ref 0), (1, .int x1)] [] (lay X M) := by
  unfold f_X10_fits_0 at hF
  refine g_aload_n (Y := YX10_fits) (pc := 0) 0 dX10_fits_0 rfl ?_
  refine g_iload_n (Y := YX10_fits) (pc := 1) 1 dX10_fits_1 rfl ?_
  obtain ⟨r1, M2, e3, hF⟩ := bd_some hF
  refine s_callVi (Y := YX10_fits) (pc := 2) (as := [.int x1]) (st := []) (r_X10_areOutside  e3) miX10_areOutside lk_X10_292 dX10_fits_2 k_0 rfl (Nat.le_of_ble_eq_true rfl) (Nat.le_of_ble_eq_true rfl) rfl ?_
  clear e3
  refine g_if_ne (Y := YX10_fits) (pc := 5) (tgt := 10) dX10_fits_5 rfl (fun c4 => ?_) (fun c4 => ?_)
  · replace hF := if_f c4 hF
    refine g_iconst (Y := YX10_fits) (pc := 10) dX10_fits_10 kI_0 ?_
    refine g_istore_n (Y := YX10_fits) (pc := 11) (L' := [(2, .int 0), (0, .ref 0), (1, .int x1)]) dX10_fits_11 (Nat.le_of_ble_eq_true rfl) rfl ?_
    refine g_aload_n (Y := YX10_fits) (pc := 12) 1 dX10_fits_12 rfl ?_
    refine g_iload_n (Y := YX10_fits) (pc := 13) 2 dX10_fits_13 rfl ?_
    refine g_iconst (Y := YX10_fits) (pc := 14) dX10_fits_14 kI_1 ?_
    obtain ⟨r5, M6, e7, hF⟩ := bd_some hF
    refine s_callVi (Y := YX10_fits) (pc := 15) (as := [.int x1, .int 1]) (st := []) (r_X10_beginOrders  e7) miX10_beginOrders lk_X10_319 dX10_fits_15 k_0 rfl (Nat.le_of_ble_eq_true rfl) (Nat.le_of_ble_eq_true rfl) rfl ?_
    clear e7
    refine g_istore_n (Y := YX10_fits) (pc := 18) (L' := [(3, .int r5), (2, .int 0), (0, .ref 0), (1, .int x1)]) dX10_fits_18 (Nat.le_of_ble_eq_true rfl) rfl ?_
    refine g_iconst (Y := YX10_fits) (pc := 19) dX10_fits_19 kI_0 ?_
    refine g_istore (Y := YX10_fits) (pc := 20) (L' := [(4, .int 0), (3, .int r5), (2, .int 0), (0, .ref 0), (1, .int x1)]) dX10_fits_20 (Nat.le_of_ble_eq_true rfl) rfl ?_
    refine g_loc [3, 2, 1, 0] rfl ?_
    exact w_X10_fits_22  _ _ _ _ _ hF
  · replace hF := if_t c4 hF
    refine g_iconst (Y := YX10_fits) (pc := 8) dX10_fits_8 kI_m1 ?_
    exact s_iret (Y := YX10_fits) (pc := 9) dX10_fits_9 rfl hF
def f_X10_fits (x1 : Int32) (M : Mem) : Option (Int32 × Mem) := f_X10_fits_0 x1 M
theorem r_X10_fits {x1 R : Int32} {M M' : Mem}  (hF : f_X10_fits x1 M = some (R, M')) : RunS l D cy ad YX10_fits 6 [.ref 0, .int x1] X M (some (.int R)) M' := Run.of 1 (miX10_fits).1 (Nat.le_of_ble_eq_true rfl) (w_X10_fits_0  _ _ hF)
def f_X10_began_113  (x2 : Int32) (x3 : Int32) (M : Mem) : Option (Int32 × Mem) :=
  bd (f_X10_clearRow M) fun _ M10 =>
  bd (f_X10_tell x3 M10) fun _ M13 =>
  some (x2, M13)
set_option maxRecDepth 100000 in
theorem w_X10_began_113 {R : Int32} {M' : Mem}  (x2 x3 : Int32) (M : Mem) (hF : f_X10_began_113 x2 x3 M = some (R, M')) : RunF l D cy ad none YX10_began 6 0 0 (some (.int R)) (lay X M') 0 0 113 [(0, .ref 0), (2, .int x2), (3, .int x3)] [] (lay X M) := by
  unfold f_X10_began_113 at hF
  refine g_aload_n (Y := YX10_began) (pc := 113) 0 dX10_began_113 rfl ?_
  obtain ⟨r9, M10, e11, hF⟩ := bd_some hF
  refine s_callVv (Y := YX10_began) (pc := 114) (as := []) (st := []) (r_X10_clearRow  e11) miX10_clearRow lk_X10_246 dX10_began_114 k_0 rfl (Nat.le_of_ble_eq_true rfl) (Nat.le_of_ble_eq_true rfl) rfl ?_
  clear e11
  refine g_aload_n (Y := YX10_began) (pc := 117) 0 dX10_began_117 rfl ?_
  refine g_iload_n (Y := YX10_began) (pc := 118) 2 dX10_began_118 rfl ?_
  obtain ⟨r12, M13, e14, hF⟩ := bd_some hF
  refine s_callVv (Y := YX10_began) (pc := 119) (as := [.int x3]) (st := []) (r_X10_tell  e14) miX10_tell lk_X10_252 dX10_began_119 k_0 rfl (Nat.le_of_ble_eq_true rfl) (Nat.le_of_ble_eq_true rfl) rfl ?_
  clear e14
  refine g_iload_n (Y := YX10_began) (pc := 122) 1 dX10_began_122 rfl ?_
  exact s_iret (Y := YX10_began) (pc := 123) dX10_began_123 rfl hF
def f_X10_began_98 (K25 : Int32 → Int32 → Int32 → Int32 → Mem → Option (Int32 × Mem)) (x2 : Int32) (x3 : Int32) (x5 : Int32) (M : Mem) : Option (Int32 × Mem) :=
  bd (f_X5_turnToNext 124 M) fun r23 M24 =>
  vl (x5 + 1) fun v26 =>
  K25 x2 x3 r23 v26 M24
set_option maxRecDepth 100000 in
theorem w_X10_began_98 {R : Int32} {M' : Mem} {K25 : Int32 → Int32 → Int32 → Int32 → Mem → Option (Int32 × Mem)} (hK25 : ∀ (x2 x3 x4 x5 : Int32) (M : Mem), K25 x2 x3 x4 x5 M = some (R, M') → RunF l D cy ad none YX10_began 6 0 0 (some (.int R)) (lay X M') 0 0 25 [(0, .ref 0), (2, .int x2), (3, .int x3), (4, .int x4), (5, .int x5)] [] (lay X M)) (x2 x3 x5 : Int32) (M : Mem) (hF : f_X10_began_98 K25 x2 x3 x5 M = some (R, M')) : RunF l D cy ad none YX10_began 6 0 0 (some (.int R)) (lay X M') 0 0 98 [(0, .ref 0), (2, .int x2), (3, .int x3), (5, .int x5)] [] (lay X M) := by
  unfold f_X10_began_98 at hF
  refine g_aload_n (Y := YX10_began) (pc := 98) 0 dX10_began_98 rfl ?_
  refine u_getR (Y := YX10_began) (pc := 99) (j := 124) dX10_began_99 fl_X10_73 k_0 rf_0_11 ?_
  obtain ⟨r23, M24, e25, hF⟩ := bd_some hF
  refine s_callVi (Y := YX10_began) (pc := 102) (as := []) (st := []) (r_X5_turnToNext (Or.inl rfl) e25) miX5_turnToNext lk_X10_326 dX10_began_102 k_124 rfl (Nat.le_of_ble_eq_true rfl) (Nat.le_of_ble_eq_true rfl) rfl ?_
  clear e25
  refine g_istore (Y := YX10_began) (pc := 105) (L' := [(4, .int r23), (0, .ref 0), (2, .int x2), (3, .int x3), (5, .int x5)]) dX10_began_105 (Nat.le_of_ble_eq_true rfl) rfl ?_
  refine s_iinc (Y := YX10_began) (pc := 107) (j := 4) (L' := fun y => [(5, .int y), (4, .int r23), (0, .ref 0), (2, .int x2), (3, .int x3)]) dX10_began_107 kI_1 rfl (Nat.le_of_ble_eq_true rfl) (fun _ => rfl) (fun v26 e => ?_)
  replace hF := vl_to e hF; clear e
  refine g_goto (Y := YX10_began) (pc := 110) (tgt := 25) dX10_began_110 rfl ?_
  refine g_loc [2, 3, 4, 1, 0] rfl ?_
  exact hK25 _ _ _ _ _ hF
def f_X10_began_25  : Nat → Int32 → Int32 → Int32 → Int32 → Mem → Option (Int32 × Mem)
  | 0, _, _, _, _, _ => none
  | n + 1, x2, x3, x4, x5, M =>
    if x5 < 720 then
      if x4 = (-1) then
        f_X10_began_113 x2 x3 M
      else
        bd (f_X0_latest M) fun r16 M17 =>
        bd (f_X9_walk 124 x4 r16 M17) fun r19 M20 =>
        if r19 = 0 then
          f_X10_began_98 (f_X10_began_25 n) x2 x3 x5 M20
        else
          gd (0 ≤ (0 : Int32) ∧ (0 : Int32).toNatClampNeg < 6) <|
          vl ((1 <<< ((M20 125 (0 : Int32).toNatClampNeg) &&& 31))) fun v28 =>
          vl ((x2 ||| v28)) fun v29 =>
          gd (0 ≤ ((M20 124 1) - 1) ∧ ((M20 124 1) - 1).toNatClampNeg < 6) <|
          vl ((1 <<< ((M20 125 ((M20 124 1) - 1).toNatClampNeg) &&& 31))) fun v31 =>
          vl ((x3 ||| v31)) fun v32 =>
          f_X10_began_98 (f_X10_began_25 n) v29 v32 x5 M20
    else
      f_X10_began_113 x2 x3 M
set_option maxRecDepth 100000 in
theorem w_X10_began_25 {R : Int32} {M' : Mem}  : ∀ (n : Nat) (x2 x3 x4 x5 : Int32) (M : Mem), f_X10_began_25 n x2 x3 x4 x5 M = some (R, M') → RunF l D cy ad none YX10_began 6 0 0 (some (.int R)) (lay X M') 0 0 25 [(0, .ref 0), (2, .int x2), (3, .int x3), (4, .int x4), (5, .int x5)] [] (lay X M) := by
  intro n
  induction n with
  | zero => intro x2 x3 x4 x5 M hF; exact absurd hF (by unfold f_X10_began_25; exact fun h => nomatch h)
  | succ n ih =>
    intro x2 x3 x4 x5 M hF
    unfold f_X10_began_25 at hF
    refine g_iload (Y := YX10_began) (pc := 25) 4 dX10_began_25 rfl ?_
    refine g_sipush (Y := YX10_began) (pc := 27) dX10_began_27 kS_720 ?_
    refine g_icmp_ge (Y := YX10_began) (pc := 30) (tgt := 113) dX10_began_30 rfl (fun c8 => ?_) (fun c8 => ?_)
    · replace hF := if_f c8 hF
      refine g_loc [0, 1, 2] rfl ?_
      exact w_X10_began_113  _ _ _ hF
    · replace hF := if_t c8 hF
      refine g_iload (Y := YX10_began) (pc := 33) 3 dX10_began_33 rfl ?_
      refine g_iconst (Y := YX10_began) (pc := 35) dX10_began_35 kI_m1 ?_
      refine g_icmp_eq (Y := YX10_began) (pc := 36) (tgt := 113) dX10_began_36 rfl (fun c15 => ?_) (fun c15 => ?_)
      · replace hF := if_t c15 hF
        refine g_loc [0, 1, 2] rfl ?_
        exact w_X10_began_113  _ _ _ hF
      · replace hF := if_f c15 hF
        refine g_aload_n (Y := YX10_began) (pc := 39) 0 dX10_began_39 rfl ?_
        refine u_getR (Y := YX10_began) (pc := 40) (j := 128) dX10_began_40 fl_X10_85 k_0 rf_0_13 ?_
        refine g_aload_n (Y := YX10_began) (pc := 43) 0 dX10_began_43 rfl ?_
        refine u_getR (Y := YX10_began) (pc := 44) (j := 124) dX10_began_44 fl_X10_73 k_0 rf_0_11 ?_
        refine g_iload (Y := YX10_began) (pc := 47) 3 dX10_began_47 rfl ?_
        refine g_aload_n (Y := YX10_began) (pc := 49) 0 dX10_began_49 rfl ?_
        refine u_getR (Y := YX10_began) (pc := 50) (j := 120) dX10_began_50 fl_X10_66 k_0 rf_0_10 ?_
        obtain ⟨r16, M17, e18, hF⟩ := bd_some hF
        refine s_callVi (Y := YX10_began) (pc := 53) (as := []) (st := [.int x4, .ref 124, .ref 128]) (r_X0_latest  e18) miX0_latest lk_X10_397 dX10_began_53 k_120 rfl (Nat.le_of_ble_eq_true rfl) (Nat.le_of_ble_eq_true rfl) rfl ?_
        clear e18
        obtain ⟨r19, M20, e21, hF⟩ := bd_some hF
        refine s_callVi (Y := YX10_began) (pc := 56) (as := [.ref 124, .int x4, .int r16]) (st := []) (r_X9_walk (Or.inl rfl) e21) miX9_walk lk_X10_299 dX10_began_56 k_128 rfl (Nat.le_of_ble_eq_true rfl) (Nat.le_of_ble_eq_true rfl) rfl ?_
        clear e21
        refine g_if_eq (Y := YX10_began) (pc := 59) (tgt := 98) dX10_began_59 rfl (fun c22 => ?_) (fun c22 => ?_)
        · replace hF := if_t c22 hF
          refine g_loc [0, 1, 2, 4] rfl ?_
          exact w_X10_began_98 ih _ _ _ _ hF
        · replace hF := if_f c22 hF
          refine g_iload_n (Y := YX10_began) (pc := 62) 1 dX10_began_62 rfl ?_
          refine g_iconst (Y := YX10_began) (pc := 63) dX10_began_63 kI_1 ?_
          refine g_aload_n (Y := YX10_began) (pc := 64) 0 dX10_began_64 rfl ?_
          refine u_getR (Y := YX10_began) (pc := 65) (j := 124) dX10_began_65 fl_X10_73 k_0 rf_0_11 ?_
          refine u_getR (Y := YX10_began) (pc := 68) (j := 125) dX10_began_68 fl_X10_307 k_124 rf_124_0 ?_
          refine g_iconst (Y := YX10_began) (pc := 71) dX10_began_71 kI_0 ?_
          obtain ⟨g27, hF⟩ := gd_some hF
          refine s_iald (Y := YX10_began) (pc := 72) dX10_began_72 k_125 n_125 g27 ?_
          refine g_ishl (Y := YX10_began) (pc := 73) dX10_began_73 ?_
          refine g_nm (fun v28 e => ?_)
          replace hF := vl_to e hF; clear e
          refine g_ior (Y := YX10_began) (pc := 74) dX10_began_74 ?_
          refine g_nm (fun v29 e => ?_)
          replace hF := vl_to e hF; clear e
          refine g_istore_n (Y := YX10_began) (pc := 75) (L' := [(2, .int v29), (0, .ref 0), (3, .int x3), (4, .int x4), (5, .int x5)]) dX10_began_75 (Nat.le_of_ble_eq_true rfl) rfl ?_
          refine g_iload_n (Y := YX10_began) (pc := 76) 2 dX10_began_76 rfl ?_
          refine g_iconst (Y := YX10_began) (pc := 77) dX10_began_77 kI_1 ?_
          refine g_aload_n (Y := YX10_began) (pc := 78) 1 dX10_began_78 rfl ?_
          refine u_getR (Y := YX10_began) (pc := 79) (j := 124) dX10_began_79 fl_X10_73 k_0 rf_0_11 ?_
          refine u_getR (Y := YX10_began) (pc := 82) (j := 125) dX10_began_82 fl_X10_307 k_124 rf_124_0 ?_
          refine g_aload_n (Y := YX10_began) (pc := 85) 1 dX10_began_85 rfl ?_
          refine u_getR (Y := YX10_began) (pc := 86) (j := 124) dX10_began_86 fl_X10_73 k_0 rf_0_11 ?_
          refine u_getI (Y := YX10_began) (pc := 89) dX10_began_89 fl_X10_303 k_124 ?_
          refine g_iconst (Y := YX10_began) (pc := 92) dX10_began_92 kI_1 ?_
          refine g_isub (Y := YX10_began) (pc := 93) dX10_began_93 ?_
          obtain ⟨g30, hF⟩ := gd_some hF
          refine s_iald (Y := YX10_began) (pc := 94) dX10_began_94 k_125 n_125 g30 ?_
          refine g_ishl (Y := YX10_began) (pc := 95) dX10_began_95 ?_
          refine g_nm (fun v31 e => ?_)
          replace hF := vl_to e hF; clear e
          refine g_ior (Y := YX10_began) (pc := 96) dX10_began_96 ?_
          refine g_nm (fun v32 e => ?_)
          replace hF := vl_to e hF; clear e
          refine g_istore_n (Y := YX10_began) (pc := 97) (L' := [(3, .int v32), (2, .int v29), (0, .ref 0), (4, .int x4), (5, .int x5)]) dX10_began_97 (Nat.le_of_ble_eq_true rfl) rfl ?_
          refine g_loc [2, 1, 0, 4] rfl ?_
          exact w_X10_began_98 ih _ _ _ _ hF
def f_X10_began_0  (x1 : Int32) (M : Mem) : Option (Int32 × Mem) :=
  bd (f_X10_areOutside x1 M) fun r1 M2 =>
  if r1 = 0 then
    some ((-1), M2)
  else
    bd (f_X10_beginOrders x1 1 M2) fun r5 M6 =>
    f_X10_began_25 FU 0 0 r5 0 M6
set_option maxRecDepth 100000 in
theorem w_X10_began_0 {R : Int32} {M' : Mem}  (x1 : Int32) (M : Mem) (hF : f_X10_began_0 x1 M = some (R, M')) : RunF l D cy ad none YX10_began 6 0 0 (some (.int R)) (lay X M') 0 0 0 [(0, .ref 0), (1, .int x1)] [] (lay X M) := by
  unfold f_X10_began_0 at hF
  refine g_aload_n (Y := YX10_began) (pc := 0) 0 dX10_began_0 rfl ?_
  refine g_iload_n (Y := YX10_began) (pc := 1) 1 dX10_began_1 rfl ?_
  obtain ⟨r1, M2, e3, hF⟩ := bd_some hF
  refine s_callVi (Y := YX10_began) (pc := 2) (as := [.int x1]) (st := []) (r_X10_areOutside  e3) miX10_areOutside lk_X10_292 dX10_began_2 k_0 rfl (Nat.le_of_ble_eq_true rfl) (Nat.le_of_ble_eq_true rfl) rfl ?_
  clear e3
  refine g_if_ne (Y := YX10_began) (pc := 5) (tgt := 10) dX10_began_5 rfl (fun c4 => ?_) (fun c4 => ?_)
  · replace hF := if_f c4 hF
    refine g_iconst (Y := YX10_began) (pc := 10) dX10_began_10 kI_0 ?_
    refine g_istore_n (Y := YX10_began) (pc := 11) (L' := [(2, .int 0), (0, .ref 0), (1, .int x1)]) dX10_began_11 (Nat.le_of_ble_eq_true rfl) rfl ?_
    refine g_iconst (Y := YX10_began) (pc := 12) dX10_began_12 kI_0 ?_
    refine g_istore_n (Y := YX10_began) (pc := 13) (L' := [(3, .int 0), (2, .int 0), (0, .ref 0), (1, .int x1)]) dX10_began_13 (Nat.le_of_ble_eq_true rfl) rfl ?_
    refine g_aload_n (Y := YX10_began) (pc := 14) 2 dX10_began_14 rfl ?_
    refine g_iload_n (Y := YX10_began) (pc := 15) 3 dX10_began_15 rfl ?_
    refine g_iconst (Y := YX10_began) (pc := 16) dX10_began_16 kI_1 ?_
    obtain ⟨r5, M6, e7, hF⟩ := bd_some hF
    refine s_callVi (Y := YX10_began) (pc := 17) (as := [.int x1, .int 1]) (st := []) (r_X10_beginOrders  e7) miX10_beginOrders lk_X10_319 dX10_began_17 k_0 rfl (Nat.le_of_ble_eq_true rfl) (Nat.le_of_ble_eq_true rfl) rfl ?_
    clear e7
    refine g_istore (Y := YX10_began) (pc := 20) (L' := [(4, .int r5), (3, .int 0), (2, .int 0), (0, .ref 0), (1, .int x1)]) dX10_began_20 (Nat.le_of_ble_eq_true rfl) rfl ?_
    refine g_iconst (Y := YX10_began) (pc := 22) dX10_began_22 kI_0 ?_
    refine g_istore (Y := YX10_began) (pc := 23) (L' := [(5, .int 0), (4, .int r5), (3, .int 0), (2, .int 0), (0, .ref 0), (1, .int x1)]) dX10_began_23 (Nat.le_of_ble_eq_true rfl) rfl ?_
    refine g_loc [4, 3, 2, 1, 0] rfl ?_
    exact w_X10_began_25  _ _ _ _ _ _ hF
  · replace hF := if_t c4 hF
    refine g_iconst (Y := YX10_began) (pc := 8) dX10_began_8 kI_m1 ?_
    exact s_iret (Y := YX10_began) (pc := 9) dX10_began_9 rfl hF
def f_X10_began (x1 : Int32) (M : Mem) : Option (Int32 × Mem) := f_X10_began_0 x1 M
theorem r_X10_began {x1 R : Int32} {M M' : Mem}  (hF : f_X10_began x1 M = some (R, M')) : RunS l D cy ad YX10_began 6 [.ref 0, .int x1] X M (some (.int R)) M' := Run.of 1 (miX10_began).1 (Nat.le_of_ble_eq_true rfl) (w_X10_began_0  _ _ hF)
def f_X5_draw_58 (K10 : Int32 → Int32 → Mem → Option (Int32 × Mem)) (q : Nat) : Nat → Int32 → Int32 → Int32 → Int32 → Mem → Option (Int32 × Mem)
  | 0, _, _, _, _, _ => none
  | n + 1, x3, x4, x6, x7, M =>
    if x4 < x7 then
      gd (0 ≤ (x7 - 1) ∧ (x7 - 1).toNatClampNeg < 6) <|
      gd (0 ≤ x7 ∧ x7.toNatClampNeg < 6) <|
      ml (up M (q + 1) x7.toNatClampNeg (M (q + 1) (x7 - 1).toNatClampNeg)) fun M17 =>
      vl (x7 + (-1)) fun v18 =>
      f_X5_draw_58 K10 q n x3 x4 x6 v18 M17
    else
      gd (0 ≤ x4 ∧ x4.toNatClampNeg < 6) <|
      ml (up M (q + 1) x4.toNatClampNeg x6) fun M13 =>
      vl (x4 + 1) fun v14 =>
      K10 x3 v14 M13
set_option maxRecDepth 100000 in
theorem w_X5_draw_58 {R : Int32} {M' : Mem} {q : Nat} {K10 : Int32 → Int32 → Mem → Option (Int32 × Mem)} (hq : isOr q) (hK10 : ∀ (x3 x4 : Int32) (M : Mem), K10 x3 x4 M = some (R, M') → RunF l D cy ad none YX5_draw 2 0 0 (some (.int R)) (lay X M') 0 0 10 [(0, .ref q), (3, .int x3), (4, .int x4)] [] (lay X M)) : ∀ (n : Nat) (x3 x4 x6 x7 : Int32) (M : Mem), f_X5_draw_58 K10 q n x3 x4 x6 x7 M = some (R, M') → RunF l D cy ad none YX5_draw 2 0 0 (some (.int R)) (lay X M') 0 0 58 [(0, .ref q), (3, .int x3), (4, .int x4), (6, .int x6), (7, .int x7)] [] (lay X M) := by
  intro n
  induction n with
  | zero => intro x3 x4 x6 x7 M hF; exact absurd hF (by unfold f_X5_draw_58; exact fun h => nomatch h)
  | succ n ih =>
    intro x3 x4 x6 x7 M hF
    unfold f_X5_draw_58 at hF
    refine g_iload (Y := YX5_draw) (pc := 58) 4 dX5_draw_58 rfl ?_
    refine g_iload (Y := YX5_draw) (pc := 60) 2 dX5_draw_60 rfl ?_
    refine g_icmp_le (Y := YX5_draw) (pc := 62) (tgt := 87) dX5_draw_62 rfl (fun c11 => ?_) (fun c11 => ?_)
    · replace hF := if_f c11 hF
      refine g_aload_n (Y := YX5_draw) (pc := 87) 0 dX5_draw_87 rfl ?_
      refine u_getR (Y := YX5_draw) (pc := 88) (j := (q + 1)) dX5_draw_88 fl_X5_9 (or_k hq) (or_r0 hq) ?_
      refine g_iload (Y := YX5_draw) (pc := 91) 2 dX5_draw_91 rfl ?_
      refine g_iload (Y := YX5_draw) (pc := 93) 3 dX5_draw_93 rfl ?_
      obtain ⟨g12, hF⟩ := gd_some hF
      refine s_iast (Y := YX5_draw) (pc := 95) dX5_draw_95 (or_k1 hq) (or_n1 hq) g12 ?_
      refine g_nmM (fun M13 e => ?_)
      replace hF := ml_to e hF; clear e
      refine s_iinc (Y := YX5_draw) (pc := 96) (j := 2) (L' := fun y => [(4, .int y), (0, .ref q), (3, .int x3), (6, .int x6), (7, .int x7)]) dX5_draw_96 kI_1 rfl (Nat.le_of_ble_eq_true rfl) (fun _ => rfl) (fun v14 e => ?_)
      replace hF := vl_to e hF; clear e
      refine g_goto (Y := YX5_draw) (pc := 99) (tgt := 10) dX5_draw_99 rfl ?_
      refine g_loc [1, 2, 0] rfl ?_
      exact hK10 _ _ _ hF
    · replace hF := if_t c11 hF
      refine g_aload_n (Y := YX5_draw) (pc := 65) 0 dX5_draw_65 rfl ?_
      refine u_getR (Y := YX5_draw) (pc := 66) (j := (q + 1)) dX5_draw_66 fl_X5_9 (or_k hq) (or_r0 hq) ?_
      refine g_iload (Y := YX5_draw) (pc := 69) 4 dX5_draw_69 rfl ?_
      refine g_aload_n (Y := YX5_draw) (pc := 71) 0 dX5_draw_71 rfl ?_
      refine u_getR (Y := YX5_draw) (pc := 72) (j := (q + 1)) dX5_draw_72 fl_X5_9 (or_k hq) (or_r0 hq) ?_
      refine g_iload (Y := YX5_draw) (pc := 75) 4 dX5_draw_75 rfl ?_
      refine g_iconst (Y := YX5_draw) (pc := 77) dX5_draw_77 kI_1 ?_
      refine g_isub (Y := YX5_draw) (pc := 78) dX5_draw_78 ?_
      obtain ⟨g15, hF⟩ := gd_some hF
      refine s_iald (Y := YX5_draw) (pc := 79) dX5_draw_79 (or_k1 hq) (or_n1 hq) g15 ?_
      obtain ⟨g16, hF⟩ := gd_some hF
      refine s_iast (Y := YX5_draw) (pc := 80) dX5_draw_80 (or_k1 hq) (or_n1 hq) g16 ?_
      refine g_nmM (fun M17 e => ?_)
      replace hF := ml_to e hF; clear e
      refine s_iinc (Y := YX5_draw) (pc := 81) (j := 4) (L' := fun y => [(7, .int y), (0, .ref q), (3, .int x3), (4, .int x4), (6, .int x6)]) dX5_draw_81 kI_m1 rfl (Nat.le_of_ble_eq_true rfl) (fun _ => rfl) (fun v18 e => ?_)
      replace hF := vl_to e hF; clear e
      refine g_goto (Y := YX5_draw) (pc := 84) (tgt := 58) dX5_draw_84 rfl ?_
      refine g_loc [1, 2, 3, 4, 0] rfl ?_
      exact ih _ _ _ _ _ hF
def f_X5_draw_10 (q : Nat) : Nat → Int32 → Int32 → Mem → Option (Int32 × Mem)
  | 0, _, _, _ => none
  | n + 1, x3, x4, M =>
    if x4 < (M q 1) then
      vl (((x3 * 1103515245) + 12345)) fun v5 =>
      vl (((v5.toUInt32 >>> ((16 : Int32).toUInt32 &&& Int32.toUInt32 31)).toInt32)) fun v6 =>
      gd (¬ ((M q 1) - x4) = 0) <|
      vl ((x4 + (v6 - v6 / ((M q 1) - x4) * ((M q 1) - x4)))) fun v8 =>
      gd (0 ≤ v8 ∧ v8.toNatClampNeg < 6) <|
      vl ((M (q + 1) v8.toNatClampNeg)) fun v10 =>
      f_X5_draw_58 (f_X5_draw_10 q n) q FU v5 x4 v10 v8 M
    else
      some (x3, M)
set_option maxRecDepth 100000 in
theorem w_X5_draw_10 {R : Int32} {M' : Mem} {q : Nat} (hq : isOr q) : ∀ (n : Nat) (x3 x4 : Int32) (M : Mem), f_X5_draw_10 q n x3 x4 M = some (R, M') → RunF l D cy ad none YX5_draw 2 0 0 (some (.int R)) (lay X M') 0 0 10 [(0, .ref q), (3, .int x3), (4, .int x4)] [] (lay X M) := by
  intro n
  induction n with
  | zero => intro x3 x4 M hF; exact absurd hF (by unfold f_X5_draw_10; exact fun h => nomatch h)
  | succ n ih =>
    intro x3 x4 M hF
    unfold f_X5_draw_10 at hF
    refine g_iload (Y := YX5_draw) (pc := 10) 2 dX5_draw_10 rfl ?_
    refine g_aload_n (Y := YX5_draw) (pc := 12) 0 dX5_draw_12 rfl ?_
    refine u_getI (Y := YX5_draw) (pc := 13) dX5_draw_13 fl_X5_15 (or_k hq) ?_
    refine g_icmp_ge (Y := YX5_draw) (pc := 16) (tgt := 102) dX5_draw_16 rfl (fun c4 => ?_) (fun c4 => ?_)
    · replace hF := if_f c4 hF
      refine g_iload_n (Y := YX5_draw) (pc := 102) 1 dX5_draw_102 rfl ?_
      exact s_iret (Y := YX5_draw) (pc := 103) dX5_draw_103 rfl hF
    · replace hF := if_t c4 hF
      refine g_iload_n (Y := YX5_draw) (pc := 19) 1 dX5_draw_19 rfl ?_
      refine g_ldc (Y := YX5_draw) (pc := 20) dX5_draw_20 cw_X5_55 ?_
      refine g_imul (Y := YX5_draw) (pc := 22) dX5_draw_22 ?_
      refine g_sipush (Y := YX5_draw) (pc := 23) dX5_draw_23 kS_12345 ?_
      refine g_iadd (Y := YX5_draw) (pc := 26) dX5_draw_26 ?_
      refine g_nm (fun v5 e => ?_)
      replace hF := vl_to e hF; clear e
      refine g_istore_n (Y := YX5_draw) (pc := 27) (L' := [(3, .int v5), (0, .ref q), (4, .int x4)]) dX5_draw_27 (Nat.le_of_ble_eq_true rfl) rfl ?_
      refine g_iload (Y := YX5_draw) (pc := 28) 2 dX5_draw_28 rfl ?_
      refine g_iload_n (Y := YX5_draw) (pc := 30) 0 dX5_draw_30 rfl ?_
      refine g_bipush (Y := YX5_draw) (pc := 31) dX5_draw_31 kB_16 ?_
      refine g_iushr (Y := YX5_draw) (pc := 33) dX5_draw_33 ?_
      refine g_nm (fun v6 e => ?_)
      replace hF := vl_to e hF; clear e
      refine g_aload_n (Y := YX5_draw) (pc := 34) 1 dX5_draw_34 rfl ?_
      refine u_getI (Y := YX5_draw) (pc := 35) dX5_draw_35 fl_X5_15 (or_k hq) ?_
      refine g_iload (Y := YX5_draw) (pc := 38) 2 dX5_draw_38 rfl ?_
      refine g_isub (Y := YX5_draw) (pc := 40) dX5_draw_40 ?_
      obtain ⟨g7, hF⟩ := gd_some hF
      refine g_irem (Y := YX5_draw) (pc := 41) dX5_draw_41 g7 ?_
      refine g_iadd (Y := YX5_draw) (pc := 42) dX5_draw_42 ?_
      refine g_nm (fun v8 e => ?_)
      replace hF := vl_to e hF; clear e
      refine g_istore (Y := YX5_draw) (pc := 43) (L' := [(5, .int v8), (3, .int v5), (0, .ref q), (4, .int x4)]) dX5_draw_43 (Nat.le_of_ble_eq_true rfl) rfl ?_
      refine g_aload_n (Y := YX5_draw) (pc := 45) 2 dX5_draw_45 rfl ?_
      refine u_getR (Y := YX5_draw) (pc := 46) (j := (q + 1)) dX5_draw_46 fl_X5_9 (or_k hq) (or_r0 hq) ?_
      refine g_iload (Y := YX5_draw) (pc := 49) 0 dX5_draw_49 rfl ?_
      obtain ⟨g9, hF⟩ := gd_some hF
      refine s_iald (Y := YX5_draw) (pc := 51) dX5_draw_51 (or_k1 hq) (or_n1 hq) g9 ?_
      refine g_nm (fun v10 e => ?_)
      replace hF := vl_to e hF; clear e
      refine g_istore (Y := YX5_draw) (pc := 52) (L' := [(6, .int v10), (5, .int v8), (3, .int v5), (0, .ref q), (4, .int x4)]) dX5_draw_52 (Nat.le_of_ble_eq_true rfl) rfl ?_
      refine g_iload (Y := YX5_draw) (pc := 54) 1 dX5_draw_54 rfl ?_
      refine g_istore (Y := YX5_draw) (pc := 56) (L' := [(7, .int v8), (6, .int v10), (5, .int v8), (3, .int v5), (0, .ref q), (4, .int x4)]) dX5_draw_56 (Nat.le_of_ble_eq_true rfl) rfl ?_
      refine g_loc [4, 3, 5, 1, 0] rfl ?_
      exact w_X5_draw_58 hq ih _ _ _ _ _ _ hF
def f_X5_draw_0 (q : Nat) (x1 : Int32) (x2 : Int32) (M : Mem) : Option (Int32 × Mem) :=
  bd (f_X5_begin q x1 M) fun _ M2 =>
  f_X5_draw_10 q FU x2 0 M2
set_option maxRecDepth 100000 in
theorem w_X5_draw_0 {R : Int32} {M' : Mem} {q : Nat} (hq : isOr q) (x1 x2 : Int32) (M : Mem) (hF : f_X5_draw_0 q x1 x2 M = some (R, M')) : RunF l D cy ad none YX5_draw 2 0 0 (some (.int R)) (lay X M') 0 0 0 [(0, .ref q), (1, .int x1), (2, .int x2)] [] (lay X M) := by
  unfold f_X5_draw_0 at hF
  refine g_iload_n (Y := YX5_draw) (pc := 0) 2 dX5_draw_0 rfl ?_
  refine g_istore_n (Y := YX5_draw) (pc := 1) (L' := [(3, .int x2), (0, .ref q), (1, .int x1), (2, .int x2)]) dX5_draw_1 (Nat.le_of_ble_eq_true rfl) rfl ?_
  refine g_aload_n (Y := YX5_draw) (pc := 2) 1 dX5_draw_2 rfl ?_
  refine g_iload_n (Y := YX5_draw) (pc := 3) 2 dX5_draw_3 rfl ?_
  obtain ⟨r1, M2, e3, hF⟩ := bd_some hF
  refine s_callVv (Y := YX5_draw) (pc := 4) (as := [.int x1]) (st := []) (r_X5_begin hq e3) miX5_begin lk_X5_51 dX5_draw_4 (or_k hq) rfl (Nat.le_of_ble_eq_true rfl) (Nat.le_of_ble_eq_true rfl) rfl ?_
  clear e3
  refine g_iconst (Y := YX5_draw) (pc := 7) dX5_draw_7 kI_0 ?_
  refine g_istore (Y := YX5_draw) (pc := 8) (L' := [(4, .int 0), (3, .int x2), (0, .ref q), (1, .int x1), (2, .int x2)]) dX5_draw_8 (Nat.le_of_ble_eq_true rfl) rfl ?_
  refine g_loc [2, 1, 0] rfl ?_
  exact w_X5_draw_10 hq _ _ _ _ hF
def f_X5_draw (q : Nat) (x1 : Int32) (x2 : Int32) (M : Mem) : Option (Int32 × Mem) := f_X5_draw_0 q x1 x2 M
theorem r_X5_draw {q : Nat} {x1 x2 R : Int32} {M M' : Mem} (hq : isOr q) (hF : f_X5_draw q x1 x2 M = some (R, M')) : RunS l D cy ad YX5_draw 2 [.ref q, .int x1, .int x2] X M (some (.int R)) M' := Run.of 2 (miX5_draw).1 (Nat.le_of_ble_eq_true rfl) (w_X5_draw_0 hq _ _ _ hF)
def f_X10_season_19  (M : Mem) : Option (Int32 × Mem) :=
  some ((-1), M)
set_option maxRecDepth 100000 in
theorem w_X10_season_19 {R : Int32} {M' : Mem}  (M : Mem) (hF : f_X10_season_19  M = some (R, M')) : RunF l D cy ad none YX10_season 6 0 0 (some (.int R)) (lay X M') 0 0 19 [] [] (lay X M) := by
  unfold f_X10_season_19 at hF
  refine g_iconst (Y := YX10_season) (pc := 19) dX10_season_19 kI_m1 ?_
  exact s_iret (Y := YX10_season) (pc := 20) dX10_season_20 rfl hF
def f_X10_season_129 (K51 : Int32 → Int32 → Int32 → Int32 → Int32 → Int32 → Int32 → Int32 → Mem → Option (Int32 × Mem)) (x1 : Int32) (x3 : Int32) (x4 : Int32) (x5 : Int32) (x6 : Int32) (x7 : Int32) (x8 : Int32) (x9 : Int32) (M : Mem) : Option (Int32 × Mem) :=
  vl (x9 + 1) fun v30 =>
  K51 x1 x3 x4 x5 x6 x7 x8 v30 M
set_option maxRecDepth 100000 in
theorem w_X10_season_129 {R : Int32} {M' : Mem} {K51 : Int32 → Int32 → Int32 → Int32 → Int32 → Int32 → Int32 → Int32 → Mem → Option (Int32 × Mem)} (hK51 : ∀ (x1 x3 x4 x5 x6 x7 x8 x9 : Int32) (M : Mem), K51 x1 x3 x4 x5 x6 x7 x8 x9 M = some (R, M') → RunF l D cy ad none YX10_season 6 0 0 (some (.int R)) (lay X M') 0 0 51 [(0, .ref 0), (1, .int x1), (3, .int x3), (4, .int x4), (5, .int x5), (6, .int x6), (7, .int x7), (8, .int x8), (9, .int x9)] [] (lay X M)) (x1 x3 x4 x5 x6 x7 x8 x9 : Int32) (M : Mem) (hF : f_X10_season_129 K51 x1 x3 x4 x5 x6 x7 x8 x9 M = some (R, M')) : RunF l D cy ad none YX10_season 6 0 0 (some (.int R)) (lay X M') 0 0 129 [(0, .ref 0), (1, .int x1), (3, .int x3), (4, .int x4), (5, .int x5), (6, .int x6), (7, .int x7), (8, .int x8), (9, .int x9)] [] (lay X M) := by
  unfold f_X10_season_129 at hF
  refine s_iinc (Y := YX10_season) (pc := 129) (j := 8) (L' := fun y => [(9, .int y), (0, .ref 0), (1, .int x1), (3, .int x3), (4, .int x4), (5, .int x5), (6, .int x6), (7, .int x7), (8, .int x8)]) dX10_season_129 kI_1 rfl (Nat.le_of_ble_eq_true rfl) (fun _ => rfl) (fun v30 e => ?_)
  replace hF := vl_to e hF; clear e
  refine g_goto (Y := YX10_season) (pc := 132) (tgt := 51) dX10_season_132 rfl ?_
  refine g_loc [1, 2, 3, 4, 5, 6, 7, 8, 0] rfl ?_
  exact hK51 _ _ _ _ _ _ _ _ _ hF
def f_X10_season_121 (K51 : Int32 → Int32 → Int32 → Int32 → Int32 → Int32 → Int32 → Int32 → Mem → Option (Int32 × Mem)) (x1 : Int32) (x3 : Int32) (x4 : Int32) (x5 : Int32) (x7 : Int32) (x9 : Int32) (x10 : Int32) (M : Mem) : Option (Int32 × Mem) :=
  f_X10_season_129 K51 x1 x3 x4 x5 x10 x7 x9 x9 M
set_option maxRecDepth 100000 in
theorem w_X10_season_121 {R : Int32} {M' : Mem} {K51 : Int32 → Int32 → Int32 → Int32 → Int32 → Int32 → Int32 → Int32 → Mem → Option (Int32 × Mem)} (hK51 : ∀ (x1 x3 x4 x5 x6 x7 x8 x9 : Int32) (M : Mem), K51 x1 x3 x4 x5 x6 x7 x8 x9 M = some (R, M') → RunF l D cy ad none YX10_season 6 0 0 (some (.int R)) (lay X M') 0 0 51 [(0, .ref 0), (1, .int x1), (3, .int x3), (4, .int x4), (5, .int x5), (6, .int x6), (7, .int x7), (8, .int x8), (9, .int x9)] [] (lay X M)) (x1 x3 x4 x5 x7 x9 x10 : Int32) (M : Mem) (hF : f_X10_season_121 K51 x1 x3 x4 x5 x7 x9 x10 M = some (R, M')) : RunF l D cy ad none YX10_season 6 0 0 (some (.int R)) (lay X M') 0 0 121 [(0, .ref 0), (1, .int x1), (3, .int x3), (4, .int x4), (5, .int x5), (7, .int x7), (9, .int x9), (10, .int x10)] [] (lay X M) := by
  unfold f_X10_season_121 at hF
  refine g_iload (Y := YX10_season) (pc := 121) 7 dX10_season_121 rfl ?_
  refine g_istore (Y := YX10_season) (pc := 123) (L' := [(6, .int x10), (0, .ref 0), (1, .int x1), (3, .int x3), (4, .int x4), (5, .int x5), (7, .int x7), (9, .int x9), (10, .int x10)]) dX10_season_123 (Nat.le_of_ble_eq_true rfl) rfl ?_
  refine g_iload (Y := YX10_season) (pc := 125) 7 dX10_season_125 rfl ?_
  refine g_istore (Y := YX10_season) (pc := 127) (L' := [(8, .int x9), (6, .int x10), (0, .ref 0), (1, .int x1), (3, .int x3), (4, .int x4), (5, .int x5), (7, .int x7), (9, .int x9), (10, .int x10)]) dX10_season_127 (Nat.le_of_ble_eq_true rfl) rfl ?_
  refine g_loc [2, 3, 4, 5, 6, 1, 7, 0, 8] rfl ?_
  exact w_X10_season_129 hK51 _ _ _ _ _ _ _ _ _ hF
def f_X10_season_51  : Nat → Int32 → Int32 → Int32 → Int32 → Int32 → Int32 → Int32 → Int32 → Mem → Option (Int32 × Mem)
  | 0, _, _, _, _, _, _, _, _, _ => none
  | n + 1, x1, x3, x4, x5, x6, x7, x8, x9, M =>
    if x9 < x3 then
      bd (f_X5_draw 124 x1 x4 M) fun r23 M24 =>
      bd (f_X9_walk 124 0 400 M24) fun r26 M27 =>
      if r26 = 0 then
        f_X10_season_129 (f_X10_season_51 n) x1 x3 r23 x5 x6 x7 x8 x9 M27
      else
        bd (f_X9_minutesGone M27) fun r31 M32 =>
        vl (x5 + 1) fun v34 =>
        vl ((if x7 < r31 then r31 else x7)) fun v35 =>
        if x6 = (-1) then
          f_X10_season_121 (f_X10_season_51 n) x1 x3 r23 v34 v35 x9 r31 M32
        else
          if r31 < x6 then
            f_X10_season_121 (f_X10_season_51 n) x1 x3 r23 v34 v35 x9 r31 M32
          else
            f_X10_season_129 (f_X10_season_51 n) x1 x3 r23 v34 x6 v35 x8 x9 M32
    else
      bd (f_X10_clearRow M) fun _ M12 =>
      bd (f_X10_tell x6 M12) fun _ M15 =>
      bd (f_X10_tell x7 M15) fun _ M18 =>
      bd (f_X10_tell x8 M18) fun _ M21 =>
      some (x5, M21)
set_option maxRecDepth 100000 in
theorem w_X10_season_51 {R : Int32} {M' : Mem}  : ∀ (n : Nat) (x1 x3 x4 x5 x6 x7 x8 x9 : Int32) (M : Mem), f_X10_season_51 n x1 x3 x4 x5 x6 x7 x8 x9 M = some (R, M') → RunF l D cy ad none YX10_season 6 0 0 (some (.int R)) (lay X M') 0 0 51 [(0, .ref 0), (1, .int x1), (3, .int x3), (4, .int x4), (5, .int x5), (6, .int x6), (7, .int x7), (8, .int x8), (9, .int x9)] [] (lay X M) := by
  intro n
  induction n with
  | zero => intro x1 x3 x4 x5 x6 x7 x8 x9 M hF; exact absurd hF (by unfold f_X10_season_51; exact fun h => nomatch h)
  | succ n ih =>
    intro x1 x3 x4 x5 x6 x7 x8 x9 M hF
    unfold f_X10_season_51 at hF
    refine g_iload (Y := YX10_season) (pc := 51) 8 dX10_season_51 rfl ?_
    refine g_iload_n (Y := YX10_season) (pc := 53) 2 dX10_season_53 rfl ?_
    refine g_icmp_ge (Y := YX10_season) (pc := 54) (tgt := 135) dX10_season_54 rfl (fun c10 => ?_) (fun c10 => ?_)
    · replace hF := if_f c10 hF
      refine g_aload_n (Y := YX10_season) (pc := 135) 0 dX10_season_135 rfl ?_
      obtain ⟨r11, M12, e13, hF⟩ := bd_some hF
      refine s_callVv (Y := YX10_season) (pc := 136) (as := []) (st := []) (r_X10_clearRow  e13) miX10_clearRow lk_X10_246 dX10_season_136 k_0 rfl (Nat.le_of_ble_eq_true rfl) (Nat.le_of_ble_eq_true rfl) rfl ?_
      clear e13
      refine g_aload_n (Y := YX10_season) (pc := 139) 0 dX10_season_139 rfl ?_
      refine g_iload (Y := YX10_season) (pc := 140) 5 dX10_season_140 rfl ?_
      obtain ⟨r14, M15, e16, hF⟩ := bd_some hF
      refine s_callVv (Y := YX10_season) (pc := 142) (as := [.int x6]) (st := []) (r_X10_tell  e16) miX10_tell lk_X10_252 dX10_season_142 k_0 rfl (Nat.le_of_ble_eq_true rfl) (Nat.le_of_ble_eq_true rfl) rfl ?_
      clear e16
      refine g_aload_n (Y := YX10_season) (pc := 145) 0 dX10_season_145 rfl ?_
      refine g_iload (Y := YX10_season) (pc := 146) 6 dX10_season_146 rfl ?_
      obtain ⟨r17, M18, e19, hF⟩ := bd_some hF
      refine s_callVv (Y := YX10_season) (pc := 148) (as := [.int x7]) (st := []) (r_X10_tell  e19) miX10_tell lk_X10_252 dX10_season_148 k_0 rfl (Nat.le_of_ble_eq_true rfl) (Nat.le_of_ble_eq_true rfl) rfl ?_
      clear e19
      refine g_aload_n (Y := YX10_season) (pc := 151) 0 dX10_season_151 rfl ?_
      refine g_iload (Y := YX10_season) (pc := 152) 7 dX10_season_152 rfl ?_
      obtain ⟨r20, M21, e22, hF⟩ := bd_some hF
      refine s_callVv (Y := YX10_season) (pc := 154) (as := [.int x8]) (st := []) (r_X10_tell  e22) miX10_tell lk_X10_252 dX10_season_154 k_0 rfl (Nat.le_of_ble_eq_true rfl) (Nat.le_of_ble_eq_true rfl) rfl ?_
      clear e22
      refine g_iload (Y := YX10_season) (pc := 157) 4 dX10_season_157 rfl ?_
      exact s_iret (Y := YX10_season) (pc := 159) dX10_season_159 rfl hF
    · replace hF := if_t c10 hF
      refine g_aload_n (Y := YX10_season) (pc := 57) 0 dX10_season_57 rfl ?_
      refine u_getR (Y := YX10_season) (pc := 58) (j := 124) dX10_season_58 fl_X10_73 k_0 rf_0_11 ?_
      refine g_iload_n (Y := YX10_season) (pc := 61) 1 dX10_season_61 rfl ?_
      refine g_iload (Y := YX10_season) (pc := 62) 3 dX10_season_62 rfl ?_
      obtain ⟨r23, M24, e25, hF⟩ := bd_some hF
      refine s_callVi (Y := YX10_season) (pc := 64) (as := [.int x1, .int x4]) (st := []) (r_X5_draw (Or.inl rfl) e25) miX5_draw lk_X10_400 dX10_season_64 k_124 rfl (Nat.le_of_ble_eq_true rfl) (Nat.le_of_ble_eq_true rfl) rfl ?_
      clear e25
      refine g_istore (Y := YX10_season) (pc := 67) (L' := [(4, .int r23), (0, .ref 0), (1, .int x1), (3, .int x3), (5, .int x5), (6, .int x6), (7, .int x7), (8, .int x8), (9, .int x9)]) dX10_season_67 (Nat.le_of_ble_eq_true rfl) rfl ?_
      refine g_aload_n (Y := YX10_season) (pc := 69) 1 dX10_season_69 rfl ?_
      refine u_getR (Y := YX10_season) (pc := 70) (j := 128) dX10_season_70 fl_X10_85 k_0 rf_0_13 ?_
      refine g_aload_n (Y := YX10_season) (pc := 73) 1 dX10_season_73 rfl ?_
      refine u_getR (Y := YX10_season) (pc := 74) (j := 124) dX10_season_74 fl_X10_73 k_0 rf_0_11 ?_
      refine g_iconst (Y := YX10_season) (pc := 77) dX10_season_77 kI_0 ?_
      refine g_sipush (Y := YX10_season) (pc := 78) dX10_season_78 kS_400 ?_
      obtain ⟨r26, M27, e28, hF⟩ := bd_some hF
      refine s_callVi (Y := YX10_season) (pc := 81) (as := [.ref 124, .int 0, .int 400]) (st := []) (r_X9_walk (Or.inl rfl) e28) miX9_walk lk_X10_299 dX10_season_81 k_128 rfl (Nat.le_of_ble_eq_true rfl) (Nat.le_of_ble_eq_true rfl) rfl ?_
      clear e28
      refine g_if_eq (Y := YX10_season) (pc := 84) (tgt := 129) dX10_season_84 rfl (fun c29 => ?_) (fun c29 => ?_)
      · replace hF := if_t c29 hF
        refine g_loc [1, 2, 3, 0, 4, 5, 6, 7, 8] rfl ?_
        exact w_X10_season_129 ih _ _ _ _ _ _ _ _ _ hF
      · replace hF := if_f c29 hF
        refine g_aload_n (Y := YX10_season) (pc := 87) 1 dX10_season_87 rfl ?_
        refine u_getR (Y := YX10_season) (pc := 88) (j := 128) dX10_season_88 fl_X10_85 k_0 rf_0_13 ?_
        obtain ⟨r31, M32, e33, hF⟩ := bd_some hF
        refine s_callVi (Y := YX10_season) (pc := 91) (as := []) (st := []) (r_X9_minutesGone  e33) miX9_minutesGone lk_X10_310 dX10_season_91 k_128 rfl (Nat.le_of_ble_eq_true rfl) (Nat.le_of_ble_eq_true rfl) rfl ?_
        clear e33
        refine g_istore (Y := YX10_season) (pc := 94) (L' := [(10, .int r31), (4, .int r23), (0, .ref 0), (1, .int x1), (3, .int x3), (5, .int x5), (6, .int x6), (7, .int x7), (8, .int x8), (9, .int x9)]) dX10_season_94 (Nat.le_of_ble_eq_true rfl) rfl ?_
        refine s_iinc (Y := YX10_season) (pc := 96) (j := 5) (L' := fun y => [(5, .int y), (10, .int r31), (4, .int r23), (0, .ref 0), (1, .int x1), (3, .int x3), (6, .int x6), (7, .int x7), (8, .int x8), (9, .int x9)]) dX10_season_96 kI_1 rfl (Nat.le_of_ble_eq_true rfl) (fun _ => rfl) (fun v34 e => ?_)
        replace hF := vl_to e hF; clear e
        refine g_iload (Y := YX10_season) (pc := 99) 7 dX10_season_99 rfl ?_
        refine g_iload (Y := YX10_season) (pc := 101) 1 dX10_season_101 rfl ?_
        refine s_max (Y := YX10_season) (pc := 103) dX10_season_103 lk_X10_357 w_max (Nat.le_of_ble_eq_true rfl) (Nat.le_of_ble_eq_true rfl) ?_
        refine g_nm (fun v35 e => ?_)
        replace hF := vl_to e hF; clear e
        refine g_istore (Y := YX10_season) (pc := 106) (L' := [(7, .int v35), (5, .int v34), (10, .int r31), (4, .int r23), (0, .ref 0), (1, .int x1), (3, .int x3), (6, .int x6), (8, .int x8), (9, .int x9)]) dX10_season_106 (Nat.le_of_ble_eq_true rfl) rfl ?_
        refine g_iload (Y := YX10_season) (pc := 108) 7 dX10_season_108 rfl ?_
        refine g_iconst (Y := YX10_season) (pc := 110) dX10_season_110 kI_m1 ?_
        refine g_icmp_eq (Y := YX10_season) (pc := 111) (tgt := 121) dX10_season_111 rfl (fun c36 => ?_) (fun c36 => ?_)
        · replace hF := if_t c36 hF
          refine g_loc [4, 5, 6, 3, 1, 0, 9, 2] rfl ?_
          exact w_X10_season_121 ih _ _ _ _ _ _ _ _ hF
        · replace hF := if_f c36 hF
          refine g_iload (Y := YX10_season) (pc := 114) 2 dX10_season_114 rfl ?_
          refine g_iload (Y := YX10_season) (pc := 116) 7 dX10_season_116 rfl ?_
          refine g_icmp_ge (Y := YX10_season) (pc := 118) (tgt := 129) dX10_season_118 rfl (fun c37 => ?_) (fun c37 => ?_)
          · replace hF := if_f c37 hF
            refine g_loc [4, 5, 6, 3, 1, 7, 0, 8, 9] rfl ?_
            exact w_X10_season_129 ih _ _ _ _ _ _ _ _ _ hF
          · replace hF := if_t c37 hF
            refine g_loc [4, 5, 6, 3, 1, 0, 9, 2] rfl ?_
            exact w_X10_season_121 ih _ _ _ _ _ _ _ _ hF
def f_X10_season_0  (x1 : Int32) (x2 : Int32) (x3 : Int32) (M : Mem) : Option (Int32 × Mem) :=
  if x3 < 1 then
    f_X10_season_19 M
  else
    if 20 < x3 then
      f_X10_season_19 M
    else
      bd (f_X10_areOutside x1 M) fun r3 M4 =>
      if r3 = 0 then
        f_X10_season_19 M4
      else
        bd (f_X9_begin 26 0 M4) fun _ M8 =>
        f_X10_season_51 FU x1 x3 x2 0 (-1) (-1) (-1) 0 M8
set_option maxRecDepth 100000 in
theorem w_X10_season_0 {R : Int32} {M' : Mem}  (x1 x2 x3 : Int32) (M : Mem) (hF : f_X10_season_0 x1 x2 x3 M = some (R, M')) : RunF l D cy ad none YX10_season 6 0 0 (some (.int R)) (lay X M') 0 0 0 [(0, .ref 0), (1, .int x1), (2, .int x2), (3, .int x3)] [] (lay X M) := by
  unfold f_X10_season_0 at hF
  refine g_iload_n (Y := YX10_season) (pc := 0) 3 dX10_season_0 rfl ?_
  refine g_iconst (Y := YX10_season) (pc := 1) dX10_season_1 kI_1 ?_
  refine g_icmp_lt (Y := YX10_season) (pc := 2) (tgt := 19) dX10_season_2 rfl (fun c1 => ?_) (fun c1 => ?_)
  · replace hF := if_t c1 hF
    refine g_loc [] rfl ?_
    exact w_X10_season_19  _ hF
  · replace hF := if_f c1 hF
    refine g_iload_n (Y := YX10_season) (pc := 5) 3 dX10_season_5 rfl ?_
    refine g_bipush (Y := YX10_season) (pc := 6) dX10_season_6 kB_20 ?_
    refine g_icmp_gt (Y := YX10_season) (pc := 8) (tgt := 19) dX10_season_8 rfl (fun c2 => ?_) (fun c2 => ?_)
    · replace hF := if_t c2 hF
      refine g_loc [] rfl ?_
      exact w_X10_season_19  _ hF
    · replace hF := if_f c2 hF
      refine g_aload_n (Y := YX10_season) (pc := 11) 0 dX10_season_11 rfl ?_
      refine g_iload_n (Y := YX10_season) (pc := 12) 1 dX10_season_12 rfl ?_
      obtain ⟨r3, M4, e5, hF⟩ := bd_some hF
      refine s_callVi (Y := YX10_season) (pc := 13) (as := [.int x1]) (st := []) (r_X10_areOutside  e5) miX10_areOutside lk_X10_292 dX10_season_13 k_0 rfl (Nat.le_of_ble_eq_true rfl) (Nat.le_of_ble_eq_true rfl) rfl ?_
      clear e5
      refine g_if_ne (Y := YX10_season) (pc := 16) (tgt := 21) dX10_season_16 rfl (fun c6 => ?_) (fun c6 => ?_)
      · replace hF := if_f c6 hF
        refine g_iload_n (Y := YX10_season) (pc := 21) 2 dX10_season_21 rfl ?_
        refine g_istore (Y := YX10_season) (pc := 22) (L' := [(4, .int x2), (0, .ref 0), (1, .int x1), (2, .int x2), (3, .int x3)]) dX10_season_22 (Nat.le_of_ble_eq_true rfl) rfl ?_
        refine g_iconst (Y := YX10_season) (pc := 24) dX10_season_24 kI_0 ?_
        refine g_istore (Y := YX10_season) (pc := 25) (L' := [(5, .int 0), (4, .int x2), (0, .ref 0), (1, .int x1), (2, .int x2), (3, .int x3)]) dX10_season_25 (Nat.le_of_ble_eq_true rfl) rfl ?_
        refine g_iconst (Y := YX10_season) (pc := 27) dX10_season_27 kI_m1 ?_
        refine g_istore (Y := YX10_season) (pc := 28) (L' := [(6, .int (-1)), (5, .int 0), (4, .int x2), (0, .ref 0), (1, .int x1), (2, .int x2), (3, .int x3)]) dX10_season_28 (Nat.le_of_ble_eq_true rfl) rfl ?_
        refine g_iconst (Y := YX10_season) (pc := 30) dX10_season_30 kI_m1 ?_
        refine g_istore (Y := YX10_season) (pc := 31) (L' := [(7, .int (-1)), (6, .int (-1)), (5, .int 0), (4, .int x2), (0, .ref 0), (1, .int x1), (2, .int x2), (3, .int x3)]) dX10_season_31 (Nat.le_of_ble_eq_true rfl) rfl ?_
        refine g_iconst (Y := YX10_season) (pc := 33) dX10_season_33 kI_m1 ?_
        refine g_istore (Y := YX10_season) (pc := 34) (L' := [(8, .int (-1)), (7, .int (-1)), (6, .int (-1)), (5, .int 0), (4, .int x2), (0, .ref 0), (1, .int x1), (2, .int x2), (3, .int x3)]) dX10_season_34 (Nat.le_of_ble_eq_true rfl) rfl ?_
        refine g_aload_n (Y := YX10_season) (pc := 36) 5 dX10_season_36 rfl ?_
        refine u_getR (Y := YX10_season) (pc := 37) (j := 128) dX10_season_37 fl_X10_85 k_0 rf_0_13 ?_
        refine g_aload_n (Y := YX10_season) (pc := 40) 5 dX10_season_40 rfl ?_
        refine u_getR (Y := YX10_season) (pc := 41) (j := 26) dX10_season_41 fl_X10_35 k_0 rf_0_3 ?_
        refine g_iconst (Y := YX10_season) (pc := 44) dX10_season_44 kI_0 ?_
        obtain ⟨r7, M8, e9, hF⟩ := bd_some hF
        refine s_callVv (Y := YX10_season) (pc := 45) (as := [.ref 26, .int 0]) (st := []) (r_X9_begin isSt_26 e9) miX9_begin lk_X10_295 dX10_season_45 k_128 rfl (Nat.le_of_ble_eq_true rfl) (Nat.le_of_ble_eq_true rfl) rfl ?_
        clear e9
        refine g_iconst (Y := YX10_season) (pc := 48) dX10_season_48 kI_0 ?_
        refine g_istore (Y := YX10_season) (pc := 49) (L' := [(9, .int 0), (8, .int (-1)), (7, .int (-1)), (6, .int (-1)), (5, .int 0), (4, .int x2), (0, .ref 0), (1, .int x1), (2, .int x2), (3, .int x3)]) dX10_season_49 (Nat.le_of_ble_eq_true rfl) rfl ?_
        refine g_loc [6, 7, 9, 5, 4, 3, 2, 1, 0] rfl ?_
        exact w_X10_season_51  _ _ _ _ _ _ _ _ _ _ hF
      · replace hF := if_t c6 hF
        refine g_loc [] rfl ?_
        exact w_X10_season_19  _ hF
def f_X10_season (x1 : Int32) (x2 : Int32) (x3 : Int32) (M : Mem) : Option (Int32 × Mem) := f_X10_season_0 x1 x2 x3 M
theorem r_X10_season {x1 x2 x3 R : Int32} {M M' : Mem}  (hF : f_X10_season x1 x2 x3 M = some (R, M')) : RunS l D cy ad YX10_season 6 [.ref 0, .int x1, .int x2, .int x3] X M (some (.int R)) M' := Run.of 3 (miX10_season).1 (Nat.le_of_ble_eq_true rfl) (w_X10_season_0  _ _ _ _ hF)
def f_X10_keep_9  (M : Mem) : Option (Int32 × Mem) :=
  some (0, M)
set_option maxRecDepth 100000 in
theorem w_X10_keep_9 {R : Int32} {M' : Mem}  (M : Mem) (hF : f_X10_keep_9  M = some (R, M')) : RunF l D cy ad none YX10_keep 2 0 0 (some (.int R)) (lay X M') 0 0 9 [] [] (lay X M) := by
  unfold f_X10_keep_9 at hF
  refine g_iconst (Y := YX10_keep) (pc := 9) dX10_keep_9 kI_0 ?_
  exact s_zret (Y := YX10_keep) (pc := 10) dX10_keep_10 rfl (Or.inl rfl) hF
def f_X10_keep_0  (x1 : Int32) (M : Mem) : Option (Int32 × Mem) :=
  if x1 < 0 then
    f_X10_keep_9 M
  else
    if x1 < 2 then
      gd (0 ≤ x1 ∧ x1.toNatClampNeg < 2) <|
      bd (f_X7_copy (110 + 5 * x1.toNatClampNeg) 26 M) fun _ M5 =>
      gd (0 ≤ x1 ∧ x1.toNatClampNeg < 2) <|
      ml (up M5 109 x1.toNatClampNeg (M5 3 2)) fun M8 =>
      some (1, M8)
    else
      f_X10_keep_9 M
set_option maxRecDepth 100000 in
theorem w_X10_keep_0 {R : Int32} {M' : Mem}  (x1 : Int32) (M : Mem) (hF : f_X10_keep_0 x1 M = some (R, M')) : RunF l D cy ad none YX10_keep 2 0 0 (some (.int R)) (lay X M') 0 0 0 [(0, .ref 0), (1, .int x1)] [] (lay X M) := by
  unfold f_X10_keep_0 at hF
  refine g_iload_n (Y := YX10_keep) (pc := 0) 1 dX10_keep_0 rfl ?_
  refine g_if_lt (Y := YX10_keep) (pc := 1) (tgt := 9) dX10_keep_1 rfl (fun c1 => ?_) (fun c1 => ?_)
  · replace hF := if_t c1 hF
    refine g_loc [] rfl ?_
    exact w_X10_keep_9  _ hF
  · replace hF := if_f c1 hF
    refine g_iload_n (Y := YX10_keep) (pc := 4) 1 dX10_keep_4 rfl ?_
    refine g_iconst (Y := YX10_keep) (pc := 5) dX10_keep_5 kI_2 ?_
    refine g_icmp_lt (Y := YX10_keep) (pc := 6) (tgt := 11) dX10_keep_6 rfl (fun c2 => ?_) (fun c2 => ?_)
    · replace hF := if_t c2 hF
      refine g_aload_n (Y := YX10_keep) (pc := 11) 0 dX10_keep_11 rfl ?_
      refine u_getR (Y := YX10_keep) (pc := 12) (j := 108) dX10_keep_12 fl_X10_55 k_0 rf_0_8 ?_
      refine g_iload_n (Y := YX10_keep) (pc := 15) 1 dX10_keep_15 rfl ?_
      obtain ⟨g3, hF⟩ := gd_some hF
      refine s_aaldS (Y := YX10_keep) (pc := 16) dX10_keep_16 k_108 n_108 g3 (kept_r g3.2) ?_
      refine g_aload_n (Y := YX10_keep) (pc := 17) 0 dX10_keep_17 rfl ?_
      refine u_getR (Y := YX10_keep) (pc := 18) (j := 26) dX10_keep_18 fl_X10_35 k_0 rf_0_3 ?_
      obtain ⟨r4, M5, e6, hF⟩ := bd_some hF
      refine s_callVv (Y := YX10_keep) (pc := 21) (as := [.ref 26]) (st := []) (r_X7_copy (kept_all _ g3.2).2 isSt_26 e6) miX7_copy lk_X10_268 dX10_keep_21 (st_k (kept_all _ g3.2).2) rfl (Nat.le_of_ble_eq_true rfl) (Nat.le_of_ble_eq_true rfl) rfl ?_
      clear e6
      refine g_aload_n (Y := YX10_keep) (pc := 24) 0 dX10_keep_24 rfl ?_
      refine u_getR (Y := YX10_keep) (pc := 25) (j := 109) dX10_keep_25 fl_X10_59 k_0 rf_0_9 ?_
      refine g_iload_n (Y := YX10_keep) (pc := 28) 1 dX10_keep_28 rfl ?_
      refine g_aload_n (Y := YX10_keep) (pc := 29) 0 dX10_keep_29 rfl ?_
      refine u_getR (Y := YX10_keep) (pc := 30) (j := 3) dX10_keep_30 fl_X10_19 k_0 rf_0_1 ?_
      refine u_getI (Y := YX10_keep) (pc := 33) dX10_keep_33 fl_X10_129 k_3 ?_
      obtain ⟨g7, hF⟩ := gd_some hF
      refine s_iast (Y := YX10_keep) (pc := 36) dX10_keep_36 k_109 n_109 g7 ?_
      refine g_nmM (fun M8 e => ?_)
      replace hF := ml_to e hF; clear e
      refine g_iconst (Y := YX10_keep) (pc := 37) dX10_keep_37 kI_1 ?_
      exact s_zret (Y := YX10_keep) (pc := 38) dX10_keep_38 rfl (Or.inr rfl) hF
    · replace hF := if_f c2 hF
      refine g_loc [] rfl ?_
      exact w_X10_keep_9  _ hF
def f_X10_keep (x1 : Int32) (M : Mem) : Option (Int32 × Mem) := f_X10_keep_0 x1 M
theorem r_X10_keep {x1 R : Int32} {M M' : Mem}  (hF : f_X10_keep x1 M = some (R, M')) : RunS l D cy ad YX10_keep 2 [.ref 0, .int x1] X M (some (.int R)) M' := Run.of 1 (miX10_keep).1 (Nat.le_of_ble_eq_true rfl) (w_X10_keep_0  _ _ hF)
def f_X10_again_25  (M : Mem) : Option (Int32 × Mem) :=
  some (0, M)
set_option maxRecDepth 100000 in
theorem w_X10_again_25 {R : Int32} {M' : Mem}  (M : Mem) (hF : f_X10_again_25  M = some (R, M')) : RunF l D cy ad none YX10_again 2 0 0 (some (.int R)) (lay X M') 0 0 25 [] [] (lay X M) := by
  unfold f_X10_again_25 at hF
  refine g_iconst (Y := YX10_again) (pc := 25) dX10_again_25 kI_0 ?_
  exact s_zret (Y := YX10_again) (pc := 26) dX10_again_26 rfl (Or.inl rfl) hF
def f_X10_again_0  (x1 : Int32) (M : Mem) : Option (Int32 × Mem) :=
  if x1 < 0 then
    f_X10_again_25 M
  else
    if x1 < 2 then
      gd (0 ≤ x1 ∧ x1.toNatClampNeg < 2) <|
      if (M 109 x1.toNatClampNeg) = (M 3 2) then
        gd (0 ≤ x1 ∧ x1.toNatClampNeg < 2) <|
        bd (f_X7_copy 26 (110 + 5 * x1.toNatClampNeg) M) fun _ M7 =>
        bd (f_X6_clear M7) fun _ M10 =>
        some (1, M10)
      else
        f_X10_again_25 M
    else
      f_X10_again_25 M
set_option maxRecDepth 100000 in
theorem w_X10_again_0 {R : Int32} {M' : Mem}  (x1 : Int32) (M : Mem) (hF : f_X10_again_0 x1 M = some (R, M')) : RunF l D cy ad none YX10_again 2 0 0 (some (.int R)) (lay X M') 0 0 0 [(0, .ref 0), (1, .int x1)] [] (lay X M) := by
  unfold f_X10_again_0 at hF
  refine g_iload_n (Y := YX10_again) (pc := 0) 1 dX10_again_0 rfl ?_
  refine g_if_lt (Y := YX10_again) (pc := 1) (tgt := 25) dX10_again_1 rfl (fun c1 => ?_) (fun c1 => ?_)
  · replace hF := if_t c1 hF
    refine g_loc [] rfl ?_
    exact w_X10_again_25  _ hF
  · replace hF := if_f c1 hF
    refine g_iload_n (Y := YX10_again) (pc := 4) 1 dX10_again_4 rfl ?_
    refine g_iconst (Y := YX10_again) (pc := 5) dX10_again_5 kI_2 ?_
    refine g_icmp_ge (Y := YX10_again) (pc := 6) (tgt := 25) dX10_again_6 rfl (fun c2 => ?_) (fun c2 => ?_)
    · replace hF := if_f c2 hF
      refine g_loc [] rfl ?_
      exact w_X10_again_25  _ hF
    · replace hF := if_t c2 hF
      refine g_aload_n (Y := YX10_again) (pc := 9) 0 dX10_again_9 rfl ?_
      refine u_getR (Y := YX10_again) (pc := 10) (j := 109) dX10_again_10 fl_X10_59 k_0 rf_0_9 ?_
      refine g_iload_n (Y := YX10_again) (pc := 13) 1 dX10_again_13 rfl ?_
      obtain ⟨g3, hF⟩ := gd_some hF
      refine s_iald (Y := YX10_again) (pc := 14) dX10_again_14 k_109 n_109 g3 ?_
      refine g_aload_n (Y := YX10_again) (pc := 15) 0 dX10_again_15 rfl ?_
      refine u_getR (Y := YX10_again) (pc := 16) (j := 3) dX10_again_16 fl_X10_19 k_0 rf_0_1 ?_
      refine u_getI (Y := YX10_again) (pc := 19) dX10_again_19 fl_X10_129 k_3 ?_
      refine g_icmp_eq (Y := YX10_again) (pc := 22) (tgt := 27) dX10_again_22 rfl (fun c4 => ?_) (fun c4 => ?_)
      · replace hF := if_t c4 hF
        refine g_aload_n (Y := YX10_again) (pc := 27) 0 dX10_again_27 rfl ?_
        refine u_getR (Y := YX10_again) (pc := 28) (j := 26) dX10_again_28 fl_X10_35 k_0 rf_0_3 ?_
        refine g_aload_n (Y := YX10_again) (pc := 31) 0 dX10_again_31 rfl ?_
        refine u_getR (Y := YX10_again) (pc := 32) (j := 108) dX10_again_32 fl_X10_55 k_0 rf_0_8 ?_
        refine g_iload_n (Y := YX10_again) (pc := 35) 1 dX10_again_35 rfl ?_
        obtain ⟨g5, hF⟩ := gd_some hF
        refine s_aaldS (Y := YX10_again) (pc := 36) dX10_again_36 k_108 n_108 g5 (kept_r g5.2) ?_
        obtain ⟨r6, M7, e8, hF⟩ := bd_some hF
        refine s_callVv (Y := YX10_again) (pc := 37) (as := [.ref (110 + 5 * x1.toNatClampNeg)]) (st := []) (r_X7_copy isSt_26 (kept_all _ g5.2).2 e8) miX7_copy lk_X10_268 dX10_again_37 k_26 rfl (Nat.le_of_ble_eq_true rfl) (Nat.le_of_ble_eq_true rfl) rfl ?_
        clear e8
        refine g_aload_n (Y := YX10_again) (pc := 40) 0 dX10_again_40 rfl ?_
        refine u_getR (Y := YX10_again) (pc := 41) (j := 46) dX10_again_41 fl_X10_51 k_0 rf_0_7 ?_
        obtain ⟨r9, M10, e11, hF⟩ := bd_some hF
        refine s_callVv (Y := YX10_again) (pc := 44) (as := []) (st := []) (r_X6_clear  e11) miX6_clear lk_X10_135 dX10_again_44 k_46 rfl (Nat.le_of_ble_eq_true rfl) (Nat.le_of_ble_eq_true rfl) rfl ?_
        clear e11
        refine g_iconst (Y := YX10_again) (pc := 47) dX10_again_47 kI_1 ?_
        exact s_zret (Y := YX10_again) (pc := 48) dX10_again_48 rfl (Or.inr rfl) hF
      · replace hF := if_f c4 hF
        refine g_loc [] rfl ?_
        exact w_X10_again_25  _ hF
def f_X10_again (x1 : Int32) (M : Mem) : Option (Int32 × Mem) := f_X10_again_0 x1 M
theorem r_X10_again {x1 R : Int32} {M M' : Mem}  (hF : f_X10_again x1 M = some (R, M')) : RunS l D cy ad YX10_again 2 [.ref 0, .int x1] X M (some (.int R)) M' := Run.of 1 (miX10_again).1 (Nat.le_of_ble_eq_true rfl) (w_X10_again_0  _ _ hF)
def f_X10_count_0  (x1 : Int32) (M : Mem) : Option (Int32 × Mem) :=
  if x1 = 0 then
    some ((M 3 0), M)
  else
    if x1 = 1 then
      some ((M 3 2), M)
    else
      if x1 = 2 then
        some ((M 26 0), M)
      else
        if x1 = 3 then
          bd (f_X1_everybody M) fun r5 M6 =>
          bd (f_X7_bitsInside 26 M6) fun r8 M9 =>
          bd (f_X7_bitsThrough 26 M9) fun r11 M12 =>
          some (((r5 &&& (r8 ^^^ (-1))) &&& (r11 ^^^ (-1))), M12)
        else
          if x1 = 4 then
            bd (f_X7_bitsInside 26 M) fun r15 M16 =>
            some (r15, M16)
          else
            if x1 = 5 then
              bd (f_X7_bitsThrough 26 M) fun r19 M20 =>
              some (r19, M20)
            else
              if x1 = 6 then
                bd (f_X1_everybody M) fun r23 M24 =>
                bd (f_X7_waitedBy 26 r23 M24) fun r26 M27 =>
                some (r26, M27)
              else
                if x1 = 7 then
                  some ((M 120 3), M)
                else
                  if x1 = 8 then
                    some ((M 46 2), M)
                  else
                    if x1 = 9 then
                      some ((M 0 16), M)
                    else
                      if x1 = 10 then
                        some ((M 1 1), M)
                      else
                        some ((-1), M)
set_option maxRecDepth 100000 in
theorem w_X10_count_0 {R : Int32} {M' : Mem}  (x1 : Int32) (M : Mem) (hF : f_X10_count_0 x1 M = some (R, M')) : RunF l D cy ad none YX10_count 2 0 0 (some (.int R)) (lay X M') 0 0 0 [(0, .ref 0), (1, .int x1)] [] (lay X M) := by
  unfold f_X10_count_0 at hF
  refine g_iload_n (Y := YX10_count) (pc := 0) 1 dX10_count_0 rfl ?_
  by_cases c1 : x1 = 0
  · replace hF := if_t c1 hF
    refine g_tableIn (Y := YX10_count) (pc := 1) (tgt := 60) dX10_count_1 (by rw [c1]; decide) (by rw [c1]; decide) (off := 59) (by rw [c1]; decide) (by decide) ?_
    refine g_aload_n (Y := YX10_count) (pc := 60) 0 dX10_count_60 rfl ?_
    refine u_getR (Y := YX10_count) (pc := 61) (j := 3) dX10_count_61 fl_X10_19 k_0 rf_0_1 ?_
    refine u_getI (Y := YX10_count) (pc := 64) dX10_count_64 fl_X10_123 k_3 ?_
    exact s_iret (Y := YX10_count) (pc := 67) dX10_count_67 rfl hF
  replace hF := if_f c1 hF
  by_cases c2 : x1 = 1
  · replace hF := if_t c2 hF
    refine g_tableIn (Y := YX10_count) (pc := 1) (tgt := 68) dX10_count_1 (by rw [c2]; decide) (by rw [c2]; decide) (off := 67) (by rw [c2]; decide) (by decide) ?_
    refine g_aload_n (Y := YX10_count) (pc := 68) 0 dX10_count_68 rfl ?_
    refine u_getR (Y := YX10_count) (pc := 69) (j := 3) dX10_count_69 fl_X10_19 k_0 rf_0_1 ?_
    refine u_getI (Y := YX10_count) (pc := 72) dX10_count_72 fl_X10_129 k_3 ?_
    exact s_iret (Y := YX10_count) (pc := 75) dX10_count_75 rfl hF
  replace hF := if_f c2 hF
  by_cases c3 : x1 = 2
  · replace hF := if_t c3 hF
    refine g_tableIn (Y := YX10_count) (pc := 1) (tgt := 76) dX10_count_1 (by rw [c3]; decide) (by rw [c3]; decide) (off := 75) (by rw [c3]; decide) (by decide) ?_
    refine g_aload_n (Y := YX10_count) (pc := 76) 0 dX10_count_76 rfl ?_
    refine u_getR (Y := YX10_count) (pc := 77) (j := 26) dX10_count_77 fl_X10_35 k_0 rf_0_3 ?_
    refine u_getI (Y := YX10_count) (pc := 80) dX10_count_80 fl_X10_237 k_26 ?_
    exact s_iret (Y := YX10_count) (pc := 83) dX10_count_83 rfl hF
  replace hF := if_f c3 hF
  by_cases c4 : x1 = 3
  · replace hF := if_t c4 hF
    refine g_tableIn (Y := YX10_count) (pc := 1) (tgt := 84) dX10_count_1 (by rw [c4]; decide) (by rw [c4]; decide) (off := 83) (by rw [c4]; decide) (by decide) ?_
    refine g_aload_n (Y := YX10_count) (pc := 84) 0 dX10_count_84 rfl ?_
    refine u_getR (Y := YX10_count) (pc := 85) (j := 3) dX10_count_85 fl_X10_19 k_0 rf_0_1 ?_
    obtain ⟨r5, M6, e7, hF⟩ := bd_some hF
    refine s_callVi (Y := YX10_count) (pc := 88) (as := []) (st := []) (r_X1_everybody  e7) miX1_everybody lk_X10_194 dX10_count_88 k_3 rfl (Nat.le_of_ble_eq_true rfl) (Nat.le_of_ble_eq_true rfl) rfl ?_
    clear e7
    refine g_aload_n (Y := YX10_count) (pc := 91) 0 dX10_count_91 rfl ?_
    refine u_getR (Y := YX10_count) (pc := 92) (j := 26) dX10_count_92 fl_X10_35 k_0 rf_0_3 ?_
    obtain ⟨r8, M9, e10, hF⟩ := bd_some hF
    refine s_callVi (Y := YX10_count) (pc := 95) (as := []) (st := [.int r5]) (r_X7_bitsInside isSt_26 e10) miX7_bitsInside lk_X10_222 dX10_count_95 k_26 rfl (Nat.le_of_ble_eq_true rfl) (Nat.le_of_ble_eq_true rfl) rfl ?_
    clear e10
    refine g_iconst (Y := YX10_count) (pc := 98) dX10_count_98 kI_m1 ?_
    refine g_ixor (Y := YX10_count) (pc := 99) dX10_count_99 ?_
    refine g_iand (Y := YX10_count) (pc := 100) dX10_count_100 ?_
    refine g_aload_n (Y := YX10_count) (pc := 101) 0 dX10_count_101 rfl ?_
    refine u_getR (Y := YX10_count) (pc := 102) (j := 26) dX10_count_102 fl_X10_35 k_0 rf_0_3 ?_
    obtain ⟨r11, M12, e13, hF⟩ := bd_some hF
    refine s_callVi (Y := YX10_count) (pc := 105) (as := []) (st := [.int (r5 &&& (r8 ^^^ (-1)))]) (r_X7_bitsThrough isSt_26 e13) miX7_bitsThrough lk_X10_240 dX10_count_105 k_26 rfl (Nat.le_of_ble_eq_true rfl) (Nat.le_of_ble_eq_true rfl) rfl ?_
    clear e13
    refine g_iconst (Y := YX10_count) (pc := 108) dX10_count_108 kI_m1 ?_
    refine g_ixor (Y := YX10_count) (pc := 109) dX10_count_109 ?_
    refine g_iand (Y := YX10_count) (pc := 110) dX10_count_110 ?_
    exact s_iret (Y := YX10_count) (pc := 111) dX10_count_111 rfl hF
  replace hF := if_f c4 hF
  by_cases c14 : x1 = 4
  · replace hF := if_t c14 hF
    refine g_tableIn (Y := YX10_count) (pc := 1) (tgt := 112) dX10_count_1 (by rw [c14]; decide) (by rw [c14]; decide) (off := 111) (by rw [c14]; decide) (by decide) ?_
    refine g_aload_n (Y := YX10_count) (pc := 112) 0 dX10_count_112 rfl ?_
    refine u_getR (Y := YX10_count) (pc := 113) (j := 26) dX10_count_113 fl_X10_35 k_0 rf_0_3 ?_
    obtain ⟨r15, M16, e17, hF⟩ := bd_some hF
    refine s_callVi (Y := YX10_count) (pc := 116) (as := []) (st := []) (r_X7_bitsInside isSt_26 e17) miX7_bitsInside lk_X10_222 dX10_count_116 k_26 rfl (Nat.le_of_ble_eq_true rfl) (Nat.le_of_ble_eq_true rfl) rfl ?_
    clear e17
    exact s_iret (Y := YX10_count) (pc := 119) dX10_count_119 rfl hF
  replace hF := if_f c14 hF
  by_cases c18 : x1 = 5
  · replace hF := if_t c18 hF
    refine g_tableIn (Y := YX10_count) (pc := 1) (tgt := 120) dX10_count_1 (by rw [c18]; decide) (by rw [c18]; decide) (off := 119) (by rw [c18]; decide) (by decide) ?_
    refine g_aload_n (Y := YX10_count) (pc := 120) 0 dX10_count_120 rfl ?_
    refine u_getR (Y := YX10_count) (pc := 121) (j := 26) dX10_count_121 fl_X10_35 k_0 rf_0_3 ?_
    obtain ⟨r19, M20, e21, hF⟩ := bd_some hF
    refine s_callVi (Y := YX10_count) (pc := 124) (as := []) (st := []) (r_X7_bitsThrough isSt_26 e21) miX7_bitsThrough lk_X10_240 dX10_count_124 k_26 rfl (Nat.le_of_ble_eq_true rfl) (Nat.le_of_ble_eq_true rfl) rfl ?_
    clear e21
    exact s_iret (Y := YX10_count) (pc := 127) dX10_count_127 rfl hF
  replace hF := if_f c18 hF
  by_cases c22 : x1 = 6
  · replace hF := if_t c22 hF
    refine g_tableIn (Y := YX10_count) (pc := 1) (tgt := 128) dX10_count_1 (by rw [c22]; decide) (by rw [c22]; decide) (off := 127) (by rw [c22]; decide) (by decide) ?_
    refine g_aload_n (Y := YX10_count) (pc := 128) 0 dX10_count_128 rfl ?_
    refine u_getR (Y := YX10_count) (pc := 129) (j := 26) dX10_count_129 fl_X10_35 k_0 rf_0_3 ?_
    refine g_aload_n (Y := YX10_count) (pc := 132) 0 dX10_count_132 rfl ?_
    refine u_getR (Y := YX10_count) (pc := 133) (j := 3) dX10_count_133 fl_X10_19 k_0 rf_0_1 ?_
    obtain ⟨r23, M24, e25, hF⟩ := bd_some hF
    refine s_callVi (Y := YX10_count) (pc := 136) (as := []) (st := [.ref 26]) (r_X1_everybody  e25) miX1_everybody lk_X10_194 dX10_count_136 k_3 rfl (Nat.le_of_ble_eq_true rfl) (Nat.le_of_ble_eq_true rfl) rfl ?_
    clear e25
    obtain ⟨r26, M27, e28, hF⟩ := bd_some hF
    refine s_callVi (Y := YX10_count) (pc := 139) (as := [.int r23]) (st := []) (r_X7_waitedBy isSt_26 e28) miX7_waitedBy lk_X10_259 dX10_count_139 k_26 rfl (Nat.le_of_ble_eq_true rfl) (Nat.le_of_ble_eq_true rfl) rfl ?_
    clear e28
    exact s_iret (Y := YX10_count) (pc := 142) dX10_count_142 rfl hF
  replace hF := if_f c22 hF
  by_cases c29 : x1 = 7
  · replace hF := if_t c29 hF
    refine g_tableIn (Y := YX10_count) (pc := 1) (tgt := 143) dX10_count_1 (by rw [c29]; decide) (by rw [c29]; decide) (off := 142) (by rw [c29]; decide) (by decide) ?_
    refine g_aload_n (Y := YX10_count) (pc := 143) 0 dX10_count_143 rfl ?_
    refine u_getR (Y := YX10_count) (pc := 144) (j := 120) dX10_count_144 fl_X10_66 k_0 rf_0_10 ?_
    refine u_getI (Y := YX10_count) (pc := 147) dX10_count_147 fl_X10_396 k_120 ?_
    exact s_iret (Y := YX10_count) (pc := 150) dX10_count_150 rfl hF
  replace hF := if_f c29 hF
  by_cases c30 : x1 = 8
  · replace hF := if_t c30 hF
    refine g_tableIn (Y := YX10_count) (pc := 1) (tgt := 151) dX10_count_1 (by rw [c30]; decide) (by rw [c30]; decide) (off := 150) (by rw [c30]; decide) (by decide) ?_
    refine g_aload_n (Y := YX10_count) (pc := 151) 0 dX10_count_151 rfl ?_
    refine u_getR (Y := YX10_count) (pc := 152) (j := 46) dX10_count_152 fl_X10_51 k_0 rf_0_7 ?_
    refine u_getI (Y := YX10_count) (pc := 155) dX10_count_155 fl_X10_277 k_46 ?_
    exact s_iret (Y := YX10_count) (pc := 158) dX10_count_158 rfl hF
  replace hF := if_f c30 hF
  by_cases c31 : x1 = 9
  · replace hF := if_t c31 hF
    refine g_tableIn (Y := YX10_count) (pc := 1) (tgt := 159) dX10_count_1 (by rw [c31]; decide) (by rw [c31]; decide) (off := 158) (by rw [c31]; decide) (by decide) ?_
    refine g_aload_n (Y := YX10_count) (pc := 159) 0 dX10_count_159 rfl ?_
    refine u_getI (Y := YX10_count) (pc := 160) dX10_count_160 fl_X10_101 k_0 ?_
    exact s_iret (Y := YX10_count) (pc := 163) dX10_count_163 rfl hF
  replace hF := if_f c31 hF
  by_cases c32 : x1 = 10
  · replace hF := if_t c32 hF
    refine g_tableIn (Y := YX10_count) (pc := 1) (tgt := 164) dX10_count_1 (by rw [c32]; decide) (by rw [c32]; decide) (off := 163) (by rw [c32]; decide) (by decide) ?_
    refine g_aload_n (Y := YX10_count) (pc := 164) 0 dX10_count_164 rfl ?_
    refine u_getR (Y := YX10_count) (pc := 165) (j := 1) dX10_count_165 fl_X10_10 k_0 rf_0_0 ?_
    refine u_getI (Y := YX10_count) (pc := 168) dX10_count_168 fl_X10_120 k_1 ?_
    exact s_iret (Y := YX10_count) (pc := 171) dX10_count_171 rfl hF
  replace hF := if_f c32 hF
  refine g_tableOut (Y := YX10_count) (pc := 1) (tgt := 172) dX10_count_1 (tb_out (lo := 0) (hi := 10) (by decide) (fun k h8 hk => by match k, h8, hk with | 0, _, _ => exact c1 | 1, _, _ => exact c2 | 2, _, _ => exact c3 | 3, _, _ => exact c4 | 4, _, _ => exact c14 | 5, _, _ => exact c18 | 6, _, _ => exact c22 | 7, _, _ => exact c29 | 8, _, _ => exact c30 | 9, _, _ => exact c31 | 10, _, _ => exact c32 | k + 11, _, h9 => exact absurd h9 (by omega))) (by decide) ?_
  refine g_iconst (Y := YX10_count) (pc := 172) dX10_count_172 kI_m1 ?_
  exact s_iret (Y := YX10_count) (pc := 173) dX10_count_173 rfl hF
def f_X10_count (x1 : Int32) (M : Mem) : Option (Int32 × Mem) := f_X10_count_0 x1 M
theorem r_X10_count {x1 R : Int32} {M M' : Mem}  (hF : f_X10_count x1 M = some (R, M')) : RunS l D cy ad YX10_count 2 [.ref 0, .int x1] X M (some (.int R)) M' := Run.of 1 (miX10_count).1 (Nat.le_of_ble_eq_true rfl) (w_X10_count_0  _ _ hF)
end NXG
