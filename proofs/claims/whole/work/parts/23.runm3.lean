theorem dX11_gapOf_0 : decode cX11_gapOf 0 = .ok (.iconst 0, 1) := by decide +kernel
theorem dX11_gapOf_1 : decode cX11_gapOf 1 = .ok (.istore_n 3, 1) := by decide +kernel
theorem dX11_gapOf_2 : decode cX11_gapOf 2 = .ok (.iconst 0, 1) := by decide +kernel
theorem dX11_gapOf_3 : decode cX11_gapOf 3 = .ok (.istore 4, 2) := by decide +kernel
theorem dX11_gapOf_5 : decode cX11_gapOf 5 = .ok (.iconst 0, 1) := by decide +kernel
theorem dX11_gapOf_6 : decode cX11_gapOf 6 = .ok (.istore 5, 2) := by decide +kernel
theorem dX11_gapOf_8 : decode cX11_gapOf 8 = .ok (.aload_n 0, 1) := by decide +kernel
theorem dX11_gapOf_9 : decode cX11_gapOf 9 = .ok (.iload_n 1, 1) := by decide +kernel
theorem dX11_gapOf_10 : decode cX11_gapOf 10 = .ok (.invokevirtual 246, 3) := by decide +kernel
theorem dX11_gapOf_13 : decode cX11_gapOf 13 = .ok (.istore 6, 2) := by decide +kernel
theorem dX11_gapOf_15 : decode cX11_gapOf 15 = .ok (.iload 6, 2) := by decide +kernel
theorem dX11_gapOf_17 : decode cX11_gapOf 17 = .ok (.bipush 9, 2) := by decide +kernel
theorem dX11_gapOf_19 : decode cX11_gapOf 19 = .ok (.if_icmp .eq 69, 3) := by decide +kernel
theorem dX11_gapOf_22 : decode cX11_gapOf 22 = .ok (.iload 4, 2) := by decide +kernel
theorem dX11_gapOf_24 : decode cX11_gapOf 24 = .ok (.aload_n 0, 1) := by decide +kernel
theorem dX11_gapOf_25 : decode cX11_gapOf 25 = .ok (.getfield 48, 3) := by decide +kernel
theorem dX11_gapOf_28 : decode cX11_gapOf 28 = .ok (.bipush 6, 2) := by decide +kernel
theorem dX11_gapOf_30 : decode cX11_gapOf 30 = .ok (.iload_n 1, 1) := by decide +kernel
theorem dX11_gapOf_31 : decode cX11_gapOf 31 = .ok (.imul, 1) := by decide +kernel
theorem dX11_gapOf_32 : decode cX11_gapOf 32 = .ok (.iload 6, 2) := by decide +kernel
theorem dX11_gapOf_34 : decode cX11_gapOf 34 = .ok (.iadd, 1) := by decide +kernel
theorem dX11_gapOf_35 : decode cX11_gapOf 35 = .ok (.iaload, 1) := by decide +kernel
theorem dX11_gapOf_36 : decode cX11_gapOf 36 = .ok (.iadd, 1) := by decide +kernel
theorem dX11_gapOf_37 : decode cX11_gapOf 37 = .ok (.istore 4, 2) := by decide +kernel
theorem dX11_gapOf_39 : decode cX11_gapOf 39 = .ok (.aload_n 0, 1) := by decide +kernel
theorem dX11_gapOf_40 : decode cX11_gapOf 40 = .ok (.getfield 13, 3) := by decide +kernel
theorem dX11_gapOf_43 : decode cX11_gapOf 43 = .ok (.iload 6, 2) := by decide +kernel
theorem dX11_gapOf_45 : decode cX11_gapOf 45 = .ok (.baload, 1) := by decide +kernel
theorem dX11_gapOf_46 : decode cX11_gapOf 46 = .ok (.ifCond .ne 13, 3) := by decide +kernel
theorem dX11_gapOf_49 : decode cX11_gapOf 49 = .ok (.iload_n 3, 1) := by decide +kernel
theorem dX11_gapOf_50 : decode cX11_gapOf 50 = .ok (.iload 4, 2) := by decide +kernel
theorem dX11_gapOf_52 : decode cX11_gapOf 52 = .ok (.iload 5, 2) := by decide +kernel
theorem dX11_gapOf_54 : decode cX11_gapOf 54 = .ok (.isub, 1) := by decide +kernel
theorem dX11_gapOf_55 : decode cX11_gapOf 55 = .ok (.invokestatic 218, 3) := by decide +kernel
theorem dX11_gapOf_58 : decode cX11_gapOf 58 = .ok (.istore_n 3, 1) := by decide +kernel
theorem dX11_gapOf_59 : decode cX11_gapOf 59 = .ok (.iload 5, 2) := by decide +kernel
theorem dX11_gapOf_61 : decode cX11_gapOf 61 = .ok (.aload_n 0, 1) := by decide +kernel
theorem dX11_gapOf_62 : decode cX11_gapOf 62 = .ok (.getfield 48, 3) := by decide +kernel
theorem dX11_gapOf_65 : decode cX11_gapOf 65 = .ok (.bipush 6, 2) := by decide +kernel
theorem dX11_gapOf_67 : decode cX11_gapOf 67 = .ok (.iload_n 2, 1) := by decide +kernel
theorem dX11_gapOf_68 : decode cX11_gapOf 68 = .ok (.imul, 1) := by decide +kernel
theorem dX11_gapOf_69 : decode cX11_gapOf 69 = .ok (.iload 6, 2) := by decide +kernel
theorem dX11_gapOf_71 : decode cX11_gapOf 71 = .ok (.iadd, 1) := by decide +kernel
theorem dX11_gapOf_72 : decode cX11_gapOf 72 = .ok (.iaload, 1) := by decide +kernel
theorem dX11_gapOf_73 : decode cX11_gapOf 73 = .ok (.iadd, 1) := by decide +kernel
theorem dX11_gapOf_74 : decode cX11_gapOf 74 = .ok (.istore 5, 2) := by decide +kernel
theorem dX11_gapOf_76 : decode cX11_gapOf 76 = .ok (.aload_n 0, 1) := by decide +kernel
theorem dX11_gapOf_77 : decode cX11_gapOf 77 = .ok (.iload_n 1, 1) := by decide +kernel
theorem dX11_gapOf_78 : decode cX11_gapOf 78 = .ok (.iload 6, 2) := by decide +kernel
theorem dX11_gapOf_80 : decode cX11_gapOf 80 = .ok (.invokevirtual 252, 3) := by decide +kernel
theorem dX11_gapOf_83 : decode cX11_gapOf 83 = .ok (.istore 6, 2) := by decide +kernel
theorem dX11_gapOf_85 : decode cX11_gapOf 85 = .ok (.goto (-70), 3) := by decide +kernel
theorem dX11_gapOf_88 : decode cX11_gapOf 88 = .ok (.aload_n 0, 1) := by decide +kernel
theorem dX11_gapOf_89 : decode cX11_gapOf 89 = .ok (.iconst (-1), 1) := by decide +kernel
theorem dX11_gapOf_90 : decode cX11_gapOf 90 = .ok (.putfield 357, 3) := by decide +kernel
theorem dX11_gapOf_93 : decode cX11_gapOf 93 = .ok (.iconst 0, 1) := by decide +kernel
theorem dX11_gapOf_94 : decode cX11_gapOf 94 = .ok (.istore 4, 2) := by decide +kernel
theorem dX11_gapOf_96 : decode cX11_gapOf 96 = .ok (.iconst 0, 1) := by decide +kernel
theorem dX11_gapOf_97 : decode cX11_gapOf 97 = .ok (.istore 5, 2) := by decide +kernel
theorem dX11_gapOf_99 : decode cX11_gapOf 99 = .ok (.aload_n 0, 1) := by decide +kernel
theorem dX11_gapOf_100 : decode cX11_gapOf 100 = .ok (.iload_n 1, 1) := by decide +kernel
theorem dX11_gapOf_101 : decode cX11_gapOf 101 = .ok (.invokevirtual 246, 3) := by decide +kernel
theorem dX11_gapOf_104 : decode cX11_gapOf 104 = .ok (.istore 6, 2) := by decide +kernel
theorem dX11_gapOf_106 : decode cX11_gapOf 106 = .ok (.iload 6, 2) := by decide +kernel
theorem dX11_gapOf_108 : decode cX11_gapOf 108 = .ok (.bipush 9, 2) := by decide +kernel
theorem dX11_gapOf_110 : decode cX11_gapOf 110 = .ok (.if_icmp .eq 82, 3) := by decide +kernel
theorem dX11_gapOf_113 : decode cX11_gapOf 113 = .ok (.iload 4, 2) := by decide +kernel
theorem dX11_gapOf_115 : decode cX11_gapOf 115 = .ok (.aload_n 0, 1) := by decide +kernel
theorem dX11_gapOf_116 : decode cX11_gapOf 116 = .ok (.getfield 48, 3) := by decide +kernel
theorem dX11_gapOf_119 : decode cX11_gapOf 119 = .ok (.bipush 6, 2) := by decide +kernel
theorem dX11_gapOf_121 : decode cX11_gapOf 121 = .ok (.iload_n 1, 1) := by decide +kernel
theorem dX11_gapOf_122 : decode cX11_gapOf 122 = .ok (.imul, 1) := by decide +kernel
theorem dX11_gapOf_123 : decode cX11_gapOf 123 = .ok (.iload 6, 2) := by decide +kernel
theorem dX11_gapOf_125 : decode cX11_gapOf 125 = .ok (.iadd, 1) := by decide +kernel
theorem dX11_gapOf_126 : decode cX11_gapOf 126 = .ok (.iaload, 1) := by decide +kernel
theorem dX11_gapOf_127 : decode cX11_gapOf 127 = .ok (.iadd, 1) := by decide +kernel
theorem dX11_gapOf_128 : decode cX11_gapOf 128 = .ok (.istore 4, 2) := by decide +kernel
theorem dX11_gapOf_130 : decode cX11_gapOf 130 = .ok (.aload_n 0, 1) := by decide +kernel
theorem dX11_gapOf_131 : decode cX11_gapOf 131 = .ok (.getfield 13, 3) := by decide +kernel
theorem dX11_gapOf_134 : decode cX11_gapOf 134 = .ok (.iload 6, 2) := by decide +kernel
theorem dX11_gapOf_136 : decode cX11_gapOf 136 = .ok (.baload, 1) := by decide +kernel
theorem dX11_gapOf_137 : decode cX11_gapOf 137 = .ok (.ifCond .ne 26, 3) := by decide +kernel
theorem dX11_gapOf_140 : decode cX11_gapOf 140 = .ok (.aload_n 0, 1) := by decide +kernel
theorem dX11_gapOf_141 : decode cX11_gapOf 141 = .ok (.getfield 357, 3) := by decide +kernel
theorem dX11_gapOf_144 : decode cX11_gapOf 144 = .ok (.iconst (-1), 1) := by decide +kernel
theorem dX11_gapOf_145 : decode cX11_gapOf 145 = .ok (.if_icmp .ne 18, 3) := by decide +kernel
theorem dX11_gapOf_148 : decode cX11_gapOf 148 = .ok (.iload 4, 2) := by decide +kernel
theorem dX11_gapOf_150 : decode cX11_gapOf 150 = .ok (.iload 5, 2) := by decide +kernel
theorem dX11_gapOf_152 : decode cX11_gapOf 152 = .ok (.isub, 1) := by decide +kernel
theorem dX11_gapOf_153 : decode cX11_gapOf 153 = .ok (.iload_n 3, 1) := by decide +kernel
theorem dX11_gapOf_154 : decode cX11_gapOf 154 = .ok (.if_icmp .ne 9, 3) := by decide +kernel
theorem dX11_gapOf_157 : decode cX11_gapOf 157 = .ok (.aload_n 0, 1) := by decide +kernel
theorem dX11_gapOf_158 : decode cX11_gapOf 158 = .ok (.iload 6, 2) := by decide +kernel
theorem dX11_gapOf_160 : decode cX11_gapOf 160 = .ok (.putfield 357, 3) := by decide +kernel
theorem dX11_gapOf_163 : decode cX11_gapOf 163 = .ok (.iload 5, 2) := by decide +kernel
theorem dX11_gapOf_165 : decode cX11_gapOf 165 = .ok (.aload_n 0, 1) := by decide +kernel
theorem dX11_gapOf_166 : decode cX11_gapOf 166 = .ok (.getfield 48, 3) := by decide +kernel
theorem dX11_gapOf_169 : decode cX11_gapOf 169 = .ok (.bipush 6, 2) := by decide +kernel
theorem dX11_gapOf_171 : decode cX11_gapOf 171 = .ok (.iload_n 2, 1) := by decide +kernel
theorem dX11_gapOf_172 : decode cX11_gapOf 172 = .ok (.imul, 1) := by decide +kernel
theorem dX11_gapOf_173 : decode cX11_gapOf 173 = .ok (.iload 6, 2) := by decide +kernel
theorem dX11_gapOf_175 : decode cX11_gapOf 175 = .ok (.iadd, 1) := by decide +kernel
theorem dX11_gapOf_176 : decode cX11_gapOf 176 = .ok (.iaload, 1) := by decide +kernel
theorem dX11_gapOf_177 : decode cX11_gapOf 177 = .ok (.iadd, 1) := by decide +kernel
theorem dX11_gapOf_178 : decode cX11_gapOf 178 = .ok (.istore 5, 2) := by decide +kernel
theorem dX11_gapOf_180 : decode cX11_gapOf 180 = .ok (.aload_n 0, 1) := by decide +kernel
theorem dX11_gapOf_181 : decode cX11_gapOf 181 = .ok (.iload_n 1, 1) := by decide +kernel
theorem dX11_gapOf_182 : decode cX11_gapOf 182 = .ok (.iload 6, 2) := by decide +kernel
theorem dX11_gapOf_184 : decode cX11_gapOf 184 = .ok (.invokevirtual 252, 3) := by decide +kernel
theorem dX11_gapOf_187 : decode cX11_gapOf 187 = .ok (.istore 6, 2) := by decide +kernel
theorem dX11_gapOf_189 : decode cX11_gapOf 189 = .ok (.goto (-83), 3) := by decide +kernel
theorem dX11_gapOf_192 : decode cX11_gapOf 192 = .ok (.iload_n 3, 1) := by decide +kernel
theorem dX11_gapOf_193 : decode cX11_gapOf 193 = .ok (.ireturn, 1) := by decide +kernel
theorem dX11_gap_0 : decode cX11_gap 0 = .ok (.aload_n 0, 1) := by decide +kernel
theorem dX11_gap_1 : decode cX11_gap 1 = .ok (.iconst 0, 1) := by decide +kernel
theorem dX11_gap_2 : decode cX11_gap 2 = .ok (.putfield 99, 3) := by decide +kernel
theorem dX11_gap_5 : decode cX11_gap 5 = .ok (.aload_n 0, 1) := by decide +kernel
theorem dX11_gap_6 : decode cX11_gap 6 = .ok (.iload_n 1, 1) := by decide +kernel
theorem dX11_gap_7 : decode cX11_gap 7 = .ok (.iload_n 2, 1) := by decide +kernel
theorem dX11_gap_8 : decode cX11_gap 8 = .ok (.invokevirtual 360, 3) := by decide +kernel
theorem dX11_gap_11 : decode cX11_gap 11 = .ok (.ifCond .ne 5, 3) := by decide +kernel
theorem dX11_gap_14 : decode cX11_gap 14 = .ok (.iconst (-1), 1) := by decide +kernel
theorem dX11_gap_15 : decode cX11_gap 15 = .ok (.ireturn, 1) := by decide +kernel
theorem dX11_gap_16 : decode cX11_gap 16 = .ok (.aload_n 0, 1) := by decide +kernel
theorem dX11_gap_17 : decode cX11_gap 17 = .ok (.getfield 26, 3) := by decide +kernel
theorem dX11_gap_20 : decode cX11_gap 20 = .ok (.iload_n 1, 1) := by decide +kernel
theorem dX11_gap_21 : decode cX11_gap 21 = .ok (.baload, 1) := by decide +kernel
theorem dX11_gap_22 : decode cX11_gap 22 = .ok (.aload_n 0, 1) := by decide +kernel
theorem dX11_gap_23 : decode cX11_gap 23 = .ok (.getfield 26, 3) := by decide +kernel
theorem dX11_gap_26 : decode cX11_gap 26 = .ok (.iload_n 2, 1) := by decide +kernel
theorem dX11_gap_27 : decode cX11_gap 27 = .ok (.baload, 1) := by decide +kernel
theorem dX11_gap_28 : decode cX11_gap 28 = .ok (.if_icmp .eq 6, 3) := by decide +kernel
theorem dX11_gap_31 : decode cX11_gap 31 = .ok (.bipush (-2), 2) := by decide +kernel
theorem dX11_gap_33 : decode cX11_gap 33 = .ok (.ireturn, 1) := by decide +kernel
theorem dX11_gap_34 : decode cX11_gap 34 = .ok (.aload_n 0, 1) := by decide +kernel
theorem dX11_gap_35 : decode cX11_gap 35 = .ok (.invokevirtual 271, 3) := by decide +kernel
theorem dX11_gap_38 : decode cX11_gap 38 = .ok (.aload_n 0, 1) := by decide +kernel
theorem dX11_gap_39 : decode cX11_gap 39 = .ok (.iload_n 1, 1) := by decide +kernel
theorem dX11_gap_40 : decode cX11_gap 40 = .ok (.iload_n 2, 1) := by decide +kernel
theorem dX11_gap_41 : decode cX11_gap 41 = .ok (.invokevirtual 363, 3) := by decide +kernel
theorem dX11_gap_44 : decode cX11_gap 44 = .ok (.istore_n 3, 1) := by decide +kernel
theorem dX11_gap_45 : decode cX11_gap 45 = .ok (.aload_n 0, 1) := by decide +kernel
theorem dX11_gap_46 : decode cX11_gap 46 = .ok (.iconst 0, 1) := by decide +kernel
theorem dX11_gap_47 : decode cX11_gap 47 = .ok (.putfield 103, 3) := by decide +kernel
theorem dX11_gap_50 : decode cX11_gap 50 = .ok (.aload_n 0, 1) := by decide +kernel
theorem dX11_gap_51 : decode cX11_gap 51 = .ok (.aload_n 0, 1) := by decide +kernel
theorem dX11_gap_52 : decode cX11_gap 52 = .ok (.getfield 357, 3) := by decide +kernel
theorem dX11_gap_55 : decode cX11_gap 55 = .ok (.invokevirtual 300, 3) := by decide +kernel
theorem dX11_gap_58 : decode cX11_gap 58 = .ok (.iload_n 3, 1) := by decide +kernel
theorem dX11_gap_59 : decode cX11_gap 59 = .ok (.ireturn, 1) := by decide +kernel
theorem dX11_smooth_0 : decode cX11_smooth 0 = .ok (.aload_n 0, 1) := by decide +kernel
theorem dX11_smooth_1 : decode cX11_smooth 1 = .ok (.iconst 0, 1) := by decide +kernel
theorem dX11_smooth_2 : decode cX11_smooth 2 = .ok (.putfield 99, 3) := by decide +kernel
theorem dX11_smooth_5 : decode cX11_smooth 5 = .ok (.iload_n 1, 1) := by decide +kernel
theorem dX11_smooth_6 : decode cX11_smooth 6 = .ok (.iconst 1, 1) := by decide +kernel
theorem dX11_smooth_7 : decode cX11_smooth 7 = .ok (.aload_n 0, 1) := by decide +kernel
theorem dX11_smooth_8 : decode cX11_smooth 8 = .ok (.invokevirtual 331, 3) := by decide +kernel
theorem dX11_smooth_11 : decode cX11_smooth 11 = .ok (.invokestatic 109, 3) := by decide +kernel
theorem dX11_smooth_14 : decode cX11_smooth 14 = .ok (.ifCond .ne 5, 3) := by decide +kernel
theorem dX11_smooth_17 : decode cX11_smooth 17 = .ok (.iconst (-1), 1) := by decide +kernel
theorem dX11_smooth_18 : decode cX11_smooth 18 = .ok (.ireturn, 1) := by decide +kernel
theorem dX11_smooth_19 : decode cX11_smooth 19 = .ok (.iconst 0, 1) := by decide +kernel
theorem dX11_smooth_20 : decode cX11_smooth 20 = .ok (.istore_n 2, 1) := by decide +kernel
theorem dX11_smooth_21 : decode cX11_smooth 21 = .ok (.iconst 0, 1) := by decide +kernel
theorem dX11_smooth_22 : decode cX11_smooth 22 = .ok (.istore_n 3, 1) := by decide +kernel
theorem dX11_smooth_23 : decode cX11_smooth 23 = .ok (.iload_n 3, 1) := by decide +kernel
theorem dX11_smooth_24 : decode cX11_smooth 24 = .ok (.aload_n 0, 1) := by decide +kernel
theorem dX11_smooth_25 : decode cX11_smooth 25 = .ok (.getfield 113, 3) := by decide +kernel
theorem dX11_smooth_28 : decode cX11_smooth 28 = .ok (.if_icmp .ge 28, 3) := by decide +kernel
theorem dX11_smooth_31 : decode cX11_smooth 31 = .ok (.iload_n 2, 1) := by decide +kernel
theorem dX11_smooth_32 : decode cX11_smooth 32 = .ok (.aload_n 0, 1) := by decide +kernel
theorem dX11_smooth_33 : decode cX11_smooth 33 = .ok (.getfield 26, 3) := by decide +kernel
theorem dX11_smooth_36 : decode cX11_smooth 36 = .ok (.iload_n 3, 1) := by decide +kernel
theorem dX11_smooth_37 : decode cX11_smooth 37 = .ok (.baload, 1) := by decide +kernel
theorem dX11_smooth_38 : decode cX11_smooth 38 = .ok (.ifCond .eq 9, 3) := by decide +kernel
theorem dX11_smooth_41 : decode cX11_smooth 41 = .ok (.iconst 1, 1) := by decide +kernel
theorem dX11_smooth_42 : decode cX11_smooth 42 = .ok (.iload_n 3, 1) := by decide +kernel
theorem dX11_smooth_43 : decode cX11_smooth 43 = .ok (.ishl, 1) := by decide +kernel
theorem dX11_smooth_44 : decode cX11_smooth 44 = .ok (.goto 4, 3) := by decide +kernel
theorem dX11_smooth_47 : decode cX11_smooth 47 = .ok (.iconst 0, 1) := by decide +kernel
theorem dX11_smooth_48 : decode cX11_smooth 48 = .ok (.ior, 1) := by decide +kernel
theorem dX11_smooth_49 : decode cX11_smooth 49 = .ok (.istore_n 2, 1) := by decide +kernel
theorem dX11_smooth_50 : decode cX11_smooth 50 = .ok (.iinc 3 1, 3) := by decide +kernel
theorem dX11_smooth_53 : decode cX11_smooth 53 = .ok (.goto (-30), 3) := by decide +kernel
theorem dX11_smooth_56 : decode cX11_smooth 56 = .ok (.iload_n 1, 1) := by decide +kernel
theorem dX11_smooth_57 : decode cX11_smooth 57 = .ok (.iload_n 2, 1) := by decide +kernel
theorem dX11_smooth_58 : decode cX11_smooth 58 = .ok (.iand, 1) := by decide +kernel
theorem dX11_smooth_59 : decode cX11_smooth 59 = .ok (.ifCond .eq 14, 3) := by decide +kernel
theorem dX11_smooth_62 : decode cX11_smooth 62 = .ok (.iload_n 1, 1) := by decide +kernel
theorem dX11_smooth_63 : decode cX11_smooth 63 = .ok (.iload_n 2, 1) := by decide +kernel
theorem dX11_smooth_64 : decode cX11_smooth 64 = .ok (.iconst (-1), 1) := by decide +kernel
theorem dX11_smooth_65 : decode cX11_smooth 65 = .ok (.ixor, 1) := by decide +kernel
theorem dX11_smooth_66 : decode cX11_smooth 66 = .ok (.iand, 1) := by decide +kernel
theorem dX11_smooth_67 : decode cX11_smooth 67 = .ok (.ifCond .eq 6, 3) := by decide +kernel
theorem dX11_smooth_70 : decode cX11_smooth 70 = .ok (.bipush (-2), 2) := by decide +kernel
theorem dX11_smooth_72 : decode cX11_smooth 72 = .ok (.ireturn, 1) := by decide +kernel
theorem dX11_smooth_73 : decode cX11_smooth 73 = .ok (.aload_n 0, 1) := by decide +kernel
theorem dX11_smooth_74 : decode cX11_smooth 74 = .ok (.invokevirtual 271, 3) := by decide +kernel
theorem dX11_smooth_77 : decode cX11_smooth 77 = .ok (.ldc_w 321, 3) := by decide +kernel
theorem dX11_smooth_80 : decode cX11_smooth 80 = .ok (.istore_n 3, 1) := by decide +kernel
theorem dX11_smooth_81 : decode cX11_smooth 81 = .ok (.aload_n 0, 1) := by decide +kernel
theorem dX11_smooth_82 : decode cX11_smooth 82 = .ok (.iload_n 1, 1) := by decide +kernel
theorem dX11_smooth_83 : decode cX11_smooth 83 = .ok (.invokevirtual 344, 3) := by decide +kernel
theorem dX11_smooth_86 : decode cX11_smooth 86 = .ok (.iconst 1, 1) := by decide +kernel
theorem dX11_smooth_87 : decode cX11_smooth 87 = .ok (.istore 4, 2) := by decide +kernel
theorem dX11_smooth_89 : decode cX11_smooth 89 = .ok (.iload 4, 2) := by decide +kernel
theorem dX11_smooth_91 : decode cX11_smooth 91 = .ok (.ifCond .eq 160, 3) := by decide +kernel
theorem dX11_smooth_94 : decode cX11_smooth 94 = .ok (.iconst 0, 1) := by decide +kernel
theorem dX11_smooth_95 : decode cX11_smooth 95 = .ok (.istore 5, 2) := by decide +kernel
theorem dX11_smooth_97 : decode cX11_smooth 97 = .ok (.iconst 0, 1) := by decide +kernel
theorem dX11_smooth_98 : decode cX11_smooth 98 = .ok (.istore 6, 2) := by decide +kernel
theorem dX11_smooth_100 : decode cX11_smooth 100 = .ok (.iload 6, 2) := by decide +kernel
theorem dX11_smooth_102 : decode cX11_smooth 102 = .ok (.aload_n 0, 1) := by decide +kernel
theorem dX11_smooth_103 : decode cX11_smooth 103 = .ok (.getfield 315, 3) := by decide +kernel
theorem dX11_smooth_106 : decode cX11_smooth 106 = .ok (.if_icmp .ge 81, 3) := by decide +kernel
theorem dX11_smooth_109 : decode cX11_smooth 109 = .ok (.aload_n 0, 1) := by decide +kernel
theorem dX11_smooth_110 : decode cX11_smooth 110 = .ok (.getfield 69, 3) := by decide +kernel
theorem dX11_smooth_113 : decode cX11_smooth 113 = .ok (.iload 6, 2) := by decide +kernel
theorem dX11_smooth_115 : decode cX11_smooth 115 = .ok (.iload 6, 2) := by decide +kernel
theorem dX11_smooth_117 : decode cX11_smooth 117 = .ok (.ifCond .ne 7, 3) := by decide +kernel
theorem dX11_smooth_120 : decode cX11_smooth 120 = .ok (.iconst 0, 1) := by decide +kernel
theorem dX11_smooth_121 : decode cX11_smooth 121 = .ok (.goto 33, 3) := by decide +kernel
theorem dX11_smooth_124 : decode cX11_smooth 124 = .ok (.aload_n 0, 1) := by decide +kernel
theorem dX11_smooth_125 : decode cX11_smooth 125 = .ok (.getfield 69, 3) := by decide +kernel
theorem dX11_smooth_128 : decode cX11_smooth 128 = .ok (.iload 6, 2) := by decide +kernel
theorem dX11_smooth_130 : decode cX11_smooth 130 = .ok (.iconst 1, 1) := by decide +kernel
theorem dX11_smooth_131 : decode cX11_smooth 131 = .ok (.isub, 1) := by decide +kernel
theorem dX11_smooth_132 : decode cX11_smooth 132 = .ok (.iaload, 1) := by decide +kernel
theorem dX11_smooth_133 : decode cX11_smooth 133 = .ok (.aload_n 0, 1) := by decide +kernel
theorem dX11_smooth_134 : decode cX11_smooth 134 = .ok (.aload_n 0, 1) := by decide +kernel
theorem dX11_smooth_135 : decode cX11_smooth 135 = .ok (.getfield 63, 3) := by decide +kernel
theorem dX11_smooth_138 : decode cX11_smooth 138 = .ok (.iload 6, 2) := by decide +kernel
theorem dX11_smooth_140 : decode cX11_smooth 140 = .ok (.iconst 1, 1) := by decide +kernel
theorem dX11_smooth_141 : decode cX11_smooth 141 = .ok (.isub, 1) := by decide +kernel
theorem dX11_smooth_142 : decode cX11_smooth 142 = .ok (.iaload, 1) := by decide +kernel
theorem dX11_smooth_143 : decode cX11_smooth 143 = .ok (.aload_n 0, 1) := by decide +kernel
theorem dX11_smooth_144 : decode cX11_smooth 144 = .ok (.getfield 63, 3) := by decide +kernel
theorem dX11_smooth_147 : decode cX11_smooth 147 = .ok (.iload 6, 2) := by decide +kernel
theorem dX11_smooth_149 : decode cX11_smooth 149 = .ok (.iaload, 1) := by decide +kernel
theorem dX11_smooth_150 : decode cX11_smooth 150 = .ok (.invokevirtual 363, 3) := by decide +kernel
theorem dX11_smooth_153 : decode cX11_smooth 153 = .ok (.iadd, 1) := by decide +kernel
theorem dX11_smooth_154 : decode cX11_smooth 154 = .ok (.iastore, 1) := by decide +kernel
theorem dX11_smooth_155 : decode cX11_smooth 155 = .ok (.iload 5, 2) := by decide +kernel
theorem dX11_smooth_157 : decode cX11_smooth 157 = .ok (.aload_n 0, 1) := by decide +kernel
theorem dX11_smooth_158 : decode cX11_smooth 158 = .ok (.getfield 69, 3) := by decide +kernel
theorem dX11_smooth_161 : decode cX11_smooth 161 = .ok (.iload 6, 2) := by decide +kernel
theorem dX11_smooth_163 : decode cX11_smooth 163 = .ok (.iaload, 1) := by decide +kernel
theorem dX11_smooth_164 : decode cX11_smooth 164 = .ok (.aload_n 0, 1) := by decide +kernel
theorem dX11_smooth_165 : decode cX11_smooth 165 = .ok (.aload_n 0, 1) := by decide +kernel
theorem dX11_smooth_166 : decode cX11_smooth 166 = .ok (.getfield 63, 3) := by decide +kernel
theorem dX11_smooth_169 : decode cX11_smooth 169 = .ok (.iload 6, 2) := by decide +kernel
theorem dX11_smooth_171 : decode cX11_smooth 171 = .ok (.iaload, 1) := by decide +kernel
theorem dX11_smooth_172 : decode cX11_smooth 172 = .ok (.invokevirtual 366, 3) := by decide +kernel
theorem dX11_smooth_175 : decode cX11_smooth 175 = .ok (.iadd, 1) := by decide +kernel
theorem dX11_smooth_176 : decode cX11_smooth 176 = .ok (.invokestatic 218, 3) := by decide +kernel
theorem dX11_smooth_179 : decode cX11_smooth 179 = .ok (.istore 5, 2) := by decide +kernel
theorem dX11_smooth_181 : decode cX11_smooth 181 = .ok (.iinc 6 1, 3) := by decide +kernel
theorem dX11_smooth_184 : decode cX11_smooth 184 = .ok (.goto (-84), 3) := by decide +kernel
theorem dX11_smooth_187 : decode cX11_smooth 187 = .ok (.iload 5, 2) := by decide +kernel
theorem dX11_smooth_189 : decode cX11_smooth 189 = .ok (.iload_n 3, 1) := by decide +kernel
theorem dX11_smooth_190 : decode cX11_smooth 190 = .ok (.if_icmp .ge 52, 3) := by decide +kernel
theorem dX11_smooth_193 : decode cX11_smooth 193 = .ok (.iload 5, 2) := by decide +kernel
theorem dX11_smooth_195 : decode cX11_smooth 195 = .ok (.istore_n 3, 1) := by decide +kernel
theorem dX11_smooth_196 : decode cX11_smooth 196 = .ok (.iconst 0, 1) := by decide +kernel
theorem dX11_smooth_197 : decode cX11_smooth 197 = .ok (.istore 6, 2) := by decide +kernel
theorem dX11_smooth_199 : decode cX11_smooth 199 = .ok (.iload 6, 2) := by decide +kernel
theorem dX11_smooth_201 : decode cX11_smooth 201 = .ok (.aload_n 0, 1) := by decide +kernel
theorem dX11_smooth_202 : decode cX11_smooth 202 = .ok (.getfield 315, 3) := by decide +kernel
theorem dX11_smooth_205 : decode cX11_smooth 205 = .ok (.if_icmp .ge 37, 3) := by decide +kernel
theorem dX11_smooth_208 : decode cX11_smooth 208 = .ok (.aload_n 0, 1) := by decide +kernel
theorem dX11_smooth_209 : decode cX11_smooth 209 = .ok (.getfield 66, 3) := by decide +kernel
theorem dX11_smooth_212 : decode cX11_smooth 212 = .ok (.iload 6, 2) := by decide +kernel
theorem dX11_smooth_214 : decode cX11_smooth 214 = .ok (.aload_n 0, 1) := by decide +kernel
theorem dX11_smooth_215 : decode cX11_smooth 215 = .ok (.getfield 63, 3) := by decide +kernel
theorem dX11_smooth_218 : decode cX11_smooth 218 = .ok (.iload 6, 2) := by decide +kernel
theorem dX11_smooth_220 : decode cX11_smooth 220 = .ok (.iaload, 1) := by decide +kernel
theorem dX11_smooth_221 : decode cX11_smooth 221 = .ok (.iastore, 1) := by decide +kernel
theorem dX11_smooth_222 : decode cX11_smooth 222 = .ok (.aload_n 0, 1) := by decide +kernel
theorem dX11_smooth_223 : decode cX11_smooth 223 = .ok (.getfield 72, 3) := by decide +kernel
theorem dX11_smooth_226 : decode cX11_smooth 226 = .ok (.iload 6, 2) := by decide +kernel
theorem dX11_smooth_228 : decode cX11_smooth 228 = .ok (.aload_n 0, 1) := by decide +kernel
theorem dX11_smooth_229 : decode cX11_smooth 229 = .ok (.getfield 69, 3) := by decide +kernel
theorem dX11_smooth_232 : decode cX11_smooth 232 = .ok (.iload 6, 2) := by decide +kernel
theorem dX11_smooth_234 : decode cX11_smooth 234 = .ok (.iaload, 1) := by decide +kernel
theorem dX11_smooth_235 : decode cX11_smooth 235 = .ok (.iastore, 1) := by decide +kernel
theorem dX11_smooth_236 : decode cX11_smooth 236 = .ok (.iinc 6 1, 3) := by decide +kernel
theorem dX11_smooth_239 : decode cX11_smooth 239 = .ok (.goto (-40), 3) := by decide +kernel
theorem dX11_smooth_242 : decode cX11_smooth 242 = .ok (.aload_n 0, 1) := by decide +kernel
theorem dX11_smooth_243 : decode cX11_smooth 243 = .ok (.invokevirtual 347, 3) := by decide +kernel
theorem dX11_smooth_246 : decode cX11_smooth 246 = .ok (.istore 4, 2) := by decide +kernel
theorem dX11_smooth_248 : decode cX11_smooth 248 = .ok (.goto (-159), 3) := by decide +kernel
theorem dX11_smooth_251 : decode cX11_smooth 251 = .ok (.aload_n 0, 1) := by decide +kernel
theorem dX11_smooth_252 : decode cX11_smooth 252 = .ok (.iconst 0, 1) := by decide +kernel
theorem dX11_smooth_253 : decode cX11_smooth 253 = .ok (.putfield 103, 3) := by decide +kernel
theorem dX11_smooth_256 : decode cX11_smooth 256 = .ok (.iconst 0, 1) := by decide +kernel
theorem dX11_smooth_257 : decode cX11_smooth 257 = .ok (.istore 5, 2) := by decide +kernel
theorem dX11_smooth_259 : decode cX11_smooth 259 = .ok (.iload 5, 2) := by decide +kernel
theorem dX11_smooth_261 : decode cX11_smooth 261 = .ok (.aload_n 0, 1) := by decide +kernel
theorem dX11_smooth_262 : decode cX11_smooth 262 = .ok (.getfield 315, 3) := by decide +kernel
theorem dX11_smooth_265 : decode cX11_smooth 265 = .ok (.if_icmp .ge 20, 3) := by decide +kernel
theorem dX11_smooth_268 : decode cX11_smooth 268 = .ok (.aload_n 0, 1) := by decide +kernel
theorem dX11_smooth_269 : decode cX11_smooth 269 = .ok (.aload_n 0, 1) := by decide +kernel
theorem dX11_smooth_270 : decode cX11_smooth 270 = .ok (.getfield 66, 3) := by decide +kernel
theorem dX11_smooth_273 : decode cX11_smooth 273 = .ok (.iload 5, 2) := by decide +kernel
theorem dX11_smooth_275 : decode cX11_smooth 275 = .ok (.iaload, 1) := by decide +kernel
theorem dX11_smooth_276 : decode cX11_smooth 276 = .ok (.invokevirtual 300, 3) := by decide +kernel
theorem dX11_smooth_279 : decode cX11_smooth 279 = .ok (.iinc 5 1, 3) := by decide +kernel
theorem dX11_smooth_282 : decode cX11_smooth 282 = .ok (.goto (-23), 3) := by decide +kernel
theorem dX11_smooth_285 : decode cX11_smooth 285 = .ok (.iconst 0, 1) := by decide +kernel
theorem dX11_smooth_286 : decode cX11_smooth 286 = .ok (.istore 5, 2) := by decide +kernel
theorem dX11_smooth_288 : decode cX11_smooth 288 = .ok (.iload 5, 2) := by decide +kernel
theorem dX11_smooth_290 : decode cX11_smooth 290 = .ok (.aload_n 0, 1) := by decide +kernel
theorem dX11_smooth_291 : decode cX11_smooth 291 = .ok (.getfield 315, 3) := by decide +kernel
theorem dX11_smooth_294 : decode cX11_smooth 294 = .ok (.if_icmp .ge 20, 3) := by decide +kernel
theorem dX11_smooth_297 : decode cX11_smooth 297 = .ok (.aload_n 0, 1) := by decide +kernel
theorem dX11_smooth_298 : decode cX11_smooth 298 = .ok (.aload_n 0, 1) := by decide +kernel
theorem dX11_smooth_299 : decode cX11_smooth 299 = .ok (.getfield 72, 3) := by decide +kernel
theorem dX11_smooth_302 : decode cX11_smooth 302 = .ok (.iload 5, 2) := by decide +kernel
theorem dX11_smooth_304 : decode cX11_smooth 304 = .ok (.iaload, 1) := by decide +kernel
theorem dX11_smooth_305 : decode cX11_smooth 305 = .ok (.invokevirtual 300, 3) := by decide +kernel
theorem dX11_smooth_308 : decode cX11_smooth 308 = .ok (.iinc 5 1, 3) := by decide +kernel
theorem dX11_smooth_311 : decode cX11_smooth 311 = .ok (.goto (-23), 3) := by decide +kernel
theorem dX11_smooth_314 : decode cX11_smooth 314 = .ok (.iload_n 3, 1) := by decide +kernel
theorem dX11_smooth_315 : decode cX11_smooth 315 = .ok (.ireturn, 1) := by decide +kernel
theorem dX11_everyOf_0 : decode cX11_everyOf 0 = .ok (.iconst 0, 1) := by decide +kernel
theorem dX11_everyOf_1 : decode cX11_everyOf 1 = .ok (.istore_n 2, 1) := by decide +kernel
theorem dX11_everyOf_2 : decode cX11_everyOf 2 = .ok (.aload_n 0, 1) := by decide +kernel
theorem dX11_everyOf_3 : decode cX11_everyOf 3 = .ok (.iconst (-1), 1) := by decide +kernel
theorem dX11_everyOf_4 : decode cX11_everyOf 4 = .ok (.putfield 369, 3) := by decide +kernel
theorem dX11_everyOf_7 : decode cX11_everyOf 7 = .ok (.iconst 0, 1) := by decide +kernel
theorem dX11_everyOf_8 : decode cX11_everyOf 8 = .ok (.istore_n 3, 1) := by decide +kernel
theorem dX11_everyOf_9 : decode cX11_everyOf 9 = .ok (.iload_n 3, 1) := by decide +kernel
theorem dX11_everyOf_10 : decode cX11_everyOf 10 = .ok (.aload_n 0, 1) := by decide +kernel
theorem dX11_everyOf_11 : decode cX11_everyOf 11 = .ok (.getfield 106, 3) := by decide +kernel
theorem dX11_everyOf_14 : decode cX11_everyOf 14 = .ok (.if_icmp .ge 61, 3) := by decide +kernel
theorem dX11_everyOf_17 : decode cX11_everyOf 17 = .ok (.aload_n 0, 1) := by decide +kernel
theorem dX11_everyOf_18 : decode cX11_everyOf 18 = .ok (.getfield 13, 3) := by decide +kernel
theorem dX11_everyOf_21 : decode cX11_everyOf 21 = .ok (.iload_n 3, 1) := by decide +kernel
theorem dX11_everyOf_22 : decode cX11_everyOf 22 = .ok (.baload, 1) := by decide +kernel
theorem dX11_everyOf_23 : decode cX11_everyOf 23 = .ok (.ifCond .ne 46, 3) := by decide +kernel
theorem dX11_everyOf_26 : decode cX11_everyOf 26 = .ok (.aload_n 0, 1) := by decide +kernel
theorem dX11_everyOf_27 : decode cX11_everyOf 27 = .ok (.getfield 369, 3) := by decide +kernel
theorem dX11_everyOf_30 : decode cX11_everyOf 30 = .ok (.iconst (-1), 1) := by decide +kernel
theorem dX11_everyOf_31 : decode cX11_everyOf 31 = .ok (.if_icmp .eq 21, 3) := by decide +kernel
theorem dX11_everyOf_34 : decode cX11_everyOf 34 = .ok (.aload_n 0, 1) := by decide +kernel
theorem dX11_everyOf_35 : decode cX11_everyOf 35 = .ok (.getfield 48, 3) := by decide +kernel
theorem dX11_everyOf_38 : decode cX11_everyOf 38 = .ok (.bipush 6, 2) := by decide +kernel
theorem dX11_everyOf_40 : decode cX11_everyOf 40 = .ok (.iload_n 1, 1) := by decide +kernel
theorem dX11_everyOf_41 : decode cX11_everyOf 41 = .ok (.imul, 1) := by decide +kernel
theorem dX11_everyOf_42 : decode cX11_everyOf 42 = .ok (.iload_n 3, 1) := by decide +kernel
theorem dX11_everyOf_43 : decode cX11_everyOf 43 = .ok (.iadd, 1) := by decide +kernel
theorem dX11_everyOf_44 : decode cX11_everyOf 44 = .ok (.iaload, 1) := by decide +kernel
theorem dX11_everyOf_45 : decode cX11_everyOf 45 = .ok (.iload_n 2, 1) := by decide +kernel
theorem dX11_everyOf_46 : decode cX11_everyOf 46 = .ok (.if_icmp .gt 6, 3) := by decide +kernel
theorem dX11_everyOf_49 : decode cX11_everyOf 49 = .ok (.goto 20, 3) := by decide +kernel
theorem dX11_everyOf_52 : decode cX11_everyOf 52 = .ok (.aload_n 0, 1) := by decide +kernel
theorem dX11_everyOf_53 : decode cX11_everyOf 53 = .ok (.getfield 48, 3) := by decide +kernel
theorem dX11_everyOf_56 : decode cX11_everyOf 56 = .ok (.bipush 6, 2) := by decide +kernel
theorem dX11_everyOf_58 : decode cX11_everyOf 58 = .ok (.iload_n 1, 1) := by decide +kernel
theorem dX11_everyOf_59 : decode cX11_everyOf 59 = .ok (.imul, 1) := by decide +kernel
theorem dX11_everyOf_60 : decode cX11_everyOf 60 = .ok (.iload_n 3, 1) := by decide +kernel
theorem dX11_everyOf_61 : decode cX11_everyOf 61 = .ok (.iadd, 1) := by decide +kernel
theorem dX11_everyOf_62 : decode cX11_everyOf 62 = .ok (.iaload, 1) := by decide +kernel
theorem dX11_everyOf_63 : decode cX11_everyOf 63 = .ok (.istore_n 2, 1) := by decide +kernel
theorem dX11_everyOf_64 : decode cX11_everyOf 64 = .ok (.aload_n 0, 1) := by decide +kernel
theorem dX11_everyOf_65 : decode cX11_everyOf 65 = .ok (.iload_n 3, 1) := by decide +kernel
theorem dX11_everyOf_66 : decode cX11_everyOf 66 = .ok (.putfield 369, 3) := by decide +kernel
theorem dX11_everyOf_69 : decode cX11_everyOf 69 = .ok (.iinc 3 1, 3) := by decide +kernel
theorem dX11_everyOf_72 : decode cX11_everyOf 72 = .ok (.goto (-63), 3) := by decide +kernel
theorem dX11_everyOf_75 : decode cX11_everyOf 75 = .ok (.iload_n 2, 1) := by decide +kernel
theorem dX11_everyOf_76 : decode cX11_everyOf 76 = .ok (.ireturn, 1) := by decide +kernel
theorem dX11_every_0 : decode cX11_every 0 = .ok (.aload_n 0, 1) := by decide +kernel
theorem dX11_every_1 : decode cX11_every 1 = .ok (.iconst 0, 1) := by decide +kernel
theorem dX11_every_2 : decode cX11_every 2 = .ok (.putfield 99, 3) := by decide +kernel
theorem dX11_every_5 : decode cX11_every 5 = .ok (.aload_n 0, 1) := by decide +kernel
theorem dX11_every_6 : decode cX11_every 6 = .ok (.iload_n 1, 1) := by decide +kernel
theorem dX11_every_7 : decode cX11_every 7 = .ok (.invokevirtual 228, 3) := by decide +kernel
theorem dX11_every_10 : decode cX11_every 10 = .ok (.ifCond .ne 5, 3) := by decide +kernel
theorem dX11_every_13 : decode cX11_every 13 = .ok (.iconst (-1), 1) := by decide +kernel
theorem dX11_every_14 : decode cX11_every 14 = .ok (.ireturn, 1) := by decide +kernel
theorem dX11_every_15 : decode cX11_every 15 = .ok (.aload_n 0, 1) := by decide +kernel
theorem dX11_every_16 : decode cX11_every 16 = .ok (.invokevirtual 271, 3) := by decide +kernel
theorem dX11_every_19 : decode cX11_every 19 = .ok (.aload_n 0, 1) := by decide +kernel
theorem dX11_every_20 : decode cX11_every 20 = .ok (.iload_n 1, 1) := by decide +kernel
theorem dX11_every_21 : decode cX11_every 21 = .ok (.invokevirtual 372, 3) := by decide +kernel
theorem dX11_every_24 : decode cX11_every 24 = .ok (.istore_n 2, 1) := by decide +kernel
theorem dX11_every_25 : decode cX11_every 25 = .ok (.aload_n 0, 1) := by decide +kernel
theorem dX11_every_26 : decode cX11_every 26 = .ok (.iload_n 1, 1) := by decide +kernel
theorem dX11_every_27 : decode cX11_every 27 = .ok (.invokevirtual 366, 3) := by decide +kernel
theorem dX11_every_30 : decode cX11_every 30 = .ok (.istore_n 3, 1) := by decide +kernel
theorem dX11_every_31 : decode cX11_every 31 = .ok (.aload_n 0, 1) := by decide +kernel
theorem dX11_every_32 : decode cX11_every 32 = .ok (.iconst 0, 1) := by decide +kernel
theorem dX11_every_33 : decode cX11_every 33 = .ok (.putfield 103, 3) := by decide +kernel
theorem dX11_every_36 : decode cX11_every 36 = .ok (.aload_n 0, 1) := by decide +kernel
theorem dX11_every_37 : decode cX11_every 37 = .ok (.aload_n 0, 1) := by decide +kernel
theorem dX11_every_38 : decode cX11_every 38 = .ok (.getfield 369, 3) := by decide +kernel
theorem dX11_every_41 : decode cX11_every 41 = .ok (.invokevirtual 300, 3) := by decide +kernel
theorem dX11_every_44 : decode cX11_every 44 = .ok (.aload_n 0, 1) := by decide +kernel
theorem dX11_every_45 : decode cX11_every 45 = .ok (.iload_n 2, 1) := by decide +kernel
theorem dX11_every_46 : decode cX11_every 46 = .ok (.ifCond .ne 7, 3) := by decide +kernel
theorem dX11_every_49 : decode cX11_every 49 = .ok (.iconst (-1), 1) := by decide +kernel
theorem dX11_every_50 : decode cX11_every 50 = .ok (.goto 23, 3) := by decide +kernel
theorem dX11_every_53 : decode cX11_every 53 = .ok (.iload_n 3, 1) := by decide +kernel
theorem dX11_every_54 : decode cX11_every 54 = .ok (.sipush 300, 3) := by decide +kernel
theorem dX11_every_57 : decode cX11_every 57 = .ok (.if_icmp .le 7, 3) := by decide +kernel
theorem dX11_every_60 : decode cX11_every 60 = .ok (.iconst 0, 1) := by decide +kernel
theorem dX11_every_61 : decode cX11_every 61 = .ok (.goto 12, 3) := by decide +kernel
theorem dX11_every_64 : decode cX11_every 64 = .ok (.sipush 300, 3) := by decide +kernel
theorem dX11_every_67 : decode cX11_every 67 = .ok (.iload_n 3, 1) := by decide +kernel
theorem dX11_every_68 : decode cX11_every 68 = .ok (.isub, 1) := by decide +kernel
theorem dX11_every_69 : decode cX11_every 69 = .ok (.iload_n 2, 1) := by decide +kernel
theorem dX11_every_70 : decode cX11_every 70 = .ok (.idiv, 1) := by decide +kernel
theorem dX11_every_71 : decode cX11_every 71 = .ok (.iconst 1, 1) := by decide +kernel
theorem dX11_every_72 : decode cX11_every 72 = .ok (.iadd, 1) := by decide +kernel
theorem dX11_every_73 : decode cX11_every 73 = .ok (.invokevirtual 300, 3) := by decide +kernel
theorem dX11_every_76 : decode cX11_every 76 = .ok (.iload_n 2, 1) := by decide +kernel
theorem dX11_every_77 : decode cX11_every 77 = .ok (.ireturn, 1) := by decide +kernel
theorem dX11_roomStays_0 : decode cX11_roomStays 0 = .ok (.iconst 0, 1) := by decide +kernel
theorem dX11_roomStays_1 : decode cX11_roomStays 1 = .ok (.istore_n 3, 1) := by decide +kernel
theorem dX11_roomStays_2 : decode cX11_roomStays 2 = .ok (.iconst 0, 1) := by decide +kernel
theorem dX11_roomStays_3 : decode cX11_roomStays 3 = .ok (.istore 4, 2) := by decide +kernel
theorem dX11_roomStays_5 : decode cX11_roomStays 5 = .ok (.iload 4, 2) := by decide +kernel
theorem dX11_roomStays_7 : decode cX11_roomStays 7 = .ok (.aload_n 0, 1) := by decide +kernel
theorem dX11_roomStays_8 : decode cX11_roomStays 8 = .ok (.getfield 113, 3) := by decide +kernel
theorem dX11_roomStays_11 : decode cX11_roomStays 11 = .ok (.if_icmp .ge 37, 3) := by decide +kernel
theorem dX11_roomStays_14 : decode cX11_roomStays 14 = .ok (.iload_n 3, 1) := by decide +kernel
theorem dX11_roomStays_15 : decode cX11_roomStays 15 = .ok (.iload_n 1, 1) := by decide +kernel
theorem dX11_roomStays_16 : decode cX11_roomStays 16 = .ok (.iload 4, 2) := by decide +kernel
theorem dX11_roomStays_18 : decode cX11_roomStays 18 = .ok (.invokestatic 209, 3) := by decide +kernel
theorem dX11_roomStays_21 : decode cX11_roomStays 21 = .ok (.ifCond .eq 18, 3) := by decide +kernel
theorem dX11_roomStays_24 : decode cX11_roomStays 24 = .ok (.aload_n 0, 1) := by decide +kernel
theorem dX11_roomStays_25 : decode cX11_roomStays 25 = .ok (.getfield 48, 3) := by decide +kernel
theorem dX11_roomStays_28 : decode cX11_roomStays 28 = .ok (.bipush 6, 2) := by decide +kernel
theorem dX11_roomStays_30 : decode cX11_roomStays 30 = .ok (.iload 4, 2) := by decide +kernel
theorem dX11_roomStays_32 : decode cX11_roomStays 32 = .ok (.imul, 1) := by decide +kernel
theorem dX11_roomStays_33 : decode cX11_roomStays 33 = .ok (.iload_n 2, 1) := by decide +kernel
theorem dX11_roomStays_34 : decode cX11_roomStays 34 = .ok (.iadd, 1) := by decide +kernel
theorem dX11_roomStays_35 : decode cX11_roomStays 35 = .ok (.iaload, 1) := by decide +kernel
theorem dX11_roomStays_36 : decode cX11_roomStays 36 = .ok (.goto 4, 3) := by decide +kernel
theorem dX11_roomStays_39 : decode cX11_roomStays 39 = .ok (.iconst 0, 1) := by decide +kernel
theorem dX11_roomStays_40 : decode cX11_roomStays 40 = .ok (.iadd, 1) := by decide +kernel
theorem dX11_roomStays_41 : decode cX11_roomStays 41 = .ok (.istore_n 3, 1) := by decide +kernel
theorem dX11_roomStays_42 : decode cX11_roomStays 42 = .ok (.iinc 4 1, 3) := by decide +kernel
theorem dX11_roomStays_45 : decode cX11_roomStays 45 = .ok (.goto (-40), 3) := by decide +kernel
theorem dX11_roomStays_48 : decode cX11_roomStays 48 = .ok (.iload_n 3, 1) := by decide +kernel
theorem dX11_roomStays_49 : decode cX11_roomStays 49 = .ok (.ireturn, 1) := by decide +kernel
theorem dX11_least_0 : decode cX11_least 0 = .ok (.aload_n 0, 1) := by decide +kernel
theorem dX11_least_1 : decode cX11_least 1 = .ok (.iconst 0, 1) := by decide +kernel
theorem dX11_least_2 : decode cX11_least 2 = .ok (.putfield 99, 3) := by decide +kernel
theorem dX11_least_5 : decode cX11_least 5 = .ok (.iload_n 1, 1) := by decide +kernel
theorem dX11_least_6 : decode cX11_least 6 = .ok (.iconst 0, 1) := by decide +kernel
theorem dX11_least_7 : decode cX11_least 7 = .ok (.aload_n 0, 1) := by decide +kernel
theorem dX11_least_8 : decode cX11_least 8 = .ok (.invokevirtual 331, 3) := by decide +kernel
theorem dX11_least_11 : decode cX11_least 11 = .ok (.invokestatic 109, 3) := by decide +kernel
theorem dX11_least_14 : decode cX11_least 14 = .ok (.ifCond .ne 5, 3) := by decide +kernel
theorem dX11_least_17 : decode cX11_least 17 = .ok (.iconst (-1), 1) := by decide +kernel
theorem dX11_least_18 : decode cX11_least 18 = .ok (.ireturn, 1) := by decide +kernel
theorem dX11_least_19 : decode cX11_least 19 = .ok (.aload_n 0, 1) := by decide +kernel
theorem dX11_least_20 : decode cX11_least 20 = .ok (.invokevirtual 271, 3) := by decide +kernel
theorem dX11_least_23 : decode cX11_least 23 = .ok (.iconst 0, 1) := by decide +kernel
theorem dX11_least_24 : decode cX11_least 24 = .ok (.istore_n 2, 1) := by decide +kernel
theorem dX11_least_25 : decode cX11_least 25 = .ok (.iconst 0, 1) := by decide +kernel
theorem dX11_least_26 : decode cX11_least 26 = .ok (.istore_n 3, 1) := by decide +kernel
theorem dX11_least_27 : decode cX11_least 27 = .ok (.iload_n 3, 1) := by decide +kernel
theorem dX11_least_28 : decode cX11_least 28 = .ok (.aload_n 0, 1) := by decide +kernel
theorem dX11_least_29 : decode cX11_least 29 = .ok (.getfield 113, 3) := by decide +kernel
theorem dX11_least_32 : decode cX11_least 32 = .ok (.if_icmp .ge 27, 3) := by decide +kernel
theorem dX11_least_35 : decode cX11_least 35 = .ok (.iload_n 1, 1) := by decide +kernel
theorem dX11_least_36 : decode cX11_least 36 = .ok (.iload_n 3, 1) := by decide +kernel
theorem dX11_least_37 : decode cX11_least 37 = .ok (.invokestatic 209, 3) := by decide +kernel
theorem dX11_least_40 : decode cX11_least 40 = .ok (.ifCond .eq 13, 3) := by decide +kernel
theorem dX11_least_43 : decode cX11_least 43 = .ok (.iload_n 2, 1) := by decide +kernel
theorem dX11_least_44 : decode cX11_least 44 = .ok (.aload_n 0, 1) := by decide +kernel
theorem dX11_least_45 : decode cX11_least 45 = .ok (.iload_n 3, 1) := by decide +kernel
theorem dX11_least_46 : decode cX11_least 46 = .ok (.invokevirtual 366, 3) := by decide +kernel
theorem dX11_least_49 : decode cX11_least 49 = .ok (.invokestatic 218, 3) := by decide +kernel
theorem dX11_least_52 : decode cX11_least 52 = .ok (.istore_n 2, 1) := by decide +kernel
theorem dX11_least_53 : decode cX11_least 53 = .ok (.iinc 3 1, 3) := by decide +kernel
theorem dX11_least_56 : decode cX11_least 56 = .ok (.goto (-29), 3) := by decide +kernel
theorem dX11_least_59 : decode cX11_least 59 = .ok (.iconst 0, 1) := by decide +kernel
theorem dX11_least_60 : decode cX11_least 60 = .ok (.istore_n 3, 1) := by decide +kernel
theorem dX11_least_61 : decode cX11_least 61 = .ok (.iload_n 3, 1) := by decide +kernel
theorem dX11_least_62 : decode cX11_least 62 = .ok (.aload_n 0, 1) := by decide +kernel
theorem dX11_least_63 : decode cX11_least 63 = .ok (.getfield 106, 3) := by decide +kernel
theorem dX11_least_66 : decode cX11_least 66 = .ok (.if_icmp .ge 29, 3) := by decide +kernel
theorem dX11_least_69 : decode cX11_least 69 = .ok (.aload_n 0, 1) := by decide +kernel
theorem dX11_least_70 : decode cX11_least 70 = .ok (.getfield 13, 3) := by decide +kernel
theorem dX11_least_73 : decode cX11_least 73 = .ok (.iload_n 3, 1) := by decide +kernel
theorem dX11_least_74 : decode cX11_least 74 = .ok (.baload, 1) := by decide +kernel
theorem dX11_least_75 : decode cX11_least 75 = .ok (.ifCond .ne 14, 3) := by decide +kernel
theorem dX11_least_78 : decode cX11_least 78 = .ok (.iload_n 2, 1) := by decide +kernel
theorem dX11_least_79 : decode cX11_least 79 = .ok (.aload_n 0, 1) := by decide +kernel
theorem dX11_least_80 : decode cX11_least 80 = .ok (.iload_n 1, 1) := by decide +kernel
theorem dX11_least_81 : decode cX11_least 81 = .ok (.iload_n 3, 1) := by decide +kernel
theorem dX11_least_82 : decode cX11_least 82 = .ok (.invokevirtual 375, 3) := by decide +kernel
theorem dX11_least_85 : decode cX11_least 85 = .ok (.invokestatic 218, 3) := by decide +kernel
theorem dX11_least_88 : decode cX11_least 88 = .ok (.istore_n 2, 1) := by decide +kernel
theorem dX11_least_89 : decode cX11_least 89 = .ok (.iinc 3 1, 3) := by decide +kernel
theorem dX11_least_92 : decode cX11_least 92 = .ok (.goto (-31), 3) := by decide +kernel
theorem dX11_least_95 : decode cX11_least 95 = .ok (.iconst (-1), 1) := by decide +kernel
theorem dX11_least_96 : decode cX11_least 96 = .ok (.istore_n 3, 1) := by decide +kernel
theorem dX11_least_97 : decode cX11_least 97 = .ok (.iconst 0, 1) := by decide +kernel
theorem dX11_least_98 : decode cX11_least 98 = .ok (.istore 4, 2) := by decide +kernel
theorem dX11_least_100 : decode cX11_least 100 = .ok (.aload_n 0, 1) := by decide +kernel
theorem dX11_least_101 : decode cX11_least 101 = .ok (.getfield 106, 3) := by decide +kernel
theorem dX11_least_104 : decode cX11_least 104 = .ok (.iconst 1, 1) := by decide +kernel
theorem dX11_least_105 : decode cX11_least 105 = .ok (.isub, 1) := by decide +kernel
theorem dX11_least_106 : decode cX11_least 106 = .ok (.istore 5, 2) := by decide +kernel
theorem dX11_least_108 : decode cX11_least 108 = .ok (.iload 5, 2) := by decide +kernel
theorem dX11_least_110 : decode cX11_least 110 = .ok (.ifCond .lt 33, 3) := by decide +kernel
theorem dX11_least_113 : decode cX11_least 113 = .ok (.aload_n 0, 1) := by decide +kernel
theorem dX11_least_114 : decode cX11_least 114 = .ok (.getfield 13, 3) := by decide +kernel
theorem dX11_least_117 : decode cX11_least 117 = .ok (.iload 5, 2) := by decide +kernel
theorem dX11_least_119 : decode cX11_least 119 = .ok (.baload, 1) := by decide +kernel
theorem dX11_least_120 : decode cX11_least 120 = .ok (.ifCond .ne 17, 3) := by decide +kernel
theorem dX11_least_123 : decode cX11_least 123 = .ok (.aload_n 0, 1) := by decide +kernel
theorem dX11_least_124 : decode cX11_least 124 = .ok (.iload_n 1, 1) := by decide +kernel
theorem dX11_least_125 : decode cX11_least 125 = .ok (.iload 5, 2) := by decide +kernel
theorem dX11_least_127 : decode cX11_least 127 = .ok (.invokevirtual 375, 3) := by decide +kernel
theorem dX11_least_130 : decode cX11_least 130 = .ok (.iload_n 2, 1) := by decide +kernel
theorem dX11_least_131 : decode cX11_least 131 = .ok (.if_icmp .ne 6, 3) := by decide +kernel
theorem dX11_least_134 : decode cX11_least 134 = .ok (.iload 5, 2) := by decide +kernel
theorem dX11_least_136 : decode cX11_least 136 = .ok (.istore_n 3, 1) := by decide +kernel
theorem dX11_least_137 : decode cX11_least 137 = .ok (.iinc 5 (-1), 3) := by decide +kernel
theorem dX11_least_140 : decode cX11_least 140 = .ok (.goto (-32), 3) := by decide +kernel
theorem dX11_least_143 : decode cX11_least 143 = .ok (.iconst 0, 1) := by decide +kernel
theorem dX11_least_144 : decode cX11_least 144 = .ok (.istore 5, 2) := by decide +kernel
theorem dX11_least_146 : decode cX11_least 146 = .ok (.iload 5, 2) := by decide +kernel
theorem dX11_least_148 : decode cX11_least 148 = .ok (.aload_n 0, 1) := by decide +kernel
theorem dX11_least_149 : decode cX11_least 149 = .ok (.getfield 113, 3) := by decide +kernel
theorem dX11_least_152 : decode cX11_least 152 = .ok (.if_icmp .ge 41, 3) := by decide +kernel
theorem dX11_least_155 : decode cX11_least 155 = .ok (.iload 4, 2) := by decide +kernel
theorem dX11_least_157 : decode cX11_least 157 = .ok (.iload_n 1, 1) := by decide +kernel
theorem dX11_least_158 : decode cX11_least 158 = .ok (.iload 5, 2) := by decide +kernel
theorem dX11_least_160 : decode cX11_least 160 = .ok (.invokestatic 209, 3) := by decide +kernel
theorem dX11_least_163 : decode cX11_least 163 = .ok (.ifCond .eq 20, 3) := by decide +kernel
theorem dX11_least_166 : decode cX11_least 166 = .ok (.aload_n 0, 1) := by decide +kernel
theorem dX11_least_167 : decode cX11_least 167 = .ok (.iload 5, 2) := by decide +kernel
theorem dX11_least_169 : decode cX11_least 169 = .ok (.invokevirtual 366, 3) := by decide +kernel
theorem dX11_least_172 : decode cX11_least 172 = .ok (.iload_n 2, 1) := by decide +kernel
theorem dX11_least_173 : decode cX11_least 173 = .ok (.if_icmp .ne 10, 3) := by decide +kernel
theorem dX11_least_176 : decode cX11_least 176 = .ok (.iconst 1, 1) := by decide +kernel
theorem dX11_least_177 : decode cX11_least 177 = .ok (.iload 5, 2) := by decide +kernel
theorem dX11_least_179 : decode cX11_least 179 = .ok (.ishl, 1) := by decide +kernel
theorem dX11_least_180 : decode cX11_least 180 = .ok (.goto 4, 3) := by decide +kernel
theorem dX11_least_183 : decode cX11_least 183 = .ok (.iconst 0, 1) := by decide +kernel
theorem dX11_least_184 : decode cX11_least 184 = .ok (.ior, 1) := by decide +kernel
theorem dX11_least_185 : decode cX11_least 185 = .ok (.istore 4, 2) := by decide +kernel
theorem dX11_least_187 : decode cX11_least 187 = .ok (.iinc 5 1, 3) := by decide +kernel
theorem dX11_least_190 : decode cX11_least 190 = .ok (.goto (-44), 3) := by decide +kernel
theorem dX11_least_193 : decode cX11_least 193 = .ok (.aload_n 0, 1) := by decide +kernel
theorem dX11_least_194 : decode cX11_least 194 = .ok (.iconst 0, 1) := by decide +kernel
theorem dX11_least_195 : decode cX11_least 195 = .ok (.putfield 103, 3) := by decide +kernel
theorem dX11_least_198 : decode cX11_least 198 = .ok (.aload_n 0, 1) := by decide +kernel
theorem dX11_least_199 : decode cX11_least 199 = .ok (.iload_n 3, 1) := by decide +kernel
theorem dX11_least_200 : decode cX11_least 200 = .ok (.invokevirtual 300, 3) := by decide +kernel
theorem dX11_least_203 : decode cX11_least 203 = .ok (.aload_n 0, 1) := by decide +kernel
theorem dX11_least_204 : decode cX11_least 204 = .ok (.iload 4, 2) := by decide +kernel
theorem dX11_least_206 : decode cX11_least 206 = .ok (.invokevirtual 300, 3) := by decide +kernel
theorem dX11_least_209 : decode cX11_least 209 = .ok (.iload_n 2, 1) := by decide +kernel
theorem dX11_least_210 : decode cX11_least 210 = .ok (.ireturn, 1) := by decide +kernel
theorem dX11_findWhen_0 : decode cX11_findWhen 0 = .ok (.aload_n 0, 1) := by decide +kernel
theorem dX11_findWhen_1 : decode cX11_findWhen 1 = .ok (.getfield 9, 3) := by decide +kernel
theorem dX11_findWhen_4 : decode cX11_findWhen 4 = .ok (.aload_n 0, 1) := by decide +kernel
theorem dX11_findWhen_5 : decode cX11_findWhen 5 = .ok (.getfield 60, 3) := by decide +kernel
theorem dX11_findWhen_8 : decode cX11_findWhen 8 = .ok (.iconst 0, 1) := by decide +kernel
theorem dX11_findWhen_9 : decode cX11_findWhen 9 = .ok (.invokestatic 242, 3) := by decide +kernel
theorem dX11_findWhen_12 : decode cX11_findWhen 12 = .ok (.iload_n 2, 1) := by decide +kernel
theorem dX11_findWhen_13 : decode cX11_findWhen 13 = .ok (.ifCond .le 12, 3) := by decide +kernel
theorem dX11_findWhen_16 : decode cX11_findWhen 16 = .ok (.aload_n 0, 1) := by decide +kernel
theorem dX11_findWhen_17 : decode cX11_findWhen 17 = .ok (.getfield 60, 3) := by decide +kernel
theorem dX11_findWhen_20 : decode cX11_findWhen 20 = .ok (.iload_n 1, 1) := by decide +kernel
theorem dX11_findWhen_21 : decode cX11_findWhen 21 = .ok (.iload_n 2, 1) := by decide +kernel
theorem dX11_findWhen_22 : decode cX11_findWhen 22 = .ok (.invokestatic 293, 3) := by decide +kernel
theorem dX11_findWhen_25 : decode cX11_findWhen 25 = .ok (.aload_n 0, 1) := by decide +kernel
theorem dX11_findWhen_26 : decode cX11_findWhen 26 = .ok (.invokevirtual 312, 3) := by decide +kernel
theorem dX11_findWhen_29 : decode cX11_findWhen 29 = .ok (.iconst 0, 1) := by decide +kernel
theorem dX11_findWhen_30 : decode cX11_findWhen 30 = .ok (.istore 4, 2) := by decide +kernel
theorem dX11_findWhen_32 : decode cX11_findWhen 32 = .ok (.iload 4, 2) := by decide +kernel
theorem dX11_findWhen_34 : decode cX11_findWhen 34 = .ok (.aload_n 0, 1) := by decide +kernel
theorem dX11_findWhen_35 : decode cX11_findWhen 35 = .ok (.getfield 113, 3) := by decide +kernel
theorem dX11_findWhen_38 : decode cX11_findWhen 38 = .ok (.if_icmp .ge 41, 3) := by decide +kernel
theorem dX11_findWhen_41 : decode cX11_findWhen 41 = .ok (.aload_n 3, 1) := by decide +kernel
theorem dX11_findWhen_42 : decode cX11_findWhen 42 = .ok (.iload 4, 2) := by decide +kernel
theorem dX11_findWhen_44 : decode cX11_findWhen 44 = .ok (.aload_n 0, 1) := by decide +kernel
theorem dX11_findWhen_45 : decode cX11_findWhen 45 = .ok (.getfield 60, 3) := by decide +kernel
theorem dX11_findWhen_48 : decode cX11_findWhen 48 = .ok (.iload 4, 2) := by decide +kernel
theorem dX11_findWhen_50 : decode cX11_findWhen 50 = .ok (.iaload, 1) := by decide +kernel
theorem dX11_findWhen_51 : decode cX11_findWhen 51 = .ok (.bipush 9, 2) := by decide +kernel
theorem dX11_findWhen_53 : decode cX11_findWhen 53 = .ok (.if_icmp .ne 16, 3) := by decide +kernel
theorem dX11_findWhen_56 : decode cX11_findWhen 56 = .ok (.aload_n 0, 1) := by decide +kernel
theorem dX11_findWhen_57 : decode cX11_findWhen 57 = .ok (.getfield 60, 3) := by decide +kernel
theorem dX11_findWhen_60 : decode cX11_findWhen 60 = .ok (.bipush 18, 2) := by decide +kernel
theorem dX11_findWhen_62 : decode cX11_findWhen 62 = .ok (.iload 4, 2) := by decide +kernel
theorem dX11_findWhen_64 : decode cX11_findWhen 64 = .ok (.iadd, 1) := by decide +kernel
theorem dX11_findWhen_65 : decode cX11_findWhen 65 = .ok (.iaload, 1) := by decide +kernel
theorem dX11_findWhen_66 : decode cX11_findWhen 66 = .ok (.goto 6, 3) := by decide +kernel
theorem dX11_findWhen_69 : decode cX11_findWhen 69 = .ok (.ldc_w 321, 3) := by decide +kernel
theorem dX11_findWhen_72 : decode cX11_findWhen 72 = .ok (.iastore, 1) := by decide +kernel
theorem dX11_findWhen_73 : decode cX11_findWhen 73 = .ok (.iinc 4 1, 3) := by decide +kernel
theorem dX11_findWhen_76 : decode cX11_findWhen 76 = .ok (.goto (-44), 3) := by decide +kernel
theorem dX11_findWhen_79 : decode cX11_findWhen 79 = .ok (.aload_n 0, 1) := by decide +kernel
theorem dX11_findWhen_80 : decode cX11_findWhen 80 = .ok (.aload_n 0, 1) := by decide +kernel
theorem dX11_findWhen_81 : decode cX11_findWhen 81 = .ok (.getfield 60, 3) := by decide +kernel
theorem dX11_findWhen_84 : decode cX11_findWhen 84 = .ok (.invokevirtual 282, 3) := by decide +kernel
theorem dX11_findWhen_87 : decode cX11_findWhen 87 = .ok (.ifCond .ne 7, 3) := by decide +kernel
theorem dX11_findWhen_90 : decode cX11_findWhen 90 = .ok (.iconst 1, 1) := by decide +kernel
theorem dX11_findWhen_91 : decode cX11_findWhen 91 = .ok (.goto 4, 3) := by decide +kernel
theorem dX11_findWhen_94 : decode cX11_findWhen 94 = .ok (.iconst 0, 1) := by decide +kernel
theorem dX11_findWhen_95 : decode cX11_findWhen 95 = .ok (.ireturn, 1) := by decide +kernel
theorem dX11_late_0 : decode cX11_late 0 = .ok (.aload_n 0, 1) := by decide +kernel
theorem dX11_late_1 : decode cX11_late 1 = .ok (.iconst 0, 1) := by decide +kernel
theorem dX11_late_2 : decode cX11_late 2 = .ok (.putfield 99, 3) := by decide +kernel
theorem dX11_late_5 : decode cX11_late 5 = .ok (.aload_n 0, 1) := by decide +kernel
theorem dX11_late_6 : decode cX11_late 6 = .ok (.iload_n 1, 1) := by decide +kernel
theorem dX11_late_7 : decode cX11_late 7 = .ok (.iload_n 2, 1) := by decide +kernel
theorem dX11_late_8 : decode cX11_late 8 = .ok (.invokevirtual 290, 3) := by decide +kernel
theorem dX11_late_11 : decode cX11_late 11 = .ok (.ifCond .ne 5, 3) := by decide +kernel
theorem dX11_late_14 : decode cX11_late 14 = .ok (.iconst (-1), 1) := by decide +kernel
theorem dX11_late_15 : decode cX11_late 15 = .ok (.ireturn, 1) := by decide +kernel
theorem dX11_late_16 : decode cX11_late 16 = .ok (.aload_n 0, 1) := by decide +kernel
theorem dX11_late_17 : decode cX11_late 17 = .ok (.invokevirtual 271, 3) := by decide +kernel
theorem dX11_late_20 : decode cX11_late 20 = .ok (.aload_n 0, 1) := by decide +kernel
theorem dX11_late_21 : decode cX11_late 21 = .ok (.iload_n 1, 1) := by decide +kernel
theorem dX11_late_22 : decode cX11_late 22 = .ok (.iconst 0, 1) := by decide +kernel
theorem dX11_late_23 : decode cX11_late 23 = .ok (.aload_n 0, 1) := by decide +kernel
theorem dX11_late_24 : decode cX11_late 24 = .ok (.getfield 75, 3) := by decide +kernel
theorem dX11_late_27 : decode cX11_late 27 = .ok (.invokevirtual 378, 3) := by decide +kernel
theorem dX11_late_30 : decode cX11_late 30 = .ok (.ifCond .eq 16, 3) := by decide +kernel
theorem dX11_late_33 : decode cX11_late 33 = .ok (.aload_n 0, 1) := by decide +kernel
theorem dX11_late_34 : decode cX11_late 34 = .ok (.iload_n 1, 1) := by decide +kernel
theorem dX11_late_35 : decode cX11_late 35 = .ok (.iload_n 2, 1) := by decide +kernel
theorem dX11_late_36 : decode cX11_late 36 = .ok (.aload_n 0, 1) := by decide +kernel
theorem dX11_late_37 : decode cX11_late 37 = .ok (.getfield 78, 3) := by decide +kernel
theorem dX11_late_40 : decode cX11_late 40 = .ok (.invokevirtual 378, 3) := by decide +kernel
theorem dX11_late_43 : decode cX11_late 43 = .ok (.ifCond .ne 6, 3) := by decide +kernel
theorem dX11_late_46 : decode cX11_late 46 = .ok (.bipush (-2), 2) := by decide +kernel
theorem dX11_late_48 : decode cX11_late 48 = .ok (.ireturn, 1) := by decide +kernel
theorem dX11_late_49 : decode cX11_late 49 = .ok (.iconst 0, 1) := by decide +kernel
theorem dX11_late_50 : decode cX11_late 50 = .ok (.istore_n 3, 1) := by decide +kernel
theorem dX11_late_51 : decode cX11_late 51 = .ok (.iconst 0, 1) := by decide +kernel
theorem dX11_late_52 : decode cX11_late 52 = .ok (.istore 4, 2) := by decide +kernel
theorem dX11_late_54 : decode cX11_late 54 = .ok (.iconst 0, 1) := by decide +kernel
theorem dX11_late_55 : decode cX11_late 55 = .ok (.istore 5, 2) := by decide +kernel
theorem dX11_late_57 : decode cX11_late 57 = .ok (.iconst 0, 1) := by decide +kernel
theorem dX11_late_58 : decode cX11_late 58 = .ok (.istore 6, 2) := by decide +kernel
theorem dX11_late_60 : decode cX11_late 60 = .ok (.iconst 0, 1) := by decide +kernel
theorem dX11_late_61 : decode cX11_late 61 = .ok (.istore 7, 2) := by decide +kernel
theorem dX11_late_63 : decode cX11_late 63 = .ok (.iload 7, 2) := by decide +kernel
theorem dX11_late_65 : decode cX11_late 65 = .ok (.aload_n 0, 1) := by decide +kernel
theorem dX11_late_66 : decode cX11_late 66 = .ok (.getfield 113, 3) := by decide +kernel
theorem dX11_late_69 : decode cX11_late 69 = .ok (.if_icmp .ge 100, 3) := by decide +kernel
theorem dX11_late_72 : decode cX11_late 72 = .ok (.aload_n 0, 1) := by decide +kernel
theorem dX11_late_73 : decode cX11_late 73 = .ok (.aload_n 0, 1) := by decide +kernel
theorem dX11_late_74 : decode cX11_late 74 = .ok (.getfield 9, 3) := by decide +kernel
theorem dX11_late_77 : decode cX11_late 77 = .ok (.iload 7, 2) := by decide +kernel
theorem dX11_late_79 : decode cX11_late 79 = .ok (.invokevirtual 224, 3) := by decide +kernel
theorem dX11_late_82 : decode cX11_late 82 = .ok (.ifCond .ne 6, 3) := by decide +kernel
theorem dX11_late_85 : decode cX11_late 85 = .ok (.goto 78, 3) := by decide +kernel
theorem dX11_late_88 : decode cX11_late 88 = .ok (.iload_n 3, 1) := by decide +kernel
theorem dX11_late_89 : decode cX11_late 89 = .ok (.aload_n 0, 1) := by decide +kernel
theorem dX11_late_90 : decode cX11_late 90 = .ok (.getfield 75, 3) := by decide +kernel
theorem dX11_late_93 : decode cX11_late 93 = .ok (.iload 7, 2) := by decide +kernel
theorem dX11_late_95 : decode cX11_late 95 = .ok (.iaload, 1) := by decide +kernel
theorem dX11_late_96 : decode cX11_late 96 = .ok (.invokestatic 218, 3) := by decide +kernel
theorem dX11_late_99 : decode cX11_late 99 = .ok (.istore_n 3, 1) := by decide +kernel
theorem dX11_late_100 : decode cX11_late 100 = .ok (.iload 4, 2) := by decide +kernel
theorem dX11_late_102 : decode cX11_late 102 = .ok (.aload_n 0, 1) := by decide +kernel
theorem dX11_late_103 : decode cX11_late 103 = .ok (.getfield 78, 3) := by decide +kernel
theorem dX11_late_106 : decode cX11_late 106 = .ok (.iload 7, 2) := by decide +kernel
theorem dX11_late_108 : decode cX11_late 108 = .ok (.iaload, 1) := by decide +kernel
theorem dX11_late_109 : decode cX11_late 109 = .ok (.invokestatic 218, 3) := by decide +kernel
theorem dX11_late_112 : decode cX11_late 112 = .ok (.istore 4, 2) := by decide +kernel
theorem dX11_late_114 : decode cX11_late 114 = .ok (.aload_n 0, 1) := by decide +kernel
theorem dX11_late_115 : decode cX11_late 115 = .ok (.getfield 78, 3) := by decide +kernel
theorem dX11_late_118 : decode cX11_late 118 = .ok (.iload 7, 2) := by decide +kernel
theorem dX11_late_120 : decode cX11_late 120 = .ok (.iaload, 1) := by decide +kernel
theorem dX11_late_121 : decode cX11_late 121 = .ok (.aload_n 0, 1) := by decide +kernel
theorem dX11_late_122 : decode cX11_late 122 = .ok (.getfield 75, 3) := by decide +kernel
theorem dX11_late_125 : decode cX11_late 125 = .ok (.iload 7, 2) := by decide +kernel
theorem dX11_late_127 : decode cX11_late 127 = .ok (.iaload, 1) := by decide +kernel
theorem dX11_late_128 : decode cX11_late 128 = .ok (.if_icmp .gt 6, 3) := by decide +kernel
theorem dX11_late_131 : decode cX11_late 131 = .ok (.goto 32, 3) := by decide +kernel
theorem dX11_late_134 : decode cX11_late 134 = .ok (.iload 5, 2) := by decide +kernel
theorem dX11_late_136 : decode cX11_late 136 = .ok (.iconst 1, 1) := by decide +kernel
theorem dX11_late_137 : decode cX11_late 137 = .ok (.iload 7, 2) := by decide +kernel
theorem dX11_late_139 : decode cX11_late 139 = .ok (.ishl, 1) := by decide +kernel
theorem dX11_late_140 : decode cX11_late 140 = .ok (.ior, 1) := by decide +kernel
theorem dX11_late_141 : decode cX11_late 141 = .ok (.istore 5, 2) := by decide +kernel
theorem dX11_late_143 : decode cX11_late 143 = .ok (.iload 6, 2) := by decide +kernel
theorem dX11_late_145 : decode cX11_late 145 = .ok (.aload_n 0, 1) := by decide +kernel
theorem dX11_late_146 : decode cX11_late 146 = .ok (.getfield 78, 3) := by decide +kernel
theorem dX11_late_149 : decode cX11_late 149 = .ok (.iload 7, 2) := by decide +kernel
theorem dX11_late_151 : decode cX11_late 151 = .ok (.iaload, 1) := by decide +kernel
theorem dX11_late_152 : decode cX11_late 152 = .ok (.aload_n 0, 1) := by decide +kernel
theorem dX11_late_153 : decode cX11_late 153 = .ok (.getfield 75, 3) := by decide +kernel
theorem dX11_late_156 : decode cX11_late 156 = .ok (.iload 7, 2) := by decide +kernel
theorem dX11_late_158 : decode cX11_late 158 = .ok (.iaload, 1) := by decide +kernel
theorem dX11_late_159 : decode cX11_late 159 = .ok (.isub, 1) := by decide +kernel
theorem dX11_late_160 : decode cX11_late 160 = .ok (.iadd, 1) := by decide +kernel
theorem dX11_late_161 : decode cX11_late 161 = .ok (.istore 6, 2) := by decide +kernel
theorem dX11_late_163 : decode cX11_late 163 = .ok (.iinc 7 1, 3) := by decide +kernel
theorem dX11_late_166 : decode cX11_late 166 = .ok (.goto (-103), 3) := by decide +kernel
theorem dX11_late_169 : decode cX11_late 169 = .ok (.aload_n 0, 1) := by decide +kernel
theorem dX11_late_170 : decode cX11_late 170 = .ok (.iconst 0, 1) := by decide +kernel
theorem dX11_late_171 : decode cX11_late 171 = .ok (.putfield 103, 3) := by decide +kernel
theorem dX11_late_174 : decode cX11_late 174 = .ok (.aload_n 0, 1) := by decide +kernel
theorem dX11_late_175 : decode cX11_late 175 = .ok (.iload 5, 2) := by decide +kernel
theorem dX11_late_177 : decode cX11_late 177 = .ok (.invokevirtual 300, 3) := by decide +kernel
theorem dX11_late_180 : decode cX11_late 180 = .ok (.aload_n 0, 1) := by decide +kernel
theorem dX11_late_181 : decode cX11_late 181 = .ok (.iload 6, 2) := by decide +kernel
theorem dX11_late_183 : decode cX11_late 183 = .ok (.invokevirtual 300, 3) := by decide +kernel
theorem dX11_late_186 : decode cX11_late 186 = .ok (.iload 4, 2) := by decide +kernel
theorem dX11_late_188 : decode cX11_late 188 = .ok (.iload_n 3, 1) := by decide +kernel
theorem dX11_late_189 : decode cX11_late 189 = .ok (.isub, 1) := by decide +kernel
theorem dX11_late_190 : decode cX11_late 190 = .ok (.ireturn, 1) := by decide +kernel
theorem dX11_slack_0 : decode cX11_slack 0 = .ok (.aload_n 0, 1) := by decide +kernel
theorem dX11_slack_1 : decode cX11_slack 1 = .ok (.iconst 0, 1) := by decide +kernel
theorem dX11_slack_2 : decode cX11_slack 2 = .ok (.putfield 99, 3) := by decide +kernel
theorem dX11_slack_5 : decode cX11_slack 5 = .ok (.aload_n 0, 1) := by decide +kernel
theorem dX11_slack_6 : decode cX11_slack 6 = .ok (.iload_n 1, 1) := by decide +kernel
theorem dX11_slack_7 : decode cX11_slack 7 = .ok (.invokevirtual 228, 3) := by decide +kernel
theorem dX11_slack_10 : decode cX11_slack 10 = .ok (.ifCond .eq 15, 3) := by decide +kernel
theorem dX11_slack_13 : decode cX11_slack 13 = .ok (.aload_n 0, 1) := by decide +kernel
theorem dX11_slack_14 : decode cX11_slack 14 = .ok (.aload_n 0, 1) := by decide +kernel
theorem dX11_slack_15 : decode cX11_slack 15 = .ok (.getfield 9, 3) := by decide +kernel
theorem dX11_slack_18 : decode cX11_slack 18 = .ok (.iload_n 1, 1) := by decide +kernel
theorem dX11_slack_19 : decode cX11_slack 19 = .ok (.invokevirtual 224, 3) := by decide +kernel
theorem dX11_slack_22 : decode cX11_slack 22 = .ok (.ifCond .ne 5, 3) := by decide +kernel
theorem dX11_slack_25 : decode cX11_slack 25 = .ok (.iconst (-1), 1) := by decide +kernel
theorem dX11_slack_26 : decode cX11_slack 26 = .ok (.ireturn, 1) := by decide +kernel
theorem dX11_slack_27 : decode cX11_slack 27 = .ok (.aload_n 0, 1) := by decide +kernel
theorem dX11_slack_28 : decode cX11_slack 28 = .ok (.invokevirtual 271, 3) := by decide +kernel
theorem dX11_slack_31 : decode cX11_slack 31 = .ok (.aload_n 0, 1) := by decide +kernel
theorem dX11_slack_32 : decode cX11_slack 32 = .ok (.iload_n 1, 1) := by decide +kernel
theorem dX11_slack_33 : decode cX11_slack 33 = .ok (.iconst 0, 1) := by decide +kernel
theorem dX11_slack_34 : decode cX11_slack 34 = .ok (.aload_n 0, 1) := by decide +kernel
theorem dX11_slack_35 : decode cX11_slack 35 = .ok (.getfield 75, 3) := by decide +kernel
theorem dX11_slack_38 : decode cX11_slack 38 = .ok (.invokevirtual 378, 3) := by decide +kernel
theorem dX11_slack_41 : decode cX11_slack 41 = .ok (.ifCond .ne 6, 3) := by decide +kernel
theorem dX11_slack_44 : decode cX11_slack 44 = .ok (.bipush (-2), 2) := by decide +kernel
theorem dX11_slack_46 : decode cX11_slack 46 = .ok (.ireturn, 1) := by decide +kernel
theorem dX11_slack_47 : decode cX11_slack 47 = .ok (.iconst 0, 1) := by decide +kernel
theorem dX11_slack_48 : decode cX11_slack 48 = .ok (.istore_n 2, 1) := by decide +kernel
theorem dX11_slack_49 : decode cX11_slack 49 = .ok (.iconst 1, 1) := by decide +kernel
theorem dX11_slack_50 : decode cX11_slack 50 = .ok (.istore_n 3, 1) := by decide +kernel
theorem dX11_slack_51 : decode cX11_slack 51 = .ok (.iload_n 3, 1) := by decide +kernel
theorem dX11_slack_52 : decode cX11_slack 52 = .ok (.bipush 30, 2) := by decide +kernel
theorem dX11_slack_54 : decode cX11_slack 54 = .ok (.if_icmp .gt 96, 3) := by decide +kernel
theorem dX11_slack_57 : decode cX11_slack 57 = .ok (.aload_n 0, 1) := by decide +kernel
theorem dX11_slack_58 : decode cX11_slack 58 = .ok (.iload_n 1, 1) := by decide +kernel
theorem dX11_slack_59 : decode cX11_slack 59 = .ok (.iload_n 3, 1) := by decide +kernel
theorem dX11_slack_60 : decode cX11_slack 60 = .ok (.aload_n 0, 1) := by decide +kernel
theorem dX11_slack_61 : decode cX11_slack 61 = .ok (.getfield 78, 3) := by decide +kernel
theorem dX11_slack_64 : decode cX11_slack 64 = .ok (.invokevirtual 378, 3) := by decide +kernel
theorem dX11_slack_67 : decode cX11_slack 67 = .ok (.pop, 1) := by decide +kernel
theorem dX11_slack_68 : decode cX11_slack 68 = .ok (.iconst 1, 1) := by decide +kernel
theorem dX11_slack_69 : decode cX11_slack 69 = .ok (.istore 4, 2) := by decide +kernel
theorem dX11_slack_71 : decode cX11_slack 71 = .ok (.iconst 0, 1) := by decide +kernel
theorem dX11_slack_72 : decode cX11_slack 72 = .ok (.istore 5, 2) := by decide +kernel
theorem dX11_slack_74 : decode cX11_slack 74 = .ok (.iload 5, 2) := by decide +kernel
theorem dX11_slack_76 : decode cX11_slack 76 = .ok (.aload_n 0, 1) := by decide +kernel
theorem dX11_slack_77 : decode cX11_slack 77 = .ok (.getfield 113, 3) := by decide +kernel
theorem dX11_slack_80 : decode cX11_slack 80 = .ok (.if_icmp .ge 57, 3) := by decide +kernel
theorem dX11_slack_83 : decode cX11_slack 83 = .ok (.iload 4, 2) := by decide +kernel
theorem dX11_slack_85 : decode cX11_slack 85 = .ok (.ifCond .eq 43, 3) := by decide +kernel
theorem dX11_slack_88 : decode cX11_slack 88 = .ok (.iload 5, 2) := by decide +kernel
theorem dX11_slack_90 : decode cX11_slack 90 = .ok (.iload_n 1, 1) := by decide +kernel
theorem dX11_slack_91 : decode cX11_slack 91 = .ok (.if_icmp .eq 33, 3) := by decide +kernel
theorem dX11_slack_94 : decode cX11_slack 94 = .ok (.aload_n 0, 1) := by decide +kernel
theorem dX11_slack_95 : decode cX11_slack 95 = .ok (.aload_n 0, 1) := by decide +kernel
theorem dX11_slack_96 : decode cX11_slack 96 = .ok (.getfield 9, 3) := by decide +kernel
theorem dX11_slack_99 : decode cX11_slack 99 = .ok (.iload 5, 2) := by decide +kernel
theorem dX11_slack_101 : decode cX11_slack 101 = .ok (.invokevirtual 224, 3) := by decide +kernel
theorem dX11_slack_104 : decode cX11_slack 104 = .ok (.ifCond .eq 20, 3) := by decide +kernel
theorem dX11_slack_107 : decode cX11_slack 107 = .ok (.aload_n 0, 1) := by decide +kernel
theorem dX11_slack_108 : decode cX11_slack 108 = .ok (.getfield 78, 3) := by decide +kernel
theorem dX11_slack_111 : decode cX11_slack 111 = .ok (.iload 5, 2) := by decide +kernel
theorem dX11_slack_113 : decode cX11_slack 113 = .ok (.iaload, 1) := by decide +kernel
theorem dX11_slack_114 : decode cX11_slack 114 = .ok (.aload_n 0, 1) := by decide +kernel
theorem dX11_slack_115 : decode cX11_slack 115 = .ok (.getfield 75, 3) := by decide +kernel
theorem dX11_slack_118 : decode cX11_slack 118 = .ok (.iload 5, 2) := by decide +kernel
theorem dX11_slack_120 : decode cX11_slack 120 = .ok (.iaload, 1) := by decide +kernel
theorem dX11_slack_121 : decode cX11_slack 121 = .ok (.if_icmp .gt 7, 3) := by decide +kernel
theorem dX11_slack_124 : decode cX11_slack 124 = .ok (.iconst 1, 1) := by decide +kernel
theorem dX11_slack_125 : decode cX11_slack 125 = .ok (.goto 4, 3) := by decide +kernel
theorem dX11_slack_128 : decode cX11_slack 128 = .ok (.iconst 0, 1) := by decide +kernel
theorem dX11_slack_129 : decode cX11_slack 129 = .ok (.istore 4, 2) := by decide +kernel
theorem dX11_slack_131 : decode cX11_slack 131 = .ok (.iinc 5 1, 3) := by decide +kernel
theorem dX11_slack_134 : decode cX11_slack 134 = .ok (.goto (-60), 3) := by decide +kernel
theorem dX11_slack_137 : decode cX11_slack 137 = .ok (.iload 4, 2) := by decide +kernel
theorem dX11_slack_139 : decode cX11_slack 139 = .ok (.ifCond .eq 5, 3) := by decide +kernel
theorem dX11_slack_142 : decode cX11_slack 142 = .ok (.iload_n 3, 1) := by decide +kernel
theorem dX11_slack_143 : decode cX11_slack 143 = .ok (.istore_n 2, 1) := by decide +kernel
theorem dX11_slack_144 : decode cX11_slack 144 = .ok (.iinc 3 1, 3) := by decide +kernel
theorem dX11_slack_147 : decode cX11_slack 147 = .ok (.goto (-96), 3) := by decide +kernel
theorem dX11_slack_150 : decode cX11_slack 150 = .ok (.iload_n 2, 1) := by decide +kernel
theorem dX11_slack_151 : decode cX11_slack 151 = .ok (.ireturn, 1) := by decide +kernel
theorem dX11_dies_0 : decode cX11_dies 0 = .ok (.aload_n 0, 1) := by decide +kernel
theorem dX11_dies_1 : decode cX11_dies 1 = .ok (.iconst 0, 1) := by decide +kernel
theorem dX11_dies_2 : decode cX11_dies 2 = .ok (.putfield 99, 3) := by decide +kernel
theorem dX11_dies_5 : decode cX11_dies 5 = .ok (.aload_n 0, 1) := by decide +kernel
theorem dX11_dies_6 : decode cX11_dies 6 = .ok (.iload_n 1, 1) := by decide +kernel
theorem dX11_dies_7 : decode cX11_dies 7 = .ok (.invokevirtual 228, 3) := by decide +kernel
theorem dX11_dies_10 : decode cX11_dies 10 = .ok (.ifCond .eq 23, 3) := by decide +kernel
theorem dX11_dies_13 : decode cX11_dies 13 = .ok (.iload_n 2, 1) := by decide +kernel
theorem dX11_dies_14 : decode cX11_dies 14 = .ok (.iconst 1, 1) := by decide +kernel
theorem dX11_dies_15 : decode cX11_dies 15 = .ok (.bipush 60, 2) := by decide +kernel
theorem dX11_dies_17 : decode cX11_dies 17 = .ok (.invokestatic 109, 3) := by decide +kernel
theorem dX11_dies_20 : decode cX11_dies 20 = .ok (.ifCond .eq 13, 3) := by decide +kernel
theorem dX11_dies_23 : decode cX11_dies 23 = .ok (.iload_n 3, 1) := by decide +kernel
theorem dX11_dies_24 : decode cX11_dies 24 = .ok (.iconst 1, 1) := by decide +kernel
theorem dX11_dies_25 : decode cX11_dies 25 = .ok (.bipush 60, 2) := by decide +kernel
theorem dX11_dies_27 : decode cX11_dies 27 = .ok (.invokestatic 109, 3) := by decide +kernel
theorem dX11_dies_30 : decode cX11_dies 30 = .ok (.ifCond .ne 5, 3) := by decide +kernel
theorem dX11_dies_33 : decode cX11_dies 33 = .ok (.iconst (-1), 1) := by decide +kernel
theorem dX11_dies_34 : decode cX11_dies 34 = .ok (.ireturn, 1) := by decide +kernel
theorem dX11_dies_35 : decode cX11_dies 35 = .ok (.aload_n 0, 1) := by decide +kernel
theorem dX11_dies_36 : decode cX11_dies 36 = .ok (.invokevirtual 271, 3) := by decide +kernel
theorem dX11_dies_39 : decode cX11_dies 39 = .ok (.aload_n 0, 1) := by decide +kernel
theorem dX11_dies_40 : decode cX11_dies 40 = .ok (.iload_n 1, 1) := by decide +kernel
theorem dX11_dies_41 : decode cX11_dies 41 = .ok (.invokevirtual 372, 3) := by decide +kernel
theorem dX11_dies_44 : decode cX11_dies 44 = .ok (.istore 4, 2) := by decide +kernel
theorem dX11_dies_46 : decode cX11_dies 46 = .ok (.iload_n 2, 1) := by decide +kernel
theorem dX11_dies_47 : decode cX11_dies 47 = .ok (.iload 4, 2) := by decide +kernel
theorem dX11_dies_49 : decode cX11_dies 49 = .ok (.if_icmp .ge 6, 3) := by decide +kernel
theorem dX11_dies_52 : decode cX11_dies 52 = .ok (.bipush (-2), 2) := by decide +kernel
theorem dX11_dies_54 : decode cX11_dies 54 = .ok (.ireturn, 1) := by decide +kernel
theorem dX11_dies_55 : decode cX11_dies 55 = .ok (.iconst 0, 1) := by decide +kernel
theorem dX11_dies_56 : decode cX11_dies 56 = .ok (.istore 5, 2) := by decide +kernel
theorem dX11_dies_58 : decode cX11_dies 58 = .ok (.iconst 0, 1) := by decide +kernel
theorem dX11_dies_59 : decode cX11_dies 59 = .ok (.istore 6, 2) := by decide +kernel
theorem dX11_dies_61 : decode cX11_dies 61 = .ok (.iconst 0, 1) := by decide +kernel
theorem dX11_dies_62 : decode cX11_dies 62 = .ok (.iload_n 3, 1) := by decide +kernel
theorem dX11_dies_63 : decode cX11_dies 63 = .ok (.iload_n 2, 1) := by decide +kernel
theorem dX11_dies_64 : decode cX11_dies 64 = .ok (.isub, 1) := by decide +kernel
theorem dX11_dies_65 : decode cX11_dies 65 = .ok (.iload 4, 2) := by decide +kernel
theorem dX11_dies_67 : decode cX11_dies 67 = .ok (.iadd, 1) := by decide +kernel
theorem dX11_dies_68 : decode cX11_dies 68 = .ok (.invokestatic 218, 3) := by decide +kernel
theorem dX11_dies_71 : decode cX11_dies 71 = .ok (.istore 7, 2) := by decide +kernel
theorem dX11_dies_73 : decode cX11_dies 73 = .ok (.iload 7, 2) := by decide +kernel
theorem dX11_dies_75 : decode cX11_dies 75 = .ok (.ifCond .le 33, 3) := by decide +kernel
theorem dX11_dies_78 : decode cX11_dies 78 = .ok (.iload 5, 2) := by decide +kernel
theorem dX11_dies_80 : decode cX11_dies 80 = .ok (.bipush 20, 2) := by decide +kernel
theorem dX11_dies_82 : decode cX11_dies 82 = .ok (.if_icmp .ge 26, 3) := by decide +kernel
theorem dX11_dies_85 : decode cX11_dies 85 = .ok (.iinc 5 1, 3) := by decide +kernel
theorem dX11_dies_88 : decode cX11_dies 88 = .ok (.iload 7, 2) := by decide +kernel
theorem dX11_dies_90 : decode cX11_dies 90 = .ok (.istore 6, 2) := by decide +kernel
theorem dX11_dies_92 : decode cX11_dies 92 = .ok (.iconst 0, 1) := by decide +kernel
theorem dX11_dies_93 : decode cX11_dies 93 = .ok (.iload 7, 2) := by decide +kernel
theorem dX11_dies_95 : decode cX11_dies 95 = .ok (.iload_n 2, 1) := by decide +kernel
theorem dX11_dies_96 : decode cX11_dies 96 = .ok (.isub, 1) := by decide +kernel
theorem dX11_dies_97 : decode cX11_dies 97 = .ok (.iload 4, 2) := by decide +kernel
theorem dX11_dies_99 : decode cX11_dies 99 = .ok (.iadd, 1) := by decide +kernel
theorem dX11_dies_100 : decode cX11_dies 100 = .ok (.invokestatic 218, 3) := by decide +kernel
theorem dX11_dies_103 : decode cX11_dies 103 = .ok (.istore 7, 2) := by decide +kernel
theorem dX11_dies_105 : decode cX11_dies 105 = .ok (.goto (-32), 3) := by decide +kernel
theorem dX11_dies_108 : decode cX11_dies 108 = .ok (.aload_n 0, 1) := by decide +kernel
theorem dX11_dies_109 : decode cX11_dies 109 = .ok (.iconst 0, 1) := by decide +kernel
theorem dX11_dies_110 : decode cX11_dies 110 = .ok (.putfield 103, 3) := by decide +kernel
theorem dX11_dies_113 : decode cX11_dies 113 = .ok (.aload_n 0, 1) := by decide +kernel
theorem dX11_dies_114 : decode cX11_dies 114 = .ok (.iload 6, 2) := by decide +kernel
theorem dX11_dies_116 : decode cX11_dies 116 = .ok (.invokevirtual 300, 3) := by decide +kernel
theorem dX11_dies_119 : decode cX11_dies 119 = .ok (.iload 5, 2) := by decide +kernel
theorem dX11_dies_121 : decode cX11_dies 121 = .ok (.ireturn, 1) := by decide +kernel
theorem dX11_canJoin_0 : decode cX11_canJoin 0 = .ok (.aload_n 0, 1) := by decide +kernel
theorem dX11_canJoin_1 : decode cX11_canJoin 1 = .ok (.getfield 20, 3) := by decide +kernel
theorem dX11_canJoin_4 : decode cX11_canJoin 4 = .ok (.iload_n 1, 1) := by decide +kernel
theorem dX11_canJoin_5 : decode cX11_canJoin 5 = .ok (.iaload, 1) := by decide +kernel
theorem dX11_canJoin_6 : decode cX11_canJoin 6 = .ok (.aload_n 0, 1) := by decide +kernel
theorem dX11_canJoin_7 : decode cX11_canJoin 7 = .ok (.getfield 20, 3) := by decide +kernel
theorem dX11_canJoin_10 : decode cX11_canJoin 10 = .ok (.iload_n 2, 1) := by decide +kernel
theorem dX11_canJoin_11 : decode cX11_canJoin 11 = .ok (.iaload, 1) := by decide +kernel
theorem dX11_canJoin_12 : decode cX11_canJoin 12 = .ok (.if_icmp .ne 40, 3) := by decide +kernel
theorem dX11_canJoin_15 : decode cX11_canJoin 15 = .ok (.aload_n 0, 1) := by decide +kernel
theorem dX11_canJoin_16 : decode cX11_canJoin 16 = .ok (.getfield 26, 3) := by decide +kernel
theorem dX11_canJoin_19 : decode cX11_canJoin 19 = .ok (.iload_n 1, 1) := by decide +kernel
theorem dX11_canJoin_20 : decode cX11_canJoin 20 = .ok (.baload, 1) := by decide +kernel
theorem dX11_canJoin_21 : decode cX11_canJoin 21 = .ok (.aload_n 0, 1) := by decide +kernel
theorem dX11_canJoin_22 : decode cX11_canJoin 22 = .ok (.getfield 26, 3) := by decide +kernel
theorem dX11_canJoin_25 : decode cX11_canJoin 25 = .ok (.iload_n 2, 1) := by decide +kernel
theorem dX11_canJoin_26 : decode cX11_canJoin 26 = .ok (.baload, 1) := by decide +kernel
theorem dX11_canJoin_27 : decode cX11_canJoin 27 = .ok (.if_icmp .ne 25, 3) := by decide +kernel
theorem dX11_canJoin_30 : decode cX11_canJoin 30 = .ok (.aload_n 0, 1) := by decide +kernel
theorem dX11_canJoin_31 : decode cX11_canJoin 31 = .ok (.getfield 23, 3) := by decide +kernel
theorem dX11_canJoin_34 : decode cX11_canJoin 34 = .ok (.iload_n 1, 1) := by decide +kernel
theorem dX11_canJoin_35 : decode cX11_canJoin 35 = .ok (.iaload, 1) := by decide +kernel
theorem dX11_canJoin_36 : decode cX11_canJoin 36 = .ok (.aload_n 0, 1) := by decide +kernel
theorem dX11_canJoin_37 : decode cX11_canJoin 37 = .ok (.getfield 23, 3) := by decide +kernel
theorem dX11_canJoin_40 : decode cX11_canJoin 40 = .ok (.iload_n 2, 1) := by decide +kernel
theorem dX11_canJoin_41 : decode cX11_canJoin 41 = .ok (.iaload, 1) := by decide +kernel
theorem dX11_canJoin_42 : decode cX11_canJoin 42 = .ok (.iadd, 1) := by decide +kernel
theorem dX11_canJoin_43 : decode cX11_canJoin 43 = .ok (.bipush 40, 2) := by decide +kernel
theorem dX11_canJoin_45 : decode cX11_canJoin 45 = .ok (.if_icmp .gt 7, 3) := by decide +kernel
theorem dX11_canJoin_48 : decode cX11_canJoin 48 = .ok (.iconst 1, 1) := by decide +kernel
theorem dX11_canJoin_49 : decode cX11_canJoin 49 = .ok (.goto 4, 3) := by decide +kernel
theorem dX11_canJoin_52 : decode cX11_canJoin 52 = .ok (.iconst 0, 1) := by decide +kernel
theorem dX11_canJoin_53 : decode cX11_canJoin 53 = .ok (.ireturn, 1) := by decide +kernel
theorem dX11_lossOf_0 : decode cX11_lossOf 0 = .ok (.iconst 0, 1) := by decide +kernel
theorem dX11_lossOf_1 : decode cX11_lossOf 1 = .ok (.istore_n 3, 1) := by decide +kernel
theorem dX11_lossOf_2 : decode cX11_lossOf 2 = .ok (.iconst 0, 1) := by decide +kernel
theorem dX11_lossOf_3 : decode cX11_lossOf 3 = .ok (.istore 4, 2) := by decide +kernel
theorem dX11_lossOf_5 : decode cX11_lossOf 5 = .ok (.iload 4, 2) := by decide +kernel
theorem dX11_lossOf_7 : decode cX11_lossOf 7 = .ok (.aload_n 0, 1) := by decide +kernel
theorem dX11_lossOf_8 : decode cX11_lossOf 8 = .ok (.getfield 106, 3) := by decide +kernel
theorem dX11_lossOf_11 : decode cX11_lossOf 11 = .ok (.if_icmp .ge 66, 3) := by decide +kernel
theorem dX11_lossOf_14 : decode cX11_lossOf 14 = .ok (.aload_n 0, 1) := by decide +kernel
theorem dX11_lossOf_15 : decode cX11_lossOf 15 = .ok (.getfield 48, 3) := by decide +kernel
theorem dX11_lossOf_18 : decode cX11_lossOf 18 = .ok (.bipush 6, 2) := by decide +kernel
theorem dX11_lossOf_20 : decode cX11_lossOf 20 = .ok (.iload_n 1, 1) := by decide +kernel
theorem dX11_lossOf_21 : decode cX11_lossOf 21 = .ok (.imul, 1) := by decide +kernel
theorem dX11_lossOf_22 : decode cX11_lossOf 22 = .ok (.iload 4, 2) := by decide +kernel
theorem dX11_lossOf_24 : decode cX11_lossOf 24 = .ok (.iadd, 1) := by decide +kernel
theorem dX11_lossOf_25 : decode cX11_lossOf 25 = .ok (.iaload, 1) := by decide +kernel
theorem dX11_lossOf_26 : decode cX11_lossOf 26 = .ok (.aload_n 0, 1) := by decide +kernel
theorem dX11_lossOf_27 : decode cX11_lossOf 27 = .ok (.getfield 48, 3) := by decide +kernel
theorem dX11_lossOf_30 : decode cX11_lossOf 30 = .ok (.bipush 6, 2) := by decide +kernel
theorem dX11_lossOf_32 : decode cX11_lossOf 32 = .ok (.iload_n 2, 1) := by decide +kernel
theorem dX11_lossOf_33 : decode cX11_lossOf 33 = .ok (.imul, 1) := by decide +kernel
theorem dX11_lossOf_34 : decode cX11_lossOf 34 = .ok (.iload 4, 2) := by decide +kernel
theorem dX11_lossOf_36 : decode cX11_lossOf 36 = .ok (.iadd, 1) := by decide +kernel
theorem dX11_lossOf_37 : decode cX11_lossOf 37 = .ok (.iaload, 1) := by decide +kernel
theorem dX11_lossOf_38 : decode cX11_lossOf 38 = .ok (.isub, 1) := by decide +kernel
theorem dX11_lossOf_39 : decode cX11_lossOf 39 = .ok (.istore 5, 2) := by decide +kernel
theorem dX11_lossOf_41 : decode cX11_lossOf 41 = .ok (.iload_n 3, 1) := by decide +kernel
theorem dX11_lossOf_42 : decode cX11_lossOf 42 = .ok (.iload 5, 2) := by decide +kernel
theorem dX11_lossOf_44 : decode cX11_lossOf 44 = .ok (.ifCond .ge 16, 3) := by decide +kernel
theorem dX11_lossOf_47 : decode cX11_lossOf 47 = .ok (.iload 5, 2) := by decide +kernel
theorem dX11_lossOf_49 : decode cX11_lossOf 49 = .ok (.ineg, 1) := by decide +kernel
theorem dX11_lossOf_50 : decode cX11_lossOf 50 = .ok (.aload_n 0, 1) := by decide +kernel
theorem dX11_lossOf_51 : decode cX11_lossOf 51 = .ok (.getfield 23, 3) := by decide +kernel
theorem dX11_lossOf_54 : decode cX11_lossOf 54 = .ok (.iload_n 1, 1) := by decide +kernel
theorem dX11_lossOf_55 : decode cX11_lossOf 55 = .ok (.iaload, 1) := by decide +kernel
theorem dX11_lossOf_56 : decode cX11_lossOf 56 = .ok (.imul, 1) := by decide +kernel
theorem dX11_lossOf_57 : decode cX11_lossOf 57 = .ok (.goto 12, 3) := by decide +kernel
theorem dX11_lossOf_60 : decode cX11_lossOf 60 = .ok (.iload 5, 2) := by decide +kernel
theorem dX11_lossOf_62 : decode cX11_lossOf 62 = .ok (.aload_n 0, 1) := by decide +kernel
theorem dX11_lossOf_63 : decode cX11_lossOf 63 = .ok (.getfield 23, 3) := by decide +kernel
theorem dX11_lossOf_66 : decode cX11_lossOf 66 = .ok (.iload_n 2, 1) := by decide +kernel
theorem dX11_lossOf_67 : decode cX11_lossOf 67 = .ok (.iaload, 1) := by decide +kernel
theorem dX11_lossOf_68 : decode cX11_lossOf 68 = .ok (.imul, 1) := by decide +kernel
theorem dX11_lossOf_69 : decode cX11_lossOf 69 = .ok (.iadd, 1) := by decide +kernel
theorem dX11_lossOf_70 : decode cX11_lossOf 70 = .ok (.istore_n 3, 1) := by decide +kernel
theorem dX11_lossOf_71 : decode cX11_lossOf 71 = .ok (.iinc 4 1, 3) := by decide +kernel
theorem dX11_lossOf_74 : decode cX11_lossOf 74 = .ok (.goto (-69), 3) := by decide +kernel
theorem dX11_lossOf_77 : decode cX11_lossOf 77 = .ok (.iload_n 3, 1) := by decide +kernel
theorem dX11_lossOf_78 : decode cX11_lossOf 78 = .ok (.ireturn, 1) := by decide +kernel
theorem dX11_loss_0 : decode cX11_loss 0 = .ok (.aload_n 0, 1) := by decide +kernel
theorem dX11_loss_1 : decode cX11_loss 1 = .ok (.iconst 0, 1) := by decide +kernel
theorem dX11_loss_2 : decode cX11_loss 2 = .ok (.putfield 99, 3) := by decide +kernel
theorem dX11_loss_5 : decode cX11_loss 5 = .ok (.aload_n 0, 1) := by decide +kernel
theorem dX11_loss_6 : decode cX11_loss 6 = .ok (.iload_n 1, 1) := by decide +kernel
theorem dX11_loss_7 : decode cX11_loss 7 = .ok (.iload_n 2, 1) := by decide +kernel
theorem dX11_loss_8 : decode cX11_loss 8 = .ok (.invokevirtual 360, 3) := by decide +kernel
theorem dX11_loss_11 : decode cX11_loss 11 = .ok (.ifCond .ne 5, 3) := by decide +kernel
theorem dX11_loss_14 : decode cX11_loss 14 = .ok (.iconst (-1), 1) := by decide +kernel
theorem dX11_loss_15 : decode cX11_loss 15 = .ok (.ireturn, 1) := by decide +kernel
theorem dX11_loss_16 : decode cX11_loss 16 = .ok (.aload_n 0, 1) := by decide +kernel
theorem dX11_loss_17 : decode cX11_loss 17 = .ok (.iload_n 1, 1) := by decide +kernel
theorem dX11_loss_18 : decode cX11_loss 18 = .ok (.iload_n 2, 1) := by decide +kernel
theorem dX11_loss_19 : decode cX11_loss 19 = .ok (.invokevirtual 382, 3) := by decide +kernel
theorem dX11_loss_22 : decode cX11_loss 22 = .ok (.ifCond .ne 6, 3) := by decide +kernel
theorem dX11_loss_25 : decode cX11_loss 25 = .ok (.bipush (-2), 2) := by decide +kernel
theorem dX11_loss_27 : decode cX11_loss 27 = .ok (.ireturn, 1) := by decide +kernel
theorem dX11_loss_28 : decode cX11_loss 28 = .ok (.aload_n 0, 1) := by decide +kernel
theorem dX11_loss_29 : decode cX11_loss 29 = .ok (.invokevirtual 271, 3) := by decide +kernel
theorem dX11_loss_32 : decode cX11_loss 32 = .ok (.aload_n 0, 1) := by decide +kernel
theorem dX11_loss_33 : decode cX11_loss 33 = .ok (.iload_n 1, 1) := by decide +kernel
theorem dX11_loss_34 : decode cX11_loss 34 = .ok (.iload_n 2, 1) := by decide +kernel
theorem dX11_loss_35 : decode cX11_loss 35 = .ok (.invokevirtual 385, 3) := by decide +kernel
theorem dX11_loss_38 : decode cX11_loss 38 = .ok (.ireturn, 1) := by decide +kernel
theorem dX11_goPairs_0 : decode cX11_goPairs 0 = .ok (.iload_n 1, 1) := by decide +kernel
theorem dX11_goPairs_1 : decode cX11_goPairs 1 = .ok (.aload_n 0, 1) := by decide +kernel
theorem dX11_goPairs_2 : decode cX11_goPairs 2 = .ok (.getfield 113, 3) := by decide +kernel
theorem dX11_goPairs_5 : decode cX11_goPairs 5 = .ok (.if_icmp .ne 71, 3) := by decide +kernel
theorem dX11_goPairs_8 : decode cX11_goPairs 8 = .ok (.iload_n 2, 1) := by decide +kernel
theorem dX11_goPairs_9 : decode cX11_goPairs 9 = .ok (.aload_n 0, 1) := by decide +kernel
theorem dX11_goPairs_10 : decode cX11_goPairs 10 = .ok (.getfield 388, 3) := by decide +kernel
theorem dX11_goPairs_13 : decode cX11_goPairs 13 = .ok (.if_icmp .lt 19, 3) := by decide +kernel
theorem dX11_goPairs_16 : decode cX11_goPairs 16 = .ok (.iload_n 2, 1) := by decide +kernel
theorem dX11_goPairs_17 : decode cX11_goPairs 17 = .ok (.aload_n 0, 1) := by decide +kernel
theorem dX11_goPairs_18 : decode cX11_goPairs 18 = .ok (.getfield 388, 3) := by decide +kernel
theorem dX11_goPairs_21 : decode cX11_goPairs 21 = .ok (.if_icmp .ne 12, 3) := by decide +kernel
theorem dX11_goPairs_24 : decode cX11_goPairs 24 = .ok (.iload_n 3, 1) := by decide +kernel
theorem dX11_goPairs_25 : decode cX11_goPairs 25 = .ok (.aload_n 0, 1) := by decide +kernel
theorem dX11_goPairs_26 : decode cX11_goPairs 26 = .ok (.getfield 391, 3) := by decide +kernel
theorem dX11_goPairs_29 : decode cX11_goPairs 29 = .ok (.if_icmp .lt 4, 3) := by decide +kernel
theorem dX11_goPairs_32 : decode cX11_goPairs 32 = .ok (.return_, 1) := by decide +kernel
theorem dX11_goPairs_33 : decode cX11_goPairs 33 = .ok (.aload_n 0, 1) := by decide +kernel
theorem dX11_goPairs_34 : decode cX11_goPairs 34 = .ok (.iload_n 2, 1) := by decide +kernel
theorem dX11_goPairs_35 : decode cX11_goPairs 35 = .ok (.putfield 388, 3) := by decide +kernel
theorem dX11_goPairs_38 : decode cX11_goPairs 38 = .ok (.aload_n 0, 1) := by decide +kernel
theorem dX11_goPairs_39 : decode cX11_goPairs 39 = .ok (.iload_n 3, 1) := by decide +kernel
theorem dX11_goPairs_40 : decode cX11_goPairs 40 = .ok (.putfield 391, 3) := by decide +kernel
theorem dX11_goPairs_43 : decode cX11_goPairs 43 = .ok (.iconst 0, 1) := by decide +kernel
theorem dX11_goPairs_44 : decode cX11_goPairs 44 = .ok (.istore 4, 2) := by decide +kernel
theorem dX11_goPairs_46 : decode cX11_goPairs 46 = .ok (.iload 4, 2) := by decide +kernel
theorem dX11_goPairs_48 : decode cX11_goPairs 48 = .ok (.aload_n 0, 1) := by decide +kernel
theorem dX11_goPairs_49 : decode cX11_goPairs 49 = .ok (.getfield 113, 3) := by decide +kernel
theorem dX11_goPairs_52 : decode cX11_goPairs 52 = .ok (.if_icmp .ge 23, 3) := by decide +kernel
theorem dX11_goPairs_55 : decode cX11_goPairs 55 = .ok (.aload_n 0, 1) := by decide +kernel
theorem dX11_goPairs_56 : decode cX11_goPairs 56 = .ok (.getfield 84, 3) := by decide +kernel
theorem dX11_goPairs_59 : decode cX11_goPairs 59 = .ok (.iload 4, 2) := by decide +kernel
theorem dX11_goPairs_61 : decode cX11_goPairs 61 = .ok (.aload_n 0, 1) := by decide +kernel
theorem dX11_goPairs_62 : decode cX11_goPairs 62 = .ok (.getfield 81, 3) := by decide +kernel
theorem dX11_goPairs_65 : decode cX11_goPairs 65 = .ok (.iload 4, 2) := by decide +kernel
theorem dX11_goPairs_67 : decode cX11_goPairs 67 = .ok (.iaload, 1) := by decide +kernel
theorem dX11_goPairs_68 : decode cX11_goPairs 68 = .ok (.iastore, 1) := by decide +kernel
theorem dX11_goPairs_69 : decode cX11_goPairs 69 = .ok (.iinc 4 1, 3) := by decide +kernel
theorem dX11_goPairs_72 : decode cX11_goPairs 72 = .ok (.goto (-26), 3) := by decide +kernel
theorem dX11_goPairs_75 : decode cX11_goPairs 75 = .ok (.return_, 1) := by decide +kernel
theorem dX11_goPairs_76 : decode cX11_goPairs 76 = .ok (.aload_n 0, 1) := by decide +kernel
theorem dX11_goPairs_77 : decode cX11_goPairs 77 = .ok (.getfield 81, 3) := by decide +kernel
theorem dX11_goPairs_80 : decode cX11_goPairs 80 = .ok (.iload_n 1, 1) := by decide +kernel
theorem dX11_goPairs_81 : decode cX11_goPairs 81 = .ok (.iaload, 1) := by decide +kernel
theorem dX11_goPairs_82 : decode cX11_goPairs 82 = .ok (.iconst (-1), 1) := by decide +kernel
theorem dX11_goPairs_83 : decode cX11_goPairs 83 = .ok (.if_icmp .eq 13, 3) := by decide +kernel
theorem dX11_goPairs_86 : decode cX11_goPairs 86 = .ok (.aload_n 0, 1) := by decide +kernel
theorem dX11_goPairs_87 : decode cX11_goPairs 87 = .ok (.iload_n 1, 1) := by decide +kernel
theorem dX11_goPairs_88 : decode cX11_goPairs 88 = .ok (.iconst 1, 1) := by decide +kernel
theorem dX11_goPairs_89 : decode cX11_goPairs 89 = .ok (.iadd, 1) := by decide +kernel
theorem dX11_goPairs_90 : decode cX11_goPairs 90 = .ok (.iload_n 2, 1) := by decide +kernel
theorem dX11_goPairs_91 : decode cX11_goPairs 91 = .ok (.iload_n 3, 1) := by decide +kernel
theorem dX11_goPairs_92 : decode cX11_goPairs 92 = .ok (.invokevirtual 394, 3) := by decide +kernel
theorem dX11_goPairs_95 : decode cX11_goPairs 95 = .ok (.return_, 1) := by decide +kernel
theorem dX11_goPairs_96 : decode cX11_goPairs 96 = .ok (.aload_n 0, 1) := by decide +kernel
theorem dX11_goPairs_97 : decode cX11_goPairs 97 = .ok (.iload_n 1, 1) := by decide +kernel
theorem dX11_goPairs_98 : decode cX11_goPairs 98 = .ok (.iconst 1, 1) := by decide +kernel
theorem dX11_goPairs_99 : decode cX11_goPairs 99 = .ok (.iadd, 1) := by decide +kernel
theorem dX11_goPairs_100 : decode cX11_goPairs 100 = .ok (.iload_n 2, 1) := by decide +kernel
theorem dX11_goPairs_101 : decode cX11_goPairs 101 = .ok (.iload_n 3, 1) := by decide +kernel
theorem dX11_goPairs_102 : decode cX11_goPairs 102 = .ok (.invokevirtual 394, 3) := by decide +kernel
theorem dX11_goPairs_105 : decode cX11_goPairs 105 = .ok (.iload_n 1, 1) := by decide +kernel
theorem dX11_goPairs_106 : decode cX11_goPairs 106 = .ok (.iconst 1, 1) := by decide +kernel
theorem dX11_goPairs_107 : decode cX11_goPairs 107 = .ok (.iadd, 1) := by decide +kernel
theorem dX11_goPairs_108 : decode cX11_goPairs 108 = .ok (.istore 4, 2) := by decide +kernel
theorem dX11_goPairs_110 : decode cX11_goPairs 110 = .ok (.iload 4, 2) := by decide +kernel
theorem dX11_goPairs_112 : decode cX11_goPairs 112 = .ok (.aload_n 0, 1) := by decide +kernel
theorem dX11_goPairs_113 : decode cX11_goPairs 113 = .ok (.getfield 113, 3) := by decide +kernel
theorem dX11_goPairs_116 : decode cX11_goPairs 116 = .ok (.if_icmp .ge 83, 3) := by decide +kernel
theorem dX11_goPairs_119 : decode cX11_goPairs 119 = .ok (.aload_n 0, 1) := by decide +kernel
theorem dX11_goPairs_120 : decode cX11_goPairs 120 = .ok (.getfield 81, 3) := by decide +kernel
theorem dX11_goPairs_123 : decode cX11_goPairs 123 = .ok (.iload 4, 2) := by decide +kernel
theorem dX11_goPairs_125 : decode cX11_goPairs 125 = .ok (.iaload, 1) := by decide +kernel
theorem dX11_goPairs_126 : decode cX11_goPairs 126 = .ok (.iconst (-1), 1) := by decide +kernel
theorem dX11_goPairs_127 : decode cX11_goPairs 127 = .ok (.if_icmp .ne 66, 3) := by decide +kernel
theorem dX11_goPairs_130 : decode cX11_goPairs 130 = .ok (.aload_n 0, 1) := by decide +kernel
theorem dX11_goPairs_131 : decode cX11_goPairs 131 = .ok (.iload_n 1, 1) := by decide +kernel
theorem dX11_goPairs_132 : decode cX11_goPairs 132 = .ok (.iload 4, 2) := by decide +kernel
theorem dX11_goPairs_134 : decode cX11_goPairs 134 = .ok (.invokevirtual 382, 3) := by decide +kernel
theorem dX11_goPairs_137 : decode cX11_goPairs 137 = .ok (.ifCond .ne 6, 3) := by decide +kernel
theorem dX11_goPairs_140 : decode cX11_goPairs 140 = .ok (.goto 53, 3) := by decide +kernel
theorem dX11_goPairs_143 : decode cX11_goPairs 143 = .ok (.aload_n 0, 1) := by decide +kernel
theorem dX11_goPairs_144 : decode cX11_goPairs 144 = .ok (.getfield 81, 3) := by decide +kernel
theorem dX11_goPairs_147 : decode cX11_goPairs 147 = .ok (.iload_n 1, 1) := by decide +kernel
theorem dX11_goPairs_148 : decode cX11_goPairs 148 = .ok (.iload 4, 2) := by decide +kernel
theorem dX11_goPairs_150 : decode cX11_goPairs 150 = .ok (.iastore, 1) := by decide +kernel
theorem dX11_goPairs_151 : decode cX11_goPairs 151 = .ok (.aload_n 0, 1) := by decide +kernel
theorem dX11_goPairs_152 : decode cX11_goPairs 152 = .ok (.getfield 81, 3) := by decide +kernel
theorem dX11_goPairs_155 : decode cX11_goPairs 155 = .ok (.iload 4, 2) := by decide +kernel
theorem dX11_goPairs_157 : decode cX11_goPairs 157 = .ok (.iload_n 1, 1) := by decide +kernel
theorem dX11_goPairs_158 : decode cX11_goPairs 158 = .ok (.iastore, 1) := by decide +kernel
theorem dX11_goPairs_159 : decode cX11_goPairs 159 = .ok (.aload_n 0, 1) := by decide +kernel
theorem dX11_goPairs_160 : decode cX11_goPairs 160 = .ok (.iload_n 1, 1) := by decide +kernel
theorem dX11_goPairs_161 : decode cX11_goPairs 161 = .ok (.iconst 1, 1) := by decide +kernel
theorem dX11_goPairs_162 : decode cX11_goPairs 162 = .ok (.iadd, 1) := by decide +kernel
theorem dX11_goPairs_163 : decode cX11_goPairs 163 = .ok (.iload_n 2, 1) := by decide +kernel
theorem dX11_goPairs_164 : decode cX11_goPairs 164 = .ok (.iconst 1, 1) := by decide +kernel
theorem dX11_goPairs_165 : decode cX11_goPairs 165 = .ok (.iadd, 1) := by decide +kernel
theorem dX11_goPairs_166 : decode cX11_goPairs 166 = .ok (.iload_n 3, 1) := by decide +kernel
theorem dX11_goPairs_167 : decode cX11_goPairs 167 = .ok (.aload_n 0, 1) := by decide +kernel
theorem dX11_goPairs_168 : decode cX11_goPairs 168 = .ok (.iload_n 1, 1) := by decide +kernel
theorem dX11_goPairs_169 : decode cX11_goPairs 169 = .ok (.iload 4, 2) := by decide +kernel
theorem dX11_goPairs_171 : decode cX11_goPairs 171 = .ok (.invokevirtual 385, 3) := by decide +kernel
theorem dX11_goPairs_174 : decode cX11_goPairs 174 = .ok (.iadd, 1) := by decide +kernel
theorem dX11_goPairs_175 : decode cX11_goPairs 175 = .ok (.invokevirtual 394, 3) := by decide +kernel
theorem dX11_goPairs_178 : decode cX11_goPairs 178 = .ok (.aload_n 0, 1) := by decide +kernel
theorem dX11_goPairs_179 : decode cX11_goPairs 179 = .ok (.getfield 81, 3) := by decide +kernel
theorem dX11_goPairs_182 : decode cX11_goPairs 182 = .ok (.iload_n 1, 1) := by decide +kernel
theorem dX11_goPairs_183 : decode cX11_goPairs 183 = .ok (.iconst (-1), 1) := by decide +kernel
theorem dX11_goPairs_184 : decode cX11_goPairs 184 = .ok (.iastore, 1) := by decide +kernel
theorem dX11_goPairs_185 : decode cX11_goPairs 185 = .ok (.aload_n 0, 1) := by decide +kernel
theorem dX11_goPairs_186 : decode cX11_goPairs 186 = .ok (.getfield 81, 3) := by decide +kernel
theorem dX11_goPairs_189 : decode cX11_goPairs 189 = .ok (.iload 4, 2) := by decide +kernel
theorem dX11_goPairs_191 : decode cX11_goPairs 191 = .ok (.iconst (-1), 1) := by decide +kernel
theorem dX11_goPairs_192 : decode cX11_goPairs 192 = .ok (.iastore, 1) := by decide +kernel
theorem dX11_goPairs_193 : decode cX11_goPairs 193 = .ok (.iinc 4 1, 3) := by decide +kernel
theorem dX11_goPairs_196 : decode cX11_goPairs 196 = .ok (.goto (-86), 3) := by decide +kernel
theorem dX11_goPairs_199 : decode cX11_goPairs 199 = .ok (.return_, 1) := by decide +kernel
section NXG
variable {l : Launch} {D : va_G} {cy : Nat → ClassId} {ad : Nat → Nat} {dT : Nat} {X : Mm}
def f_X11_gapOf_163 (K106 : Int32 → Int32 → Int32 → Int32 → Int32 → Int32 → Mem → Option (Int32 × Mem)) (x1 : Int32) (x2 : Int32) (x3 : Int32) (x4 : Int32) (x5 : Int32) (x6 : Int32) (M : Mem) : Option (Int32 × Mem) :=
  gd (0 ≤ ((6 * x2) + x6) ∧ ((6 * x2) + x6).toNatClampNeg < 36) <|
  vl ((x5 + (M 187 ((6 * x2) + x6).toNatClampNeg))) fun v15 =>
  bd (f_X11_nextRoom x1 x6 M) fun r16 M17 =>
  K106 x1 x2 x3 x4 v15 r16 M17
set_option maxRecDepth 100000 in
theorem w_X11_gapOf_163 {R : Int32} {M' : Mem} {K106 : Int32 → Int32 → Int32 → Int32 → Int32 → Int32 → Mem → Option (Int32 × Mem)} (hK106 : ∀ (x1 x2 x3 x4 x5 x6 : Int32) (M : Mem), K106 x1 x2 x3 x4 x5 x6 M = some (R, M') → RunF l D cy ad none YX11_gapOf 3 0 0 (some (.int R)) (lay X M') 0 0 106 [(0, .ref 174), (1, .int x1), (2, .int x2), (3, .int x3), (4, .int x4), (5, .int x5), (6, .int x6)] [] (lay X M)) (x1 x2 x3 x4 x5 x6 : Int32) (M : Mem) (hF : f_X11_gapOf_163 K106 x1 x2 x3 x4 x5 x6 M = some (R, M')) : RunF l D cy ad none YX11_gapOf 3 0 0 (some (.int R)) (lay X M') 0 0 163 [(0, .ref 174), (1, .int x1), (2, .int x2), (3, .int x3), (4, .int x4), (5, .int x5), (6, .int x6)] [] (lay X M) := by
  unfold f_X11_gapOf_163 at hF
  refine g_iload (Y := YX11_gapOf) (pc := 163) 5 dX11_gapOf_163 rfl ?_
  refine g_aload_n (Y := YX11_gapOf) (pc := 165) 0 dX11_gapOf_165 rfl ?_
  refine u_getR (Y := YX11_gapOf) (pc := 166) (j := 187) dX11_gapOf_166 fl_X11_48 k_174 rf_174_26 ?_
  refine g_bipush (Y := YX11_gapOf) (pc := 169) dX11_gapOf_169 kB_6 ?_
  refine g_iload_n (Y := YX11_gapOf) (pc := 171) 2 dX11_gapOf_171 rfl ?_
  refine g_imul (Y := YX11_gapOf) (pc := 172) dX11_gapOf_172 ?_
  refine g_iload (Y := YX11_gapOf) (pc := 173) 6 dX11_gapOf_173 rfl ?_
  refine g_iadd (Y := YX11_gapOf) (pc := 175) dX11_gapOf_175 ?_
  obtain ⟨g14, hF⟩ := gd_some hF
  refine s_iald (Y := YX11_gapOf) (pc := 176) dX11_gapOf_176 k_187 n_187 g14 ?_
  refine g_iadd (Y := YX11_gapOf) (pc := 177) dX11_gapOf_177 ?_
  refine g_nm (fun v15 e => ?_)
  replace hF := vl_to e hF; clear e
  refine g_istore (Y := YX11_gapOf) (pc := 178) (L' := [(5, .int v15), (0, .ref 174), (1, .int x1), (2, .int x2), (3, .int x3), (4, .int x4), (6, .int x6)]) dX11_gapOf_178 (Nat.le_of_ble_eq_true rfl) rfl ?_
  refine g_aload_n (Y := YX11_gapOf) (pc := 180) 1 dX11_gapOf_180 rfl ?_
  refine g_iload_n (Y := YX11_gapOf) (pc := 181) 2 dX11_gapOf_181 rfl ?_
  refine g_iload (Y := YX11_gapOf) (pc := 182) 6 dX11_gapOf_182 rfl ?_
  obtain ⟨r16, M17, e18, hF⟩ := bd_some hF
  refine s_callVi (Y := YX11_gapOf) (pc := 184) (as := [.int x1, .int x6]) (st := []) (r_X11_nextRoom  e18) miX11_nextRoom lk_X11_252 dX11_gapOf_184 k_174 rfl (Nat.le_of_ble_eq_true rfl) (Nat.le_of_ble_eq_true rfl) rfl ?_
  clear e18
  refine g_istore (Y := YX11_gapOf) (pc := 187) (L' := [(6, .int r16), (5, .int v15), (0, .ref 174), (1, .int x1), (2, .int x2), (3, .int x3), (4, .int x4)]) dX11_gapOf_187 (Nat.le_of_ble_eq_true rfl) rfl ?_
  refine g_goto (Y := YX11_gapOf) (pc := 189) (tgt := 106) dX11_gapOf_189 rfl ?_
  refine g_loc [2, 3, 4, 5, 6, 1, 0] rfl ?_
  exact hK106 _ _ _ _ _ _ _ hF
def f_X11_gapOf_106  : Nat → Int32 → Int32 → Int32 → Int32 → Int32 → Int32 → Mem → Option (Int32 × Mem)
  | 0, _, _, _, _, _, _, _ => none
  | n + 1, x1, x2, x3, x4, x5, x6, M =>
    if x6 = 9 then
      some (x3, M)
    else
      gd (0 ≤ ((6 * x1) + x6) ∧ ((6 * x1) + x6).toNatClampNeg < 36) <|
      vl ((x4 + (M 187 ((6 * x1) + x6).toNatClampNeg))) fun v11 =>
      gd (0 ≤ x6 ∧ x6.toNatClampNeg < 6) <|
      if (M 176 x6.toNatClampNeg) = 0 then
        if (M 174 41) = (-1) then
          if (v11 - x5) = x3 then
            ml (up M 174 41 x6) fun M21 =>
            f_X11_gapOf_163 (f_X11_gapOf_106 n) x1 x2 x3 v11 x5 x6 M21
          else
            f_X11_gapOf_163 (f_X11_gapOf_106 n) x1 x2 x3 v11 x5 x6 M
        else
          f_X11_gapOf_163 (f_X11_gapOf_106 n) x1 x2 x3 v11 x5 x6 M
      else
        f_X11_gapOf_163 (f_X11_gapOf_106 n) x1 x2 x3 v11 x5 x6 M
set_option maxRecDepth 100000 in
theorem w_X11_gapOf_106 {R : Int32} {M' : Mem}  : ∀ (n : Nat) (x1 x2 x3 x4 x5 x6 : Int32) (M : Mem), f_X11_gapOf_106 n x1 x2 x3 x4 x5 x6 M = some (R, M') → RunF l D cy ad none YX11_gapOf 3 0 0 (some (.int R)) (lay X M') 0 0 106 [(0, .ref 174), (1, .int x1), (2, .int x2), (3, .int x3), (4, .int x4), (5, .int x5), (6, .int x6)] [] (lay X M) := by
  intro n
  induction n with
  | zero => intro x1 x2 x3 x4 x5 x6 M hF; exact absurd hF (by unfold f_X11_gapOf_106; exact fun h => nomatch h)
  | succ n ih =>
    intro x1 x2 x3 x4 x5 x6 M hF
    unfold f_X11_gapOf_106 at hF
    refine g_iload (Y := YX11_gapOf) (pc := 106) 6 dX11_gapOf_106 rfl ?_
    refine g_bipush (Y := YX11_gapOf) (pc := 108) dX11_gapOf_108 kB_9 ?_
    refine g_icmp_eq (Y := YX11_gapOf) (pc := 110) (tgt := 192) dX11_gapOf_110 rfl (fun c9 => ?_) (fun c9 => ?_)
    · replace hF := if_t c9 hF
      refine g_iload_n (Y := YX11_gapOf) (pc := 192) 3 dX11_gapOf_192 rfl ?_
      exact s_iret (Y := YX11_gapOf) (pc := 193) dX11_gapOf_193 rfl hF
    · replace hF := if_f c9 hF
      refine g_iload (Y := YX11_gapOf) (pc := 113) 4 dX11_gapOf_113 rfl ?_
      refine g_aload_n (Y := YX11_gapOf) (pc := 115) 0 dX11_gapOf_115 rfl ?_
      refine u_getR (Y := YX11_gapOf) (pc := 116) (j := 187) dX11_gapOf_116 fl_X11_48 k_174 rf_174_26 ?_
      refine g_bipush (Y := YX11_gapOf) (pc := 119) dX11_gapOf_119 kB_6 ?_
      refine g_iload_n (Y := YX11_gapOf) (pc := 121) 1 dX11_gapOf_121 rfl ?_
      refine g_imul (Y := YX11_gapOf) (pc := 122) dX11_gapOf_122 ?_
      refine g_iload (Y := YX11_gapOf) (pc := 123) 6 dX11_gapOf_123 rfl ?_
      refine g_iadd (Y := YX11_gapOf) (pc := 125) dX11_gapOf_125 ?_
      obtain ⟨g10, hF⟩ := gd_some hF
      refine s_iald (Y := YX11_gapOf) (pc := 126) dX11_gapOf_126 k_187 n_187 g10 ?_
      refine g_iadd (Y := YX11_gapOf) (pc := 127) dX11_gapOf_127 ?_
      refine g_nm (fun v11 e => ?_)
      replace hF := vl_to e hF; clear e
      refine g_istore (Y := YX11_gapOf) (pc := 128) (L' := [(4, .int v11), (0, .ref 174), (1, .int x1), (2, .int x2), (3, .int x3), (5, .int x5), (6, .int x6)]) dX11_gapOf_128 (Nat.le_of_ble_eq_true rfl) rfl ?_
      refine g_aload_n (Y := YX11_gapOf) (pc := 130) 1 dX11_gapOf_130 rfl ?_
      refine u_getR (Y := YX11_gapOf) (pc := 131) (j := 176) dX11_gapOf_131 fl_X11_13 k_174 rf_174_2 ?_
      refine g_iload (Y := YX11_gapOf) (pc := 134) 6 dX11_gapOf_134 rfl ?_
      obtain ⟨g12, hF⟩ := gd_some hF
      refine s_zald (Y := YX11_gapOf) (pc := 136) dX11_gapOf_136 k_176 n_176 g12 ?_
      refine g_if_ne (Y := YX11_gapOf) (pc := 137) (tgt := 163) dX11_gapOf_137 rfl (fun c13 => ?_) (fun c13 => ?_)
      · replace hF := if_f c13 hF
        refine g_loc [1, 2, 3, 4, 0, 5, 6] rfl ?_
        exact w_X11_gapOf_163 ih _ _ _ _ _ _ _ hF
      · replace hF := if_t c13 hF
        refine g_aload_n (Y := YX11_gapOf) (pc := 140) 1 dX11_gapOf_140 rfl ?_
        refine u_getI (Y := YX11_gapOf) (pc := 141) dX11_gapOf_141 fl_X11_357 k_174 ?_
        refine g_iconst (Y := YX11_gapOf) (pc := 144) dX11_gapOf_144 kI_m1 ?_
        refine g_icmp_ne (Y := YX11_gapOf) (pc := 145) (tgt := 163) dX11_gapOf_145 rfl (fun c19 => ?_) (fun c19 => ?_)
        · replace hF := if_f c19 hF
          refine g_loc [1, 2, 3, 4, 0, 5, 6] rfl ?_
          exact w_X11_gapOf_163 ih _ _ _ _ _ _ _ hF
        · replace hF := if_t c19 hF
          refine g_iload (Y := YX11_gapOf) (pc := 148) 0 dX11_gapOf_148 rfl ?_
          refine g_iload (Y := YX11_gapOf) (pc := 150) 5 dX11_gapOf_150 rfl ?_
          refine g_isub (Y := YX11_gapOf) (pc := 152) dX11_gapOf_152 ?_
          refine g_iload_n (Y := YX11_gapOf) (pc := 153) 4 dX11_gapOf_153 rfl ?_
          refine g_icmp_ne (Y := YX11_gapOf) (pc := 154) (tgt := 163) dX11_gapOf_154 rfl (fun c20 => ?_) (fun c20 => ?_)
          · replace hF := if_f c20 hF
            refine g_loc [1, 2, 3, 4, 0, 5, 6] rfl ?_
            exact w_X11_gapOf_163 ih _ _ _ _ _ _ _ hF
          · replace hF := if_t c20 hF
            refine g_aload_n (Y := YX11_gapOf) (pc := 157) 1 dX11_gapOf_157 rfl ?_
            refine g_iload (Y := YX11_gapOf) (pc := 158) 6 dX11_gapOf_158 rfl ?_
            refine u_putI (Y := YX11_gapOf) (pc := 160) dX11_gapOf_160 fl_X11_357  k_174 ?_
            refine g_nmM (fun M21 e => ?_)
            replace hF := ml_to e hF; clear e
            refine g_loc [1, 2, 3, 4, 0, 5, 6] rfl ?_
            exact w_X11_gapOf_163 ih _ _ _ _ _ _ _ hF
def f_X11_gapOf_59 (K15 : Int32 → Int32 → Int32 → Int32 → Int32 → Int32 → Mem → Option (Int32 × Mem)) (x1 : Int32) (x2 : Int32) (x3 : Int32) (x4 : Int32) (x5 : Int32) (x6 : Int32) (M : Mem) : Option (Int32 × Mem) :=
  gd (0 ≤ ((6 * x2) + x6) ∧ ((6 * x2) + x6).toNatClampNeg < 36) <|
  vl ((x5 + (M 187 ((6 * x2) + x6).toNatClampNeg))) fun v27 =>
  bd (f_X11_nextRoom x1 x6 M) fun r28 M29 =>
  K15 x1 x2 x3 x4 v27 r28 M29
set_option maxRecDepth 100000 in
theorem w_X11_gapOf_59 {R : Int32} {M' : Mem} {K15 : Int32 → Int32 → Int32 → Int32 → Int32 → Int32 → Mem → Option (Int32 × Mem)} (hK15 : ∀ (x1 x2 x3 x4 x5 x6 : Int32) (M : Mem), K15 x1 x2 x3 x4 x5 x6 M = some (R, M') → RunF l D cy ad none YX11_gapOf 3 0 0 (some (.int R)) (lay X M') 0 0 15 [(0, .ref 174), (1, .int x1), (2, .int x2), (3, .int x3), (4, .int x4), (5, .int x5), (6, .int x6)] [] (lay X M)) (x1 x2 x3 x4 x5 x6 : Int32) (M : Mem) (hF : f_X11_gapOf_59 K15 x1 x2 x3 x4 x5 x6 M = some (R, M')) : RunF l D cy ad none YX11_gapOf 3 0 0 (some (.int R)) (lay X M') 0 0 59 [(0, .ref 174), (1, .int x1), (2, .int x2), (3, .int x3), (4, .int x4), (5, .int x5), (6, .int x6)] [] (lay X M) := by
  unfold f_X11_gapOf_59 at hF
  refine g_iload (Y := YX11_gapOf) (pc := 59) 5 dX11_gapOf_59 rfl ?_
  refine g_aload_n (Y := YX11_gapOf) (pc := 61) 0 dX11_gapOf_61 rfl ?_
  refine u_getR (Y := YX11_gapOf) (pc := 62) (j := 187) dX11_gapOf_62 fl_X11_48 k_174 rf_174_26 ?_
  refine g_bipush (Y := YX11_gapOf) (pc := 65) dX11_gapOf_65 kB_6 ?_
  refine g_iload_n (Y := YX11_gapOf) (pc := 67) 2 dX11_gapOf_67 rfl ?_
  refine g_imul (Y := YX11_gapOf) (pc := 68) dX11_gapOf_68 ?_
  refine g_iload (Y := YX11_gapOf) (pc := 69) 6 dX11_gapOf_69 rfl ?_
  refine g_iadd (Y := YX11_gapOf) (pc := 71) dX11_gapOf_71 ?_
  obtain ⟨g26, hF⟩ := gd_some hF
  refine s_iald (Y := YX11_gapOf) (pc := 72) dX11_gapOf_72 k_187 n_187 g26 ?_
  refine g_iadd (Y := YX11_gapOf) (pc := 73) dX11_gapOf_73 ?_
  refine g_nm (fun v27 e => ?_)
  replace hF := vl_to e hF; clear e
  refine g_istore (Y := YX11_gapOf) (pc := 74) (L' := [(5, .int v27), (0, .ref 174), (1, .int x1), (2, .int x2), (3, .int x3), (4, .int x4), (6, .int x6)]) dX11_gapOf_74 (Nat.le_of_ble_eq_true rfl) rfl ?_
  refine g_aload_n (Y := YX11_gapOf) (pc := 76) 1 dX11_gapOf_76 rfl ?_
  refine g_iload_n (Y := YX11_gapOf) (pc := 77) 2 dX11_gapOf_77 rfl ?_
  refine g_iload (Y := YX11_gapOf) (pc := 78) 6 dX11_gapOf_78 rfl ?_
  obtain ⟨r28, M29, e30, hF⟩ := bd_some hF
  refine s_callVi (Y := YX11_gapOf) (pc := 80) (as := [.int x1, .int x6]) (st := []) (r_X11_nextRoom  e30) miX11_nextRoom lk_X11_252 dX11_gapOf_80 k_174 rfl (Nat.le_of_ble_eq_true rfl) (Nat.le_of_ble_eq_true rfl) rfl ?_
  clear e30
  refine g_istore (Y := YX11_gapOf) (pc := 83) (L' := [(6, .int r28), (5, .int v27), (0, .ref 174), (1, .int x1), (2, .int x2), (3, .int x3), (4, .int x4)]) dX11_gapOf_83 (Nat.le_of_ble_eq_true rfl) rfl ?_
  refine g_goto (Y := YX11_gapOf) (pc := 85) (tgt := 15) dX11_gapOf_85 rfl ?_
  refine g_loc [2, 3, 4, 5, 6, 1, 0] rfl ?_
  exact hK15 _ _ _ _ _ _ _ hF
def f_X11_gapOf_15  : Nat → Int32 → Int32 → Int32 → Int32 → Int32 → Int32 → Mem → Option (Int32 × Mem)
  | 0, _, _, _, _, _, _, _ => none
  | n + 1, x1, x2, x3, x4, x5, x6, M =>
    if x6 = 9 then
      ml (up M 174 41 (-1)) fun M5 =>
      bd (f_X11_firstRoom x1 M5) fun r6 M7 =>
      f_X11_gapOf_106 FU x1 x2 x3 0 0 r6 M7
    else
      gd (0 ≤ ((6 * x1) + x6) ∧ ((6 * x1) + x6).toNatClampNeg < 36) <|
      vl ((x4 + (M 187 ((6 * x1) + x6).toNatClampNeg))) fun v23 =>
      gd (0 ≤ x6 ∧ x6.toNatClampNeg < 6) <|
      if (M 176 x6.toNatClampNeg) = 0 then
        vl ((if x3 < (v23 - x5) then (v23 - x5) else x3)) fun v31 =>
        f_X11_gapOf_59 (f_X11_gapOf_15 n) x1 x2 v31 v23 x5 x6 M
      else
        f_X11_gapOf_59 (f_X11_gapOf_15 n) x1 x2 x3 v23 x5 x6 M
set_option maxRecDepth 100000 in
theorem w_X11_gapOf_15 {R : Int32} {M' : Mem}  : ∀ (n : Nat) (x1 x2 x3 x4 x5 x6 : Int32) (M : Mem), f_X11_gapOf_15 n x1 x2 x3 x4 x5 x6 M = some (R, M') → RunF l D cy ad none YX11_gapOf 3 0 0 (some (.int R)) (lay X M') 0 0 15 [(0, .ref 174), (1, .int x1), (2, .int x2), (3, .int x3), (4, .int x4), (5, .int x5), (6, .int x6)] [] (lay X M) := by
  intro n
  induction n with
  | zero => intro x1 x2 x3 x4 x5 x6 M hF; exact absurd hF (by unfold f_X11_gapOf_15; exact fun h => nomatch h)
  | succ n ih =>
    intro x1 x2 x3 x4 x5 x6 M hF
    unfold f_X11_gapOf_15 at hF
    refine g_iload (Y := YX11_gapOf) (pc := 15) 6 dX11_gapOf_15 rfl ?_
    refine g_bipush (Y := YX11_gapOf) (pc := 17) dX11_gapOf_17 kB_9 ?_
    refine g_icmp_eq (Y := YX11_gapOf) (pc := 19) (tgt := 88) dX11_gapOf_19 rfl (fun c4 => ?_) (fun c4 => ?_)
    · replace hF := if_t c4 hF
      refine g_aload_n (Y := YX11_gapOf) (pc := 88) 0 dX11_gapOf_88 rfl ?_
      refine g_iconst (Y := YX11_gapOf) (pc := 89) dX11_gapOf_89 kI_m1 ?_
      refine u_putI (Y := YX11_gapOf) (pc := 90) dX11_gapOf_90 fl_X11_357  k_174 ?_
      refine g_nmM (fun M5 e => ?_)
      replace hF := ml_to e hF; clear e
      refine g_iconst (Y := YX11_gapOf) (pc := 93) dX11_gapOf_93 kI_0 ?_
      refine g_istore (Y := YX11_gapOf) (pc := 94) (L' := [(4, .int 0), (0, .ref 174), (1, .int x1), (2, .int x2), (3, .int x3), (5, .int x5), (6, .int x6)]) dX11_gapOf_94 (Nat.le_of_ble_eq_true rfl) rfl ?_
      refine g_iconst (Y := YX11_gapOf) (pc := 96) dX11_gapOf_96 kI_0 ?_
      refine g_istore (Y := YX11_gapOf) (pc := 97) (L' := [(5, .int 0), (4, .int 0), (0, .ref 174), (1, .int x1), (2, .int x2), (3, .int x3), (6, .int x6)]) dX11_gapOf_97 (Nat.le_of_ble_eq_true rfl) rfl ?_
      refine g_aload_n (Y := YX11_gapOf) (pc := 99) 2 dX11_gapOf_99 rfl ?_
      refine g_iload_n (Y := YX11_gapOf) (pc := 100) 3 dX11_gapOf_100 rfl ?_
      obtain ⟨r6, M7, e8, hF⟩ := bd_some hF
      refine s_callVi (Y := YX11_gapOf) (pc := 101) (as := [.int x1]) (st := []) (r_X11_firstRoom  e8) miX11_firstRoom lk_X11_246 dX11_gapOf_101 k_174 rfl (Nat.le_of_ble_eq_true rfl) (Nat.le_of_ble_eq_true rfl) rfl ?_
      clear e8
      refine g_istore (Y := YX11_gapOf) (pc := 104) (L' := [(6, .int r6), (5, .int 0), (4, .int 0), (0, .ref 174), (1, .int x1), (2, .int x2), (3, .int x3)]) dX11_gapOf_104 (Nat.le_of_ble_eq_true rfl) rfl ?_
      refine g_loc [3, 4, 5, 6, 2, 1, 0] rfl ?_
      exact w_X11_gapOf_106  _ _ _ _ _ _ _ _ hF
    · replace hF := if_f c4 hF
      refine g_iload (Y := YX11_gapOf) (pc := 22) 4 dX11_gapOf_22 rfl ?_
      refine g_aload_n (Y := YX11_gapOf) (pc := 24) 0 dX11_gapOf_24 rfl ?_
      refine u_getR (Y := YX11_gapOf) (pc := 25) (j := 187) dX11_gapOf_25 fl_X11_48 k_174 rf_174_26 ?_
      refine g_bipush (Y := YX11_gapOf) (pc := 28) dX11_gapOf_28 kB_6 ?_
      refine g_iload_n (Y := YX11_gapOf) (pc := 30) 1 dX11_gapOf_30 rfl ?_
      refine g_imul (Y := YX11_gapOf) (pc := 31) dX11_gapOf_31 ?_
      refine g_iload (Y := YX11_gapOf) (pc := 32) 6 dX11_gapOf_32 rfl ?_
      refine g_iadd (Y := YX11_gapOf) (pc := 34) dX11_gapOf_34 ?_
      obtain ⟨g22, hF⟩ := gd_some hF
      refine s_iald (Y := YX11_gapOf) (pc := 35) dX11_gapOf_35 k_187 n_187 g22 ?_
      refine g_iadd (Y := YX11_gapOf) (pc := 36) dX11_gapOf_36 ?_
      refine g_nm (fun v23 e => ?_)
      replace hF := vl_to e hF; clear e
      refine g_istore (Y := YX11_gapOf) (pc := 37) (L' := [(4, .int v23), (0, .ref 174), (1, .int x1), (2, .int x2), (3, .int x3), (5, .int x5), (6, .int x6)]) dX11_gapOf_37 (Nat.le_of_ble_eq_true rfl) rfl ?_
      refine g_aload_n (Y := YX11_gapOf) (pc := 39) 1 dX11_gapOf_39 rfl ?_
      refine u_getR (Y := YX11_gapOf) (pc := 40) (j := 176) dX11_gapOf_40 fl_X11_13 k_174 rf_174_2 ?_
      refine g_iload (Y := YX11_gapOf) (pc := 43) 6 dX11_gapOf_43 rfl ?_
      obtain ⟨g24, hF⟩ := gd_some hF
      refine s_zald (Y := YX11_gapOf) (pc := 45) dX11_gapOf_45 k_176 n_176 g24 ?_
      refine g_if_ne (Y := YX11_gapOf) (pc := 46) (tgt := 59) dX11_gapOf_46 rfl (fun c25 => ?_) (fun c25 => ?_)
      · replace hF := if_f c25 hF
        refine g_loc [1, 2, 3, 4, 0, 5, 6] rfl ?_
        exact w_X11_gapOf_59 ih _ _ _ _ _ _ _ hF
      · replace hF := if_t c25 hF
        refine g_iload_n (Y := YX11_gapOf) (pc := 49) 4 dX11_gapOf_49 rfl ?_
        refine g_iload (Y := YX11_gapOf) (pc := 50) 0 dX11_gapOf_50 rfl ?_
        refine g_iload (Y := YX11_gapOf) (pc := 52) 5 dX11_gapOf_52 rfl ?_
        refine g_isub (Y := YX11_gapOf) (pc := 54) dX11_gapOf_54 ?_
        refine s_max (Y := YX11_gapOf) (pc := 55) dX11_gapOf_55 lk_X11_218 w_max (Nat.le_of_ble_eq_true rfl) (Nat.le_of_ble_eq_true rfl) ?_
        refine g_nm (fun v31 e => ?_)
        replace hF := vl_to e hF; clear e
        refine g_istore_n (Y := YX11_gapOf) (pc := 58) (L' := [(3, .int v31), (4, .int v23), (0, .ref 174), (1, .int x1), (2, .int x2), (5, .int x5), (6, .int x6)]) dX11_gapOf_58 (Nat.le_of_ble_eq_true rfl) rfl ?_
        refine g_loc [2, 3, 4, 0, 1, 5, 6] rfl ?_
        exact w_X11_gapOf_59 ih _ _ _ _ _ _ _ hF
def f_X11_gapOf_0  (x1 : Int32) (x2 : Int32) (M : Mem) : Option (Int32 × Mem) :=
  bd (f_X11_firstRoom x1 M) fun r1 M2 =>
  f_X11_gapOf_15 FU x1 x2 0 0 0 r1 M2
set_option maxRecDepth 100000 in
theorem w_X11_gapOf_0 {R : Int32} {M' : Mem}  (x1 x2 : Int32) (M : Mem) (hF : f_X11_gapOf_0 x1 x2 M = some (R, M')) : RunF l D cy ad none YX11_gapOf 3 0 0 (some (.int R)) (lay X M') 0 0 0 [(0, .ref 174), (1, .int x1), (2, .int x2)] [] (lay X M) := by
  unfold f_X11_gapOf_0 at hF
  refine g_iconst (Y := YX11_gapOf) (pc := 0) dX11_gapOf_0 kI_0 ?_
  refine g_istore_n (Y := YX11_gapOf) (pc := 1) (L' := [(3, .int 0), (0, .ref 174), (1, .int x1), (2, .int x2)]) dX11_gapOf_1 (Nat.le_of_ble_eq_true rfl) rfl ?_
  refine g_iconst (Y := YX11_gapOf) (pc := 2) dX11_gapOf_2 kI_0 ?_
  refine g_istore (Y := YX11_gapOf) (pc := 3) (L' := [(4, .int 0), (3, .int 0), (0, .ref 174), (1, .int x1), (2, .int x2)]) dX11_gapOf_3 (Nat.le_of_ble_eq_true rfl) rfl ?_
  refine g_iconst (Y := YX11_gapOf) (pc := 5) dX11_gapOf_5 kI_0 ?_
  refine g_istore (Y := YX11_gapOf) (pc := 6) (L' := [(5, .int 0), (4, .int 0), (3, .int 0), (0, .ref 174), (1, .int x1), (2, .int x2)]) dX11_gapOf_6 (Nat.le_of_ble_eq_true rfl) rfl ?_
  refine g_aload_n (Y := YX11_gapOf) (pc := 8) 3 dX11_gapOf_8 rfl ?_
  refine g_iload_n (Y := YX11_gapOf) (pc := 9) 4 dX11_gapOf_9 rfl ?_
  obtain ⟨r1, M2, e3, hF⟩ := bd_some hF
  refine s_callVi (Y := YX11_gapOf) (pc := 10) (as := [.int x1]) (st := []) (r_X11_firstRoom  e3) miX11_firstRoom lk_X11_246 dX11_gapOf_10 k_174 rfl (Nat.le_of_ble_eq_true rfl) (Nat.le_of_ble_eq_true rfl) rfl ?_
  clear e3
  refine g_istore (Y := YX11_gapOf) (pc := 13) (L' := [(6, .int r1), (5, .int 0), (4, .int 0), (3, .int 0), (0, .ref 174), (1, .int x1), (2, .int x2)]) dX11_gapOf_13 (Nat.le_of_ble_eq_true rfl) rfl ?_
  refine g_loc [4, 5, 6, 3, 2, 1, 0] rfl ?_
  exact w_X11_gapOf_15  _ _ _ _ _ _ _ _ hF
def f_X11_gapOf (x1 : Int32) (x2 : Int32) (M : Mem) : Option (Int32 × Mem) := f_X11_gapOf_0 x1 x2 M
theorem r_X11_gapOf {x1 x2 R : Int32} {M M' : Mem}  (hF : f_X11_gapOf x1 x2 M = some (R, M')) : RunS l D cy ad YX11_gapOf 3 [.ref 174, .int x1, .int x2] X M (some (.int R)) M' := Run.of 2 (miX11_gapOf).1 (Nat.le_of_ble_eq_true rfl) (w_X11_gapOf_0  _ _ _ hF)
def f_X11_gap_0  (x1 : Int32) (x2 : Int32) (M : Mem) : Option (Int32 × Mem) :=
  ml (up M 174 14 0) fun M1 =>
  bd (f_X11_areTwo x1 x2 M1) fun r2 M3 =>
  if r2 = 0 then
    some ((-1), M3)
  else
    gd (0 ≤ x1 ∧ x1.toNatClampNeg < 6) <|
    gd (0 ≤ x2 ∧ x2.toNatClampNeg < 6) <|
    if (M3 180 x1.toNatClampNeg) = (M3 180 x2.toNatClampNeg) then
      bd (f_X11_layStays M3) fun _ M10 =>
      bd (f_X11_gapOf x1 x2 M10) fun r12 M13 =>
      ml (up M13 174 13 0) fun M15 =>
      bd (f_X11_tell (M15 174 41) M15) fun _ M17 =>
      some (r12, M17)
    else
      some ((-2), M3)
set_option maxRecDepth 100000 in
theorem w_X11_gap_0 {R : Int32} {M' : Mem}  (x1 x2 : Int32) (M : Mem) (hF : f_X11_gap_0 x1 x2 M = some (R, M')) : RunF l D cy ad none YX11_gap 406 0 0 (some (.int R)) (lay X M') 0 0 0 [(0, .ref 174), (1, .int x1), (2, .int x2)] [] (lay X M) := by
  unfold f_X11_gap_0 at hF
  refine g_aload_n (Y := YX11_gap) (pc := 0) 0 dX11_gap_0 rfl ?_
  refine g_iconst (Y := YX11_gap) (pc := 1) dX11_gap_1 kI_0 ?_
  refine u_putI (Y := YX11_gap) (pc := 2) dX11_gap_2 fl_X11_99  k_174 ?_
  refine g_nmM (fun M1 e => ?_)
  replace hF := ml_to e hF; clear e
  refine g_aload_n (Y := YX11_gap) (pc := 5) 0 dX11_gap_5 rfl ?_
  refine g_iload_n (Y := YX11_gap) (pc := 6) 1 dX11_gap_6 rfl ?_
  refine g_iload_n (Y := YX11_gap) (pc := 7) 2 dX11_gap_7 rfl ?_
  obtain ⟨r2, M3, e4, hF⟩ := bd_some hF
  refine s_callVi (Y := YX11_gap) (pc := 8) (as := [.int x1, .int x2]) (st := []) (r_X11_areTwo  e4) miX11_areTwo lk_X11_360 dX11_gap_8 k_174 rfl (Nat.le_of_ble_eq_true rfl) (Nat.le_of_ble_eq_true rfl) rfl ?_
  clear e4
  refine g_if_ne (Y := YX11_gap) (pc := 11) (tgt := 16) dX11_gap_11 rfl (fun c5 => ?_) (fun c5 => ?_)
  · replace hF := if_f c5 hF
    refine g_aload_n (Y := YX11_gap) (pc := 16) 0 dX11_gap_16 rfl ?_
    refine u_getR (Y := YX11_gap) (pc := 17) (j := 180) dX11_gap_17 fl_X11_26 k_174 rf_174_7 ?_
    refine g_iload_n (Y := YX11_gap) (pc := 20) 1 dX11_gap_20 rfl ?_
    obtain ⟨g6, hF⟩ := gd_some hF
    refine s_zald (Y := YX11_gap) (pc := 21) dX11_gap_21 k_180 n_180 g6 ?_
    refine g_aload_n (Y := YX11_gap) (pc := 22) 0 dX11_gap_22 rfl ?_
    refine u_getR (Y := YX11_gap) (pc := 23) (j := 180) dX11_gap_23 fl_X11_26 k_174 rf_174_7 ?_
    refine g_iload_n (Y := YX11_gap) (pc := 26) 2 dX11_gap_26 rfl ?_
    obtain ⟨g7, hF⟩ := gd_some hF
    refine s_zald (Y := YX11_gap) (pc := 27) dX11_gap_27 k_180 n_180 g7 ?_
    refine g_icmp_eq (Y := YX11_gap) (pc := 28) (tgt := 34) dX11_gap_28 rfl (fun c8 => ?_) (fun c8 => ?_)
    · replace hF := if_t c8 hF
      refine g_aload_n (Y := YX11_gap) (pc := 34) 0 dX11_gap_34 rfl ?_
      obtain ⟨r9, M10, e11, hF⟩ := bd_some hF
      refine s_callVv (Y := YX11_gap) (pc := 35) (as := []) (st := []) (r_X11_layStays  e11) miX11_layStays lk_X11_271 dX11_gap_35 k_174 rfl (Nat.le_of_ble_eq_true rfl) (Nat.le_of_ble_eq_true rfl) rfl ?_
      clear e11
      refine g_aload_n (Y := YX11_gap) (pc := 38) 0 dX11_gap_38 rfl ?_
      refine g_iload_n (Y := YX11_gap) (pc := 39) 1 dX11_gap_39 rfl ?_
      refine g_iload_n (Y := YX11_gap) (pc := 40) 2 dX11_gap_40 rfl ?_
      obtain ⟨r12, M13, e14, hF⟩ := bd_some hF
      refine s_callVi (Y := YX11_gap) (pc := 41) (as := [.int x1, .int x2]) (st := []) (r_X11_gapOf  e14) miX11_gapOf lk_X11_363 dX11_gap_41 k_174 rfl (Nat.le_of_ble_eq_true rfl) (Nat.le_of_ble_eq_true rfl) rfl ?_
      clear e14
      refine g_istore_n (Y := YX11_gap) (pc := 44) (L' := [(3, .int r12), (0, .ref 174), (1, .int x1), (2, .int x2)]) dX11_gap_44 (Nat.le_of_ble_eq_true rfl) rfl ?_
      refine g_aload_n (Y := YX11_gap) (pc := 45) 1 dX11_gap_45 rfl ?_
      refine g_iconst (Y := YX11_gap) (pc := 46) dX11_gap_46 kI_0 ?_
      refine u_putI (Y := YX11_gap) (pc := 47) dX11_gap_47 fl_X11_103  k_174 ?_
      refine g_nmM (fun M15 e => ?_)
      replace hF := ml_to e hF; clear e
      refine g_aload_n (Y := YX11_gap) (pc := 50) 1 dX11_gap_50 rfl ?_
      refine g_aload_n (Y := YX11_gap) (pc := 51) 1 dX11_gap_51 rfl ?_
      refine u_getI (Y := YX11_gap) (pc := 52) dX11_gap_52 fl_X11_357 k_174 ?_
      obtain ⟨r16, M17, e18, hF⟩ := bd_some hF
      refine s_callVv (Y := YX11_gap) (pc := 55) (as := [.int (M15 174 41)]) (st := []) (r_X11_tell  e18) miX11_tell lk_X11_300 dX11_gap_55 k_174 rfl (Nat.le_of_ble_eq_true rfl) (Nat.le_of_ble_eq_true rfl) rfl ?_
      clear e18
      refine g_iload_n (Y := YX11_gap) (pc := 58) 0 dX11_gap_58 rfl ?_
      exact s_iret (Y := YX11_gap) (pc := 59) dX11_gap_59 rfl hF
    · replace hF := if_f c8 hF
      refine g_bipush (Y := YX11_gap) (pc := 31) dX11_gap_31 kB_m2 ?_
      exact s_iret (Y := YX11_gap) (pc := 33) dX11_gap_33 rfl hF
  · replace hF := if_t c5 hF
    refine g_iconst (Y := YX11_gap) (pc := 14) dX11_gap_14 kI_m1 ?_
    exact s_iret (Y := YX11_gap) (pc := 15) dX11_gap_15 rfl hF
def f_X11_gap (x1 : Int32) (x2 : Int32) (M : Mem) : Option (Int32 × Mem) := f_X11_gap_0 x1 x2 M
theorem r_X11_gap {x1 x2 R : Int32} {M M' : Mem}  (hF : f_X11_gap x1 x2 M = some (R, M')) : RunS l D cy ad YX11_gap 406 [.ref 174, .int x1, .int x2] X M (some (.int R)) M' := Run.of 2 (miX11_gap).1 (Nat.le_of_ble_eq_true rfl) (w_X11_gap_0  _ _ _ hF)
def f_X11_smooth_288  : Nat → Int32 → Int32 → Mem → Option (Int32 × Mem)
  | 0, _, _, _ => none
  | n + 1, x3, x5, M =>
    if x5 < (M 174 37) then
      gd (0 ≤ x5 ∧ x5.toNatClampNeg < 6) <|
      bd (f_X11_tell (M 195 x5.toNatClampNeg) M) fun _ M23 =>
      vl (x5 + 1) fun v25 =>
      f_X11_smooth_288 n x3 v25 M23
    else
      some (x3, M)
set_option maxRecDepth 100000 in
theorem w_X11_smooth_288 {R : Int32} {M' : Mem}  : ∀ (n : Nat) (x3 x5 : Int32) (M : Mem), f_X11_smooth_288 n x3 x5 M = some (R, M') → RunF l D cy ad none YX11_smooth 406 0 0 (some (.int R)) (lay X M') 0 0 288 [(0, .ref 174), (3, .int x3), (5, .int x5)] [] (lay X M) := by
  intro n
  induction n with
  | zero => intro x3 x5 M hF; exact absurd hF (by unfold f_X11_smooth_288; exact fun h => nomatch h)
  | succ n ih =>
    intro x3 x5 M hF
    unfold f_X11_smooth_288 at hF
    refine g_iload (Y := YX11_smooth) (pc := 288) 2 dX11_smooth_288 rfl ?_
    refine g_aload_n (Y := YX11_smooth) (pc := 290) 0 dX11_smooth_290 rfl ?_
    refine u_getI (Y := YX11_smooth) (pc := 291) dX11_smooth_291 fl_X11_315 k_174 ?_
    refine g_icmp_ge (Y := YX11_smooth) (pc := 294) (tgt := 314) dX11_smooth_294 rfl (fun c20 => ?_) (fun c20 => ?_)
    · replace hF := if_f c20 hF
      refine g_iload_n (Y := YX11_smooth) (pc := 314) 1 dX11_smooth_314 rfl ?_
      exact s_iret (Y := YX11_smooth) (pc := 315) dX11_smooth_315 rfl hF
    · replace hF := if_t c20 hF
      refine g_aload_n (Y := YX11_smooth) (pc := 297) 0 dX11_smooth_297 rfl ?_
      refine g_aload_n (Y := YX11_smooth) (pc := 298) 0 dX11_smooth_298 rfl ?_
      refine u_getR (Y := YX11_smooth) (pc := 299) (j := 195) dX11_smooth_299 fl_X11_72 k_174 rf_174_43 ?_
      refine g_iload (Y := YX11_smooth) (pc := 302) 2 dX11_smooth_302 rfl ?_
      obtain ⟨g21, hF⟩ := gd_some hF
      refine s_iald (Y := YX11_smooth) (pc := 304) dX11_smooth_304 k_195 n_195 g21 ?_
      obtain ⟨r22, M23, e24, hF⟩ := bd_some hF
      refine s_callVv (Y := YX11_smooth) (pc := 305) (as := [.int (M 195 x5.toNatClampNeg)]) (st := []) (r_X11_tell  e24) miX11_tell lk_X11_300 dX11_smooth_305 k_174 rfl (Nat.le_of_ble_eq_true rfl) (Nat.le_of_ble_eq_true rfl) rfl ?_
      clear e24
      refine s_iinc (Y := YX11_smooth) (pc := 308) (j := 2) (L' := fun y => [(5, .int y), (0, .ref 174), (3, .int x3)]) dX11_smooth_308 kI_1 rfl (Nat.le_of_ble_eq_true rfl) (fun _ => rfl) (fun v25 e => ?_)
      replace hF := vl_to e hF; clear e
      refine g_goto (Y := YX11_smooth) (pc := 311) (tgt := 288) dX11_smooth_311 rfl ?_
      refine g_loc [1, 2, 0] rfl ?_
      exact ih _ _ _ hF
def f_X11_smooth_259  : Nat → Int32 → Int32 → Mem → Option (Int32 × Mem)
  | 0, _, _, _ => none
  | n + 1, x3, x5, M =>
    if x5 < (M 174 37) then
      gd (0 ≤ x5 ∧ x5.toNatClampNeg < 6) <|
      bd (f_X11_tell (M 193 x5.toNatClampNeg) M) fun _ M28 =>
      vl (x5 + 1) fun v30 =>
      f_X11_smooth_259 n x3 v30 M28
    else
      f_X11_smooth_288 FU x3 0 M
set_option maxRecDepth 100000 in
theorem w_X11_smooth_259 {R : Int32} {M' : Mem}  : ∀ (n : Nat) (x3 x5 : Int32) (M : Mem), f_X11_smooth_259 n x3 x5 M = some (R, M') → RunF l D cy ad none YX11_smooth 406 0 0 (some (.int R)) (lay X M') 0 0 259 [(0, .ref 174), (3, .int x3), (5, .int x5)] [] (lay X M) := by
  intro n
  induction n with
  | zero => intro x3 x5 M hF; exact absurd hF (by unfold f_X11_smooth_259; exact fun h => nomatch h)
  | succ n ih =>
    intro x3 x5 M hF
    unfold f_X11_smooth_259 at hF
    refine g_iload (Y := YX11_smooth) (pc := 259) 2 dX11_smooth_259 rfl ?_
    refine g_aload_n (Y := YX11_smooth) (pc := 261) 0 dX11_smooth_261 rfl ?_
    refine u_getI (Y := YX11_smooth) (pc := 262) dX11_smooth_262 fl_X11_315 k_174 ?_
    refine g_icmp_ge (Y := YX11_smooth) (pc := 265) (tgt := 285) dX11_smooth_265 rfl (fun c19 => ?_) (fun c19 => ?_)
    · replace hF := if_f c19 hF
      refine g_iconst (Y := YX11_smooth) (pc := 285) dX11_smooth_285 kI_0 ?_
      refine g_istore (Y := YX11_smooth) (pc := 286) (L' := [(5, .int 0), (0, .ref 174), (3, .int x3)]) dX11_smooth_286 (Nat.le_of_ble_eq_true rfl) rfl ?_
      refine g_loc [1, 2, 0] rfl ?_
      exact w_X11_smooth_288  _ _ _ _ hF
    · replace hF := if_t c19 hF
      refine g_aload_n (Y := YX11_smooth) (pc := 268) 0 dX11_smooth_268 rfl ?_
      refine g_aload_n (Y := YX11_smooth) (pc := 269) 0 dX11_smooth_269 rfl ?_
      refine u_getR (Y := YX11_smooth) (pc := 270) (j := 193) dX11_smooth_270 fl_X11_66 k_174 rf_174_38 ?_
      refine g_iload (Y := YX11_smooth) (pc := 273) 2 dX11_smooth_273 rfl ?_
      obtain ⟨g26, hF⟩ := gd_some hF
      refine s_iald (Y := YX11_smooth) (pc := 275) dX11_smooth_275 k_193 n_193 g26 ?_
      obtain ⟨r27, M28, e29, hF⟩ := bd_some hF
      refine s_callVv (Y := YX11_smooth) (pc := 276) (as := [.int (M 193 x5.toNatClampNeg)]) (st := []) (r_X11_tell  e29) miX11_tell lk_X11_300 dX11_smooth_276 k_174 rfl (Nat.le_of_ble_eq_true rfl) (Nat.le_of_ble_eq_true rfl) rfl ?_
      clear e29
      refine s_iinc (Y := YX11_smooth) (pc := 279) (j := 2) (L' := fun y => [(5, .int y), (0, .ref 174), (3, .int x3)]) dX11_smooth_279 kI_1 rfl (Nat.le_of_ble_eq_true rfl) (fun _ => rfl) (fun v30 e => ?_)
      replace hF := vl_to e hF; clear e
      refine g_goto (Y := YX11_smooth) (pc := 282) (tgt := 259) dX11_smooth_282 rfl ?_
      refine g_loc [1, 2, 0] rfl ?_
      exact ih _ _ _ hF
def f_X11_smooth_242 (K89 : Int32 → Int32 → Mem → Option (Int32 × Mem)) (x3 : Int32) (M : Mem) : Option (Int32 × Mem) :=
  bd (f_X11_nextOrder M) fun r33 M34 =>
  K89 x3 r33 M34
set_option maxRecDepth 100000 in
theorem w_X11_smooth_242 {R : Int32} {M' : Mem} {K89 : Int32 → Int32 → Mem → Option (Int32 × Mem)} (hK89 : ∀ (x3 x4 : Int32) (M : Mem), K89 x3 x4 M = some (R, M') → RunF l D cy ad none YX11_smooth 406 0 0 (some (.int R)) (lay X M') 0 0 89 [(0, .ref 174), (3, .int x3), (4, .int x4)] [] (lay X M)) (x3 : Int32) (M : Mem) (hF : f_X11_smooth_242 K89 x3 M = some (R, M')) : RunF l D cy ad none YX11_smooth 406 0 0 (some (.int R)) (lay X M') 0 0 242 [(0, .ref 174), (3, .int x3)] [] (lay X M) := by
  unfold f_X11_smooth_242 at hF
  refine g_aload_n (Y := YX11_smooth) (pc := 242) 0 dX11_smooth_242 rfl ?_
  obtain ⟨r33, M34, e35, hF⟩ := bd_some hF
  refine s_callVi (Y := YX11_smooth) (pc := 243) (as := []) (st := []) (r_X11_nextOrder  e35) miX11_nextOrder lk_X11_347 dX11_smooth_243 k_174 rfl (Nat.le_of_ble_eq_true rfl) (Nat.le_of_ble_eq_true rfl) rfl ?_
  clear e35
  refine g_istore (Y := YX11_smooth) (pc := 246) (L' := [(4, .int r33), (0, .ref 174), (3, .int x3)]) dX11_smooth_246 (Nat.le_of_ble_eq_true rfl) rfl ?_
  refine g_goto (Y := YX11_smooth) (pc := 248) (tgt := 89) dX11_smooth_248 rfl ?_
  refine g_loc [1, 2, 0] rfl ?_
  exact hK89 _ _ _ hF
def f_X11_smooth_199 (K89 : Int32 → Int32 → Mem → Option (Int32 × Mem)) : Nat → Int32 → Int32 → Mem → Option (Int32 × Mem)
  | 0, _, _, _ => none
  | n + 1, x3, x6, M =>
    if x6 < (M 174 37) then
      gd (0 ≤ x6 ∧ x6.toNatClampNeg < 6) <|
      gd (0 ≤ x6 ∧ x6.toNatClampNeg < 6) <|
      ml (up M 193 x6.toNatClampNeg (M 192 x6.toNatClampNeg)) fun M39 =>
      gd (0 ≤ x6 ∧ x6.toNatClampNeg < 6) <|
      gd (0 ≤ x6 ∧ x6.toNatClampNeg < 6) <|
      ml (up M39 195 x6.toNatClampNeg (M39 194 x6.toNatClampNeg)) fun M42 =>
      vl (x6 + 1) fun v43 =>
      f_X11_smooth_199 K89 n x3 v43 M42
    else
      f_X11_smooth_242 K89 x3 M
set_option maxRecDepth 100000 in
theorem w_X11_smooth_199 {R : Int32} {M' : Mem} {K89 : Int32 → Int32 → Mem → Option (Int32 × Mem)} (hK89 : ∀ (x3 x4 : Int32) (M : Mem), K89 x3 x4 M = some (R, M') → RunF l D cy ad none YX11_smooth 406 0 0 (some (.int R)) (lay X M') 0 0 89 [(0, .ref 174), (3, .int x3), (4, .int x4)] [] (lay X M)) : ∀ (n : Nat) (x3 x6 : Int32) (M : Mem), f_X11_smooth_199 K89 n x3 x6 M = some (R, M') → RunF l D cy ad none YX11_smooth 406 0 0 (some (.int R)) (lay X M') 0 0 199 [(0, .ref 174), (3, .int x3), (6, .int x6)] [] (lay X M) := by
  intro n
  induction n with
  | zero => intro x3 x6 M hF; exact absurd hF (by unfold f_X11_smooth_199; exact fun h => nomatch h)
  | succ n ih =>
    intro x3 x6 M hF
    unfold f_X11_smooth_199 at hF
    refine g_iload (Y := YX11_smooth) (pc := 199) 2 dX11_smooth_199 rfl ?_
    refine g_aload_n (Y := YX11_smooth) (pc := 201) 0 dX11_smooth_201 rfl ?_
    refine u_getI (Y := YX11_smooth) (pc := 202) dX11_smooth_202 fl_X11_315 k_174 ?_
    refine g_icmp_ge (Y := YX11_smooth) (pc := 205) (tgt := 242) dX11_smooth_205 rfl (fun c36 => ?_) (fun c36 => ?_)
    · replace hF := if_f c36 hF
      refine g_loc [0, 1] rfl ?_
      exact w_X11_smooth_242 hK89 _ _ hF
    · replace hF := if_t c36 hF
      refine g_aload_n (Y := YX11_smooth) (pc := 208) 0 dX11_smooth_208 rfl ?_
      refine u_getR (Y := YX11_smooth) (pc := 209) (j := 193) dX11_smooth_209 fl_X11_66 k_174 rf_174_38 ?_
      refine g_iload (Y := YX11_smooth) (pc := 212) 2 dX11_smooth_212 rfl ?_
      refine g_aload_n (Y := YX11_smooth) (pc := 214) 0 dX11_smooth_214 rfl ?_
      refine u_getR (Y := YX11_smooth) (pc := 215) (j := 192) dX11_smooth_215 fl_X11_63 k_174 rf_174_36 ?_
      refine g_iload (Y := YX11_smooth) (pc := 218) 2 dX11_smooth_218 rfl ?_
      obtain ⟨g37, hF⟩ := gd_some hF
      refine s_iald (Y := YX11_smooth) (pc := 220) dX11_smooth_220 k_192 n_192 g37 ?_
      obtain ⟨g38, hF⟩ := gd_some hF
      refine s_iast (Y := YX11_smooth) (pc := 221) dX11_smooth_221 k_193 n_193 g38 ?_
      refine g_nmM (fun M39 e => ?_)
      replace hF := ml_to e hF; clear e
      refine g_aload_n (Y := YX11_smooth) (pc := 222) 0 dX11_smooth_222 rfl ?_
      refine u_getR (Y := YX11_smooth) (pc := 223) (j := 195) dX11_smooth_223 fl_X11_72 k_174 rf_174_43 ?_
      refine g_iload (Y := YX11_smooth) (pc := 226) 2 dX11_smooth_226 rfl ?_
      refine g_aload_n (Y := YX11_smooth) (pc := 228) 0 dX11_smooth_228 rfl ?_
      refine u_getR (Y := YX11_smooth) (pc := 229) (j := 194) dX11_smooth_229 fl_X11_69 k_174 rf_174_42 ?_
      refine g_iload (Y := YX11_smooth) (pc := 232) 2 dX11_smooth_232 rfl ?_
      obtain ⟨g40, hF⟩ := gd_some hF
      refine s_iald (Y := YX11_smooth) (pc := 234) dX11_smooth_234 k_194 n_194 g40 ?_
      obtain ⟨g41, hF⟩ := gd_some hF
      refine s_iast (Y := YX11_smooth) (pc := 235) dX11_smooth_235 k_195 n_195 g41 ?_
      refine g_nmM (fun M42 e => ?_)
      replace hF := ml_to e hF; clear e
      refine s_iinc (Y := YX11_smooth) (pc := 236) (j := 2) (L' := fun y => [(6, .int y), (0, .ref 174), (3, .int x3)]) dX11_smooth_236 kI_1 rfl (Nat.le_of_ble_eq_true rfl) (fun _ => rfl) (fun v43 e => ?_)
      replace hF := vl_to e hF; clear e
      refine g_goto (Y := YX11_smooth) (pc := 239) (tgt := 199) dX11_smooth_239 rfl ?_
      refine g_loc [1, 2, 0] rfl ?_
      exact ih _ _ _ hF
def f_X11_smooth_154 (K89 : Int32 → Int32 → Mem → Option (Int32 × Mem)) (K100 : Int32 → Int32 → Int32 → Mem → Option (Int32 × Mem)) (x3 : Int32) (x5 : Int32) (x6 : Int32) (t1 : Int32) (t0 : Int32) (M : Mem) : Option (Int32 × Mem) :=
  gd (0 ≤ t1 ∧ t1.toNatClampNeg < 6) <|
  ml (up M 194 t1.toNatClampNeg t0) fun M52 =>
  gd (0 ≤ x6 ∧ x6.toNatClampNeg < 6) <|
  gd (0 ≤ x6 ∧ x6.toNatClampNeg < 6) <|
  bd (f_X11_allStays (M52 192 x6.toNatClampNeg) M52) fun r55 M56 =>
  vl ((if x5 < ((M52 194 x6.toNatClampNeg) + r55) then ((M52 194 x6.toNatClampNeg) + r55) else x5)) fun v58 =>
  vl (x6 + 1) fun v59 =>
  K100 x3 v58 v59 M56
set_option maxRecDepth 100000 in
theorem w_X11_smooth_154 {R : Int32} {M' : Mem} {K89 : Int32 → Int32 → Mem → Option (Int32 × Mem)} {K100 : Int32 → Int32 → Int32 → Mem → Option (Int32 × Mem)} (hK89 : ∀ (x3 x4 : Int32) (M : Mem), K89 x3 x4 M = some (R, M') → RunF l D cy ad none YX11_smooth 406 0 0 (some (.int R)) (lay X M') 0 0 89 [(0, .ref 174), (3, .int x3), (4, .int x4)] [] (lay X M)) (hK100 : ∀ (x3 x5 x6 : Int32) (M : Mem), K100 x3 x5 x6 M = some (R, M') → RunF l D cy ad none YX11_smooth 406 0 0 (some (.int R)) (lay X M') 0 0 100 [(0, .ref 174), (3, .int x3), (5, .int x5), (6, .int x6)] [] (lay X M)) (x3 x5 x6 t1 t0 : Int32) (M : Mem) (hF : f_X11_smooth_154 K89 K100 x3 x5 x6 t1 t0 M = some (R, M')) : RunF l D cy ad none YX11_smooth 406 0 0 (some (.int R)) (lay X M') 0 0 154 [(0, .ref 174), (3, .int x3), (5, .int x5), (6, .int x6)] [.int t0, .int t1, .ref 194] (lay X M) := by
  unfold f_X11_smooth_154 at hF
  obtain ⟨g51, hF⟩ := gd_some hF
  refine s_iast (Y := YX11_smooth) (pc := 154) dX11_smooth_154 k_194 n_194 g51 ?_
  refine g_nmM (fun M52 e => ?_)
  replace hF := ml_to e hF; clear e
  refine g_iload (Y := YX11_smooth) (pc := 155) 2 dX11_smooth_155 rfl ?_
  refine g_aload_n (Y := YX11_smooth) (pc := 157) 0 dX11_smooth_157 rfl ?_
  refine u_getR (Y := YX11_smooth) (pc := 158) (j := 194) dX11_smooth_158 fl_X11_69 k_174 rf_174_42 ?_
  refine g_iload (Y := YX11_smooth) (pc := 161) 3 dX11_smooth_161 rfl ?_
  obtain ⟨g53, hF⟩ := gd_some hF
  refine s_iald (Y := YX11_smooth) (pc := 163) dX11_smooth_163 k_194 n_194 g53 ?_
  refine g_aload_n (Y := YX11_smooth) (pc := 164) 0 dX11_smooth_164 rfl ?_
  refine g_aload_n (Y := YX11_smooth) (pc := 165) 0 dX11_smooth_165 rfl ?_
  refine u_getR (Y := YX11_smooth) (pc := 166) (j := 192) dX11_smooth_166 fl_X11_63 k_174 rf_174_36 ?_
  refine g_iload (Y := YX11_smooth) (pc := 169) 3 dX11_smooth_169 rfl ?_
  obtain ⟨g54, hF⟩ := gd_some hF
  refine s_iald (Y := YX11_smooth) (pc := 171) dX11_smooth_171 k_192 n_192 g54 ?_
  obtain ⟨r55, M56, e57, hF⟩ := bd_some hF
  refine s_callVi (Y := YX11_smooth) (pc := 172) (as := [.int (M52 192 x6.toNatClampNeg)]) (st := [.int (M52 194 x6.toNatClampNeg), .int x5]) (r_X11_allStays  e57) miX11_allStays lk_X11_366 dX11_smooth_172 k_174 rfl (Nat.le_of_ble_eq_true rfl) (Nat.le_of_ble_eq_true rfl) rfl ?_
  clear e57
  refine g_iadd (Y := YX11_smooth) (pc := 175) dX11_smooth_175 ?_
  refine s_max (Y := YX11_smooth) (pc := 176) dX11_smooth_176 lk_X11_218 w_max (Nat.le_of_ble_eq_true rfl) (Nat.le_of_ble_eq_true rfl) ?_
  refine g_nm (fun v58 e => ?_)
  replace hF := vl_to e hF; clear e
  refine g_istore (Y := YX11_smooth) (pc := 179) (L' := [(5, .int v58), (0, .ref 174), (3, .int x3), (6, .int x6)]) dX11_smooth_179 (Nat.le_of_ble_eq_true rfl) rfl ?_
  refine s_iinc (Y := YX11_smooth) (pc := 181) (j := 3) (L' := fun y => [(6, .int y), (5, .int v58), (0, .ref 174), (3, .int x3)]) dX11_smooth_181 kI_1 rfl (Nat.le_of_ble_eq_true rfl) (fun _ => rfl) (fun v59 e => ?_)
  replace hF := vl_to e hF; clear e
  refine g_goto (Y := YX11_smooth) (pc := 184) (tgt := 100) dX11_smooth_184 rfl ?_
  refine g_loc [2, 3, 1, 0] rfl ?_
  exact hK100 _ _ _ _ hF
def f_X11_smooth_100 (K89 : Int32 → Int32 → Mem → Option (Int32 × Mem)) : Nat → Int32 → Int32 → Int32 → Mem → Option (Int32 × Mem)
  | 0, _, _, _, _ => none
  | n + 1, x3, x5, x6, M =>
    if x6 < (M 174 37) then
      if x6 = 0 then
        f_X11_smooth_154 K89 (f_X11_smooth_100 K89 n) x3 x5 x6 x6 0 M
      else
        gd (0 ≤ (x6 - 1) ∧ (x6 - 1).toNatClampNeg < 6) <|
        gd (0 ≤ (x6 - 1) ∧ (x6 - 1).toNatClampNeg < 6) <|
        gd (0 ≤ x6 ∧ x6.toNatClampNeg < 6) <|
        bd (f_X11_gapOf (M 192 (x6 - 1).toNatClampNeg) (M 192 x6.toNatClampNeg) M) fun r48 M49 =>
        f_X11_smooth_154 K89 (f_X11_smooth_100 K89 n) x3 x5 x6 x6 ((M 194 (x6 - 1).toNatClampNeg) + r48) M49
    else
      if x5 < x3 then
        f_X11_smooth_199 K89 FU x5 0 M
      else
        f_X11_smooth_242 K89 x3 M
set_option maxRecDepth 100000 in
theorem w_X11_smooth_100 {R : Int32} {M' : Mem} {K89 : Int32 → Int32 → Mem → Option (Int32 × Mem)} (hK89 : ∀ (x3 x4 : Int32) (M : Mem), K89 x3 x4 M = some (R, M') → RunF l D cy ad none YX11_smooth 406 0 0 (some (.int R)) (lay X M') 0 0 89 [(0, .ref 174), (3, .int x3), (4, .int x4)] [] (lay X M)) : ∀ (n : Nat) (x3 x5 x6 : Int32) (M : Mem), f_X11_smooth_100 K89 n x3 x5 x6 M = some (R, M') → RunF l D cy ad none YX11_smooth 406 0 0 (some (.int R)) (lay X M') 0 0 100 [(0, .ref 174), (3, .int x3), (5, .int x5), (6, .int x6)] [] (lay X M) := by
  intro n
  induction n with
  | zero => intro x3 x5 x6 M hF; exact absurd hF (by unfold f_X11_smooth_100; exact fun h => nomatch h)
  | succ n ih =>
    intro x3 x5 x6 M hF
    unfold f_X11_smooth_100 at hF
    refine g_iload (Y := YX11_smooth) (pc := 100) 3 dX11_smooth_100 rfl ?_
    refine g_aload_n (Y := YX11_smooth) (pc := 102) 0 dX11_smooth_102 rfl ?_
    refine u_getI (Y := YX11_smooth) (pc := 103) dX11_smooth_103 fl_X11_315 k_174 ?_
    refine g_icmp_ge (Y := YX11_smooth) (pc := 106) (tgt := 187) dX11_smooth_106 rfl (fun c31 => ?_) (fun c31 => ?_)
    · replace hF := if_f c31 hF
      refine g_iload (Y := YX11_smooth) (pc := 187) 2 dX11_smooth_187 rfl ?_
      refine g_iload_n (Y := YX11_smooth) (pc := 189) 1 dX11_smooth_189 rfl ?_
      refine g_icmp_ge (Y := YX11_smooth) (pc := 190) (tgt := 242) dX11_smooth_190 rfl (fun c32 => ?_) (fun c32 => ?_)
      · replace hF := if_f c32 hF
        refine g_loc [0, 1] rfl ?_
        exact w_X11_smooth_242 hK89 _ _ hF
      · replace hF := if_t c32 hF
        refine g_iload (Y := YX11_smooth) (pc := 193) 2 dX11_smooth_193 rfl ?_
        refine g_istore_n (Y := YX11_smooth) (pc := 195) (L' := [(3, .int x5), (0, .ref 174), (5, .int x5), (6, .int x6)]) dX11_smooth_195 (Nat.le_of_ble_eq_true rfl) rfl ?_
        refine g_iconst (Y := YX11_smooth) (pc := 196) dX11_smooth_196 kI_0 ?_
        refine g_istore (Y := YX11_smooth) (pc := 197) (L' := [(6, .int 0), (3, .int x5), (0, .ref 174), (5, .int x5)]) dX11_smooth_197 (Nat.le_of_ble_eq_true rfl) rfl ?_
        refine g_loc [2, 1, 0] rfl ?_
        exact w_X11_smooth_199 hK89 _ _ _ _ hF
    · replace hF := if_t c31 hF
      refine g_aload_n (Y := YX11_smooth) (pc := 109) 0 dX11_smooth_109 rfl ?_
      refine u_getR (Y := YX11_smooth) (pc := 110) (j := 194) dX11_smooth_110 fl_X11_69 k_174 rf_174_42 ?_
      refine g_iload (Y := YX11_smooth) (pc := 113) 3 dX11_smooth_113 rfl ?_
      refine g_iload (Y := YX11_smooth) (pc := 115) 3 dX11_smooth_115 rfl ?_
      refine g_if_ne (Y := YX11_smooth) (pc := 117) (tgt := 124) dX11_smooth_117 rfl (fun c44 => ?_) (fun c44 => ?_)
      · replace hF := if_f c44 hF
        refine g_aload_n (Y := YX11_smooth) (pc := 124) 0 dX11_smooth_124 rfl ?_
        refine u_getR (Y := YX11_smooth) (pc := 125) (j := 194) dX11_smooth_125 fl_X11_69 k_174 rf_174_42 ?_
        refine g_iload (Y := YX11_smooth) (pc := 128) 3 dX11_smooth_128 rfl ?_
        refine g_iconst (Y := YX11_smooth) (pc := 130) dX11_smooth_130 kI_1 ?_
        refine g_isub (Y := YX11_smooth) (pc := 131) dX11_smooth_131 ?_
        obtain ⟨g45, hF⟩ := gd_some hF
        refine s_iald (Y := YX11_smooth) (pc := 132) dX11_smooth_132 k_194 n_194 g45 ?_
        refine g_aload_n (Y := YX11_smooth) (pc := 133) 0 dX11_smooth_133 rfl ?_
        refine g_aload_n (Y := YX11_smooth) (pc := 134) 0 dX11_smooth_134 rfl ?_
        refine u_getR (Y := YX11_smooth) (pc := 135) (j := 192) dX11_smooth_135 fl_X11_63 k_174 rf_174_36 ?_
        refine g_iload (Y := YX11_smooth) (pc := 138) 3 dX11_smooth_138 rfl ?_
        refine g_iconst (Y := YX11_smooth) (pc := 140) dX11_smooth_140 kI_1 ?_
        refine g_isub (Y := YX11_smooth) (pc := 141) dX11_smooth_141 ?_
        obtain ⟨g46, hF⟩ := gd_some hF
        refine s_iald (Y := YX11_smooth) (pc := 142) dX11_smooth_142 k_192 n_192 g46 ?_
        refine g_aload_n (Y := YX11_smooth) (pc := 143) 0 dX11_smooth_143 rfl ?_
        refine u_getR (Y := YX11_smooth) (pc := 144) (j := 192) dX11_smooth_144 fl_X11_63 k_174 rf_174_36 ?_
        refine g_iload (Y := YX11_smooth) (pc := 147) 3 dX11_smooth_147 rfl ?_
        obtain ⟨g47, hF⟩ := gd_some hF
        refine s_iald (Y := YX11_smooth) (pc := 149) dX11_smooth_149 k_192 n_192 g47 ?_
        obtain ⟨r48, M49, e50, hF⟩ := bd_some hF
        refine s_callVi (Y := YX11_smooth) (pc := 150) (as := [.int (M 192 (x6 - 1).toNatClampNeg), .int (M 192 x6.toNatClampNeg)]) (st := [.int (M 194 (x6 - 1).toNatClampNeg), .int x6, .ref 194]) (r_X11_gapOf  e50) miX11_gapOf lk_X11_363 dX11_smooth_150 k_174 rfl (Nat.le_of_ble_eq_true rfl) (Nat.le_of_ble_eq_true rfl) rfl ?_
        clear e50
        refine g_iadd (Y := YX11_smooth) (pc := 153) dX11_smooth_153 ?_
        exact w_X11_smooth_154 hK89 ih _ _ _ _ _ _ hF
      · replace hF := if_t c44 hF
        refine g_iconst (Y := YX11_smooth) (pc := 120) dX11_smooth_120 kI_0 ?_
        refine g_goto (Y := YX11_smooth) (pc := 121) (tgt := 154) dX11_smooth_121 rfl ?_
        exact w_X11_smooth_154 hK89 ih _ _ _ _ _ _ hF
def f_X11_smooth_89  : Nat → Int32 → Int32 → Mem → Option (Int32 × Mem)
  | 0, _, _, _ => none
  | n + 1, x3, x4, M =>
    if x4 = 0 then
      ml (up M 174 13 0) fun M18 =>
      f_X11_smooth_259 FU x3 0 M18
    else
      f_X11_smooth_100 (f_X11_smooth_89 n) FU x3 0 0 M
set_option maxRecDepth 100000 in
theorem w_X11_smooth_89 {R : Int32} {M' : Mem}  : ∀ (n : Nat) (x3 x4 : Int32) (M : Mem), f_X11_smooth_89 n x3 x4 M = some (R, M') → RunF l D cy ad none YX11_smooth 406 0 0 (some (.int R)) (lay X M') 0 0 89 [(0, .ref 174), (3, .int x3), (4, .int x4)] [] (lay X M) := by
  intro n
  induction n with
  | zero => intro x3 x4 M hF; exact absurd hF (by unfold f_X11_smooth_89; exact fun h => nomatch h)
  | succ n ih =>
    intro x3 x4 M hF
    unfold f_X11_smooth_89 at hF
    refine g_iload (Y := YX11_smooth) (pc := 89) 2 dX11_smooth_89 rfl ?_
    refine g_if_eq (Y := YX11_smooth) (pc := 91) (tgt := 251) dX11_smooth_91 rfl (fun c17 => ?_) (fun c17 => ?_)
    · replace hF := if_t c17 hF
      refine g_aload_n (Y := YX11_smooth) (pc := 251) 0 dX11_smooth_251 rfl ?_
      refine g_iconst (Y := YX11_smooth) (pc := 252) dX11_smooth_252 kI_0 ?_
      refine u_putI (Y := YX11_smooth) (pc := 253) dX11_smooth_253 fl_X11_103  k_174 ?_
      refine g_nmM (fun M18 e => ?_)
      replace hF := ml_to e hF; clear e
      refine g_iconst (Y := YX11_smooth) (pc := 256) dX11_smooth_256 kI_0 ?_
      refine g_istore (Y := YX11_smooth) (pc := 257) (L' := [(5, .int 0), (0, .ref 174), (3, .int x3), (4, .int x4)]) dX11_smooth_257 (Nat.le_of_ble_eq_true rfl) rfl ?_
      refine g_loc [1, 2, 0] rfl ?_
      exact w_X11_smooth_259  _ _ _ _ hF
    · replace hF := if_f c17 hF
      refine g_iconst (Y := YX11_smooth) (pc := 94) dX11_smooth_94 kI_0 ?_
      refine g_istore (Y := YX11_smooth) (pc := 95) (L' := [(5, .int 0), (0, .ref 174), (3, .int x3), (4, .int x4)]) dX11_smooth_95 (Nat.le_of_ble_eq_true rfl) rfl ?_
      refine g_iconst (Y := YX11_smooth) (pc := 97) dX11_smooth_97 kI_0 ?_
      refine g_istore (Y := YX11_smooth) (pc := 98) (L' := [(6, .int 0), (5, .int 0), (0, .ref 174), (3, .int x3), (4, .int x4)]) dX11_smooth_98 (Nat.le_of_ble_eq_true rfl) rfl ?_
      refine g_loc [2, 3, 1, 0] rfl ?_
      exact w_X11_smooth_100 ih _ _ _ _ _ hF
def f_X11_smooth_73  (x1 : Int32) (M : Mem) : Option (Int32 × Mem) :=
  bd (f_X11_layStays M) fun _ M12 =>
  bd (f_X11_firstOrder x1 M12) fun _ M15 =>
  f_X11_smooth_89 FU 1000000 1 M15
set_option maxRecDepth 100000 in
theorem w_X11_smooth_73 {R : Int32} {M' : Mem}  (x1 : Int32) (M : Mem) (hF : f_X11_smooth_73 x1 M = some (R, M')) : RunF l D cy ad none YX11_smooth 406 0 0 (some (.int R)) (lay X M') 0 0 73 [(0, .ref 174), (1, .int x1)] [] (lay X M) := by
  unfold f_X11_smooth_73 at hF
  refine g_aload_n (Y := YX11_smooth) (pc := 73) 0 dX11_smooth_73 rfl ?_
  obtain ⟨r11, M12, e13, hF⟩ := bd_some hF
  refine s_callVv (Y := YX11_smooth) (pc := 74) (as := []) (st := []) (r_X11_layStays  e13) miX11_layStays lk_X11_271 dX11_smooth_74 k_174 rfl (Nat.le_of_ble_eq_true rfl) (Nat.le_of_ble_eq_true rfl) rfl ?_
  clear e13
  refine g_ldcw (Y := YX11_smooth) (pc := 77) dX11_smooth_77 cw_X11_321 ?_
  refine g_istore_n (Y := YX11_smooth) (pc := 80) (L' := [(3, .int 1000000), (0, .ref 174), (1, .int x1)]) dX11_smooth_80 (Nat.le_of_ble_eq_true rfl) rfl ?_
  refine g_aload_n (Y := YX11_smooth) (pc := 81) 1 dX11_smooth_81 rfl ?_
  refine g_iload_n (Y := YX11_smooth) (pc := 82) 2 dX11_smooth_82 rfl ?_
  obtain ⟨r14, M15, e16, hF⟩ := bd_some hF
  refine s_callVv (Y := YX11_smooth) (pc := 83) (as := [.int x1]) (st := []) (r_X11_firstOrder  e16) miX11_firstOrder lk_X11_344 dX11_smooth_83 k_174 rfl (Nat.le_of_ble_eq_true rfl) (Nat.le_of_ble_eq_true rfl) rfl ?_
  clear e16
  refine g_iconst (Y := YX11_smooth) (pc := 86) dX11_smooth_86 kI_1 ?_
  refine g_istore (Y := YX11_smooth) (pc := 87) (L' := [(4, .int 1), (3, .int 1000000), (0, .ref 174), (1, .int x1)]) dX11_smooth_87 (Nat.le_of_ble_eq_true rfl) rfl ?_
  refine g_loc [2, 1, 0] rfl ?_
  exact w_X11_smooth_89  _ _ _ _ hF
def f_X11_smooth_48 (K23 : Int32 → Int32 → Int32 → Mem → Option (Int32 × Mem)) (x1 : Int32) (x3 : Int32) (t1 : Int32) (t0 : Int32) (M : Mem) : Option (Int32 × Mem) :=
  vl ((t1 ||| t0)) fun v63 =>
  vl (x3 + 1) fun v64 =>
  K23 x1 v63 v64 M
set_option maxRecDepth 100000 in
theorem w_X11_smooth_48 {R : Int32} {M' : Mem} {K23 : Int32 → Int32 → Int32 → Mem → Option (Int32 × Mem)} (hK23 : ∀ (x1 x2 x3 : Int32) (M : Mem), K23 x1 x2 x3 M = some (R, M') → RunF l D cy ad none YX11_smooth 406 0 0 (some (.int R)) (lay X M') 0 0 23 [(0, .ref 174), (1, .int x1), (2, .int x2), (3, .int x3)] [] (lay X M)) (x1 x3 t1 t0 : Int32) (M : Mem) (hF : f_X11_smooth_48 K23 x1 x3 t1 t0 M = some (R, M')) : RunF l D cy ad none YX11_smooth 406 0 0 (some (.int R)) (lay X M') 0 0 48 [(0, .ref 174), (1, .int x1), (3, .int x3)] [.int t0, .int t1] (lay X M) := by
  unfold f_X11_smooth_48 at hF
  refine g_ior (Y := YX11_smooth) (pc := 48) dX11_smooth_48 ?_
  refine g_nm (fun v63 e => ?_)
  replace hF := vl_to e hF; clear e
  refine g_istore_n (Y := YX11_smooth) (pc := 49) (L' := [(2, .int v63), (0, .ref 174), (1, .int x1), (3, .int x3)]) dX11_smooth_49 (Nat.le_of_ble_eq_true rfl) rfl ?_
  refine s_iinc (Y := YX11_smooth) (pc := 50) (j := 3) (L' := fun y => [(3, .int y), (2, .int v63), (0, .ref 174), (1, .int x1)]) dX11_smooth_50 kI_1 rfl (Nat.le_of_ble_eq_true rfl) (fun _ => rfl) (fun v64 e => ?_)
  replace hF := vl_to e hF; clear e
  refine g_goto (Y := YX11_smooth) (pc := 53) (tgt := 23) dX11_smooth_53 rfl ?_
  refine g_loc [2, 3, 1, 0] rfl ?_
  exact hK23 _ _ _ _ hF
def f_X11_smooth_23  : Nat → Int32 → Int32 → Int32 → Mem → Option (Int32 × Mem)
  | 0, _, _, _, _ => none
  | n + 1, x1, x2, x3, M =>
    if x3 < (M 174 3) then
      gd (0 ≤ x3 ∧ x3.toNatClampNeg < 6) <|
      if (M 180 x3.toNatClampNeg) = 0 then
        f_X11_smooth_48 (f_X11_smooth_23 n) x1 x3 x2 0 M
      else
        f_X11_smooth_48 (f_X11_smooth_23 n) x1 x3 x2 (1 <<< (x3 &&& 31)) M
    else
      if (x1 &&& x2) = 0 then
        f_X11_smooth_73 x1 M
      else
        if (x1 &&& (x2 ^^^ (-1))) = 0 then
          f_X11_smooth_73 x1 M
        else
          some ((-2), M)
set_option maxRecDepth 100000 in
theorem w_X11_smooth_23 {R : Int32} {M' : Mem}  : ∀ (n : Nat) (x1 x2 x3 : Int32) (M : Mem), f_X11_smooth_23 n x1 x2 x3 M = some (R, M') → RunF l D cy ad none YX11_smooth 406 0 0 (some (.int R)) (lay X M') 0 0 23 [(0, .ref 174), (1, .int x1), (2, .int x2), (3, .int x3)] [] (lay X M) := by
  intro n
  induction n with
  | zero => intro x1 x2 x3 M hF; exact absurd hF (by unfold f_X11_smooth_23; exact fun h => nomatch h)
  | succ n ih =>
    intro x1 x2 x3 M hF
    unfold f_X11_smooth_23 at hF
    refine g_iload_n (Y := YX11_smooth) (pc := 23) 3 dX11_smooth_23 rfl ?_
    refine g_aload_n (Y := YX11_smooth) (pc := 24) 0 dX11_smooth_24 rfl ?_
    refine u_getI (Y := YX11_smooth) (pc := 25) dX11_smooth_25 fl_X11_113 k_174 ?_
    refine g_icmp_ge (Y := YX11_smooth) (pc := 28) (tgt := 56) dX11_smooth_28 rfl (fun c9 => ?_) (fun c9 => ?_)
    · replace hF := if_f c9 hF
      refine g_iload_n (Y := YX11_smooth) (pc := 56) 1 dX11_smooth_56 rfl ?_
      refine g_iload_n (Y := YX11_smooth) (pc := 57) 2 dX11_smooth_57 rfl ?_
      refine g_iand (Y := YX11_smooth) (pc := 58) dX11_smooth_58 ?_
      refine g_if_eq (Y := YX11_smooth) (pc := 59) (tgt := 73) dX11_smooth_59 rfl (fun c10 => ?_) (fun c10 => ?_)
      · replace hF := if_t c10 hF
        refine g_loc [0, 1] rfl ?_
        exact w_X11_smooth_73  _ _ hF
      · replace hF := if_f c10 hF
        refine g_iload_n (Y := YX11_smooth) (pc := 62) 1 dX11_smooth_62 rfl ?_
        refine g_iload_n (Y := YX11_smooth) (pc := 63) 2 dX11_smooth_63 rfl ?_
        refine g_iconst (Y := YX11_smooth) (pc := 64) dX11_smooth_64 kI_m1 ?_
        refine g_ixor (Y := YX11_smooth) (pc := 65) dX11_smooth_65 ?_
        refine g_iand (Y := YX11_smooth) (pc := 66) dX11_smooth_66 ?_
        refine g_if_eq (Y := YX11_smooth) (pc := 67) (tgt := 73) dX11_smooth_67 rfl (fun c60 => ?_) (fun c60 => ?_)
        · replace hF := if_t c60 hF
          refine g_loc [0, 1] rfl ?_
          exact w_X11_smooth_73  _ _ hF
        · replace hF := if_f c60 hF
          refine g_bipush (Y := YX11_smooth) (pc := 70) dX11_smooth_70 kB_m2 ?_
          exact s_iret (Y := YX11_smooth) (pc := 72) dX11_smooth_72 rfl hF
    · replace hF := if_t c9 hF
      refine g_iload_n (Y := YX11_smooth) (pc := 31) 2 dX11_smooth_31 rfl ?_
      refine g_aload_n (Y := YX11_smooth) (pc := 32) 0 dX11_smooth_32 rfl ?_
      refine u_getR (Y := YX11_smooth) (pc := 33) (j := 180) dX11_smooth_33 fl_X11_26 k_174 rf_174_7 ?_
      refine g_iload_n (Y := YX11_smooth) (pc := 36) 3 dX11_smooth_36 rfl ?_
      obtain ⟨g61, hF⟩ := gd_some hF
      refine s_zald (Y := YX11_smooth) (pc := 37) dX11_smooth_37 k_180 n_180 g61 ?_
      refine g_if_eq (Y := YX11_smooth) (pc := 38) (tgt := 47) dX11_smooth_38 rfl (fun c62 => ?_) (fun c62 => ?_)
      · replace hF := if_t c62 hF
        refine g_iconst (Y := YX11_smooth) (pc := 47) dX11_smooth_47 kI_0 ?_
        refine g_loc [0, 1, 3] rfl ?_
        exact w_X11_smooth_48 ih _ _ _ _ _ hF
      · replace hF := if_f c62 hF
        refine g_iconst (Y := YX11_smooth) (pc := 41) dX11_smooth_41 kI_1 ?_
        refine g_iload_n (Y := YX11_smooth) (pc := 42) 3 dX11_smooth_42 rfl ?_
        refine g_ishl (Y := YX11_smooth) (pc := 43) dX11_smooth_43 ?_
        refine g_goto (Y := YX11_smooth) (pc := 44) (tgt := 48) dX11_smooth_44 rfl ?_
        refine g_loc [0, 1, 3] rfl ?_
        exact w_X11_smooth_48 ih _ _ _ _ _ hF
def f_X11_smooth_0  (x1 : Int32) (M : Mem) : Option (Int32 × Mem) :=
  ml (up M 174 14 0) fun M1 =>
  bd (f_X11_everybody M1) fun r2 M3 =>
  bd (f_X11_in x1 1 r2 M3) fun r5 M6 =>
  if r5 = 0 then
    some ((-1), M6)
  else
    f_X11_smooth_23 FU x1 0 0 M6
set_option maxRecDepth 100000 in
theorem w_X11_smooth_0 {R : Int32} {M' : Mem}  (x1 : Int32) (M : Mem) (hF : f_X11_smooth_0 x1 M = some (R, M')) : RunF l D cy ad none YX11_smooth 406 0 0 (some (.int R)) (lay X M') 0 0 0 [(0, .ref 174), (1, .int x1)] [] (lay X M) := by
  unfold f_X11_smooth_0 at hF
  refine g_aload_n (Y := YX11_smooth) (pc := 0) 0 dX11_smooth_0 rfl ?_
  refine g_iconst (Y := YX11_smooth) (pc := 1) dX11_smooth_1 kI_0 ?_
  refine u_putI (Y := YX11_smooth) (pc := 2) dX11_smooth_2 fl_X11_99  k_174 ?_
  refine g_nmM (fun M1 e => ?_)
  replace hF := ml_to e hF; clear e
  refine g_iload_n (Y := YX11_smooth) (pc := 5) 1 dX11_smooth_5 rfl ?_
  refine g_iconst (Y := YX11_smooth) (pc := 6) dX11_smooth_6 kI_1 ?_
  refine g_aload_n (Y := YX11_smooth) (pc := 7) 0 dX11_smooth_7 rfl ?_
  obtain ⟨r2, M3, e4, hF⟩ := bd_some hF
  refine s_callVi (Y := YX11_smooth) (pc := 8) (as := []) (st := [.int 1, .int x1]) (r_X11_everybody  e4) miX11_everybody lk_X11_331 dX11_smooth_8 k_174 rfl (Nat.le_of_ble_eq_true rfl) (Nat.le_of_ble_eq_true rfl) rfl ?_
  clear e4
  obtain ⟨r5, M6, e7, hF⟩ := bd_some hF
  refine s_callSi (Y := YX11_smooth) (pc := 11) (as := [.int x1, .int 1, .int r2]) (st := []) (r_X11_in  e7) msX11_in lk_X11_109 dX11_smooth_11 rfl (Nat.le_of_ble_eq_true rfl) (Nat.le_of_ble_eq_true rfl) rfl ?_
  clear e7
  refine g_if_ne (Y := YX11_smooth) (pc := 14) (tgt := 19) dX11_smooth_14 rfl (fun c8 => ?_) (fun c8 => ?_)
  · replace hF := if_f c8 hF
    refine g_iconst (Y := YX11_smooth) (pc := 19) dX11_smooth_19 kI_0 ?_
    refine g_istore_n (Y := YX11_smooth) (pc := 20) (L' := [(2, .int 0), (0, .ref 174), (1, .int x1)]) dX11_smooth_20 (Nat.le_of_ble_eq_true rfl) rfl ?_
    refine g_iconst (Y := YX11_smooth) (pc := 21) dX11_smooth_21 kI_0 ?_
    refine g_istore_n (Y := YX11_smooth) (pc := 22) (L' := [(3, .int 0), (2, .int 0), (0, .ref 174), (1, .int x1)]) dX11_smooth_22 (Nat.le_of_ble_eq_true rfl) rfl ?_
    refine g_loc [2, 3, 1, 0] rfl ?_
    exact w_X11_smooth_23  _ _ _ _ _ hF
  · replace hF := if_t c8 hF
    refine g_iconst (Y := YX11_smooth) (pc := 17) dX11_smooth_17 kI_m1 ?_
    exact s_iret (Y := YX11_smooth) (pc := 18) dX11_smooth_18 rfl hF
def f_X11_smooth (x1 : Int32) (M : Mem) : Option (Int32 × Mem) := f_X11_smooth_0 x1 M
theorem r_X11_smooth {x1 R : Int32} {M M' : Mem}  (hF : f_X11_smooth x1 M = some (R, M')) : RunS l D cy ad YX11_smooth 406 [.ref 174, .int x1] X M (some (.int R)) M' := Run.of 1 (miX11_smooth).1 (Nat.le_of_ble_eq_true rfl) (w_X11_smooth_0  _ _ hF)
def f_X11_everyOf_69 (K9 : Int32 → Int32 → Int32 → Mem → Option (Int32 × Mem)) (x1 : Int32) (x2 : Int32) (x3 : Int32) (M : Mem) : Option (Int32 × Mem) :=
  vl (x3 + 1) fun v5 =>
  K9 x1 x2 v5 M
set_option maxRecDepth 100000 in
theorem w_X11_everyOf_69 {R : Int32} {M' : Mem} {K9 : Int32 → Int32 → Int32 → Mem → Option (Int32 × Mem)} (hK9 : ∀ (x1 x2 x3 : Int32) (M : Mem), K9 x1 x2 x3 M = some (R, M') → RunF l D cy ad none YX11_everyOf 0 0 0 (some (.int R)) (lay X M') 0 0 9 [(0, .ref 174), (1, .int x1), (2, .int x2), (3, .int x3)] [] (lay X M)) (x1 x2 x3 : Int32) (M : Mem) (hF : f_X11_everyOf_69 K9 x1 x2 x3 M = some (R, M')) : RunF l D cy ad none YX11_everyOf 0 0 0 (some (.int R)) (lay X M') 0 0 69 [(0, .ref 174), (1, .int x1), (2, .int x2), (3, .int x3)] [] (lay X M) := by
  unfold f_X11_everyOf_69 at hF
  refine s_iinc (Y := YX11_everyOf) (pc := 69) (j := 3) (L' := fun y => [(3, .int y), (0, .ref 174), (1, .int x1), (2, .int x2)]) dX11_everyOf_69 kI_1 rfl (Nat.le_of_ble_eq_true rfl) (fun _ => rfl) (fun v5 e => ?_)
  replace hF := vl_to e hF; clear e
  refine g_goto (Y := YX11_everyOf) (pc := 72) (tgt := 9) dX11_everyOf_72 rfl ?_
  refine g_loc [1, 2, 3, 0] rfl ?_
  exact hK9 _ _ _ _ hF
def f_X11_everyOf_52 (K9 : Int32 → Int32 → Int32 → Mem → Option (Int32 × Mem)) (x1 : Int32) (x3 : Int32) (M : Mem) : Option (Int32 × Mem) :=
  gd (0 ≤ ((6 * x1) + x3) ∧ ((6 * x1) + x3).toNatClampNeg < 36) <|
  vl ((M 187 ((6 * x1) + x3).toNatClampNeg)) fun v8 =>
  ml (up M 174 44 x3) fun M9 =>
  f_X11_everyOf_69 K9 x1 v8 x3 M9
set_option maxRecDepth 100000 in
theorem w_X11_everyOf_52 {R : Int32} {M' : Mem} {K9 : Int32 → Int32 → Int32 → Mem → Option (Int32 × Mem)} (hK9 : ∀ (x1 x2 x3 : Int32) (M : Mem), K9 x1 x2 x3 M = some (R, M') → RunF l D cy ad none YX11_everyOf 0 0 0 (some (.int R)) (lay X M') 0 0 9 [(0, .ref 174), (1, .int x1), (2, .int x2), (3, .int x3)] [] (lay X M)) (x1 x3 : Int32) (M : Mem) (hF : f_X11_everyOf_52 K9 x1 x3 M = some (R, M')) : RunF l D cy ad none YX11_everyOf 0 0 0 (some (.int R)) (lay X M') 0 0 52 [(0, .ref 174), (1, .int x1), (3, .int x3)] [] (lay X M) := by
  unfold f_X11_everyOf_52 at hF
  refine g_aload_n (Y := YX11_everyOf) (pc := 52) 0 dX11_everyOf_52 rfl ?_
  refine u_getR (Y := YX11_everyOf) (pc := 53) (j := 187) dX11_everyOf_53 fl_X11_48 k_174 rf_174_26 ?_
  refine g_bipush (Y := YX11_everyOf) (pc := 56) dX11_everyOf_56 kB_6 ?_
  refine g_iload_n (Y := YX11_everyOf) (pc := 58) 1 dX11_everyOf_58 rfl ?_
  refine g_imul (Y := YX11_everyOf) (pc := 59) dX11_everyOf_59 ?_
  refine g_iload_n (Y := YX11_everyOf) (pc := 60) 2 dX11_everyOf_60 rfl ?_
  refine g_iadd (Y := YX11_everyOf) (pc := 61) dX11_everyOf_61 ?_
  obtain ⟨g7, hF⟩ := gd_some hF
  refine s_iald (Y := YX11_everyOf) (pc := 62) dX11_everyOf_62 k_187 n_187 g7 ?_
  refine g_nm (fun v8 e => ?_)
  replace hF := vl_to e hF; clear e
  refine g_istore_n (Y := YX11_everyOf) (pc := 63) (L' := [(2, .int v8), (0, .ref 174), (1, .int x1), (3, .int x3)]) dX11_everyOf_63 (Nat.le_of_ble_eq_true rfl) rfl ?_
  refine g_aload_n (Y := YX11_everyOf) (pc := 64) 1 dX11_everyOf_64 rfl ?_
  refine g_iload_n (Y := YX11_everyOf) (pc := 65) 3 dX11_everyOf_65 rfl ?_
  refine u_putI (Y := YX11_everyOf) (pc := 66) dX11_everyOf_66 fl_X11_369  k_174 ?_
  refine g_nmM (fun M9 e => ?_)
  replace hF := ml_to e hF; clear e
  refine g_loc [1, 2, 0, 3] rfl ?_
  exact w_X11_everyOf_69 hK9 _ _ _ _ hF
def f_X11_everyOf_9  : Nat → Int32 → Int32 → Int32 → Mem → Option (Int32 × Mem)
  | 0, _, _, _, _ => none
  | n + 1, x1, x2, x3, M =>
    if x3 < (M 174 1) then
      gd (0 ≤ x3 ∧ x3.toNatClampNeg < 6) <|
      if (M 176 x3.toNatClampNeg) = 0 then
        if (M 174 44) = (-1) then
          f_X11_everyOf_52 (f_X11_everyOf_9 n) x1 x3 M
        else
          gd (0 ≤ ((6 * x1) + x3) ∧ ((6 * x1) + x3).toNatClampNeg < 36) <|
          if x2 < (M 187 ((6 * x1) + x3).toNatClampNeg) then
            f_X11_everyOf_52 (f_X11_everyOf_9 n) x1 x3 M
          else
            f_X11_everyOf_69 (f_X11_everyOf_9 n) x1 x2 x3 M
      else
        f_X11_everyOf_69 (f_X11_everyOf_9 n) x1 x2 x3 M
    else
      some (x2, M)
set_option maxRecDepth 100000 in
theorem w_X11_everyOf_9 {R : Int32} {M' : Mem}  : ∀ (n : Nat) (x1 x2 x3 : Int32) (M : Mem), f_X11_everyOf_9 n x1 x2 x3 M = some (R, M') → RunF l D cy ad none YX11_everyOf 0 0 0 (some (.int R)) (lay X M') 0 0 9 [(0, .ref 174), (1, .int x1), (2, .int x2), (3, .int x3)] [] (lay X M) := by
  intro n
  induction n with
  | zero => intro x1 x2 x3 M hF; exact absurd hF (by unfold f_X11_everyOf_9; exact fun h => nomatch h)
  | succ n ih =>
    intro x1 x2 x3 M hF
    unfold f_X11_everyOf_9 at hF
    refine g_iload_n (Y := YX11_everyOf) (pc := 9) 3 dX11_everyOf_9 rfl ?_
    refine g_aload_n (Y := YX11_everyOf) (pc := 10) 0 dX11_everyOf_10 rfl ?_
    refine u_getI (Y := YX11_everyOf) (pc := 11) dX11_everyOf_11 fl_X11_106 k_174 ?_
    refine g_icmp_ge (Y := YX11_everyOf) (pc := 14) (tgt := 75) dX11_everyOf_14 rfl (fun c2 => ?_) (fun c2 => ?_)
    · replace hF := if_f c2 hF
      refine g_iload_n (Y := YX11_everyOf) (pc := 75) 2 dX11_everyOf_75 rfl ?_
      exact s_iret (Y := YX11_everyOf) (pc := 76) dX11_everyOf_76 rfl hF
    · replace hF := if_t c2 hF
      refine g_aload_n (Y := YX11_everyOf) (pc := 17) 0 dX11_everyOf_17 rfl ?_
      refine u_getR (Y := YX11_everyOf) (pc := 18) (j := 176) dX11_everyOf_18 fl_X11_13 k_174 rf_174_2 ?_
      refine g_iload_n (Y := YX11_everyOf) (pc := 21) 3 dX11_everyOf_21 rfl ?_
      obtain ⟨g3, hF⟩ := gd_some hF
      refine s_zald (Y := YX11_everyOf) (pc := 22) dX11_everyOf_22 k_176 n_176 g3 ?_
      refine g_if_ne (Y := YX11_everyOf) (pc := 23) (tgt := 69) dX11_everyOf_23 rfl (fun c4 => ?_) (fun c4 => ?_)
      · replace hF := if_f c4 hF
        exact w_X11_everyOf_69 ih _ _ _ _ hF
      · replace hF := if_t c4 hF
        refine g_aload_n (Y := YX11_everyOf) (pc := 26) 0 dX11_everyOf_26 rfl ?_
        refine u_getI (Y := YX11_everyOf) (pc := 27) dX11_everyOf_27 fl_X11_369 k_174 ?_
        refine g_iconst (Y := YX11_everyOf) (pc := 30) dX11_everyOf_30 kI_m1 ?_
        refine g_icmp_eq (Y := YX11_everyOf) (pc := 31) (tgt := 52) dX11_everyOf_31 rfl (fun c6 => ?_) (fun c6 => ?_)
        · replace hF := if_t c6 hF
          refine g_loc [0, 1, 3] rfl ?_
          exact w_X11_everyOf_52 ih _ _ _ hF
        · replace hF := if_f c6 hF
          refine g_aload_n (Y := YX11_everyOf) (pc := 34) 0 dX11_everyOf_34 rfl ?_
          refine u_getR (Y := YX11_everyOf) (pc := 35) (j := 187) dX11_everyOf_35 fl_X11_48 k_174 rf_174_26 ?_
          refine g_bipush (Y := YX11_everyOf) (pc := 38) dX11_everyOf_38 kB_6 ?_
          refine g_iload_n (Y := YX11_everyOf) (pc := 40) 1 dX11_everyOf_40 rfl ?_
          refine g_imul (Y := YX11_everyOf) (pc := 41) dX11_everyOf_41 ?_
          refine g_iload_n (Y := YX11_everyOf) (pc := 42) 3 dX11_everyOf_42 rfl ?_
          refine g_iadd (Y := YX11_everyOf) (pc := 43) dX11_everyOf_43 ?_
          obtain ⟨g10, hF⟩ := gd_some hF
          refine s_iald (Y := YX11_everyOf) (pc := 44) dX11_everyOf_44 k_187 n_187 g10 ?_
          refine g_iload_n (Y := YX11_everyOf) (pc := 45) 2 dX11_everyOf_45 rfl ?_
          refine g_icmp_gt (Y := YX11_everyOf) (pc := 46) (tgt := 52) dX11_everyOf_46 rfl (fun c11 => ?_) (fun c11 => ?_)
          · replace hF := if_t c11 hF
            refine g_loc [0, 1, 3] rfl ?_
            exact w_X11_everyOf_52 ih _ _ _ hF
          · replace hF := if_f c11 hF
            refine g_goto (Y := YX11_everyOf) (pc := 49) (tgt := 69) dX11_everyOf_49 rfl ?_
            exact w_X11_everyOf_69 ih _ _ _ _ hF
def f_X11_everyOf_0  (x1 : Int32) (M : Mem) : Option (Int32 × Mem) :=
  ml (up M 174 44 (-1)) fun M1 =>
  f_X11_everyOf_9 FU x1 0 0 M1
set_option maxRecDepth 100000 in
theorem w_X11_everyOf_0 {R : Int32} {M' : Mem}  (x1 : Int32) (M : Mem) (hF : f_X11_everyOf_0 x1 M = some (R, M')) : RunF l D cy ad none YX11_everyOf 0 0 0 (some (.int R)) (lay X M') 0 0 0 [(0, .ref 174), (1, .int x1)] [] (lay X M) := by
  unfold f_X11_everyOf_0 at hF
  refine g_iconst (Y := YX11_everyOf) (pc := 0) dX11_everyOf_0 kI_0 ?_
  refine g_istore_n (Y := YX11_everyOf) (pc := 1) (L' := [(2, .int 0), (0, .ref 174), (1, .int x1)]) dX11_everyOf_1 (Nat.le_of_ble_eq_true rfl) rfl ?_
  refine g_aload_n (Y := YX11_everyOf) (pc := 2) 1 dX11_everyOf_2 rfl ?_
  refine g_iconst (Y := YX11_everyOf) (pc := 3) dX11_everyOf_3 kI_m1 ?_
  refine u_putI (Y := YX11_everyOf) (pc := 4) dX11_everyOf_4 fl_X11_369  k_174 ?_
  refine g_nmM (fun M1 e => ?_)
  replace hF := ml_to e hF; clear e
  refine g_iconst (Y := YX11_everyOf) (pc := 7) dX11_everyOf_7 kI_0 ?_
  refine g_istore_n (Y := YX11_everyOf) (pc := 8) (L' := [(3, .int 0), (2, .int 0), (0, .ref 174), (1, .int x1)]) dX11_everyOf_8 (Nat.le_of_ble_eq_true rfl) rfl ?_
  refine g_loc [2, 3, 1, 0] rfl ?_
  exact w_X11_everyOf_9  _ _ _ _ _ hF
def f_X11_everyOf (x1 : Int32) (M : Mem) : Option (Int32 × Mem) := f_X11_everyOf_0 x1 M
theorem r_X11_everyOf {x1 R : Int32} {M M' : Mem}  (hF : f_X11_everyOf x1 M = some (R, M')) : RunS l D cy ad YX11_everyOf 0 [.ref 174, .int x1] X M (some (.int R)) M' := Run.of 1 (miX11_everyOf).1 (Nat.le_of_ble_eq_true rfl) (w_X11_everyOf_0  _ _ hF)
def f_X11_every_73  (x2 : Int32) (t0 : Int32) (M : Mem) : Option (Int32 × Mem) :=
  bd (f_X11_tell t0 M) fun _ M23 =>
  some (x2, M23)
set_option maxRecDepth 100000 in
theorem w_X11_every_73 {R : Int32} {M' : Mem}  (x2 t0 : Int32) (M : Mem) (hF : f_X11_every_73 x2 t0 M = some (R, M')) : RunF l D cy ad none YX11_every 406 0 0 (some (.int R)) (lay X M') 0 0 73 [(2, .int x2)] [.int t0, .ref 174] (lay X M) := by
  unfold f_X11_every_73 at hF
  obtain ⟨r22, M23, e24, hF⟩ := bd_some hF
  refine s_callVv (Y := YX11_every) (pc := 73) (as := [.int t0]) (st := []) (r_X11_tell  e24) miX11_tell lk_X11_300 dX11_every_73 k_174 rfl (Nat.le_of_ble_eq_true rfl) (Nat.le_of_ble_eq_true rfl) rfl ?_
  clear e24
  refine g_iload_n (Y := YX11_every) (pc := 76) 0 dX11_every_76 rfl ?_
  exact s_iret (Y := YX11_every) (pc := 77) dX11_every_77 rfl hF
def f_X11_every_0  (x1 : Int32) (M : Mem) : Option (Int32 × Mem) :=
  ml (up M 174 14 0) fun M1 =>
  bd (f_X11_isGroup x1 M1) fun r2 M3 =>
  if r2 = 0 then
    some ((-1), M3)
  else
    bd (f_X11_layStays M3) fun _ M7 =>
    bd (f_X11_everyOf x1 M7) fun r9 M10 =>
    bd (f_X11_allStays x1 M10) fun r12 M13 =>
    ml (up M13 174 13 0) fun M15 =>
    bd (f_X11_tell (M15 174 44) M15) fun _ M17 =>
    if r9 = 0 then
      f_X11_every_73 r9 (-1) M17
    else
      if 300 < r12 then
        f_X11_every_73 r9 0 M17
      else
        gd (¬ r9 = 0) <|
        f_X11_every_73 r9 (((300 - r12) / r9) + 1) M17
set_option maxRecDepth 100000 in
theorem w_X11_every_0 {R : Int32} {M' : Mem}  (x1 : Int32) (M : Mem) (hF : f_X11_every_0 x1 M = some (R, M')) : RunF l D cy ad none YX11_every 406 0 0 (some (.int R)) (lay X M') 0 0 0 [(0, .ref 174), (1, .int x1)] [] (lay X M) := by
  unfold f_X11_every_0 at hF
  refine g_aload_n (Y := YX11_every) (pc := 0) 0 dX11_every_0 rfl ?_
  refine g_iconst (Y := YX11_every) (pc := 1) dX11_every_1 kI_0 ?_
  refine u_putI (Y := YX11_every) (pc := 2) dX11_every_2 fl_X11_99  k_174 ?_
  refine g_nmM (fun M1 e => ?_)
  replace hF := ml_to e hF; clear e
  refine g_aload_n (Y := YX11_every) (pc := 5) 0 dX11_every_5 rfl ?_
  refine g_iload_n (Y := YX11_every) (pc := 6) 1 dX11_every_6 rfl ?_
  obtain ⟨r2, M3, e4, hF⟩ := bd_some hF
  refine s_callVi (Y := YX11_every) (pc := 7) (as := [.int x1]) (st := []) (r_X11_isGroup  e4) miX11_isGroup lk_X11_228 dX11_every_7 k_174 rfl (Nat.le_of_ble_eq_true rfl) (Nat.le_of_ble_eq_true rfl) rfl ?_
  clear e4
  refine g_if_ne (Y := YX11_every) (pc := 10) (tgt := 15) dX11_every_10 rfl (fun c5 => ?_) (fun c5 => ?_)
  · replace hF := if_f c5 hF
    refine g_aload_n (Y := YX11_every) (pc := 15) 0 dX11_every_15 rfl ?_
    obtain ⟨r6, M7, e8, hF⟩ := bd_some hF
    refine s_callVv (Y := YX11_every) (pc := 16) (as := []) (st := []) (r_X11_layStays  e8) miX11_layStays lk_X11_271 dX11_every_16 k_174 rfl (Nat.le_of_ble_eq_true rfl) (Nat.le_of_ble_eq_true rfl) rfl ?_
    clear e8
    refine g_aload_n (Y := YX11_every) (pc := 19) 0 dX11_every_19 rfl ?_
    refine g_iload_n (Y := YX11_every) (pc := 20) 1 dX11_every_20 rfl ?_
    obtain ⟨r9, M10, e11, hF⟩ := bd_some hF
    refine s_callVi (Y := YX11_every) (pc := 21) (as := [.int x1]) (st := []) (r_X11_everyOf  e11) miX11_everyOf lk_X11_372 dX11_every_21 k_174 rfl (Nat.le_of_ble_eq_true rfl) (Nat.le_of_ble_eq_true rfl) rfl ?_
    clear e11
    refine g_istore_n (Y := YX11_every) (pc := 24) (L' := [(2, .int r9), (0, .ref 174), (1, .int x1)]) dX11_every_24 (Nat.le_of_ble_eq_true rfl) rfl ?_
    refine g_aload_n (Y := YX11_every) (pc := 25) 1 dX11_every_25 rfl ?_
    refine g_iload_n (Y := YX11_every) (pc := 26) 2 dX11_every_26 rfl ?_
    obtain ⟨r12, M13, e14, hF⟩ := bd_some hF
    refine s_callVi (Y := YX11_every) (pc := 27) (as := [.int x1]) (st := []) (r_X11_allStays  e14) miX11_allStays lk_X11_366 dX11_every_27 k_174 rfl (Nat.le_of_ble_eq_true rfl) (Nat.le_of_ble_eq_true rfl) rfl ?_
    clear e14
    refine g_istore_n (Y := YX11_every) (pc := 30) (L' := [(3, .int r12), (2, .int r9), (0, .ref 174), (1, .int x1)]) dX11_every_30 (Nat.le_of_ble_eq_true rfl) rfl ?_
    refine g_aload_n (Y := YX11_every) (pc := 31) 2 dX11_every_31 rfl ?_
    refine g_iconst (Y := YX11_every) (pc := 32) dX11_every_32 kI_0 ?_
    refine u_putI (Y := YX11_every) (pc := 33) dX11_every_33 fl_X11_103  k_174 ?_
    refine g_nmM (fun M15 e => ?_)
    replace hF := ml_to e hF; clear e
    refine g_aload_n (Y := YX11_every) (pc := 36) 2 dX11_every_36 rfl ?_
    refine g_aload_n (Y := YX11_every) (pc := 37) 2 dX11_every_37 rfl ?_
    refine u_getI (Y := YX11_every) (pc := 38) dX11_every_38 fl_X11_369 k_174 ?_
    obtain ⟨r16, M17, e18, hF⟩ := bd_some hF
    refine s_callVv (Y := YX11_every) (pc := 41) (as := [.int (M15 174 44)]) (st := []) (r_X11_tell  e18) miX11_tell lk_X11_300 dX11_every_41 k_174 rfl (Nat.le_of_ble_eq_true rfl) (Nat.le_of_ble_eq_true rfl) rfl ?_
    clear e18
    refine g_aload_n (Y := YX11_every) (pc := 44) 2 dX11_every_44 rfl ?_
    refine g_iload_n (Y := YX11_every) (pc := 45) 1 dX11_every_45 rfl ?_
    refine g_if_ne (Y := YX11_every) (pc := 46) (tgt := 53) dX11_every_46 rfl (fun c19 => ?_) (fun c19 => ?_)
    · replace hF := if_f c19 hF
      refine g_iload_n (Y := YX11_every) (pc := 53) 0 dX11_every_53 rfl ?_
      refine g_sipush (Y := YX11_every) (pc := 54) dX11_every_54 kS_300 ?_
      refine g_icmp_le (Y := YX11_every) (pc := 57) (tgt := 64) dX11_every_57 rfl (fun c20 => ?_) (fun c20 => ?_)
      · replace hF := if_f c20 hF
        refine g_sipush (Y := YX11_every) (pc := 64) dX11_every_64 kS_300 ?_
        refine g_iload_n (Y := YX11_every) (pc := 67) 0 dX11_every_67 rfl ?_
        refine g_isub (Y := YX11_every) (pc := 68) dX11_every_68 ?_
        refine g_iload_n (Y := YX11_every) (pc := 69) 1 dX11_every_69 rfl ?_
        obtain ⟨g21, hF⟩ := gd_some hF
        refine g_idiv (Y := YX11_every) (pc := 70) dX11_every_70 g21 ?_
        refine g_iconst (Y := YX11_every) (pc := 71) dX11_every_71 kI_1 ?_
        refine g_iadd (Y := YX11_every) (pc := 72) dX11_every_72 ?_
        refine g_loc [1] rfl ?_
        exact w_X11_every_73  _ _ _ hF
      · replace hF := if_t c20 hF
        refine g_iconst (Y := YX11_every) (pc := 60) dX11_every_60 kI_0 ?_
        refine g_goto (Y := YX11_every) (pc := 61) (tgt := 73) dX11_every_61 rfl ?_
        refine g_loc [1] rfl ?_
        exact w_X11_every_73  _ _ _ hF
    · replace hF := if_t c19 hF
      refine g_iconst (Y := YX11_every) (pc := 49) dX11_every_49 kI_m1 ?_
      refine g_goto (Y := YX11_every) (pc := 50) (tgt := 73) dX11_every_50 rfl ?_
      refine g_loc [1] rfl ?_
      exact w_X11_every_73  _ _ _ hF
  · replace hF := if_t c5 hF
    refine g_iconst (Y := YX11_every) (pc := 13) dX11_every_13 kI_m1 ?_
    exact s_iret (Y := YX11_every) (pc := 14) dX11_every_14 rfl hF
def f_X11_every (x1 : Int32) (M : Mem) : Option (Int32 × Mem) := f_X11_every_0 x1 M
theorem r_X11_every {x1 R : Int32} {M M' : Mem}  (hF : f_X11_every x1 M = some (R, M')) : RunS l D cy ad YX11_every 406 [.ref 174, .int x1] X M (some (.int R)) M' := Run.of 1 (miX11_every).1 (Nat.le_of_ble_eq_true rfl) (w_X11_every_0  _ _ hF)
def f_X11_roomStays_40 (K5 : Int32 → Int32 → Int32 → Int32 → Mem → Option (Int32 × Mem)) (x1 : Int32) (x2 : Int32) (x4 : Int32) (t1 : Int32) (t0 : Int32) (M : Mem) : Option (Int32 × Mem) :=
  vl ((t1 + t0)) fun v6 =>
  vl (x4 + 1) fun v7 =>
  K5 x1 x2 v6 v7 M
set_option maxRecDepth 100000 in
theorem w_X11_roomStays_40 {R : Int32} {M' : Mem} {K5 : Int32 → Int32 → Int32 → Int32 → Mem → Option (Int32 × Mem)} (hK5 : ∀ (x1 x2 x3 x4 : Int32) (M : Mem), K5 x1 x2 x3 x4 M = some (R, M') → RunF l D cy ad none YX11_roomStays 1 0 0 (some (.int R)) (lay X M') 0 0 5 [(0, .ref 174), (1, .int x1), (2, .int x2), (3, .int x3), (4, .int x4)] [] (lay X M)) (x1 x2 x4 t1 t0 : Int32) (M : Mem) (hF : f_X11_roomStays_40 K5 x1 x2 x4 t1 t0 M = some (R, M')) : RunF l D cy ad none YX11_roomStays 1 0 0 (some (.int R)) (lay X M') 0 0 40 [(0, .ref 174), (1, .int x1), (2, .int x2), (4, .int x4)] [.int t0, .int t1] (lay X M) := by
  unfold f_X11_roomStays_40 at hF
  refine g_iadd (Y := YX11_roomStays) (pc := 40) dX11_roomStays_40 ?_
  refine g_nm (fun v6 e => ?_)
  replace hF := vl_to e hF; clear e
  refine g_istore_n (Y := YX11_roomStays) (pc := 41) (L' := [(3, .int v6), (0, .ref 174), (1, .int x1), (2, .int x2), (4, .int x4)]) dX11_roomStays_41 (Nat.le_of_ble_eq_true rfl) rfl ?_
  refine s_iinc (Y := YX11_roomStays) (pc := 42) (j := 4) (L' := fun y => [(4, .int y), (3, .int v6), (0, .ref 174), (1, .int x1), (2, .int x2)]) dX11_roomStays_42 kI_1 rfl (Nat.le_of_ble_eq_true rfl) (fun _ => rfl) (fun v7 e => ?_)
  replace hF := vl_to e hF; clear e
  refine g_goto (Y := YX11_roomStays) (pc := 45) (tgt := 5) dX11_roomStays_45 rfl ?_
  refine g_loc [2, 3, 4, 1, 0] rfl ?_
  exact hK5 _ _ _ _ _ hF
def f_X11_roomStays_5  : Nat → Int32 → Int32 → Int32 → Int32 → Mem → Option (Int32 × Mem)
  | 0, _, _, _, _, _ => none
  | n + 1, x1, x2, x3, x4, M =>
    if x4 < (M 174 3) then
      bd (f_X11_has x1 x4 M) fun r2 M3 =>
      if r2 = 0 then
        f_X11_roomStays_40 (f_X11_roomStays_5 n) x1 x2 x4 x3 0 M3
      else
        gd (0 ≤ ((6 * x4) + x2) ∧ ((6 * x4) + x2).toNatClampNeg < 36) <|
        f_X11_roomStays_40 (f_X11_roomStays_5 n) x1 x2 x4 x3 (M3 187 ((6 * x4) + x2).toNatClampNeg) M3
    else
      some (x3, M)
set_option maxRecDepth 100000 in
theorem w_X11_roomStays_5 {R : Int32} {M' : Mem}  : ∀ (n : Nat) (x1 x2 x3 x4 : Int32) (M : Mem), f_X11_roomStays_5 n x1 x2 x3 x4 M = some (R, M') → RunF l D cy ad none YX11_roomStays 1 0 0 (some (.int R)) (lay X M') 0 0 5 [(0, .ref 174), (1, .int x1), (2, .int x2), (3, .int x3), (4, .int x4)] [] (lay X M) := by
  intro n
  induction n with
  | zero => intro x1 x2 x3 x4 M hF; exact absurd hF (by unfold f_X11_roomStays_5; exact fun h => nomatch h)
  | succ n ih =>
    intro x1 x2 x3 x4 M hF
    unfold f_X11_roomStays_5 at hF
    refine g_iload (Y := YX11_roomStays) (pc := 5) 4 dX11_roomStays_5 rfl ?_
    refine g_aload_n (Y := YX11_roomStays) (pc := 7) 0 dX11_roomStays_7 rfl ?_
    refine u_getI (Y := YX11_roomStays) (pc := 8) dX11_roomStays_8 fl_X11_113 k_174 ?_
    refine g_icmp_ge (Y := YX11_roomStays) (pc := 11) (tgt := 48) dX11_roomStays_11 rfl (fun c1 => ?_) (fun c1 => ?_)
    · replace hF := if_f c1 hF
      refine g_iload_n (Y := YX11_roomStays) (pc := 48) 3 dX11_roomStays_48 rfl ?_
      exact s_iret (Y := YX11_roomStays) (pc := 49) dX11_roomStays_49 rfl hF
    · replace hF := if_t c1 hF
      refine g_iload_n (Y := YX11_roomStays) (pc := 14) 3 dX11_roomStays_14 rfl ?_
      refine g_iload_n (Y := YX11_roomStays) (pc := 15) 1 dX11_roomStays_15 rfl ?_
      refine g_iload (Y := YX11_roomStays) (pc := 16) 4 dX11_roomStays_16 rfl ?_
      obtain ⟨r2, M3, e4, hF⟩ := bd_some hF
      refine s_callSi (Y := YX11_roomStays) (pc := 18) (as := [.int x1, .int x4]) (st := [.int x3]) (r_X11_has  e4) msX11_has lk_X11_209 dX11_roomStays_18 rfl (Nat.le_of_ble_eq_true rfl) (Nat.le_of_ble_eq_true rfl) rfl ?_
      clear e4
      refine g_if_eq (Y := YX11_roomStays) (pc := 21) (tgt := 39) dX11_roomStays_21 rfl (fun c5 => ?_) (fun c5 => ?_)
      · replace hF := if_t c5 hF
        refine g_iconst (Y := YX11_roomStays) (pc := 39) dX11_roomStays_39 kI_0 ?_
        refine g_loc [0, 1, 2, 4] rfl ?_
        exact w_X11_roomStays_40 ih _ _ _ _ _ _ hF
      · replace hF := if_f c5 hF
        refine g_aload_n (Y := YX11_roomStays) (pc := 24) 0 dX11_roomStays_24 rfl ?_
        refine u_getR (Y := YX11_roomStays) (pc := 25) (j := 187) dX11_roomStays_25 fl_X11_48 k_174 rf_174_26 ?_
        refine g_bipush (Y := YX11_roomStays) (pc := 28) dX11_roomStays_28 kB_6 ?_
        refine g_iload (Y := YX11_roomStays) (pc := 30) 4 dX11_roomStays_30 rfl ?_
        refine g_imul (Y := YX11_roomStays) (pc := 32) dX11_roomStays_32 ?_
        refine g_iload_n (Y := YX11_roomStays) (pc := 33) 2 dX11_roomStays_33 rfl ?_
        refine g_iadd (Y := YX11_roomStays) (pc := 34) dX11_roomStays_34 ?_
        obtain ⟨g8, hF⟩ := gd_some hF
        refine s_iald (Y := YX11_roomStays) (pc := 35) dX11_roomStays_35 k_187 n_187 g8 ?_
        refine g_goto (Y := YX11_roomStays) (pc := 36) (tgt := 40) dX11_roomStays_36 rfl ?_
        refine g_loc [0, 1, 2, 4] rfl ?_
        exact w_X11_roomStays_40 ih _ _ _ _ _ _ hF
def f_X11_roomStays_0  (x1 : Int32) (x2 : Int32) (M : Mem) : Option (Int32 × Mem) :=
  f_X11_roomStays_5 FU x1 x2 0 0 M
set_option maxRecDepth 100000 in
theorem w_X11_roomStays_0 {R : Int32} {M' : Mem}  (x1 x2 : Int32) (M : Mem) (hF : f_X11_roomStays_0 x1 x2 M = some (R, M')) : RunF l D cy ad none YX11_roomStays 1 0 0 (some (.int R)) (lay X M') 0 0 0 [(0, .ref 174), (1, .int x1), (2, .int x2)] [] (lay X M) := by
  unfold f_X11_roomStays_0 at hF
  refine g_iconst (Y := YX11_roomStays) (pc := 0) dX11_roomStays_0 kI_0 ?_
  refine g_istore_n (Y := YX11_roomStays) (pc := 1) (L' := [(3, .int 0), (0, .ref 174), (1, .int x1), (2, .int x2)]) dX11_roomStays_1 (Nat.le_of_ble_eq_true rfl) rfl ?_
  refine g_iconst (Y := YX11_roomStays) (pc := 2) dX11_roomStays_2 kI_0 ?_
  refine g_istore (Y := YX11_roomStays) (pc := 3) (L' := [(4, .int 0), (3, .int 0), (0, .ref 174), (1, .int x1), (2, .int x2)]) dX11_roomStays_3 (Nat.le_of_ble_eq_true rfl) rfl ?_
  refine g_loc [2, 3, 4, 1, 0] rfl ?_
  exact w_X11_roomStays_5  _ _ _ _ _ _ hF
def f_X11_roomStays (x1 : Int32) (x2 : Int32) (M : Mem) : Option (Int32 × Mem) := f_X11_roomStays_0 x1 x2 M
theorem r_X11_roomStays {x1 x2 R : Int32} {M M' : Mem}  (hF : f_X11_roomStays x1 x2 M = some (R, M')) : RunS l D cy ad YX11_roomStays 1 [.ref 174, .int x1, .int x2] X M (some (.int R)) M' := Run.of 2 (miX11_roomStays).1 (Nat.le_of_ble_eq_true rfl) (w_X11_roomStays_0  _ _ _ hF)
def f_X11_least_184 (K146 : Int32 → Int32 → Int32 → Int32 → Int32 → Mem → Option (Int32 × Mem)) (x1 : Int32) (x2 : Int32) (x3 : Int32) (x5 : Int32) (t1 : Int32) (t0 : Int32) (M : Mem) : Option (Int32 × Mem) :=
  vl ((t1 ||| t0)) fun v28 =>
  vl (x5 + 1) fun v29 =>
  K146 x1 x2 x3 v28 v29 M
set_option maxRecDepth 100000 in
theorem w_X11_least_184 {R : Int32} {M' : Mem} {K146 : Int32 → Int32 → Int32 → Int32 → Int32 → Mem → Option (Int32 × Mem)} (hK146 : ∀ (x1 x2 x3 x4 x5 : Int32) (M : Mem), K146 x1 x2 x3 x4 x5 M = some (R, M') → RunF l D cy ad none YX11_least 406 0 0 (some (.int R)) (lay X M') 0 0 146 [(0, .ref 174), (1, .int x1), (2, .int x2), (3, .int x3), (4, .int x4), (5, .int x5)] [] (lay X M)) (x1 x2 x3 x5 t1 t0 : Int32) (M : Mem) (hF : f_X11_least_184 K146 x1 x2 x3 x5 t1 t0 M = some (R, M')) : RunF l D cy ad none YX11_least 406 0 0 (some (.int R)) (lay X M') 0 0 184 [(0, .ref 174), (1, .int x1), (2, .int x2), (3, .int x3), (5, .int x5)] [.int t0, .int t1] (lay X M) := by
  unfold f_X11_least_184 at hF
  refine g_ior (Y := YX11_least) (pc := 184) dX11_least_184 ?_
  refine g_nm (fun v28 e => ?_)
  replace hF := vl_to e hF; clear e
  refine g_istore (Y := YX11_least) (pc := 185) (L' := [(4, .int v28), (0, .ref 174), (1, .int x1), (2, .int x2), (3, .int x3), (5, .int x5)]) dX11_least_185 (Nat.le_of_ble_eq_true rfl) rfl ?_
  refine s_iinc (Y := YX11_least) (pc := 187) (j := 5) (L' := fun y => [(5, .int y), (4, .int v28), (0, .ref 174), (1, .int x1), (2, .int x2), (3, .int x3)]) dX11_least_187 kI_1 rfl (Nat.le_of_ble_eq_true rfl) (fun _ => rfl) (fun v29 e => ?_)
  replace hF := vl_to e hF; clear e
  refine g_goto (Y := YX11_least) (pc := 190) (tgt := 146) dX11_least_190 rfl ?_
  refine g_loc [2, 3, 4, 5, 1, 0] rfl ?_
  exact hK146 _ _ _ _ _ _ hF
def f_X11_least_183 (K146 : Int32 → Int32 → Int32 → Int32 → Int32 → Mem → Option (Int32 × Mem)) (x1 : Int32) (x2 : Int32) (x3 : Int32) (x5 : Int32) (t0 : Int32) (M : Mem) : Option (Int32 × Mem) :=
  f_X11_least_184 K146 x1 x2 x3 x5 t0 0 M
set_option maxRecDepth 100000 in
theorem w_X11_least_183 {R : Int32} {M' : Mem} {K146 : Int32 → Int32 → Int32 → Int32 → Int32 → Mem → Option (Int32 × Mem)} (hK146 : ∀ (x1 x2 x3 x4 x5 : Int32) (M : Mem), K146 x1 x2 x3 x4 x5 M = some (R, M') → RunF l D cy ad none YX11_least 406 0 0 (some (.int R)) (lay X M') 0 0 146 [(0, .ref 174), (1, .int x1), (2, .int x2), (3, .int x3), (4, .int x4), (5, .int x5)] [] (lay X M)) (x1 x2 x3 x5 t0 : Int32) (M : Mem) (hF : f_X11_least_183 K146 x1 x2 x3 x5 t0 M = some (R, M')) : RunF l D cy ad none YX11_least 406 0 0 (some (.int R)) (lay X M') 0 0 183 [(0, .ref 174), (1, .int x1), (2, .int x2), (3, .int x3), (5, .int x5)] [.int t0] (lay X M) := by
  unfold f_X11_least_183 at hF
  refine g_iconst (Y := YX11_least) (pc := 183) dX11_least_183 kI_0 ?_
  exact w_X11_least_184 hK146 _ _ _ _ _ _ _ hF
def f_X11_least_146  : Nat → Int32 → Int32 → Int32 → Int32 → Int32 → Mem → Option (Int32 × Mem)
  | 0, _, _, _, _, _, _ => none
  | n + 1, x1, x2, x3, x4, x5, M =>
    if x5 < (M 174 3) then
      bd (f_X11_has x1 x5 M) fun r24 M25 =>
      if r24 = 0 then
        f_X11_least_183 (f_X11_least_146 n) x1 x2 x3 x5 x4 M25
      else
        bd (f_X11_allStays x5 M25) fun r30 M31 =>
        if r30 = x2 then
          f_X11_least_184 (f_X11_least_146 n) x1 x2 x3 x5 x4 (1 <<< (x5 &&& 31)) M31
        else
          f_X11_least_183 (f_X11_least_146 n) x1 x2 x3 x5 x4 M31
    else
      ml (up M 174 13 0) fun M17 =>
      bd (f_X11_tell x3 M17) fun _ M19 =>
      bd (f_X11_tell x4 M19) fun _ M22 =>
      some (x2, M22)
set_option maxRecDepth 100000 in
theorem w_X11_least_146 {R : Int32} {M' : Mem}  : ∀ (n : Nat) (x1 x2 x3 x4 x5 : Int32) (M : Mem), f_X11_least_146 n x1 x2 x3 x4 x5 M = some (R, M') → RunF l D cy ad none YX11_least 406 0 0 (some (.int R)) (lay X M') 0 0 146 [(0, .ref 174), (1, .int x1), (2, .int x2), (3, .int x3), (4, .int x4), (5, .int x5)] [] (lay X M) := by
  intro n
  induction n with
  | zero => intro x1 x2 x3 x4 x5 M hF; exact absurd hF (by unfold f_X11_least_146; exact fun h => nomatch h)
  | succ n ih =>
    intro x1 x2 x3 x4 x5 M hF
    unfold f_X11_least_146 at hF
    refine g_iload (Y := YX11_least) (pc := 146) 5 dX11_least_146 rfl ?_
    refine g_aload_n (Y := YX11_least) (pc := 148) 0 dX11_least_148 rfl ?_
    refine u_getI (Y := YX11_least) (pc := 149) dX11_least_149 fl_X11_113 k_174 ?_
    refine g_icmp_ge (Y := YX11_least) (pc := 152) (tgt := 193) dX11_least_152 rfl (fun c16 => ?_) (fun c16 => ?_)
    · replace hF := if_f c16 hF
      refine g_aload_n (Y := YX11_least) (pc := 193) 0 dX11_least_193 rfl ?_
      refine g_iconst (Y := YX11_least) (pc := 194) dX11_least_194 kI_0 ?_
      refine u_putI (Y := YX11_least) (pc := 195) dX11_least_195 fl_X11_103  k_174 ?_
      refine g_nmM (fun M17 e => ?_)
      replace hF := ml_to e hF; clear e
      refine g_aload_n (Y := YX11_least) (pc := 198) 0 dX11_least_198 rfl ?_
      refine g_iload_n (Y := YX11_least) (pc := 199) 3 dX11_least_199 rfl ?_
      obtain ⟨r18, M19, e20, hF⟩ := bd_some hF
      refine s_callVv (Y := YX11_least) (pc := 200) (as := [.int x3]) (st := []) (r_X11_tell  e20) miX11_tell lk_X11_300 dX11_least_200 k_174 rfl (Nat.le_of_ble_eq_true rfl) (Nat.le_of_ble_eq_true rfl) rfl ?_
      clear e20
      refine g_aload_n (Y := YX11_least) (pc := 203) 0 dX11_least_203 rfl ?_
      refine g_iload (Y := YX11_least) (pc := 204) 4 dX11_least_204 rfl ?_
      obtain ⟨r21, M22, e23, hF⟩ := bd_some hF
      refine s_callVv (Y := YX11_least) (pc := 206) (as := [.int x4]) (st := []) (r_X11_tell  e23) miX11_tell lk_X11_300 dX11_least_206 k_174 rfl (Nat.le_of_ble_eq_true rfl) (Nat.le_of_ble_eq_true rfl) rfl ?_
      clear e23
      refine g_iload_n (Y := YX11_least) (pc := 209) 2 dX11_least_209 rfl ?_
      exact s_iret (Y := YX11_least) (pc := 210) dX11_least_210 rfl hF
    · replace hF := if_t c16 hF
      refine g_iload (Y := YX11_least) (pc := 155) 4 dX11_least_155 rfl ?_
      refine g_iload_n (Y := YX11_least) (pc := 157) 1 dX11_least_157 rfl ?_
      refine g_iload (Y := YX11_least) (pc := 158) 5 dX11_least_158 rfl ?_
      obtain ⟨r24, M25, e26, hF⟩ := bd_some hF
      refine s_callSi (Y := YX11_least) (pc := 160) (as := [.int x1, .int x5]) (st := [.int x4]) (r_X11_has  e26) msX11_has lk_X11_209 dX11_least_160 rfl (Nat.le_of_ble_eq_true rfl) (Nat.le_of_ble_eq_true rfl) rfl ?_
      clear e26
      refine g_if_eq (Y := YX11_least) (pc := 163) (tgt := 183) dX11_least_163 rfl (fun c27 => ?_) (fun c27 => ?_)
      · replace hF := if_t c27 hF
        refine g_loc [0, 1, 2, 3, 5] rfl ?_
        exact w_X11_least_183 ih _ _ _ _ _ _ hF
      · replace hF := if_f c27 hF
        refine g_aload_n (Y := YX11_least) (pc := 166) 0 dX11_least_166 rfl ?_
        refine g_iload (Y := YX11_least) (pc := 167) 5 dX11_least_167 rfl ?_
        obtain ⟨r30, M31, e32, hF⟩ := bd_some hF
        refine s_callVi (Y := YX11_least) (pc := 169) (as := [.int x5]) (st := [.int x4]) (r_X11_allStays  e32) miX11_allStays lk_X11_366 dX11_least_169 k_174 rfl (Nat.le_of_ble_eq_true rfl) (Nat.le_of_ble_eq_true rfl) rfl ?_
        clear e32
        refine g_iload_n (Y := YX11_least) (pc := 172) 2 dX11_least_172 rfl ?_
        refine g_icmp_ne (Y := YX11_least) (pc := 173) (tgt := 183) dX11_least_173 rfl (fun c33 => ?_) (fun c33 => ?_)
        · replace hF := if_f c33 hF
          refine g_loc [0, 1, 2, 3, 5] rfl ?_
          exact w_X11_least_183 ih _ _ _ _ _ _ hF
        · replace hF := if_t c33 hF
          refine g_iconst (Y := YX11_least) (pc := 176) dX11_least_176 kI_1 ?_
          refine g_iload (Y := YX11_least) (pc := 177) 5 dX11_least_177 rfl ?_
          refine g_ishl (Y := YX11_least) (pc := 179) dX11_least_179 ?_
          refine g_goto (Y := YX11_least) (pc := 180) (tgt := 184) dX11_least_180 rfl ?_
          refine g_loc [0, 1, 2, 3, 5] rfl ?_
          exact w_X11_least_184 ih _ _ _ _ _ _ _ hF
def f_X11_least_137 (K108 : Int32 → Int32 → Int32 → Int32 → Int32 → Mem → Option (Int32 × Mem)) (x1 : Int32) (x2 : Int32) (x3 : Int32) (x4 : Int32) (x5 : Int32) (M : Mem) : Option (Int32 × Mem) :=
  vl (x5 + (-1)) fun v36 =>
  K108 x1 x2 x3 x4 v36 M
set_option maxRecDepth 100000 in
theorem w_X11_least_137 {R : Int32} {M' : Mem} {K108 : Int32 → Int32 → Int32 → Int32 → Int32 → Mem → Option (Int32 × Mem)} (hK108 : ∀ (x1 x2 x3 x4 x5 : Int32) (M : Mem), K108 x1 x2 x3 x4 x5 M = some (R, M') → RunF l D cy ad none YX11_least 406 0 0 (some (.int R)) (lay X M') 0 0 108 [(0, .ref 174), (1, .int x1), (2, .int x2), (3, .int x3), (4, .int x4), (5, .int x5)] [] (lay X M)) (x1 x2 x3 x4 x5 : Int32) (M : Mem) (hF : f_X11_least_137 K108 x1 x2 x3 x4 x5 M = some (R, M')) : RunF l D cy ad none YX11_least 406 0 0 (some (.int R)) (lay X M') 0 0 137 [(0, .ref 174), (1, .int x1), (2, .int x2), (3, .int x3), (4, .int x4), (5, .int x5)] [] (lay X M) := by
  unfold f_X11_least_137 at hF
  refine s_iinc (Y := YX11_least) (pc := 137) (j := 5) (L' := fun y => [(5, .int y), (0, .ref 174), (1, .int x1), (2, .int x2), (3, .int x3), (4, .int x4)]) dX11_least_137 kI_m1 rfl (Nat.le_of_ble_eq_true rfl) (fun _ => rfl) (fun v36 e => ?_)
  replace hF := vl_to e hF; clear e
  refine g_goto (Y := YX11_least) (pc := 140) (tgt := 108) dX11_least_140 rfl ?_
  refine g_loc [1, 2, 3, 4, 5, 0] rfl ?_
  exact hK108 _ _ _ _ _ _ hF
def f_X11_least_108  : Nat → Int32 → Int32 → Int32 → Int32 → Int32 → Mem → Option (Int32 × Mem)
  | 0, _, _, _, _, _, _ => none
  | n + 1, x1, x2, x3, x4, x5, M =>
    if x5 < 0 then
      f_X11_least_146 FU x1 x2 x3 x4 0 M
    else
      gd (0 ≤ x5 ∧ x5.toNatClampNeg < 6) <|
      if (M 176 x5.toNatClampNeg) = 0 then
        bd (f_X11_roomStays x1 x5 M) fun r37 M38 =>
        if r37 = x2 then
          f_X11_least_137 (f_X11_least_108 n) x1 x2 x5 x4 x5 M38
        else
          f_X11_least_137 (f_X11_least_108 n) x1 x2 x3 x4 x5 M38
      else
        f_X11_least_137 (f_X11_least_108 n) x1 x2 x3 x4 x5 M
set_option maxRecDepth 100000 in
theorem w_X11_least_108 {R : Int32} {M' : Mem}  : ∀ (n : Nat) (x1 x2 x3 x4 x5 : Int32) (M : Mem), f_X11_least_108 n x1 x2 x3 x4 x5 M = some (R, M') → RunF l D cy ad none YX11_least 406 0 0 (some (.int R)) (lay X M') 0 0 108 [(0, .ref 174), (1, .int x1), (2, .int x2), (3, .int x3), (4, .int x4), (5, .int x5)] [] (lay X M) := by
  intro n
  induction n with
  | zero => intro x1 x2 x3 x4 x5 M hF; exact absurd hF (by unfold f_X11_least_108; exact fun h => nomatch h)
  | succ n ih =>
    intro x1 x2 x3 x4 x5 M hF
    unfold f_X11_least_108 at hF
    refine g_iload (Y := YX11_least) (pc := 108) 5 dX11_least_108 rfl ?_
    refine g_if_lt (Y := YX11_least) (pc := 110) (tgt := 143) dX11_least_110 rfl (fun c15 => ?_) (fun c15 => ?_)
    · replace hF := if_t c15 hF
      refine g_iconst (Y := YX11_least) (pc := 143) dX11_least_143 kI_0 ?_
      refine g_istore (Y := YX11_least) (pc := 144) (L' := [(5, .int 0), (0, .ref 174), (1, .int x1), (2, .int x2), (3, .int x3), (4, .int x4)]) dX11_least_144 (Nat.le_of_ble_eq_true rfl) rfl ?_
      refine g_loc [1, 2, 3, 4, 5, 0] rfl ?_
      exact w_X11_least_146  _ _ _ _ _ _ _ hF
    · replace hF := if_f c15 hF
      refine g_aload_n (Y := YX11_least) (pc := 113) 0 dX11_least_113 rfl ?_
      refine u_getR (Y := YX11_least) (pc := 114) (j := 176) dX11_least_114 fl_X11_13 k_174 rf_174_2 ?_
      refine g_iload (Y := YX11_least) (pc := 117) 5 dX11_least_117 rfl ?_
      obtain ⟨g34, hF⟩ := gd_some hF
      refine s_zald (Y := YX11_least) (pc := 119) dX11_least_119 k_176 n_176 g34 ?_
      refine g_if_ne (Y := YX11_least) (pc := 120) (tgt := 137) dX11_least_120 rfl (fun c35 => ?_) (fun c35 => ?_)
      · replace hF := if_f c35 hF
        exact w_X11_least_137 ih _ _ _ _ _ _ hF
      · replace hF := if_t c35 hF
        refine g_aload_n (Y := YX11_least) (pc := 123) 0 dX11_least_123 rfl ?_
        refine g_iload_n (Y := YX11_least) (pc := 124) 1 dX11_least_124 rfl ?_
        refine g_iload (Y := YX11_least) (pc := 125) 5 dX11_least_125 rfl ?_
        obtain ⟨r37, M38, e39, hF⟩ := bd_some hF
        refine s_callVi (Y := YX11_least) (pc := 127) (as := [.int x1, .int x5]) (st := []) (r_X11_roomStays  e39) miX11_roomStays lk_X11_375 dX11_least_127 k_174 rfl (Nat.le_of_ble_eq_true rfl) (Nat.le_of_ble_eq_true rfl) rfl ?_
        clear e39
        refine g_iload_n (Y := YX11_least) (pc := 130) 2 dX11_least_130 rfl ?_
        refine g_icmp_ne (Y := YX11_least) (pc := 131) (tgt := 137) dX11_least_131 rfl (fun c40 => ?_) (fun c40 => ?_)
        · replace hF := if_f c40 hF
          exact w_X11_least_137 ih _ _ _ _ _ _ hF
        · replace hF := if_t c40 hF
          refine g_iload (Y := YX11_least) (pc := 134) 5 dX11_least_134 rfl ?_
          refine g_istore_n (Y := YX11_least) (pc := 136) (L' := [(3, .int x5), (0, .ref 174), (1, .int x1), (2, .int x2), (4, .int x4), (5, .int x5)]) dX11_least_136 (Nat.le_of_ble_eq_true rfl) rfl ?_
          refine g_loc [1, 2, 3, 0, 4, 5] rfl ?_
          exact w_X11_least_137 ih _ _ _ _ _ _ hF
def f_X11_least_89 (K61 : Int32 → Int32 → Int32 → Mem → Option (Int32 × Mem)) (x1 : Int32) (x2 : Int32) (x3 : Int32) (M : Mem) : Option (Int32 × Mem) :=
  vl (x3 + 1) fun v43 =>
  K61 x1 x2 v43 M
set_option maxRecDepth 100000 in
theorem w_X11_least_89 {R : Int32} {M' : Mem} {K61 : Int32 → Int32 → Int32 → Mem → Option (Int32 × Mem)} (hK61 : ∀ (x1 x2 x3 : Int32) (M : Mem), K61 x1 x2 x3 M = some (R, M') → RunF l D cy ad none YX11_least 406 0 0 (some (.int R)) (lay X M') 0 0 61 [(0, .ref 174), (1, .int x1), (2, .int x2), (3, .int x3)] [] (lay X M)) (x1 x2 x3 : Int32) (M : Mem) (hF : f_X11_least_89 K61 x1 x2 x3 M = some (R, M')) : RunF l D cy ad none YX11_least 406 0 0 (some (.int R)) (lay X M') 0 0 89 [(0, .ref 174), (1, .int x1), (2, .int x2), (3, .int x3)] [] (lay X M) := by
  unfold f_X11_least_89 at hF
  refine s_iinc (Y := YX11_least) (pc := 89) (j := 3) (L' := fun y => [(3, .int y), (0, .ref 174), (1, .int x1), (2, .int x2)]) dX11_least_89 kI_1 rfl (Nat.le_of_ble_eq_true rfl) (fun _ => rfl) (fun v43 e => ?_)
  replace hF := vl_to e hF; clear e
  refine g_goto (Y := YX11_least) (pc := 92) (tgt := 61) dX11_least_92 rfl ?_
  refine g_loc [1, 2, 3, 0] rfl ?_
  exact hK61 _ _ _ _ hF
def f_X11_least_61  : Nat → Int32 → Int32 → Int32 → Mem → Option (Int32 × Mem)
  | 0, _, _, _, _ => none
  | n + 1, x1, x2, x3, M =>
    if x3 < (M 174 1) then
      gd (0 ≤ x3 ∧ x3.toNatClampNeg < 6) <|
      if (M 176 x3.toNatClampNeg) = 0 then
        bd (f_X11_roomStays x1 x3 M) fun r44 M45 =>
        vl ((if x2 < r44 then r44 else x2)) fun v47 =>
        f_X11_least_89 (f_X11_least_61 n) x1 v47 x3 M45
      else
        f_X11_least_89 (f_X11_least_61 n) x1 x2 x3 M
    else
      vl (((M 174 1) - 1)) fun v14 =>
      f_X11_least_108 FU x1 x2 (-1) 0 v14 M
set_option maxRecDepth 100000 in
theorem w_X11_least_61 {R : Int32} {M' : Mem}  : ∀ (n : Nat) (x1 x2 x3 : Int32) (M : Mem), f_X11_least_61 n x1 x2 x3 M = some (R, M') → RunF l D cy ad none YX11_least 406 0 0 (some (.int R)) (lay X M') 0 0 61 [(0, .ref 174), (1, .int x1), (2, .int x2), (3, .int x3)] [] (lay X M) := by
  intro n
  induction n with
  | zero => intro x1 x2 x3 M hF; exact absurd hF (by unfold f_X11_least_61; exact fun h => nomatch h)
  | succ n ih =>
    intro x1 x2 x3 M hF
    unfold f_X11_least_61 at hF
    refine g_iload_n (Y := YX11_least) (pc := 61) 3 dX11_least_61 rfl ?_
    refine g_aload_n (Y := YX11_least) (pc := 62) 0 dX11_least_62 rfl ?_
    refine u_getI (Y := YX11_least) (pc := 63) dX11_least_63 fl_X11_106 k_174 ?_
    refine g_icmp_ge (Y := YX11_least) (pc := 66) (tgt := 95) dX11_least_66 rfl (fun c13 => ?_) (fun c13 => ?_)
    · replace hF := if_f c13 hF
      refine g_iconst (Y := YX11_least) (pc := 95) dX11_least_95 kI_m1 ?_
      refine g_istore_n (Y := YX11_least) (pc := 96) (L' := [(3, .int (-1)), (0, .ref 174), (1, .int x1), (2, .int x2)]) dX11_least_96 (Nat.le_of_ble_eq_true rfl) rfl ?_
      refine g_iconst (Y := YX11_least) (pc := 97) dX11_least_97 kI_0 ?_
      refine g_istore (Y := YX11_least) (pc := 98) (L' := [(4, .int 0), (3, .int (-1)), (0, .ref 174), (1, .int x1), (2, .int x2)]) dX11_least_98 (Nat.le_of_ble_eq_true rfl) rfl ?_
      refine g_aload_n (Y := YX11_least) (pc := 100) 2 dX11_least_100 rfl ?_
      refine u_getI (Y := YX11_least) (pc := 101) dX11_least_101 fl_X11_106 k_174 ?_
      refine g_iconst (Y := YX11_least) (pc := 104) dX11_least_104 kI_1 ?_
      refine g_isub (Y := YX11_least) (pc := 105) dX11_least_105 ?_
      refine g_nm (fun v14 e => ?_)
      replace hF := vl_to e hF; clear e
      refine g_istore (Y := YX11_least) (pc := 106) (L' := [(5, .int v14), (4, .int 0), (3, .int (-1)), (0, .ref 174), (1, .int x1), (2, .int x2)]) dX11_least_106 (Nat.le_of_ble_eq_true rfl) rfl ?_
      refine g_loc [3, 4, 5, 2, 1, 0] rfl ?_
      exact w_X11_least_108  _ _ _ _ _ _ _ hF
    · replace hF := if_t c13 hF
      refine g_aload_n (Y := YX11_least) (pc := 69) 0 dX11_least_69 rfl ?_
      refine u_getR (Y := YX11_least) (pc := 70) (j := 176) dX11_least_70 fl_X11_13 k_174 rf_174_2 ?_
      refine g_iload_n (Y := YX11_least) (pc := 73) 3 dX11_least_73 rfl ?_
      obtain ⟨g41, hF⟩ := gd_some hF
      refine s_zald (Y := YX11_least) (pc := 74) dX11_least_74 k_176 n_176 g41 ?_
      refine g_if_ne (Y := YX11_least) (pc := 75) (tgt := 89) dX11_least_75 rfl (fun c42 => ?_) (fun c42 => ?_)
      · replace hF := if_f c42 hF
        exact w_X11_least_89 ih _ _ _ _ hF
      · replace hF := if_t c42 hF
        refine g_iload_n (Y := YX11_least) (pc := 78) 2 dX11_least_78 rfl ?_
        refine g_aload_n (Y := YX11_least) (pc := 79) 0 dX11_least_79 rfl ?_
        refine g_iload_n (Y := YX11_least) (pc := 80) 1 dX11_least_80 rfl ?_
        refine g_iload_n (Y := YX11_least) (pc := 81) 3 dX11_least_81 rfl ?_
        obtain ⟨r44, M45, e46, hF⟩ := bd_some hF
        refine s_callVi (Y := YX11_least) (pc := 82) (as := [.int x1, .int x3]) (st := [.int x2]) (r_X11_roomStays  e46) miX11_roomStays lk_X11_375 dX11_least_82 k_174 rfl (Nat.le_of_ble_eq_true rfl) (Nat.le_of_ble_eq_true rfl) rfl ?_
        clear e46
        refine s_max (Y := YX11_least) (pc := 85) dX11_least_85 lk_X11_218 w_max (Nat.le_of_ble_eq_true rfl) (Nat.le_of_ble_eq_true rfl) ?_
        refine g_nm (fun v47 e => ?_)
        replace hF := vl_to e hF; clear e
        refine g_istore_n (Y := YX11_least) (pc := 88) (L' := [(2, .int v47), (0, .ref 174), (1, .int x1), (3, .int x3)]) dX11_least_88 (Nat.le_of_ble_eq_true rfl) rfl ?_
        refine g_loc [1, 2, 0, 3] rfl ?_
        exact w_X11_least_89 ih _ _ _ _ hF
def f_X11_least_53 (K27 : Int32 → Int32 → Int32 → Mem → Option (Int32 × Mem)) (x1 : Int32) (x2 : Int32) (x3 : Int32) (M : Mem) : Option (Int32 × Mem) :=
  vl (x3 + 1) fun v52 =>
  K27 x1 x2 v52 M
set_option maxRecDepth 100000 in
theorem w_X11_least_53 {R : Int32} {M' : Mem} {K27 : Int32 → Int32 → Int32 → Mem → Option (Int32 × Mem)} (hK27 : ∀ (x1 x2 x3 : Int32) (M : Mem), K27 x1 x2 x3 M = some (R, M') → RunF l D cy ad none YX11_least 406 0 0 (some (.int R)) (lay X M') 0 0 27 [(0, .ref 174), (1, .int x1), (2, .int x2), (3, .int x3)] [] (lay X M)) (x1 x2 x3 : Int32) (M : Mem) (hF : f_X11_least_53 K27 x1 x2 x3 M = some (R, M')) : RunF l D cy ad none YX11_least 406 0 0 (some (.int R)) (lay X M') 0 0 53 [(0, .ref 174), (1, .int x1), (2, .int x2), (3, .int x3)] [] (lay X M) := by
  unfold f_X11_least_53 at hF
  refine s_iinc (Y := YX11_least) (pc := 53) (j := 3) (L' := fun y => [(3, .int y), (0, .ref 174), (1, .int x1), (2, .int x2)]) dX11_least_53 kI_1 rfl (Nat.le_of_ble_eq_true rfl) (fun _ => rfl) (fun v52 e => ?_)
  replace hF := vl_to e hF; clear e
  refine g_goto (Y := YX11_least) (pc := 56) (tgt := 27) dX11_least_56 rfl ?_
  refine g_loc [1, 2, 3, 0] rfl ?_
  exact hK27 _ _ _ _ hF
def f_X11_least_27  : Nat → Int32 → Int32 → Int32 → Mem → Option (Int32 × Mem)
  | 0, _, _, _, _ => none
  | n + 1, x1, x2, x3, M =>
    if x3 < (M 174 3) then
      bd (f_X11_has x1 x3 M) fun r48 M49 =>
      if r48 = 0 then
        f_X11_least_53 (f_X11_least_27 n) x1 x2 x3 M49
      else
        bd (f_X11_allStays x3 M49) fun r53 M54 =>
        vl ((if x2 < r53 then r53 else x2)) fun v56 =>
        f_X11_least_53 (f_X11_least_27 n) x1 v56 x3 M54
    else
      f_X11_least_61 FU x1 x2 0 M
set_option maxRecDepth 100000 in
theorem w_X11_least_27 {R : Int32} {M' : Mem}  : ∀ (n : Nat) (x1 x2 x3 : Int32) (M : Mem), f_X11_least_27 n x1 x2 x3 M = some (R, M') → RunF l D cy ad none YX11_least 406 0 0 (some (.int R)) (lay X M') 0 0 27 [(0, .ref 174), (1, .int x1), (2, .int x2), (3, .int x3)] [] (lay X M) := by
  intro n
  induction n with
  | zero => intro x1 x2 x3 M hF; exact absurd hF (by unfold f_X11_least_27; exact fun h => nomatch h)
  | succ n ih =>
    intro x1 x2 x3 M hF
    unfold f_X11_least_27 at hF
    refine g_iload_n (Y := YX11_least) (pc := 27) 3 dX11_least_27 rfl ?_
    refine g_aload_n (Y := YX11_least) (pc := 28) 0 dX11_least_28 rfl ?_
    refine u_getI (Y := YX11_least) (pc := 29) dX11_least_29 fl_X11_113 k_174 ?_
    refine g_icmp_ge (Y := YX11_least) (pc := 32) (tgt := 59) dX11_least_32 rfl (fun c12 => ?_) (fun c12 => ?_)
    · replace hF := if_f c12 hF
      refine g_iconst (Y := YX11_least) (pc := 59) dX11_least_59 kI_0 ?_
      refine g_istore_n (Y := YX11_least) (pc := 60) (L' := [(3, .int 0), (0, .ref 174), (1, .int x1), (2, .int x2)]) dX11_least_60 (Nat.le_of_ble_eq_true rfl) rfl ?_
      refine g_loc [1, 2, 3, 0] rfl ?_
      exact w_X11_least_61  _ _ _ _ _ hF
    · replace hF := if_t c12 hF
      refine g_iload_n (Y := YX11_least) (pc := 35) 1 dX11_least_35 rfl ?_
      refine g_iload_n (Y := YX11_least) (pc := 36) 3 dX11_least_36 rfl ?_
      obtain ⟨r48, M49, e50, hF⟩ := bd_some hF
      refine s_callSi (Y := YX11_least) (pc := 37) (as := [.int x1, .int x3]) (st := []) (r_X11_has  e50) msX11_has lk_X11_209 dX11_least_37 rfl (Nat.le_of_ble_eq_true rfl) (Nat.le_of_ble_eq_true rfl) rfl ?_
      clear e50
      refine g_if_eq (Y := YX11_least) (pc := 40) (tgt := 53) dX11_least_40 rfl (fun c51 => ?_) (fun c51 => ?_)
      · replace hF := if_t c51 hF
        exact w_X11_least_53 ih _ _ _ _ hF
      · replace hF := if_f c51 hF
        refine g_iload_n (Y := YX11_least) (pc := 43) 2 dX11_least_43 rfl ?_
        refine g_aload_n (Y := YX11_least) (pc := 44) 0 dX11_least_44 rfl ?_
        refine g_iload_n (Y := YX11_least) (pc := 45) 3 dX11_least_45 rfl ?_
        obtain ⟨r53, M54, e55, hF⟩ := bd_some hF
        refine s_callVi (Y := YX11_least) (pc := 46) (as := [.int x3]) (st := [.int x2]) (r_X11_allStays  e55) miX11_allStays lk_X11_366 dX11_least_46 k_174 rfl (Nat.le_of_ble_eq_true rfl) (Nat.le_of_ble_eq_true rfl) rfl ?_
        clear e55
        refine s_max (Y := YX11_least) (pc := 49) dX11_least_49 lk_X11_218 w_max (Nat.le_of_ble_eq_true rfl) (Nat.le_of_ble_eq_true rfl) ?_
        refine g_nm (fun v56 e => ?_)
        replace hF := vl_to e hF; clear e
        refine g_istore_n (Y := YX11_least) (pc := 52) (L' := [(2, .int v56), (0, .ref 174), (1, .int x1), (3, .int x3)]) dX11_least_52 (Nat.le_of_ble_eq_true rfl) rfl ?_
        refine g_loc [1, 2, 0, 3] rfl ?_
        exact w_X11_least_53 ih _ _ _ _ hF
def f_X11_least_0  (x1 : Int32) (M : Mem) : Option (Int32 × Mem) :=
  ml (up M 174 14 0) fun M1 =>
  bd (f_X11_everybody M1) fun r2 M3 =>
  bd (f_X11_in x1 0 r2 M3) fun r5 M6 =>
  if r5 = 0 then
    some ((-1), M6)
  else
    bd (f_X11_layStays M6) fun _ M10 =>
    f_X11_least_27 FU x1 0 0 M10
set_option maxRecDepth 100000 in
theorem w_X11_least_0 {R : Int32} {M' : Mem}  (x1 : Int32) (M : Mem) (hF : f_X11_least_0 x1 M = some (R, M')) : RunF l D cy ad none YX11_least 406 0 0 (some (.int R)) (lay X M') 0 0 0 [(0, .ref 174), (1, .int x1)] [] (lay X M) := by
  unfold f_X11_least_0 at hF
  refine g_aload_n (Y := YX11_least) (pc := 0) 0 dX11_least_0 rfl ?_
  refine g_iconst (Y := YX11_least) (pc := 1) dX11_least_1 kI_0 ?_
  refine u_putI (Y := YX11_least) (pc := 2) dX11_least_2 fl_X11_99  k_174 ?_
  refine g_nmM (fun M1 e => ?_)
  replace hF := ml_to e hF; clear e
  refine g_iload_n (Y := YX11_least) (pc := 5) 1 dX11_least_5 rfl ?_
  refine g_iconst (Y := YX11_least) (pc := 6) dX11_least_6 kI_0 ?_
  refine g_aload_n (Y := YX11_least) (pc := 7) 0 dX11_least_7 rfl ?_
  obtain ⟨r2, M3, e4, hF⟩ := bd_some hF
  refine s_callVi (Y := YX11_least) (pc := 8) (as := []) (st := [.int 0, .int x1]) (r_X11_everybody  e4) miX11_everybody lk_X11_331 dX11_least_8 k_174 rfl (Nat.le_of_ble_eq_true rfl) (Nat.le_of_ble_eq_true rfl) rfl ?_
  clear e4
  obtain ⟨r5, M6, e7, hF⟩ := bd_some hF
  refine s_callSi (Y := YX11_least) (pc := 11) (as := [.int x1, .int 0, .int r2]) (st := []) (r_X11_in  e7) msX11_in lk_X11_109 dX11_least_11 rfl (Nat.le_of_ble_eq_true rfl) (Nat.le_of_ble_eq_true rfl) rfl ?_
  clear e7
  refine g_if_ne (Y := YX11_least) (pc := 14) (tgt := 19) dX11_least_14 rfl (fun c8 => ?_) (fun c8 => ?_)
  · replace hF := if_f c8 hF
    refine g_aload_n (Y := YX11_least) (pc := 19) 0 dX11_least_19 rfl ?_
    obtain ⟨r9, M10, e11, hF⟩ := bd_some hF
    refine s_callVv (Y := YX11_least) (pc := 20) (as := []) (st := []) (r_X11_layStays  e11) miX11_layStays lk_X11_271 dX11_least_20 k_174 rfl (Nat.le_of_ble_eq_true rfl) (Nat.le_of_ble_eq_true rfl) rfl ?_
    clear e11
    refine g_iconst (Y := YX11_least) (pc := 23) dX11_least_23 kI_0 ?_
    refine g_istore_n (Y := YX11_least) (pc := 24) (L' := [(2, .int 0), (0, .ref 174), (1, .int x1)]) dX11_least_24 (Nat.le_of_ble_eq_true rfl) rfl ?_
    refine g_iconst (Y := YX11_least) (pc := 25) dX11_least_25 kI_0 ?_
    refine g_istore_n (Y := YX11_least) (pc := 26) (L' := [(3, .int 0), (2, .int 0), (0, .ref 174), (1, .int x1)]) dX11_least_26 (Nat.le_of_ble_eq_true rfl) rfl ?_
    refine g_loc [2, 3, 1, 0] rfl ?_
    exact w_X11_least_27  _ _ _ _ _ hF
  · replace hF := if_t c8 hF
    refine g_iconst (Y := YX11_least) (pc := 17) dX11_least_17 kI_m1 ?_
    exact s_iret (Y := YX11_least) (pc := 18) dX11_least_18 rfl hF
def f_X11_least (x1 : Int32) (M : Mem) : Option (Int32 × Mem) := f_X11_least_0 x1 M
theorem r_X11_least {x1 R : Int32} {M M' : Mem}  (hF : f_X11_least x1 M = some (R, M')) : RunS l D cy ad YX11_least 406 [.ref 174, .int x1] X M (some (.int R)) M' := Run.of 1 (miX11_least).1 (Nat.le_of_ble_eq_true rfl) (w_X11_least_0  _ _ hF)
def f_X11_findWhen_95 (a3 : Nat) (t0 : Int32) (M : Mem) : Option (Int32 × Mem) :=
  gd (t0 = 0 ∨ t0 = 1) <|
  some (t0, M)
set_option maxRecDepth 100000 in
theorem w_X11_findWhen_95 {R : Int32} {M' : Mem} {a3 : Nat} (ha3 : kinds[a3]? = some 14) (t0 : Int32) (M : Mem) (hF : f_X11_findWhen_95 a3 t0 M = some (R, M')) : RunF l D cy ad none YX11_findWhen 6 0 0 (some (.int R)) (lay X M') 0 0 95 [] [.int t0] (lay X M) := by
  unfold f_X11_findWhen_95 at hF
  obtain ⟨g13, hF⟩ := gd_some hF
  exact s_zret (Y := YX11_findWhen) (pc := 95) dX11_findWhen_95 rfl g13 hF
def f_X11_findWhen_72 (K32 : Int32 → Mem → Option (Int32 × Mem)) (a3 : Nat) (x4 : Int32) (t1 : Int32) (t0 : Int32) (M : Mem) : Option (Int32 × Mem) :=
  gd (0 ≤ t1 ∧ t1.toNatClampNeg < LN a3) <|
  ml (up M a3 t1.toNatClampNeg t0) fun M17 =>
  vl (x4 + 1) fun v18 =>
  K32 v18 M17
set_option maxRecDepth 100000 in
theorem w_X11_findWhen_72 {R : Int32} {M' : Mem} {a3 : Nat} {K32 : Int32 → Mem → Option (Int32 × Mem)} (ha3 : kinds[a3]? = some 14) (hK32 : ∀ (x4 : Int32) (M : Mem), K32 x4 M = some (R, M') → RunF l D cy ad none YX11_findWhen 6 0 0 (some (.int R)) (lay X M') 0 0 32 [(0, .ref 174), (3, .ref a3), (4, .int x4)] [] (lay X M)) (x4 t1 t0 : Int32) (M : Mem) (hF : f_X11_findWhen_72 K32 a3 x4 t1 t0 M = some (R, M')) : RunF l D cy ad none YX11_findWhen 6 0 0 (some (.int R)) (lay X M') 0 0 72 [(0, .ref 174), (3, .ref a3), (4, .int x4)] [.int t0, .int t1, .ref a3] (lay X M) := by
  unfold f_X11_findWhen_72 at hF
  obtain ⟨g16, hF⟩ := gd_some hF
  refine s_iast (Y := YX11_findWhen) (pc := 72) dX11_findWhen_72 ha3 rfl g16 ?_
  refine g_nmM (fun M17 e => ?_)
  replace hF := ml_to e hF; clear e
  refine s_iinc (Y := YX11_findWhen) (pc := 73) (j := 2) (L' := fun y => [(4, .int y), (0, .ref 174), (3, .ref a3)]) dX11_findWhen_73 kI_1 rfl (Nat.le_of_ble_eq_true rfl) (fun _ => rfl) (fun v18 e => ?_)
  replace hF := vl_to e hF; clear e
  refine g_goto (Y := YX11_findWhen) (pc := 76) (tgt := 32) dX11_findWhen_76 rfl ?_
  refine g_loc [1, 2, 0] rfl ?_
  exact hK32 _ _ hF
def f_X11_findWhen_32 (a3 : Nat) : Nat → Int32 → Mem → Option (Int32 × Mem)
  | 0, _, _ => none
  | n + 1, x4, M =>
    if x4 < (M 174 3) then
      gd (0 ≤ x4 ∧ x4.toNatClampNeg < 25) <|
      if (M 191 x4.toNatClampNeg) = 9 then
        gd (0 ≤ (18 + x4) ∧ (18 + x4).toNatClampNeg < 25) <|
        f_X11_findWhen_72 (f_X11_findWhen_32 a3 n) a3 x4 x4 (M 191 (18 + x4).toNatClampNeg) M
      else
        f_X11_findWhen_72 (f_X11_findWhen_32 a3 n) a3 x4 x4 1000000 M
    else
      bd (f_X11_inside 191 M) fun r9 M10 =>
      if r9 = 0 then
        f_X11_findWhen_95 a3 1 M10
      else
        f_X11_findWhen_95 a3 0 M10
set_option maxRecDepth 100000 in
theorem w_X11_findWhen_32 {R : Int32} {M' : Mem} {a3 : Nat} (ha3 : kinds[a3]? = some 14) : ∀ (n : Nat) (x4 : Int32) (M : Mem), f_X11_findWhen_32 a3 n x4 M = some (R, M') → RunF l D cy ad none YX11_findWhen 6 0 0 (some (.int R)) (lay X M') 0 0 32 [(0, .ref 174), (3, .ref a3), (4, .int x4)] [] (lay X M) := by
  intro n
  induction n with
  | zero => intro x4 M hF; exact absurd hF (by unfold f_X11_findWhen_32; exact fun h => nomatch h)
  | succ n ih =>
    intro x4 M hF
    unfold f_X11_findWhen_32 at hF
    refine g_iload (Y := YX11_findWhen) (pc := 32) 2 dX11_findWhen_32 rfl ?_
    refine g_aload_n (Y := YX11_findWhen) (pc := 34) 0 dX11_findWhen_34 rfl ?_
    refine u_getI (Y := YX11_findWhen) (pc := 35) dX11_findWhen_35 fl_X11_113 k_174 ?_
    refine g_icmp_ge (Y := YX11_findWhen) (pc := 38) (tgt := 79) dX11_findWhen_38 rfl (fun c8 => ?_) (fun c8 => ?_)
    · replace hF := if_f c8 hF
      refine g_aload_n (Y := YX11_findWhen) (pc := 79) 0 dX11_findWhen_79 rfl ?_
      refine g_aload_n (Y := YX11_findWhen) (pc := 80) 0 dX11_findWhen_80 rfl ?_
      refine u_getR (Y := YX11_findWhen) (pc := 81) (j := 191) dX11_findWhen_81 fl_X11_60 k_174 rf_174_35 ?_
      obtain ⟨r9, M10, e11, hF⟩ := bd_some hF
      refine s_callVi (Y := YX11_findWhen) (pc := 84) (as := [.ref 191]) (st := []) (r_X11_inside k_191 e11) miX11_inside lk_X11_282 dX11_findWhen_84 k_174 rfl (Nat.le_of_ble_eq_true rfl) (Nat.le_of_ble_eq_true rfl) rfl ?_
      clear e11
      refine g_if_ne (Y := YX11_findWhen) (pc := 87) (tgt := 94) dX11_findWhen_87 rfl (fun c12 => ?_) (fun c12 => ?_)
      · replace hF := if_f c12 hF
        refine g_iconst (Y := YX11_findWhen) (pc := 94) dX11_findWhen_94 kI_0 ?_
        refine g_loc [] rfl ?_
        exact w_X11_findWhen_95 ha3 _ _ hF
      · replace hF := if_t c12 hF
        refine g_iconst (Y := YX11_findWhen) (pc := 90) dX11_findWhen_90 kI_1 ?_
        refine g_goto (Y := YX11_findWhen) (pc := 91) (tgt := 95) dX11_findWhen_91 rfl ?_
        refine g_loc [] rfl ?_
        exact w_X11_findWhen_95 ha3 _ _ hF
    · replace hF := if_t c8 hF
      refine g_aload_n (Y := YX11_findWhen) (pc := 41) 1 dX11_findWhen_41 rfl ?_
      refine g_iload (Y := YX11_findWhen) (pc := 42) 2 dX11_findWhen_42 rfl ?_
      refine g_aload_n (Y := YX11_findWhen) (pc := 44) 0 dX11_findWhen_44 rfl ?_
      refine u_getR (Y := YX11_findWhen) (pc := 45) (j := 191) dX11_findWhen_45 fl_X11_60 k_174 rf_174_35 ?_
      refine g_iload (Y := YX11_findWhen) (pc := 48) 2 dX11_findWhen_48 rfl ?_
      obtain ⟨g14, hF⟩ := gd_some hF
      refine s_iald (Y := YX11_findWhen) (pc := 50) dX11_findWhen_50 k_191 n_191 g14 ?_
      refine g_bipush (Y := YX11_findWhen) (pc := 51) dX11_findWhen_51 kB_9 ?_
      refine g_icmp_ne (Y := YX11_findWhen) (pc := 53) (tgt := 69) dX11_findWhen_53 rfl (fun c15 => ?_) (fun c15 => ?_)
      · replace hF := if_f c15 hF
        refine g_ldcw (Y := YX11_findWhen) (pc := 69) dX11_findWhen_69 cw_X11_321 ?_
        exact w_X11_findWhen_72 ha3 ih _ _ _ _ hF
      · replace hF := if_t c15 hF
        refine g_aload_n (Y := YX11_findWhen) (pc := 56) 0 dX11_findWhen_56 rfl ?_
        refine u_getR (Y := YX11_findWhen) (pc := 57) (j := 191) dX11_findWhen_57 fl_X11_60 k_174 rf_174_35 ?_
        refine g_bipush (Y := YX11_findWhen) (pc := 60) dX11_findWhen_60 kB_18 ?_
        refine g_iload (Y := YX11_findWhen) (pc := 62) 2 dX11_findWhen_62 rfl ?_
        refine g_iadd (Y := YX11_findWhen) (pc := 64) dX11_findWhen_64 ?_
        obtain ⟨g19, hF⟩ := gd_some hF
        refine s_iald (Y := YX11_findWhen) (pc := 65) dX11_findWhen_65 k_191 n_191 g19 ?_
        refine g_goto (Y := YX11_findWhen) (pc := 66) (tgt := 72) dX11_findWhen_66 rfl ?_
        exact w_X11_findWhen_72 ha3 ih _ _ _ _ hF
def f_X11_findWhen_25 (a3 : Nat) (M : Mem) : Option (Int32 × Mem) :=
  bd (f_X11_goOn M) fun _ M6 =>
  f_X11_findWhen_32 a3 FU 0 M6
set_option maxRecDepth 100000 in
theorem w_X11_findWhen_25 {R : Int32} {M' : Mem} {a3 : Nat} (ha3 : kinds[a3]? = some 14) (M : Mem) (hF : f_X11_findWhen_25 a3  M = some (R, M')) : RunF l D cy ad none YX11_findWhen 6 0 0 (some (.int R)) (lay X M') 0 0 25 [(0, .ref 174), (3, .ref a3)] [] (lay X M) := by
  unfold f_X11_findWhen_25 at hF
  refine g_aload_n (Y := YX11_findWhen) (pc := 25) 0 dX11_findWhen_25 rfl ?_
  obtain ⟨r5, M6, e7, hF⟩ := bd_some hF
  refine s_callVv (Y := YX11_findWhen) (pc := 26) (as := []) (st := []) (r_X11_goOn  e7) miX11_goOn lk_X11_312 dX11_findWhen_26 k_174 rfl (Nat.le_of_ble_eq_true rfl) (Nat.le_of_ble_eq_true rfl) rfl ?_
  clear e7
  refine g_iconst (Y := YX11_findWhen) (pc := 29) dX11_findWhen_29 kI_0 ?_
  refine g_istore (Y := YX11_findWhen) (pc := 30) (L' := [(4, .int 0), (0, .ref 174), (3, .ref a3)]) dX11_findWhen_30 (Nat.le_of_ble_eq_true rfl) rfl ?_
  refine g_loc [1, 2, 0] rfl ?_
  exact w_X11_findWhen_32 ha3 _ _ _ hF
def f_X11_findWhen_0 (a3 : Nat) (x1 : Int32) (x2 : Int32) (M : Mem) : Option (Int32 × Mem) :=
  bd (f_X11_lay 175 191 0 M) fun _ M2 =>
  if 0 < x2 then
    bd (f_X11_goOver 191 x1 x2 M2) fun _ M21 =>
    f_X11_findWhen_25 a3 M21
  else
    f_X11_findWhen_25 a3 M2
set_option maxRecDepth 100000 in
theorem w_X11_findWhen_0 {R : Int32} {M' : Mem} {a3 : Nat} (ha3 : kinds[a3]? = some 14) (x1 x2 : Int32) (M : Mem) (hF : f_X11_findWhen_0 a3 x1 x2 M = some (R, M')) : RunF l D cy ad none YX11_findWhen 6 0 0 (some (.int R)) (lay X M') 0 0 0 [(0, .ref 174), (1, .int x1), (2, .int x2), (3, .ref a3)] [] (lay X M) := by
  unfold f_X11_findWhen_0 at hF
  refine g_aload_n (Y := YX11_findWhen) (pc := 0) 0 dX11_findWhen_0 rfl ?_
  refine u_getR (Y := YX11_findWhen) (pc := 1) (j := 175) dX11_findWhen_1 fl_X11_9 k_174 rf_174_0 ?_
  refine g_aload_n (Y := YX11_findWhen) (pc := 4) 0 dX11_findWhen_4 rfl ?_
  refine u_getR (Y := YX11_findWhen) (pc := 5) (j := 191) dX11_findWhen_5 fl_X11_60 k_174 rf_174_35 ?_
  refine g_iconst (Y := YX11_findWhen) (pc := 8) dX11_findWhen_8 kI_0 ?_
  obtain ⟨r1, M2, e3, hF⟩ := bd_some hF
  refine s_callSv (Y := YX11_findWhen) (pc := 9) (as := [.ref 175, .ref 191, .int 0]) (st := []) (r_X11_lay k_175 k_191 e3) msX11_lay lk_X11_242 dX11_findWhen_9 rfl (Nat.le_of_ble_eq_true rfl) (Nat.le_of_ble_eq_true rfl) rfl ?_
  clear e3
  refine g_iload_n (Y := YX11_findWhen) (pc := 12) 2 dX11_findWhen_12 rfl ?_
  refine g_if_le (Y := YX11_findWhen) (pc := 13) (tgt := 25) dX11_findWhen_13 rfl (fun c4 => ?_) (fun c4 => ?_)
  · replace hF := if_f c4 hF
    refine g_loc [0, 3] rfl ?_
    exact w_X11_findWhen_25 ha3 _ hF
  · replace hF := if_t c4 hF
    refine g_aload_n (Y := YX11_findWhen) (pc := 16) 0 dX11_findWhen_16 rfl ?_
    refine u_getR (Y := YX11_findWhen) (pc := 17) (j := 191) dX11_findWhen_17 fl_X11_60 k_174 rf_174_35 ?_
    refine g_iload_n (Y := YX11_findWhen) (pc := 20) 1 dX11_findWhen_20 rfl ?_
    refine g_iload_n (Y := YX11_findWhen) (pc := 21) 2 dX11_findWhen_21 rfl ?_
    obtain ⟨r20, M21, e22, hF⟩ := bd_some hF
    refine s_callSv (Y := YX11_findWhen) (pc := 22) (as := [.ref 191, .int x1, .int x2]) (st := []) (r_X11_goOver k_191 e22) msX11_goOver lk_X11_293 dX11_findWhen_22 rfl (Nat.le_of_ble_eq_true rfl) (Nat.le_of_ble_eq_true rfl) rfl ?_
    clear e22
    refine g_loc [0, 3] rfl ?_
    exact w_X11_findWhen_25 ha3 _ hF
def f_X11_findWhen (a3 : Nat) (x1 : Int32) (x2 : Int32) (M : Mem) : Option (Int32 × Mem) := f_X11_findWhen_0 a3 x1 x2 M
theorem r_X11_findWhen {a3 : Nat} {x1 x2 R : Int32} {M M' : Mem} (ha3 : kinds[a3]? = some 14) (hF : f_X11_findWhen a3 x1 x2 M = some (R, M')) : RunS l D cy ad YX11_findWhen 6 [.ref 174, .int x1, .int x2, .ref a3] X M (some (.int R)) M' := Run.of 3 (miX11_findWhen).1 (Nat.le_of_ble_eq_true rfl) (w_X11_findWhen_0 ha3 _ _ _ hF)
def f_X11_late_46  (M : Mem) : Option (Int32 × Mem) :=
  some ((-2), M)
set_option maxRecDepth 100000 in
theorem w_X11_late_46 {R : Int32} {M' : Mem}  (M : Mem) (hF : f_X11_late_46  M = some (R, M')) : RunF l D cy ad none YX11_late 406 0 0 (some (.int R)) (lay X M') 0 0 46 [] [] (lay X M) := by
  unfold f_X11_late_46 at hF
  refine g_bipush (Y := YX11_late) (pc := 46) dX11_late_46 kB_m2 ?_
  exact s_iret (Y := YX11_late) (pc := 48) dX11_late_48 rfl hF
def f_X11_late_163 (K63 : Int32 → Int32 → Int32 → Int32 → Int32 → Mem → Option (Int32 × Mem)) (x3 : Int32) (x4 : Int32) (x5 : Int32) (x6 : Int32) (x7 : Int32) (M : Mem) : Option (Int32 × Mem) :=
  vl (x7 + 1) fun v41 =>
  K63 x3 x4 x5 x6 v41 M
set_option maxRecDepth 100000 in
theorem w_X11_late_163 {R : Int32} {M' : Mem} {K63 : Int32 → Int32 → Int32 → Int32 → Int32 → Mem → Option (Int32 × Mem)} (hK63 : ∀ (x3 x4 x5 x6 x7 : Int32) (M : Mem), K63 x3 x4 x5 x6 x7 M = some (R, M') → RunF l D cy ad none YX11_late 406 0 0 (some (.int R)) (lay X M') 0 0 63 [(0, .ref 174), (3, .int x3), (4, .int x4), (5, .int x5), (6, .int x6), (7, .int x7)] [] (lay X M)) (x3 x4 x5 x6 x7 : Int32) (M : Mem) (hF : f_X11_late_163 K63 x3 x4 x5 x6 x7 M = some (R, M')) : RunF l D cy ad none YX11_late 406 0 0 (some (.int R)) (lay X M') 0 0 163 [(0, .ref 174), (3, .int x3), (4, .int x4), (5, .int x5), (6, .int x6), (7, .int x7)] [] (lay X M) := by
  unfold f_X11_late_163 at hF
  refine s_iinc (Y := YX11_late) (pc := 163) (j := 5) (L' := fun y => [(7, .int y), (0, .ref 174), (3, .int x3), (4, .int x4), (5, .int x5), (6, .int x6)]) dX11_late_163 kI_1 rfl (Nat.le_of_ble_eq_true rfl) (fun _ => rfl) (fun v41 e => ?_)
  replace hF := vl_to e hF; clear e
  refine g_goto (Y := YX11_late) (pc := 166) (tgt := 63) dX11_late_166 rfl ?_
  refine g_loc [1, 2, 3, 4, 5, 0] rfl ?_
  exact hK63 _ _ _ _ _ _ hF
def f_X11_late_63  : Nat → Int32 → Int32 → Int32 → Int32 → Int32 → Mem → Option (Int32 × Mem)
  | 0, _, _, _, _, _, _ => none
  | n + 1, x3, x4, x5, x6, x7, M =>
    if x7 < (M 174 3) then
      bd (f_X11_isInside 175 x7 M) fun r25 M26 =>
      if r25 = 0 then
        f_X11_late_163 (f_X11_late_63 n) x3 x4 x5 x6 x7 M26
      else
        gd (0 ≤ x7 ∧ x7.toNatClampNeg < 6) <|
        vl ((if x3 < (M26 196 x7.toNatClampNeg) then (M26 196 x7.toNatClampNeg) else x3)) fun v30 =>
        gd (0 ≤ x7 ∧ x7.toNatClampNeg < 6) <|
        vl ((if x4 < (M26 197 x7.toNatClampNeg) then (M26 197 x7.toNatClampNeg) else x4)) fun v32 =>
        gd (0 ≤ x7 ∧ x7.toNatClampNeg < 6) <|
        gd (0 ≤ x7 ∧ x7.toNatClampNeg < 6) <|
        if (M26 196 x7.toNatClampNeg) < (M26 197 x7.toNatClampNeg) then
          vl ((x5 ||| (1 <<< (x7 &&& 31)))) fun v36 =>
          gd (0 ≤ x7 ∧ x7.toNatClampNeg < 6) <|
          gd (0 ≤ x7 ∧ x7.toNatClampNeg < 6) <|
          vl (((M26 197 x7.toNatClampNeg) - (M26 196 x7.toNatClampNeg))) fun v39 =>
          vl ((x6 + v39)) fun v40 =>
          f_X11_late_163 (f_X11_late_63 n) v30 v32 v36 v40 x7 M26
        else
          f_X11_late_163 (f_X11_late_63 n) v30 v32 x5 x6 x7 M26
    else
      ml (up M 174 13 0) fun M18 =>
      bd (f_X11_tell x5 M18) fun _ M20 =>
      bd (f_X11_tell x6 M20) fun _ M23 =>
      some ((x4 - x3), M23)
set_option maxRecDepth 100000 in
theorem w_X11_late_63 {R : Int32} {M' : Mem}  : ∀ (n : Nat) (x3 x4 x5 x6 x7 : Int32) (M : Mem), f_X11_late_63 n x3 x4 x5 x6 x7 M = some (R, M') → RunF l D cy ad none YX11_late 406 0 0 (some (.int R)) (lay X M') 0 0 63 [(0, .ref 174), (3, .int x3), (4, .int x4), (5, .int x5), (6, .int x6), (7, .int x7)] [] (lay X M) := by
  intro n
  induction n with
  | zero => intro x3 x4 x5 x6 x7 M hF; exact absurd hF (by unfold f_X11_late_63; exact fun h => nomatch h)
  | succ n ih =>
    intro x3 x4 x5 x6 x7 M hF
    unfold f_X11_late_63 at hF
    refine g_iload (Y := YX11_late) (pc := 63) 5 dX11_late_63 rfl ?_
    refine g_aload_n (Y := YX11_late) (pc := 65) 0 dX11_late_65 rfl ?_
    refine u_getI (Y := YX11_late) (pc := 66) dX11_late_66 fl_X11_113 k_174 ?_
    refine g_icmp_ge (Y := YX11_late) (pc := 69) (tgt := 169) dX11_late_69 rfl (fun c17 => ?_) (fun c17 => ?_)
    · replace hF := if_f c17 hF
      refine g_aload_n (Y := YX11_late) (pc := 169) 0 dX11_late_169 rfl ?_
      refine g_iconst (Y := YX11_late) (pc := 170) dX11_late_170 kI_0 ?_
      refine u_putI (Y := YX11_late) (pc := 171) dX11_late_171 fl_X11_103  k_174 ?_
      refine g_nmM (fun M18 e => ?_)
      replace hF := ml_to e hF; clear e
      refine g_aload_n (Y := YX11_late) (pc := 174) 0 dX11_late_174 rfl ?_
      refine g_iload (Y := YX11_late) (pc := 175) 3 dX11_late_175 rfl ?_
      obtain ⟨r19, M20, e21, hF⟩ := bd_some hF
      refine s_callVv (Y := YX11_late) (pc := 177) (as := [.int x5]) (st := []) (r_X11_tell  e21) miX11_tell lk_X11_300 dX11_late_177 k_174 rfl (Nat.le_of_ble_eq_true rfl) (Nat.le_of_ble_eq_true rfl) rfl ?_
      clear e21
      refine g_aload_n (Y := YX11_late) (pc := 180) 0 dX11_late_180 rfl ?_
      refine g_iload (Y := YX11_late) (pc := 181) 4 dX11_late_181 rfl ?_
      obtain ⟨r22, M23, e24, hF⟩ := bd_some hF
      refine s_callVv (Y := YX11_late) (pc := 183) (as := [.int x6]) (st := []) (r_X11_tell  e24) miX11_tell lk_X11_300 dX11_late_183 k_174 rfl (Nat.le_of_ble_eq_true rfl) (Nat.le_of_ble_eq_true rfl) rfl ?_
      clear e24
      refine g_iload (Y := YX11_late) (pc := 186) 2 dX11_late_186 rfl ?_
      refine g_iload_n (Y := YX11_late) (pc := 188) 1 dX11_late_188 rfl ?_
      refine g_isub (Y := YX11_late) (pc := 189) dX11_late_189 ?_
      exact s_iret (Y := YX11_late) (pc := 190) dX11_late_190 rfl hF
    · replace hF := if_t c17 hF
      refine g_aload_n (Y := YX11_late) (pc := 72) 0 dX11_late_72 rfl ?_
      refine g_aload_n (Y := YX11_late) (pc := 73) 0 dX11_late_73 rfl ?_
      refine u_getR (Y := YX11_late) (pc := 74) (j := 175) dX11_late_74 fl_X11_9 k_174 rf_174_0 ?_
      refine g_iload (Y := YX11_late) (pc := 77) 5 dX11_late_77 rfl ?_
      obtain ⟨r25, M26, e27, hF⟩ := bd_some hF
      refine s_callVi (Y := YX11_late) (pc := 79) (as := [.ref 175, .int x7]) (st := []) (r_X11_isInside k_175 e27) miX11_isInside lk_X11_224 dX11_late_79 k_174 rfl (Nat.le_of_ble_eq_true rfl) (Nat.le_of_ble_eq_true rfl) rfl ?_
      clear e27
      refine g_if_ne (Y := YX11_late) (pc := 82) (tgt := 88) dX11_late_82 rfl (fun c28 => ?_) (fun c28 => ?_)
      · replace hF := if_f c28 hF
        refine g_iload_n (Y := YX11_late) (pc := 88) 1 dX11_late_88 rfl ?_
        refine g_aload_n (Y := YX11_late) (pc := 89) 0 dX11_late_89 rfl ?_
        refine u_getR (Y := YX11_late) (pc := 90) (j := 196) dX11_late_90 fl_X11_75 k_174 rf_174_45 ?_
        refine g_iload (Y := YX11_late) (pc := 93) 5 dX11_late_93 rfl ?_
        obtain ⟨g29, hF⟩ := gd_some hF
        refine s_iald (Y := YX11_late) (pc := 95) dX11_late_95 k_196 n_196 g29 ?_
        refine s_max (Y := YX11_late) (pc := 96) dX11_late_96 lk_X11_218 w_max (Nat.le_of_ble_eq_true rfl) (Nat.le_of_ble_eq_true rfl) ?_
        refine g_nm (fun v30 e => ?_)
        replace hF := vl_to e hF; clear e
        refine g_istore_n (Y := YX11_late) (pc := 99) (L' := [(3, .int v30), (0, .ref 174), (4, .int x4), (5, .int x5), (6, .int x6), (7, .int x7)]) dX11_late_99 (Nat.le_of_ble_eq_true rfl) rfl ?_
        refine g_iload (Y := YX11_late) (pc := 100) 2 dX11_late_100 rfl ?_
        refine g_aload_n (Y := YX11_late) (pc := 102) 1 dX11_late_102 rfl ?_
        refine u_getR (Y := YX11_late) (pc := 103) (j := 197) dX11_late_103 fl_X11_78 k_174 rf_174_46 ?_
        refine g_iload (Y := YX11_late) (pc := 106) 5 dX11_late_106 rfl ?_
        obtain ⟨g31, hF⟩ := gd_some hF
        refine s_iald (Y := YX11_late) (pc := 108) dX11_late_108 k_197 n_197 g31 ?_
        refine s_max (Y := YX11_late) (pc := 109) dX11_late_109 lk_X11_218 w_max (Nat.le_of_ble_eq_true rfl) (Nat.le_of_ble_eq_true rfl) ?_
        refine g_nm (fun v32 e => ?_)
        replace hF := vl_to e hF; clear e
        refine g_istore (Y := YX11_late) (pc := 112) (L' := [(4, .int v32), (3, .int v30), (0, .ref 174), (5, .int x5), (6, .int x6), (7, .int x7)]) dX11_late_112 (Nat.le_of_ble_eq_true rfl) rfl ?_
        refine g_aload_n (Y := YX11_late) (pc := 114) 2 dX11_late_114 rfl ?_
        refine u_getR (Y := YX11_late) (pc := 115) (j := 197) dX11_late_115 fl_X11_78 k_174 rf_174_46 ?_
        refine g_iload (Y := YX11_late) (pc := 118) 5 dX11_late_118 rfl ?_
        obtain ⟨g33, hF⟩ := gd_some hF
        refine s_iald (Y := YX11_late) (pc := 120) dX11_late_120 k_197 n_197 g33 ?_
        refine g_aload_n (Y := YX11_late) (pc := 121) 2 dX11_late_121 rfl ?_
        refine u_getR (Y := YX11_late) (pc := 122) (j := 196) dX11_late_122 fl_X11_75 k_174 rf_174_45 ?_
        refine g_iload (Y := YX11_late) (pc := 125) 5 dX11_late_125 rfl ?_
        obtain ⟨g34, hF⟩ := gd_some hF
        refine s_iald (Y := YX11_late) (pc := 127) dX11_late_127 k_196 n_196 g34 ?_
        refine g_icmp_gt (Y := YX11_late) (pc := 128) (tgt := 134) dX11_late_128 rfl (fun c35 => ?_) (fun c35 => ?_)
        · replace hF := if_t c35 hF
          refine g_iload (Y := YX11_late) (pc := 134) 3 dX11_late_134 rfl ?_
          refine g_iconst (Y := YX11_late) (pc := 136) dX11_late_136 kI_1 ?_
          refine g_iload (Y := YX11_late) (pc := 137) 5 dX11_late_137 rfl ?_
          refine g_ishl (Y := YX11_late) (pc := 139) dX11_late_139 ?_
          refine g_ior (Y := YX11_late) (pc := 140) dX11_late_140 ?_
          refine g_nm (fun v36 e => ?_)
          replace hF := vl_to e hF; clear e
          refine g_istore (Y := YX11_late) (pc := 141) (L' := [(5, .int v36), (4, .int v32), (3, .int v30), (0, .ref 174), (6, .int x6), (7, .int x7)]) dX11_late_141 (Nat.le_of_ble_eq_true rfl) rfl ?_
          refine g_iload (Y := YX11_late) (pc := 143) 4 dX11_late_143 rfl ?_
          refine g_aload_n (Y := YX11_late) (pc := 145) 3 dX11_late_145 rfl ?_
          refine u_getR (Y := YX11_late) (pc := 146) (j := 197) dX11_late_146 fl_X11_78 k_174 rf_174_46 ?_
          refine g_iload (Y := YX11_late) (pc := 149) 5 dX11_late_149 rfl ?_
          obtain ⟨g37, hF⟩ := gd_some hF
          refine s_iald (Y := YX11_late) (pc := 151) dX11_late_151 k_197 n_197 g37 ?_
          refine g_aload_n (Y := YX11_late) (pc := 152) 3 dX11_late_152 rfl ?_
          refine u_getR (Y := YX11_late) (pc := 153) (j := 196) dX11_late_153 fl_X11_75 k_174 rf_174_45 ?_
          refine g_iload (Y := YX11_late) (pc := 156) 5 dX11_late_156 rfl ?_
          obtain ⟨g38, hF⟩ := gd_some hF
          refine s_iald (Y := YX11_late) (pc := 158) dX11_late_158 k_196 n_196 g38 ?_
          refine g_isub (Y := YX11_late) (pc := 159) dX11_late_159 ?_
          refine g_nm (fun v39 e => ?_)
          replace hF := vl_to e hF; clear e
          refine g_iadd (Y := YX11_late) (pc := 160) dX11_late_160 ?_
          refine g_nm (fun v40 e => ?_)
          replace hF := vl_to e hF; clear e
          refine g_istore (Y := YX11_late) (pc := 161) (L' := [(6, .int v40), (5, .int v36), (4, .int v32), (3, .int v30), (0, .ref 174), (7, .int x7)]) dX11_late_161 (Nat.le_of_ble_eq_true rfl) rfl ?_
          refine g_loc [4, 3, 2, 1, 0, 5] rfl ?_
          exact w_X11_late_163 ih _ _ _ _ _ _ hF
        · replace hF := if_f c35 hF
          refine g_goto (Y := YX11_late) (pc := 131) (tgt := 163) dX11_late_131 rfl ?_
          refine g_loc [2, 1, 0, 3, 4, 5] rfl ?_
          exact w_X11_late_163 ih _ _ _ _ _ _ hF
      · replace hF := if_t c28 hF
        refine g_goto (Y := YX11_late) (pc := 85) (tgt := 163) dX11_late_85 rfl ?_
        exact w_X11_late_163 ih _ _ _ _ _ _ hF
def f_X11_late_0  (x1 : Int32) (x2 : Int32) (M : Mem) : Option (Int32 × Mem) :=
  ml (up M 174 14 0) fun M1 =>
  bd (f_X11_canOver x1 x2 M1) fun r2 M3 =>
  if r2 = 0 then
    some ((-1), M3)
  else
    bd (f_X11_layStays M3) fun _ M7 =>
    bd (f_X11_findWhen 196 x1 0 M7) fun r9 M10 =>
    if r9 = 0 then
      f_X11_late_46 M10
    else
      bd (f_X11_findWhen 197 x1 x2 M10) fun r13 M14 =>
      if r13 = 0 then
        f_X11_late_46 M14
      else
        f_X11_late_63 FU 0 0 0 0 0 M14
set_option maxRecDepth 100000 in
theorem w_X11_late_0 {R : Int32} {M' : Mem}  (x1 x2 : Int32) (M : Mem) (hF : f_X11_late_0 x1 x2 M = some (R, M')) : RunF l D cy ad none YX11_late 406 0 0 (some (.int R)) (lay X M') 0 0 0 [(0, .ref 174), (1, .int x1), (2, .int x2)] [] (lay X M) := by
  unfold f_X11_late_0 at hF
  refine g_aload_n (Y := YX11_late) (pc := 0) 0 dX11_late_0 rfl ?_
  refine g_iconst (Y := YX11_late) (pc := 1) dX11_late_1 kI_0 ?_
  refine u_putI (Y := YX11_late) (pc := 2) dX11_late_2 fl_X11_99  k_174 ?_
  refine g_nmM (fun M1 e => ?_)
  replace hF := ml_to e hF; clear e
  refine g_aload_n (Y := YX11_late) (pc := 5) 0 dX11_late_5 rfl ?_
  refine g_iload_n (Y := YX11_late) (pc := 6) 1 dX11_late_6 rfl ?_
  refine g_iload_n (Y := YX11_late) (pc := 7) 2 dX11_late_7 rfl ?_
  obtain ⟨r2, M3, e4, hF⟩ := bd_some hF
  refine s_callVi (Y := YX11_late) (pc := 8) (as := [.int x1, .int x2]) (st := []) (r_X11_canOver  e4) miX11_canOver lk_X11_290 dX11_late_8 k_174 rfl (Nat.le_of_ble_eq_true rfl) (Nat.le_of_ble_eq_true rfl) rfl ?_
  clear e4
  refine g_if_ne (Y := YX11_late) (pc := 11) (tgt := 16) dX11_late_11 rfl (fun c5 => ?_) (fun c5 => ?_)
  · replace hF := if_f c5 hF
    refine g_aload_n (Y := YX11_late) (pc := 16) 0 dX11_late_16 rfl ?_
    obtain ⟨r6, M7, e8, hF⟩ := bd_some hF
    refine s_callVv (Y := YX11_late) (pc := 17) (as := []) (st := []) (r_X11_layStays  e8) miX11_layStays lk_X11_271 dX11_late_17 k_174 rfl (Nat.le_of_ble_eq_true rfl) (Nat.le_of_ble_eq_true rfl) rfl ?_
    clear e8
    refine g_aload_n (Y := YX11_late) (pc := 20) 0 dX11_late_20 rfl ?_
    refine g_iload_n (Y := YX11_late) (pc := 21) 1 dX11_late_21 rfl ?_
    refine g_iconst (Y := YX11_late) (pc := 22) dX11_late_22 kI_0 ?_
    refine g_aload_n (Y := YX11_late) (pc := 23) 0 dX11_late_23 rfl ?_
    refine u_getR (Y := YX11_late) (pc := 24) (j := 196) dX11_late_24 fl_X11_75 k_174 rf_174_45 ?_
    obtain ⟨r9, M10, e11, hF⟩ := bd_some hF
    refine s_callVi (Y := YX11_late) (pc := 27) (as := [.int x1, .int 0, .ref 196]) (st := []) (r_X11_findWhen k_196 e11) miX11_findWhen lk_X11_378 dX11_late_27 k_174 rfl (Nat.le_of_ble_eq_true rfl) (Nat.le_of_ble_eq_true rfl) rfl ?_
    clear e11
    refine g_if_eq (Y := YX11_late) (pc := 30) (tgt := 46) dX11_late_30 rfl (fun c12 => ?_) (fun c12 => ?_)
    · replace hF := if_t c12 hF
      refine g_loc [] rfl ?_
      exact w_X11_late_46  _ hF
    · replace hF := if_f c12 hF
      refine g_aload_n (Y := YX11_late) (pc := 33) 0 dX11_late_33 rfl ?_
      refine g_iload_n (Y := YX11_late) (pc := 34) 1 dX11_late_34 rfl ?_
      refine g_iload_n (Y := YX11_late) (pc := 35) 2 dX11_late_35 rfl ?_
      refine g_aload_n (Y := YX11_late) (pc := 36) 0 dX11_late_36 rfl ?_
      refine u_getR (Y := YX11_late) (pc := 37) (j := 197) dX11_late_37 fl_X11_78 k_174 rf_174_46 ?_
      obtain ⟨r13, M14, e15, hF⟩ := bd_some hF
      refine s_callVi (Y := YX11_late) (pc := 40) (as := [.int x1, .int x2, .ref 197]) (st := []) (r_X11_findWhen k_197 e15) miX11_findWhen lk_X11_378 dX11_late_40 k_174 rfl (Nat.le_of_ble_eq_true rfl) (Nat.le_of_ble_eq_true rfl) rfl ?_
      clear e15
      refine g_if_ne (Y := YX11_late) (pc := 43) (tgt := 49) dX11_late_43 rfl (fun c16 => ?_) (fun c16 => ?_)
      · replace hF := if_f c16 hF
        refine g_iconst (Y := YX11_late) (pc := 49) dX11_late_49 kI_0 ?_
        refine g_istore_n (Y := YX11_late) (pc := 50) (L' := [(3, .int 0), (0, .ref 174), (1, .int x1), (2, .int x2)]) dX11_late_50 (Nat.le_of_ble_eq_true rfl) rfl ?_
        refine g_iconst (Y := YX11_late) (pc := 51) dX11_late_51 kI_0 ?_
        refine g_istore (Y := YX11_late) (pc := 52) (L' := [(4, .int 0), (3, .int 0), (0, .ref 174), (1, .int x1), (2, .int x2)]) dX11_late_52 (Nat.le_of_ble_eq_true rfl) rfl ?_
        refine g_iconst (Y := YX11_late) (pc := 54) dX11_late_54 kI_0 ?_
        refine g_istore (Y := YX11_late) (pc := 55) (L' := [(5, .int 0), (4, .int 0), (3, .int 0), (0, .ref 174), (1, .int x1), (2, .int x2)]) dX11_late_55 (Nat.le_of_ble_eq_true rfl) rfl ?_
        refine g_iconst (Y := YX11_late) (pc := 57) dX11_late_57 kI_0 ?_
        refine g_istore (Y := YX11_late) (pc := 58) (L' := [(6, .int 0), (5, .int 0), (4, .int 0), (3, .int 0), (0, .ref 174), (1, .int x1), (2, .int x2)]) dX11_late_58 (Nat.le_of_ble_eq_true rfl) rfl ?_
        refine g_iconst (Y := YX11_late) (pc := 60) dX11_late_60 kI_0 ?_
        refine g_istore (Y := YX11_late) (pc := 61) (L' := [(7, .int 0), (6, .int 0), (5, .int 0), (4, .int 0), (3, .int 0), (0, .ref 174), (1, .int x1), (2, .int x2)]) dX11_late_61 (Nat.le_of_ble_eq_true rfl) rfl ?_
        refine g_loc [5, 4, 3, 2, 1, 0] rfl ?_
        exact w_X11_late_63  _ _ _ _ _ _ _ hF
      · replace hF := if_t c16 hF
        refine g_loc [] rfl ?_
        exact w_X11_late_46  _ hF
  · replace hF := if_t c5 hF
    refine g_iconst (Y := YX11_late) (pc := 14) dX11_late_14 kI_m1 ?_
    exact s_iret (Y := YX11_late) (pc := 15) dX11_late_15 rfl hF
def f_X11_late (x1 : Int32) (x2 : Int32) (M : Mem) : Option (Int32 × Mem) := f_X11_late_0 x1 x2 M
theorem r_X11_late {x1 x2 R : Int32} {M M' : Mem}  (hF : f_X11_late x1 x2 M = some (R, M')) : RunS l D cy ad YX11_late 406 [.ref 174, .int x1, .int x2] X M (some (.int R)) M' := Run.of 2 (miX11_late).1 (Nat.le_of_ble_eq_true rfl) (w_X11_late_0  _ _ _ hF)
def f_X11_slack_25  (M : Mem) : Option (Int32 × Mem) :=
  some ((-1), M)
set_option maxRecDepth 100000 in
theorem w_X11_slack_25 {R : Int32} {M' : Mem}  (M : Mem) (hF : f_X11_slack_25  M = some (R, M')) : RunF l D cy ad none YX11_slack 406 0 0 (some (.int R)) (lay X M') 0 0 25 [] [] (lay X M) := by
  unfold f_X11_slack_25 at hF
  refine g_iconst (Y := YX11_slack) (pc := 25) dX11_slack_25 kI_m1 ?_
  exact s_iret (Y := YX11_slack) (pc := 26) dX11_slack_26 rfl hF
def f_X11_slack_144 (K51 : Int32 → Int32 → Int32 → Mem → Option (Int32 × Mem)) (x1 : Int32) (x2 : Int32) (x3 : Int32) (M : Mem) : Option (Int32 × Mem) :=
  vl (x3 + 1) fun v23 =>
  K51 x1 x2 v23 M
set_option maxRecDepth 100000 in
theorem w_X11_slack_144 {R : Int32} {M' : Mem} {K51 : Int32 → Int32 → Int32 → Mem → Option (Int32 × Mem)} (hK51 : ∀ (x1 x2 x3 : Int32) (M : Mem), K51 x1 x2 x3 M = some (R, M') → RunF l D cy ad none YX11_slack 406 0 0 (some (.int R)) (lay X M') 0 0 51 [(0, .ref 174), (1, .int x1), (2, .int x2), (3, .int x3)] [] (lay X M)) (x1 x2 x3 : Int32) (M : Mem) (hF : f_X11_slack_144 K51 x1 x2 x3 M = some (R, M')) : RunF l D cy ad none YX11_slack 406 0 0 (some (.int R)) (lay X M') 0 0 144 [(0, .ref 174), (1, .int x1), (2, .int x2), (3, .int x3)] [] (lay X M) := by
  unfold f_X11_slack_144 at hF
  refine s_iinc (Y := YX11_slack) (pc := 144) (j := 3) (L' := fun y => [(3, .int y), (0, .ref 174), (1, .int x1), (2, .int x2)]) dX11_slack_144 kI_1 rfl (Nat.le_of_ble_eq_true rfl) (fun _ => rfl) (fun v23 e => ?_)
  replace hF := vl_to e hF; clear e
  refine g_goto (Y := YX11_slack) (pc := 147) (tgt := 51) dX11_slack_147 rfl ?_
  refine g_loc [1, 2, 3, 0] rfl ?_
  exact hK51 _ _ _ _ hF
def f_X11_slack_129 (K51 : Int32 → Int32 → Int32 → Mem → Option (Int32 × Mem)) (K74 : Int32 → Int32 → Int32 → Int32 → Int32 → Mem → Option (Int32 × Mem)) (x1 : Int32) (x2 : Int32) (x3 : Int32) (x5 : Int32) (t0 : Int32) (M : Mem) : Option (Int32 × Mem) :=
  vl (x5 + 1) fun v25 =>
  K74 x1 x2 x3 t0 v25 M
set_option maxRecDepth 100000 in
theorem w_X11_slack_129 {R : Int32} {M' : Mem} {K51 : Int32 → Int32 → Int32 → Mem → Option (Int32 × Mem)} {K74 : Int32 → Int32 → Int32 → Int32 → Int32 → Mem → Option (Int32 × Mem)} (hK51 : ∀ (x1 x2 x3 : Int32) (M : Mem), K51 x1 x2 x3 M = some (R, M') → RunF l D cy ad none YX11_slack 406 0 0 (some (.int R)) (lay X M') 0 0 51 [(0, .ref 174), (1, .int x1), (2, .int x2), (3, .int x3)] [] (lay X M)) (hK74 : ∀ (x1 x2 x3 x4 x5 : Int32) (M : Mem), K74 x1 x2 x3 x4 x5 M = some (R, M') → RunF l D cy ad none YX11_slack 406 0 0 (some (.int R)) (lay X M') 0 0 74 [(0, .ref 174), (1, .int x1), (2, .int x2), (3, .int x3), (4, .int x4), (5, .int x5)] [] (lay X M)) (x1 x2 x3 x5 t0 : Int32) (M : Mem) (hF : f_X11_slack_129 K51 K74 x1 x2 x3 x5 t0 M = some (R, M')) : RunF l D cy ad none YX11_slack 406 0 0 (some (.int R)) (lay X M') 0 0 129 [(0, .ref 174), (1, .int x1), (2, .int x2), (3, .int x3), (5, .int x5)] [.int t0] (lay X M) := by
  unfold f_X11_slack_129 at hF
  refine g_istore (Y := YX11_slack) (pc := 129) (L' := [(4, .int t0), (0, .ref 174), (1, .int x1), (2, .int x2), (3, .int x3), (5, .int x5)]) dX11_slack_129 (Nat.le_of_ble_eq_true rfl) rfl ?_
  refine s_iinc (Y := YX11_slack) (pc := 131) (j := 5) (L' := fun y => [(5, .int y), (4, .int t0), (0, .ref 174), (1, .int x1), (2, .int x2), (3, .int x3)]) dX11_slack_131 kI_1 rfl (Nat.le_of_ble_eq_true rfl) (fun _ => rfl) (fun v25 e => ?_)
  replace hF := vl_to e hF; clear e
  refine g_goto (Y := YX11_slack) (pc := 134) (tgt := 74) dX11_slack_134 rfl ?_
  refine g_loc [2, 3, 4, 5, 1, 0] rfl ?_
  exact hK74 _ _ _ _ _ _ hF
def f_X11_slack_128 (K51 : Int32 → Int32 → Int32 → Mem → Option (Int32 × Mem)) (K74 : Int32 → Int32 → Int32 → Int32 → Int32 → Mem → Option (Int32 × Mem)) (x1 : Int32) (x2 : Int32) (x3 : Int32) (x5 : Int32) (M : Mem) : Option (Int32 × Mem) :=
  f_X11_slack_129 K51 K74 x1 x2 x3 x5 0 M
set_option maxRecDepth 100000 in
theorem w_X11_slack_128 {R : Int32} {M' : Mem} {K51 : Int32 → Int32 → Int32 → Mem → Option (Int32 × Mem)} {K74 : Int32 → Int32 → Int32 → Int32 → Int32 → Mem → Option (Int32 × Mem)} (hK51 : ∀ (x1 x2 x3 : Int32) (M : Mem), K51 x1 x2 x3 M = some (R, M') → RunF l D cy ad none YX11_slack 406 0 0 (some (.int R)) (lay X M') 0 0 51 [(0, .ref 174), (1, .int x1), (2, .int x2), (3, .int x3)] [] (lay X M)) (hK74 : ∀ (x1 x2 x3 x4 x5 : Int32) (M : Mem), K74 x1 x2 x3 x4 x5 M = some (R, M') → RunF l D cy ad none YX11_slack 406 0 0 (some (.int R)) (lay X M') 0 0 74 [(0, .ref 174), (1, .int x1), (2, .int x2), (3, .int x3), (4, .int x4), (5, .int x5)] [] (lay X M)) (x1 x2 x3 x5 : Int32) (M : Mem) (hF : f_X11_slack_128 K51 K74 x1 x2 x3 x5 M = some (R, M')) : RunF l D cy ad none YX11_slack 406 0 0 (some (.int R)) (lay X M') 0 0 128 [(0, .ref 174), (1, .int x1), (2, .int x2), (3, .int x3), (5, .int x5)] [] (lay X M) := by
  unfold f_X11_slack_128 at hF
  refine g_iconst (Y := YX11_slack) (pc := 128) dX11_slack_128 kI_0 ?_
  exact w_X11_slack_129 hK51 hK74 _ _ _ _ _ _ hF
def f_X11_slack_124 (K51 : Int32 → Int32 → Int32 → Mem → Option (Int32 × Mem)) (K74 : Int32 → Int32 → Int32 → Int32 → Int32 → Mem → Option (Int32 × Mem)) (x1 : Int32) (x2 : Int32) (x3 : Int32) (x5 : Int32) (M : Mem) : Option (Int32 × Mem) :=
  f_X11_slack_129 K51 K74 x1 x2 x3 x5 1 M
set_option maxRecDepth 100000 in
theorem w_X11_slack_124 {R : Int32} {M' : Mem} {K51 : Int32 → Int32 → Int32 → Mem → Option (Int32 × Mem)} {K74 : Int32 → Int32 → Int32 → Int32 → Int32 → Mem → Option (Int32 × Mem)} (hK51 : ∀ (x1 x2 x3 : Int32) (M : Mem), K51 x1 x2 x3 M = some (R, M') → RunF l D cy ad none YX11_slack 406 0 0 (some (.int R)) (lay X M') 0 0 51 [(0, .ref 174), (1, .int x1), (2, .int x2), (3, .int x3)] [] (lay X M)) (hK74 : ∀ (x1 x2 x3 x4 x5 : Int32) (M : Mem), K74 x1 x2 x3 x4 x5 M = some (R, M') → RunF l D cy ad none YX11_slack 406 0 0 (some (.int R)) (lay X M') 0 0 74 [(0, .ref 174), (1, .int x1), (2, .int x2), (3, .int x3), (4, .int x4), (5, .int x5)] [] (lay X M)) (x1 x2 x3 x5 : Int32) (M : Mem) (hF : f_X11_slack_124 K51 K74 x1 x2 x3 x5 M = some (R, M')) : RunF l D cy ad none YX11_slack 406 0 0 (some (.int R)) (lay X M') 0 0 124 [(0, .ref 174), (1, .int x1), (2, .int x2), (3, .int x3), (5, .int x5)] [] (lay X M) := by
  unfold f_X11_slack_124 at hF
  refine g_iconst (Y := YX11_slack) (pc := 124) dX11_slack_124 kI_1 ?_
  refine g_goto (Y := YX11_slack) (pc := 125) (tgt := 129) dX11_slack_125 rfl ?_
  exact w_X11_slack_129 hK51 hK74 _ _ _ _ _ _ hF
def f_X11_slack_74 (K51 : Int32 → Int32 → Int32 → Mem → Option (Int32 × Mem)) : Nat → Int32 → Int32 → Int32 → Int32 → Int32 → Mem → Option (Int32 × Mem)
  | 0, _, _, _, _, _, _ => none
  | n + 1, x1, x2, x3, x4, x5, M =>
    if x5 < (M 174 3) then
      if x4 = 0 then
        f_X11_slack_128 K51 (f_X11_slack_74 K51 n) x1 x2 x3 x5 M
      else
        if x5 = x1 then
          f_X11_slack_124 K51 (f_X11_slack_74 K51 n) x1 x2 x3 x5 M
        else
          bd (f_X11_isInside 175 x5 M) fun r27 M28 =>
          if r27 = 0 then
            f_X11_slack_124 K51 (f_X11_slack_74 K51 n) x1 x2 x3 x5 M28
          else
            gd (0 ≤ x5 ∧ x5.toNatClampNeg < 6) <|
            gd (0 ≤ x5 ∧ x5.toNatClampNeg < 6) <|
            if (M28 196 x5.toNatClampNeg) < (M28 197 x5.toNatClampNeg) then
              f_X11_slack_128 K51 (f_X11_slack_74 K51 n) x1 x2 x3 x5 M28
            else
              f_X11_slack_124 K51 (f_X11_slack_74 K51 n) x1 x2 x3 x5 M28
    else
      if x4 = 0 then
        f_X11_slack_144 K51 x1 x2 x3 M
      else
        f_X11_slack_144 K51 x1 x3 x3 M
set_option maxRecDepth 100000 in
theorem w_X11_slack_74 {R : Int32} {M' : Mem} {K51 : Int32 → Int32 → Int32 → Mem → Option (Int32 × Mem)} (hK51 : ∀ (x1 x2 x3 : Int32) (M : Mem), K51 x1 x2 x3 M = some (R, M') → RunF l D cy ad none YX11_slack 406 0 0 (some (.int R)) (lay X M') 0 0 51 [(0, .ref 174), (1, .int x1), (2, .int x2), (3, .int x3)] [] (lay X M)) : ∀ (n : Nat) (x1 x2 x3 x4 x5 : Int32) (M : Mem), f_X11_slack_74 K51 n x1 x2 x3 x4 x5 M = some (R, M') → RunF l D cy ad none YX11_slack 406 0 0 (some (.int R)) (lay X M') 0 0 74 [(0, .ref 174), (1, .int x1), (2, .int x2), (3, .int x3), (4, .int x4), (5, .int x5)] [] (lay X M) := by
  intro n
  induction n with
  | zero => intro x1 x2 x3 x4 x5 M hF; exact absurd hF (by unfold f_X11_slack_74; exact fun h => nomatch h)
  | succ n ih =>
    intro x1 x2 x3 x4 x5 M hF
    unfold f_X11_slack_74 at hF
    refine g_iload (Y := YX11_slack) (pc := 74) 5 dX11_slack_74 rfl ?_
    refine g_aload_n (Y := YX11_slack) (pc := 76) 0 dX11_slack_76 rfl ?_
    refine u_getI (Y := YX11_slack) (pc := 77) dX11_slack_77 fl_X11_113 k_174 ?_
    refine g_icmp_ge (Y := YX11_slack) (pc := 80) (tgt := 137) dX11_slack_80 rfl (fun c21 => ?_) (fun c21 => ?_)
    · replace hF := if_f c21 hF
      refine g_iload (Y := YX11_slack) (pc := 137) 4 dX11_slack_137 rfl ?_
      refine g_if_eq (Y := YX11_slack) (pc := 139) (tgt := 144) dX11_slack_139 rfl (fun c22 => ?_) (fun c22 => ?_)
      · replace hF := if_t c22 hF
        refine g_loc [0, 1, 2, 3] rfl ?_
        exact w_X11_slack_144 hK51 _ _ _ _ hF
      · replace hF := if_f c22 hF
        refine g_iload_n (Y := YX11_slack) (pc := 142) 3 dX11_slack_142 rfl ?_
        refine g_istore_n (Y := YX11_slack) (pc := 143) (L' := [(2, .int x3), (0, .ref 174), (1, .int x1), (3, .int x3), (4, .int x4), (5, .int x5)]) dX11_slack_143 (Nat.le_of_ble_eq_true rfl) rfl ?_
        refine g_loc [1, 2, 0, 3] rfl ?_
        exact w_X11_slack_144 hK51 _ _ _ _ hF
    · replace hF := if_t c21 hF
      refine g_iload (Y := YX11_slack) (pc := 83) 4 dX11_slack_83 rfl ?_
      refine g_if_eq (Y := YX11_slack) (pc := 85) (tgt := 128) dX11_slack_85 rfl (fun c24 => ?_) (fun c24 => ?_)
      · replace hF := if_t c24 hF
        refine g_loc [0, 1, 2, 3, 5] rfl ?_
        exact w_X11_slack_128 hK51 ih _ _ _ _ _ hF
      · replace hF := if_f c24 hF
        refine g_iload (Y := YX11_slack) (pc := 88) 5 dX11_slack_88 rfl ?_
        refine g_iload_n (Y := YX11_slack) (pc := 90) 1 dX11_slack_90 rfl ?_
        refine g_icmp_eq (Y := YX11_slack) (pc := 91) (tgt := 124) dX11_slack_91 rfl (fun c26 => ?_) (fun c26 => ?_)
        · replace hF := if_t c26 hF
          refine g_loc [0, 1, 2, 3, 5] rfl ?_
          exact w_X11_slack_124 hK51 ih _ _ _ _ _ hF
        · replace hF := if_f c26 hF
          refine g_aload_n (Y := YX11_slack) (pc := 94) 0 dX11_slack_94 rfl ?_
          refine g_aload_n (Y := YX11_slack) (pc := 95) 0 dX11_slack_95 rfl ?_
          refine u_getR (Y := YX11_slack) (pc := 96) (j := 175) dX11_slack_96 fl_X11_9 k_174 rf_174_0 ?_
          refine g_iload (Y := YX11_slack) (pc := 99) 5 dX11_slack_99 rfl ?_
          obtain ⟨r27, M28, e29, hF⟩ := bd_some hF
          refine s_callVi (Y := YX11_slack) (pc := 101) (as := [.ref 175, .int x5]) (st := []) (r_X11_isInside k_175 e29) miX11_isInside lk_X11_224 dX11_slack_101 k_174 rfl (Nat.le_of_ble_eq_true rfl) (Nat.le_of_ble_eq_true rfl) rfl ?_
          clear e29
          refine g_if_eq (Y := YX11_slack) (pc := 104) (tgt := 124) dX11_slack_104 rfl (fun c30 => ?_) (fun c30 => ?_)
          · replace hF := if_t c30 hF
            refine g_loc [0, 1, 2, 3, 5] rfl ?_
            exact w_X11_slack_124 hK51 ih _ _ _ _ _ hF
          · replace hF := if_f c30 hF
            refine g_aload_n (Y := YX11_slack) (pc := 107) 0 dX11_slack_107 rfl ?_
            refine u_getR (Y := YX11_slack) (pc := 108) (j := 197) dX11_slack_108 fl_X11_78 k_174 rf_174_46 ?_
            refine g_iload (Y := YX11_slack) (pc := 111) 5 dX11_slack_111 rfl ?_
            obtain ⟨g31, hF⟩ := gd_some hF
            refine s_iald (Y := YX11_slack) (pc := 113) dX11_slack_113 k_197 n_197 g31 ?_
            refine g_aload_n (Y := YX11_slack) (pc := 114) 0 dX11_slack_114 rfl ?_
            refine u_getR (Y := YX11_slack) (pc := 115) (j := 196) dX11_slack_115 fl_X11_75 k_174 rf_174_45 ?_
            refine g_iload (Y := YX11_slack) (pc := 118) 5 dX11_slack_118 rfl ?_
            obtain ⟨g32, hF⟩ := gd_some hF
            refine s_iald (Y := YX11_slack) (pc := 120) dX11_slack_120 k_196 n_196 g32 ?_
            refine g_icmp_gt (Y := YX11_slack) (pc := 121) (tgt := 128) dX11_slack_121 rfl (fun c33 => ?_) (fun c33 => ?_)
            · replace hF := if_t c33 hF
              refine g_loc [0, 1, 2, 3, 5] rfl ?_
              exact w_X11_slack_128 hK51 ih _ _ _ _ _ hF
            · replace hF := if_f c33 hF
              refine g_loc [0, 1, 2, 3, 5] rfl ?_
              exact w_X11_slack_124 hK51 ih _ _ _ _ _ hF
def f_X11_slack_51  : Nat → Int32 → Int32 → Int32 → Mem → Option (Int32 × Mem)
  | 0, _, _, _, _ => none
  | n + 1, x1, x2, x3, M =>
    if 30 < x3 then
      some (x2, M)
    else
      bd (f_X11_findWhen 197 x1 x3 M) fun r18 M19 =>
      f_X11_slack_74 (f_X11_slack_51 n) FU x1 x2 x3 1 0 M19
set_option maxRecDepth 100000 in
theorem w_X11_slack_51 {R : Int32} {M' : Mem}  : ∀ (n : Nat) (x1 x2 x3 : Int32) (M : Mem), f_X11_slack_51 n x1 x2 x3 M = some (R, M') → RunF l D cy ad none YX11_slack 406 0 0 (some (.int R)) (lay X M') 0 0 51 [(0, .ref 174), (1, .int x1), (2, .int x2), (3, .int x3)] [] (lay X M) := by
  intro n
  induction n with
  | zero => intro x1 x2 x3 M hF; exact absurd hF (by unfold f_X11_slack_51; exact fun h => nomatch h)
  | succ n ih =>
    intro x1 x2 x3 M hF
    unfold f_X11_slack_51 at hF
    refine g_iload_n (Y := YX11_slack) (pc := 51) 3 dX11_slack_51 rfl ?_
    refine g_bipush (Y := YX11_slack) (pc := 52) dX11_slack_52 kB_30 ?_
    refine g_icmp_gt (Y := YX11_slack) (pc := 54) (tgt := 150) dX11_slack_54 rfl (fun c17 => ?_) (fun c17 => ?_)
    · replace hF := if_t c17 hF
      refine g_iload_n (Y := YX11_slack) (pc := 150) 2 dX11_slack_150 rfl ?_
      exact s_iret (Y := YX11_slack) (pc := 151) dX11_slack_151 rfl hF
    · replace hF := if_f c17 hF
      refine g_aload_n (Y := YX11_slack) (pc := 57) 0 dX11_slack_57 rfl ?_
      refine g_iload_n (Y := YX11_slack) (pc := 58) 1 dX11_slack_58 rfl ?_
      refine g_iload_n (Y := YX11_slack) (pc := 59) 3 dX11_slack_59 rfl ?_
      refine g_aload_n (Y := YX11_slack) (pc := 60) 0 dX11_slack_60 rfl ?_
      refine u_getR (Y := YX11_slack) (pc := 61) (j := 197) dX11_slack_61 fl_X11_78 k_174 rf_174_46 ?_
      obtain ⟨r18, M19, e20, hF⟩ := bd_some hF
      refine s_callVi (Y := YX11_slack) (pc := 64) (as := [.int x1, .int x3, .ref 197]) (st := []) (r_X11_findWhen k_197 e20) miX11_findWhen lk_X11_378 dX11_slack_64 k_174 rfl (Nat.le_of_ble_eq_true rfl) (Nat.le_of_ble_eq_true rfl) rfl ?_
      clear e20
      refine g_pop (Y := YX11_slack) (pc := 67) dX11_slack_67 rfl ?_
      refine g_iconst (Y := YX11_slack) (pc := 68) dX11_slack_68 kI_1 ?_
      refine g_istore (Y := YX11_slack) (pc := 69) (L' := [(4, .int 1), (0, .ref 174), (1, .int x1), (2, .int x2), (3, .int x3)]) dX11_slack_69 (Nat.le_of_ble_eq_true rfl) rfl ?_
      refine g_iconst (Y := YX11_slack) (pc := 71) dX11_slack_71 kI_0 ?_
      refine g_istore (Y := YX11_slack) (pc := 72) (L' := [(5, .int 0), (4, .int 1), (0, .ref 174), (1, .int x1), (2, .int x2), (3, .int x3)]) dX11_slack_72 (Nat.le_of_ble_eq_true rfl) rfl ?_
      refine g_loc [2, 3, 4, 5, 1, 0] rfl ?_
      exact w_X11_slack_74 ih _ _ _ _ _ _ _ hF
def f_X11_slack_0  (x1 : Int32) (M : Mem) : Option (Int32 × Mem) :=
  ml (up M 174 14 0) fun M1 =>
  bd (f_X11_isGroup x1 M1) fun r2 M3 =>
  if r2 = 0 then
    f_X11_slack_25 M3
  else
    bd (f_X11_isInside 175 x1 M3) fun r6 M7 =>
    if r6 = 0 then
      f_X11_slack_25 M7
    else
      bd (f_X11_layStays M7) fun _ M11 =>
      bd (f_X11_findWhen 196 x1 0 M11) fun r13 M14 =>
      if r13 = 0 then
        some ((-2), M14)
      else
        f_X11_slack_51 FU x1 0 1 M14
set_option maxRecDepth 100000 in
theorem w_X11_slack_0 {R : Int32} {M' : Mem}  (x1 : Int32) (M : Mem) (hF : f_X11_slack_0 x1 M = some (R, M')) : RunF l D cy ad none YX11_slack 406 0 0 (some (.int R)) (lay X M') 0 0 0 [(0, .ref 174), (1, .int x1)] [] (lay X M) := by
  unfold f_X11_slack_0 at hF
  refine g_aload_n (Y := YX11_slack) (pc := 0) 0 dX11_slack_0 rfl ?_
  refine g_iconst (Y := YX11_slack) (pc := 1) dX11_slack_1 kI_0 ?_
  refine u_putI (Y := YX11_slack) (pc := 2) dX11_slack_2 fl_X11_99  k_174 ?_
  refine g_nmM (fun M1 e => ?_)
  replace hF := ml_to e hF; clear e
  refine g_aload_n (Y := YX11_slack) (pc := 5) 0 dX11_slack_5 rfl ?_
  refine g_iload_n (Y := YX11_slack) (pc := 6) 1 dX11_slack_6 rfl ?_
  obtain ⟨r2, M3, e4, hF⟩ := bd_some hF
  refine s_callVi (Y := YX11_slack) (pc := 7) (as := [.int x1]) (st := []) (r_X11_isGroup  e4) miX11_isGroup lk_X11_228 dX11_slack_7 k_174 rfl (Nat.le_of_ble_eq_true rfl) (Nat.le_of_ble_eq_true rfl) rfl ?_
  clear e4
  refine g_if_eq (Y := YX11_slack) (pc := 10) (tgt := 25) dX11_slack_10 rfl (fun c5 => ?_) (fun c5 => ?_)
  · replace hF := if_t c5 hF
    refine g_loc [] rfl ?_
    exact w_X11_slack_25  _ hF
  · replace hF := if_f c5 hF
    refine g_aload_n (Y := YX11_slack) (pc := 13) 0 dX11_slack_13 rfl ?_
    refine g_aload_n (Y := YX11_slack) (pc := 14) 0 dX11_slack_14 rfl ?_
    refine u_getR (Y := YX11_slack) (pc := 15) (j := 175) dX11_slack_15 fl_X11_9 k_174 rf_174_0 ?_
    refine g_iload_n (Y := YX11_slack) (pc := 18) 1 dX11_slack_18 rfl ?_
    obtain ⟨r6, M7, e8, hF⟩ := bd_some hF
    refine s_callVi (Y := YX11_slack) (pc := 19) (as := [.ref 175, .int x1]) (st := []) (r_X11_isInside k_175 e8) miX11_isInside lk_X11_224 dX11_slack_19 k_174 rfl (Nat.le_of_ble_eq_true rfl) (Nat.le_of_ble_eq_true rfl) rfl ?_
    clear e8
    refine g_if_ne (Y := YX11_slack) (pc := 22) (tgt := 27) dX11_slack_22 rfl (fun c9 => ?_) (fun c9 => ?_)
    · replace hF := if_f c9 hF
      refine g_aload_n (Y := YX11_slack) (pc := 27) 0 dX11_slack_27 rfl ?_
      obtain ⟨r10, M11, e12, hF⟩ := bd_some hF
      refine s_callVv (Y := YX11_slack) (pc := 28) (as := []) (st := []) (r_X11_layStays  e12) miX11_layStays lk_X11_271 dX11_slack_28 k_174 rfl (Nat.le_of_ble_eq_true rfl) (Nat.le_of_ble_eq_true rfl) rfl ?_
      clear e12
      refine g_aload_n (Y := YX11_slack) (pc := 31) 0 dX11_slack_31 rfl ?_
      refine g_iload_n (Y := YX11_slack) (pc := 32) 1 dX11_slack_32 rfl ?_
      refine g_iconst (Y := YX11_slack) (pc := 33) dX11_slack_33 kI_0 ?_
      refine g_aload_n (Y := YX11_slack) (pc := 34) 0 dX11_slack_34 rfl ?_
      refine u_getR (Y := YX11_slack) (pc := 35) (j := 196) dX11_slack_35 fl_X11_75 k_174 rf_174_45 ?_
      obtain ⟨r13, M14, e15, hF⟩ := bd_some hF
      refine s_callVi (Y := YX11_slack) (pc := 38) (as := [.int x1, .int 0, .ref 196]) (st := []) (r_X11_findWhen k_196 e15) miX11_findWhen lk_X11_378 dX11_slack_38 k_174 rfl (Nat.le_of_ble_eq_true rfl) (Nat.le_of_ble_eq_true rfl) rfl ?_
      clear e15
      refine g_if_ne (Y := YX11_slack) (pc := 41) (tgt := 47) dX11_slack_41 rfl (fun c16 => ?_) (fun c16 => ?_)
      · replace hF := if_f c16 hF
        refine g_iconst (Y := YX11_slack) (pc := 47) dX11_slack_47 kI_0 ?_
        refine g_istore_n (Y := YX11_slack) (pc := 48) (L' := [(2, .int 0), (0, .ref 174), (1, .int x1)]) dX11_slack_48 (Nat.le_of_ble_eq_true rfl) rfl ?_
        refine g_iconst (Y := YX11_slack) (pc := 49) dX11_slack_49 kI_1 ?_
        refine g_istore_n (Y := YX11_slack) (pc := 50) (L' := [(3, .int 1), (2, .int 0), (0, .ref 174), (1, .int x1)]) dX11_slack_50 (Nat.le_of_ble_eq_true rfl) rfl ?_
        refine g_loc [2, 3, 1, 0] rfl ?_
        exact w_X11_slack_51  _ _ _ _ _ hF
      · replace hF := if_t c16 hF
        refine g_bipush (Y := YX11_slack) (pc := 44) dX11_slack_44 kB_m2 ?_
        exact s_iret (Y := YX11_slack) (pc := 46) dX11_slack_46 rfl hF
    · replace hF := if_t c9 hF
      refine g_loc [] rfl ?_
      exact w_X11_slack_25  _ hF
def f_X11_slack (x1 : Int32) (M : Mem) : Option (Int32 × Mem) := f_X11_slack_0 x1 M
theorem r_X11_slack {x1 R : Int32} {M M' : Mem}  (hF : f_X11_slack x1 M = some (R, M')) : RunS l D cy ad YX11_slack 406 [.ref 174, .int x1] X M (some (.int R)) M' := Run.of 1 (miX11_slack).1 (Nat.le_of_ble_eq_true rfl) (w_X11_slack_0  _ _ hF)
def f_X11_dies_33  (M : Mem) : Option (Int32 × Mem) :=
  some ((-1), M)
set_option maxRecDepth 100000 in
theorem w_X11_dies_33 {R : Int32} {M' : Mem}  (M : Mem) (hF : f_X11_dies_33  M = some (R, M')) : RunF l D cy ad none YX11_dies 406 0 0 (some (.int R)) (lay X M') 0 0 33 [] [] (lay X M) := by
  unfold f_X11_dies_33 at hF
  refine g_iconst (Y := YX11_dies) (pc := 33) dX11_dies_33 kI_m1 ?_
  exact s_iret (Y := YX11_dies) (pc := 34) dX11_dies_34 rfl hF
def f_X11_dies_108  (x5 : Int32) (x6 : Int32) (M : Mem) : Option (Int32 × Mem) :=
  ml (up M 174 13 0) fun M23 =>
  bd (f_X11_tell x6 M23) fun _ M25 =>
  some (x5, M25)
set_option maxRecDepth 100000 in
theorem w_X11_dies_108 {R : Int32} {M' : Mem}  (x5 x6 : Int32) (M : Mem) (hF : f_X11_dies_108 x5 x6 M = some (R, M')) : RunF l D cy ad none YX11_dies 406 0 0 (some (.int R)) (lay X M') 0 0 108 [(0, .ref 174), (5, .int x5), (6, .int x6)] [] (lay X M) := by
  unfold f_X11_dies_108 at hF
  refine g_aload_n (Y := YX11_dies) (pc := 108) 0 dX11_dies_108 rfl ?_
  refine g_iconst (Y := YX11_dies) (pc := 109) dX11_dies_109 kI_0 ?_
  refine u_putI (Y := YX11_dies) (pc := 110) dX11_dies_110 fl_X11_103  k_174 ?_
  refine g_nmM (fun M23 e => ?_)
  replace hF := ml_to e hF; clear e
  refine g_aload_n (Y := YX11_dies) (pc := 113) 0 dX11_dies_113 rfl ?_
  refine g_iload (Y := YX11_dies) (pc := 114) 2 dX11_dies_114 rfl ?_
  obtain ⟨r24, M25, e26, hF⟩ := bd_some hF
  refine s_callVv (Y := YX11_dies) (pc := 116) (as := [.int x6]) (st := []) (r_X11_tell  e26) miX11_tell lk_X11_300 dX11_dies_116 k_174 rfl (Nat.le_of_ble_eq_true rfl) (Nat.le_of_ble_eq_true rfl) rfl ?_
  clear e26
  refine g_iload (Y := YX11_dies) (pc := 119) 1 dX11_dies_119 rfl ?_
  exact s_iret (Y := YX11_dies) (pc := 121) dX11_dies_121 rfl hF
def f_X11_dies_73  : Nat → Int32 → Int32 → Int32 → Int32 → Int32 → Mem → Option (Int32 × Mem)
  | 0, _, _, _, _, _, _ => none
  | n + 1, x2, x4, x5, x6, x7, M =>
    if 0 < x7 then
      if x5 < 20 then
        vl (x5 + 1) fun v28 =>
        vl ((if (0 : Int32) < ((x7 - x2) + x4) then ((x7 - x2) + x4) else (0 : Int32))) fun v29 =>
        f_X11_dies_73 n x2 x4 v28 x7 v29 M
      else
        f_X11_dies_108 x5 x6 M
    else
      f_X11_dies_108 x5 x6 M
set_option maxRecDepth 100000 in
theorem w_X11_dies_73 {R : Int32} {M' : Mem}  : ∀ (n : Nat) (x2 x4 x5 x6 x7 : Int32) (M : Mem), f_X11_dies_73 n x2 x4 x5 x6 x7 M = some (R, M') → RunF l D cy ad none YX11_dies 406 0 0 (some (.int R)) (lay X M') 0 0 73 [(0, .ref 174), (2, .int x2), (4, .int x4), (5, .int x5), (6, .int x6), (7, .int x7)] [] (lay X M) := by
  intro n
  induction n with
  | zero => intro x2 x4 x5 x6 x7 M hF; exact absurd hF (by unfold f_X11_dies_73; exact fun h => nomatch h)
  | succ n ih =>
    intro x2 x4 x5 x6 x7 M hF
    unfold f_X11_dies_73 at hF
    refine g_iload (Y := YX11_dies) (pc := 73) 5 dX11_dies_73 rfl ?_
    refine g_if_le (Y := YX11_dies) (pc := 75) (tgt := 108) dX11_dies_75 rfl (fun c22 => ?_) (fun c22 => ?_)
    · replace hF := if_f c22 hF
      refine g_loc [0, 3, 4] rfl ?_
      exact w_X11_dies_108  _ _ _ hF
    · replace hF := if_t c22 hF
      refine g_iload (Y := YX11_dies) (pc := 78) 3 dX11_dies_78 rfl ?_
      refine g_bipush (Y := YX11_dies) (pc := 80) dX11_dies_80 kB_20 ?_
      refine g_icmp_ge (Y := YX11_dies) (pc := 82) (tgt := 108) dX11_dies_82 rfl (fun c27 => ?_) (fun c27 => ?_)
      · replace hF := if_f c27 hF
        refine g_loc [0, 3, 4] rfl ?_
        exact w_X11_dies_108  _ _ _ hF
      · replace hF := if_t c27 hF
        refine s_iinc (Y := YX11_dies) (pc := 85) (j := 3) (L' := fun y => [(5, .int y), (0, .ref 174), (2, .int x2), (4, .int x4), (6, .int x6), (7, .int x7)]) dX11_dies_85 kI_1 rfl (Nat.le_of_ble_eq_true rfl) (fun _ => rfl) (fun v28 e => ?_)
        replace hF := vl_to e hF; clear e
        refine g_iload (Y := YX11_dies) (pc := 88) 5 dX11_dies_88 rfl ?_
        refine g_istore (Y := YX11_dies) (pc := 90) (L' := [(6, .int x7), (5, .int v28), (0, .ref 174), (2, .int x2), (4, .int x4), (7, .int x7)]) dX11_dies_90 (Nat.le_of_ble_eq_true rfl) rfl ?_
        refine g_iconst (Y := YX11_dies) (pc := 92) dX11_dies_92 kI_0 ?_
        refine g_iload (Y := YX11_dies) (pc := 93) 5 dX11_dies_93 rfl ?_
        refine g_iload_n (Y := YX11_dies) (pc := 95) 3 dX11_dies_95 rfl ?_
        refine g_isub (Y := YX11_dies) (pc := 96) dX11_dies_96 ?_
        refine g_iload (Y := YX11_dies) (pc := 97) 4 dX11_dies_97 rfl ?_
        refine g_iadd (Y := YX11_dies) (pc := 99) dX11_dies_99 ?_
        refine s_max (Y := YX11_dies) (pc := 100) dX11_dies_100 lk_X11_218 w_max (Nat.le_of_ble_eq_true rfl) (Nat.le_of_ble_eq_true rfl) ?_
        refine g_nm (fun v29 e => ?_)
        replace hF := vl_to e hF; clear e
        refine g_istore (Y := YX11_dies) (pc := 103) (L' := [(7, .int v29), (6, .int x7), (5, .int v28), (0, .ref 174), (2, .int x2), (4, .int x4)]) dX11_dies_103 (Nat.le_of_ble_eq_true rfl) rfl ?_
        refine g_goto (Y := YX11_dies) (pc := 105) (tgt := 73) dX11_dies_105 rfl ?_
        refine g_loc [3, 4, 5, 2, 1, 0] rfl ?_
        exact ih _ _ _ _ _ _ hF
def f_X11_dies_0  (x1 : Int32) (x2 : Int32) (x3 : Int32) (M : Mem) : Option (Int32 × Mem) :=
  ml (up M 174 14 0) fun M1 =>
  bd (f_X11_isGroup x1 M1) fun r2 M3 =>
  if r2 = 0 then
    f_X11_dies_33 M3
  else
    bd (f_X11_in x2 1 60 M3) fun r6 M7 =>
    if r6 = 0 then
      f_X11_dies_33 M7
    else
      bd (f_X11_in x3 1 60 M7) fun r10 M11 =>
      if r10 = 0 then
        f_X11_dies_33 M11
      else
        bd (f_X11_layStays M11) fun _ M15 =>
        bd (f_X11_everyOf x1 M15) fun r17 M18 =>
        if x2 < r17 then
          some ((-2), M18)
        else
          vl ((if (0 : Int32) < ((x3 - x2) + r17) then ((x3 - x2) + r17) else (0 : Int32))) fun v21 =>
          f_X11_dies_73 FU x2 r17 0 0 v21 M18
set_option maxRecDepth 100000 in
theorem w_X11_dies_0 {R : Int32} {M' : Mem}  (x1 x2 x3 : Int32) (M : Mem) (hF : f_X11_dies_0 x1 x2 x3 M = some (R, M')) : RunF l D cy ad none YX11_dies 406 0 0 (some (.int R)) (lay X M') 0 0 0 [(0, .ref 174), (1, .int x1), (2, .int x2), (3, .int x3)] [] (lay X M) := by
  unfold f_X11_dies_0 at hF
  refine g_aload_n (Y := YX11_dies) (pc := 0) 0 dX11_dies_0 rfl ?_
  refine g_iconst (Y := YX11_dies) (pc := 1) dX11_dies_1 kI_0 ?_
  refine u_putI (Y := YX11_dies) (pc := 2) dX11_dies_2 fl_X11_99  k_174 ?_
  refine g_nmM (fun M1 e => ?_)
  replace hF := ml_to e hF; clear e
  refine g_aload_n (Y := YX11_dies) (pc := 5) 0 dX11_dies_5 rfl ?_
  refine g_iload_n (Y := YX11_dies) (pc := 6) 1 dX11_dies_6 rfl ?_
  obtain ⟨r2, M3, e4, hF⟩ := bd_some hF
  refine s_callVi (Y := YX11_dies) (pc := 7) (as := [.int x1]) (st := []) (r_X11_isGroup  e4) miX11_isGroup lk_X11_228 dX11_dies_7 k_174 rfl (Nat.le_of_ble_eq_true rfl) (Nat.le_of_ble_eq_true rfl) rfl ?_
  clear e4
  refine g_if_eq (Y := YX11_dies) (pc := 10) (tgt := 33) dX11_dies_10 rfl (fun c5 => ?_) (fun c5 => ?_)
  · replace hF := if_t c5 hF
    refine g_loc [] rfl ?_
    exact w_X11_dies_33  _ hF
  · replace hF := if_f c5 hF
    refine g_iload_n (Y := YX11_dies) (pc := 13) 2 dX11_dies_13 rfl ?_
    refine g_iconst (Y := YX11_dies) (pc := 14) dX11_dies_14 kI_1 ?_
    refine g_bipush (Y := YX11_dies) (pc := 15) dX11_dies_15 kB_60 ?_
    obtain ⟨r6, M7, e8, hF⟩ := bd_some hF
    refine s_callSi (Y := YX11_dies) (pc := 17) (as := [.int x2, .int 1, .int 60]) (st := []) (r_X11_in  e8) msX11_in lk_X11_109 dX11_dies_17 rfl (Nat.le_of_ble_eq_true rfl) (Nat.le_of_ble_eq_true rfl) rfl ?_
    clear e8
    refine g_if_eq (Y := YX11_dies) (pc := 20) (tgt := 33) dX11_dies_20 rfl (fun c9 => ?_) (fun c9 => ?_)
    · replace hF := if_t c9 hF
      refine g_loc [] rfl ?_
      exact w_X11_dies_33  _ hF
    · replace hF := if_f c9 hF
      refine g_iload_n (Y := YX11_dies) (pc := 23) 3 dX11_dies_23 rfl ?_
      refine g_iconst (Y := YX11_dies) (pc := 24) dX11_dies_24 kI_1 ?_
      refine g_bipush (Y := YX11_dies) (pc := 25) dX11_dies_25 kB_60 ?_
      obtain ⟨r10, M11, e12, hF⟩ := bd_some hF
      refine s_callSi (Y := YX11_dies) (pc := 27) (as := [.int x3, .int 1, .int 60]) (st := []) (r_X11_in  e12) msX11_in lk_X11_109 dX11_dies_27 rfl (Nat.le_of_ble_eq_true rfl) (Nat.le_of_ble_eq_true rfl) rfl ?_
      clear e12
      refine g_if_ne (Y := YX11_dies) (pc := 30) (tgt := 35) dX11_dies_30 rfl (fun c13 => ?_) (fun c13 => ?_)
      · replace hF := if_f c13 hF
        refine g_aload_n (Y := YX11_dies) (pc := 35) 0 dX11_dies_35 rfl ?_
        obtain ⟨r14, M15, e16, hF⟩ := bd_some hF
        refine s_callVv (Y := YX11_dies) (pc := 36) (as := []) (st := []) (r_X11_layStays  e16) miX11_layStays lk_X11_271 dX11_dies_36 k_174 rfl (Nat.le_of_ble_eq_true rfl) (Nat.le_of_ble_eq_true rfl) rfl ?_
        clear e16
        refine g_aload_n (Y := YX11_dies) (pc := 39) 0 dX11_dies_39 rfl ?_
        refine g_iload_n (Y := YX11_dies) (pc := 40) 1 dX11_dies_40 rfl ?_
        obtain ⟨r17, M18, e19, hF⟩ := bd_some hF
        refine s_callVi (Y := YX11_dies) (pc := 41) (as := [.int x1]) (st := []) (r_X11_everyOf  e19) miX11_everyOf lk_X11_372 dX11_dies_41 k_174 rfl (Nat.le_of_ble_eq_true rfl) (Nat.le_of_ble_eq_true rfl) rfl ?_
        clear e19
        refine g_istore (Y := YX11_dies) (pc := 44) (L' := [(4, .int r17), (0, .ref 174), (1, .int x1), (2, .int x2), (3, .int x3)]) dX11_dies_44 (Nat.le_of_ble_eq_true rfl) rfl ?_
        refine g_iload_n (Y := YX11_dies) (pc := 46) 3 dX11_dies_46 rfl ?_
        refine g_iload (Y := YX11_dies) (pc := 47) 0 dX11_dies_47 rfl ?_
        refine g_icmp_ge (Y := YX11_dies) (pc := 49) (tgt := 55) dX11_dies_49 rfl (fun c20 => ?_) (fun c20 => ?_)
        · replace hF := if_f c20 hF
          refine g_iconst (Y := YX11_dies) (pc := 55) dX11_dies_55 kI_0 ?_
          refine g_istore (Y := YX11_dies) (pc := 56) (L' := [(5, .int 0), (4, .int r17), (0, .ref 174), (1, .int x1), (2, .int x2), (3, .int x3)]) dX11_dies_56 (Nat.le_of_ble_eq_true rfl) rfl ?_
          refine g_iconst (Y := YX11_dies) (pc := 58) dX11_dies_58 kI_0 ?_
          refine g_istore (Y := YX11_dies) (pc := 59) (L' := [(6, .int 0), (5, .int 0), (4, .int r17), (0, .ref 174), (1, .int x1), (2, .int x2), (3, .int x3)]) dX11_dies_59 (Nat.le_of_ble_eq_true rfl) rfl ?_
          refine g_iconst (Y := YX11_dies) (pc := 61) dX11_dies_61 kI_0 ?_
          refine g_iload_n (Y := YX11_dies) (pc := 62) 6 dX11_dies_62 rfl ?_
          refine g_iload_n (Y := YX11_dies) (pc := 63) 5 dX11_dies_63 rfl ?_
          refine g_isub (Y := YX11_dies) (pc := 64) dX11_dies_64 ?_
          refine g_iload (Y := YX11_dies) (pc := 65) 2 dX11_dies_65 rfl ?_
          refine g_iadd (Y := YX11_dies) (pc := 67) dX11_dies_67 ?_
          refine s_max (Y := YX11_dies) (pc := 68) dX11_dies_68 lk_X11_218 w_max (Nat.le_of_ble_eq_true rfl) (Nat.le_of_ble_eq_true rfl) ?_
          refine g_nm (fun v21 e => ?_)
          replace hF := vl_to e hF; clear e
          refine g_istore (Y := YX11_dies) (pc := 71) (L' := [(7, .int v21), (6, .int 0), (5, .int 0), (4, .int r17), (0, .ref 174), (1, .int x1), (2, .int x2), (3, .int x3)]) dX11_dies_71 (Nat.le_of_ble_eq_true rfl) rfl ?_
          refine g_loc [4, 6, 3, 2, 1, 0] rfl ?_
          exact w_X11_dies_73  _ _ _ _ _ _ _ hF
        · replace hF := if_t c20 hF
          refine g_bipush (Y := YX11_dies) (pc := 52) dX11_dies_52 kB_m2 ?_
          exact s_iret (Y := YX11_dies) (pc := 54) dX11_dies_54 rfl hF
      · replace hF := if_t c13 hF
        refine g_loc [] rfl ?_
        exact w_X11_dies_33  _ hF
def f_X11_dies (x1 : Int32) (x2 : Int32) (x3 : Int32) (M : Mem) : Option (Int32 × Mem) := f_X11_dies_0 x1 x2 x3 M
theorem r_X11_dies {x1 x2 x3 R : Int32} {M M' : Mem}  (hF : f_X11_dies x1 x2 x3 M = some (R, M')) : RunS l D cy ad YX11_dies 406 [.ref 174, .int x1, .int x2, .int x3] X M (some (.int R)) M' := Run.of 3 (miX11_dies).1 (Nat.le_of_ble_eq_true rfl) (w_X11_dies_0  _ _ _ _ hF)
def f_X11_canJoin_53  (t0 : Int32) (M : Mem) : Option (Int32 × Mem) :=
  gd (t0 = 0 ∨ t0 = 1) <|
  some (t0, M)
set_option maxRecDepth 100000 in
theorem w_X11_canJoin_53 {R : Int32} {M' : Mem}  (t0 : Int32) (M : Mem) (hF : f_X11_canJoin_53 t0 M = some (R, M')) : RunF l D cy ad none YX11_canJoin 0 0 0 (some (.int R)) (lay X M') 0 0 53 [] [.int t0] (lay X M) := by
  unfold f_X11_canJoin_53 at hF
  obtain ⟨g4, hF⟩ := gd_some hF
  exact s_zret (Y := YX11_canJoin) (pc := 53) dX11_canJoin_53 rfl g4 hF
def f_X11_canJoin_52  (M : Mem) : Option (Int32 × Mem) :=
  f_X11_canJoin_53 0 M
set_option maxRecDepth 100000 in
theorem w_X11_canJoin_52 {R : Int32} {M' : Mem}  (M : Mem) (hF : f_X11_canJoin_52  M = some (R, M')) : RunF l D cy ad none YX11_canJoin 0 0 0 (some (.int R)) (lay X M') 0 0 52 [] [] (lay X M) := by
  unfold f_X11_canJoin_52 at hF
  refine g_iconst (Y := YX11_canJoin) (pc := 52) dX11_canJoin_52 kI_0 ?_
  exact w_X11_canJoin_53  _ _ hF
def f_X11_canJoin_0  (x1 : Int32) (x2 : Int32) (M : Mem) : Option (Int32 × Mem) :=
  gd (0 ≤ x1 ∧ x1.toNatClampNeg < 6) <|
  gd (0 ≤ x2 ∧ x2.toNatClampNeg < 6) <|
  if (M 178 x1.toNatClampNeg) = (M 178 x2.toNatClampNeg) then
    gd (0 ≤ x1 ∧ x1.toNatClampNeg < 6) <|
    gd (0 ≤ x2 ∧ x2.toNatClampNeg < 6) <|
    if (M 180 x1.toNatClampNeg) = (M 180 x2.toNatClampNeg) then
      gd (0 ≤ x1 ∧ x1.toNatClampNeg < 6) <|
      gd (0 ≤ x2 ∧ x2.toNatClampNeg < 6) <|
      vl (((M 179 x1.toNatClampNeg) + (M 179 x2.toNatClampNeg))) fun v10 =>
      if 40 < v10 then
        f_X11_canJoin_52 M
      else
        f_X11_canJoin_53 1 M
    else
      f_X11_canJoin_52 M
  else
    f_X11_canJoin_52 M
set_option maxRecDepth 100000 in
theorem w_X11_canJoin_0 {R : Int32} {M' : Mem}  (x1 x2 : Int32) (M : Mem) (hF : f_X11_canJoin_0 x1 x2 M = some (R, M')) : RunF l D cy ad none YX11_canJoin 0 0 0 (some (.int R)) (lay X M') 0 0 0 [(0, .ref 174), (1, .int x1), (2, .int x2)] [] (lay X M) := by
  unfold f_X11_canJoin_0 at hF
  refine g_aload_n (Y := YX11_canJoin) (pc := 0) 0 dX11_canJoin_0 rfl ?_
  refine u_getR (Y := YX11_canJoin) (pc := 1) (j := 178) dX11_canJoin_1 fl_X11_20 k_174 rf_174_5 ?_
  refine g_iload_n (Y := YX11_canJoin) (pc := 4) 1 dX11_canJoin_4 rfl ?_
  obtain ⟨g1, hF⟩ := gd_some hF
  refine s_iald (Y := YX11_canJoin) (pc := 5) dX11_canJoin_5 k_178 n_178 g1 ?_
  refine g_aload_n (Y := YX11_canJoin) (pc := 6) 0 dX11_canJoin_6 rfl ?_
  refine u_getR (Y := YX11_canJoin) (pc := 7) (j := 178) dX11_canJoin_7 fl_X11_20 k_174 rf_174_5 ?_
  refine g_iload_n (Y := YX11_canJoin) (pc := 10) 2 dX11_canJoin_10 rfl ?_
  obtain ⟨g2, hF⟩ := gd_some hF
  refine s_iald (Y := YX11_canJoin) (pc := 11) dX11_canJoin_11 k_178 n_178 g2 ?_
  refine g_icmp_ne (Y := YX11_canJoin) (pc := 12) (tgt := 52) dX11_canJoin_12 rfl (fun c3 => ?_) (fun c3 => ?_)
  · replace hF := if_f c3 hF
    refine g_loc [] rfl ?_
    exact w_X11_canJoin_52  _ hF
  · replace hF := if_t c3 hF
    refine g_aload_n (Y := YX11_canJoin) (pc := 15) 0 dX11_canJoin_15 rfl ?_
    refine u_getR (Y := YX11_canJoin) (pc := 16) (j := 180) dX11_canJoin_16 fl_X11_26 k_174 rf_174_7 ?_
    refine g_iload_n (Y := YX11_canJoin) (pc := 19) 1 dX11_canJoin_19 rfl ?_
    obtain ⟨g5, hF⟩ := gd_some hF
    refine s_zald (Y := YX11_canJoin) (pc := 20) dX11_canJoin_20 k_180 n_180 g5 ?_
    refine g_aload_n (Y := YX11_canJoin) (pc := 21) 0 dX11_canJoin_21 rfl ?_
    refine u_getR (Y := YX11_canJoin) (pc := 22) (j := 180) dX11_canJoin_22 fl_X11_26 k_174 rf_174_7 ?_
    refine g_iload_n (Y := YX11_canJoin) (pc := 25) 2 dX11_canJoin_25 rfl ?_
    obtain ⟨g6, hF⟩ := gd_some hF
    refine s_zald (Y := YX11_canJoin) (pc := 26) dX11_canJoin_26 k_180 n_180 g6 ?_
    refine g_icmp_ne (Y := YX11_canJoin) (pc := 27) (tgt := 52) dX11_canJoin_27 rfl (fun c7 => ?_) (fun c7 => ?_)
    · replace hF := if_f c7 hF
      refine g_loc [] rfl ?_
      exact w_X11_canJoin_52  _ hF
    · replace hF := if_t c7 hF
      refine g_aload_n (Y := YX11_canJoin) (pc := 30) 0 dX11_canJoin_30 rfl ?_
      refine u_getR (Y := YX11_canJoin) (pc := 31) (j := 179) dX11_canJoin_31 fl_X11_23 k_174 rf_174_6 ?_
      refine g_iload_n (Y := YX11_canJoin) (pc := 34) 1 dX11_canJoin_34 rfl ?_
      obtain ⟨g8, hF⟩ := gd_some hF
      refine s_iald (Y := YX11_canJoin) (pc := 35) dX11_canJoin_35 k_179 n_179 g8 ?_
      refine g_aload_n (Y := YX11_canJoin) (pc := 36) 0 dX11_canJoin_36 rfl ?_
      refine u_getR (Y := YX11_canJoin) (pc := 37) (j := 179) dX11_canJoin_37 fl_X11_23 k_174 rf_174_6 ?_
      refine g_iload_n (Y := YX11_canJoin) (pc := 40) 2 dX11_canJoin_40 rfl ?_
      obtain ⟨g9, hF⟩ := gd_some hF
      refine s_iald (Y := YX11_canJoin) (pc := 41) dX11_canJoin_41 k_179 n_179 g9 ?_
      refine g_iadd (Y := YX11_canJoin) (pc := 42) dX11_canJoin_42 ?_
      refine g_nm (fun v10 e => ?_)
      replace hF := vl_to e hF; clear e
      refine g_bipush (Y := YX11_canJoin) (pc := 43) dX11_canJoin_43 kB_40 ?_
      refine g_icmp_gt (Y := YX11_canJoin) (pc := 45) (tgt := 52) dX11_canJoin_45 rfl (fun c11 => ?_) (fun c11 => ?_)
      · replace hF := if_t c11 hF
        refine g_loc [] rfl ?_
        exact w_X11_canJoin_52  _ hF
      · replace hF := if_f c11 hF
        refine g_iconst (Y := YX11_canJoin) (pc := 48) dX11_canJoin_48 kI_1 ?_
        refine g_goto (Y := YX11_canJoin) (pc := 49) (tgt := 53) dX11_canJoin_49 rfl ?_
        refine g_loc [] rfl ?_
        exact w_X11_canJoin_53  _ _ hF
def f_X11_canJoin (x1 : Int32) (x2 : Int32) (M : Mem) : Option (Int32 × Mem) := f_X11_canJoin_0 x1 x2 M
theorem r_X11_canJoin {x1 x2 R : Int32} {M M' : Mem}  (hF : f_X11_canJoin x1 x2 M = some (R, M')) : RunS l D cy ad YX11_canJoin 0 [.ref 174, .int x1, .int x2] X M (some (.int R)) M' := Run.of 2 (miX11_canJoin).1 (Nat.le_of_ble_eq_true rfl) (w_X11_canJoin_0  _ _ _ hF)
def f_X11_lossOf_69 (K5 : Int32 → Int32 → Int32 → Int32 → Mem → Option (Int32 × Mem)) (x1 : Int32) (x2 : Int32) (x4 : Int32) (t1 : Int32) (t0 : Int32) (M : Mem) : Option (Int32 × Mem) :=
  vl ((t1 + t0)) fun v7 =>
  vl (x4 + 1) fun v8 =>
  K5 x1 x2 v7 v8 M
set_option maxRecDepth 100000 in
theorem w_X11_lossOf_69 {R : Int32} {M' : Mem} {K5 : Int32 → Int32 → Int32 → Int32 → Mem → Option (Int32 × Mem)} (hK5 : ∀ (x1 x2 x3 x4 : Int32) (M : Mem), K5 x1 x2 x3 x4 M = some (R, M') → RunF l D cy ad none YX11_lossOf 0 0 0 (some (.int R)) (lay X M') 0 0 5 [(0, .ref 174), (1, .int x1), (2, .int x2), (3, .int x3), (4, .int x4)] [] (lay X M)) (x1 x2 x4 t1 t0 : Int32) (M : Mem) (hF : f_X11_lossOf_69 K5 x1 x2 x4 t1 t0 M = some (R, M')) : RunF l D cy ad none YX11_lossOf 0 0 0 (some (.int R)) (lay X M') 0 0 69 [(0, .ref 174), (1, .int x1), (2, .int x2), (4, .int x4)] [.int t0, .int t1] (lay X M) := by
  unfold f_X11_lossOf_69 at hF
  refine g_iadd (Y := YX11_lossOf) (pc := 69) dX11_lossOf_69 ?_
  refine g_nm (fun v7 e => ?_)
  replace hF := vl_to e hF; clear e
  refine g_istore_n (Y := YX11_lossOf) (pc := 70) (L' := [(3, .int v7), (0, .ref 174), (1, .int x1), (2, .int x2), (4, .int x4)]) dX11_lossOf_70 (Nat.le_of_ble_eq_true rfl) rfl ?_
  refine s_iinc (Y := YX11_lossOf) (pc := 71) (j := 4) (L' := fun y => [(4, .int y), (3, .int v7), (0, .ref 174), (1, .int x1), (2, .int x2)]) dX11_lossOf_71 kI_1 rfl (Nat.le_of_ble_eq_true rfl) (fun _ => rfl) (fun v8 e => ?_)
  replace hF := vl_to e hF; clear e
  refine g_goto (Y := YX11_lossOf) (pc := 74) (tgt := 5) dX11_lossOf_74 rfl ?_
  refine g_loc [2, 3, 4, 1, 0] rfl ?_
  exact hK5 _ _ _ _ _ hF
def f_X11_lossOf_5  : Nat → Int32 → Int32 → Int32 → Int32 → Mem → Option (Int32 × Mem)
  | 0, _, _, _, _, _ => none
  | n + 1, x1, x2, x3, x4, M =>
    if x4 < (M 174 1) then
      gd (0 ≤ ((6 * x1) + x4) ∧ ((6 * x1) + x4).toNatClampNeg < 36) <|
      gd (0 ≤ ((6 * x2) + x4) ∧ ((6 * x2) + x4).toNatClampNeg < 36) <|
      vl (((M 187 ((6 * x1) + x4).toNatClampNeg) - (M 187 ((6 * x2) + x4).toNatClampNeg))) fun v4 =>
      if v4 < 0 then
        gd (0 ≤ x1 ∧ x1.toNatClampNeg < 6) <|
        f_X11_lossOf_69 (f_X11_lossOf_5 n) x1 x2 x4 x3 ((-v4) * (M 179 x1.toNatClampNeg)) M
      else
        gd (0 ≤ x2 ∧ x2.toNatClampNeg < 6) <|
        f_X11_lossOf_69 (f_X11_lossOf_5 n) x1 x2 x4 x3 (v4 * (M 179 x2.toNatClampNeg)) M
    else
      some (x3, M)
set_option maxRecDepth 100000 in
theorem w_X11_lossOf_5 {R : Int32} {M' : Mem}  : ∀ (n : Nat) (x1 x2 x3 x4 : Int32) (M : Mem), f_X11_lossOf_5 n x1 x2 x3 x4 M = some (R, M') → RunF l D cy ad none YX11_lossOf 0 0 0 (some (.int R)) (lay X M') 0 0 5 [(0, .ref 174), (1, .int x1), (2, .int x2), (3, .int x3), (4, .int x4)] [] (lay X M) := by
  intro n
  induction n with
  | zero => intro x1 x2 x3 x4 M hF; exact absurd hF (by unfold f_X11_lossOf_5; exact fun h => nomatch h)
  | succ n ih =>
    intro x1 x2 x3 x4 M hF
    unfold f_X11_lossOf_5 at hF
    refine g_iload (Y := YX11_lossOf) (pc := 5) 4 dX11_lossOf_5 rfl ?_
    refine g_aload_n (Y := YX11_lossOf) (pc := 7) 0 dX11_lossOf_7 rfl ?_
    refine u_getI (Y := YX11_lossOf) (pc := 8) dX11_lossOf_8 fl_X11_106 k_174 ?_
    refine g_icmp_ge (Y := YX11_lossOf) (pc := 11) (tgt := 77) dX11_lossOf_11 rfl (fun c1 => ?_) (fun c1 => ?_)
    · replace hF := if_f c1 hF
      refine g_iload_n (Y := YX11_lossOf) (pc := 77) 3 dX11_lossOf_77 rfl ?_
      exact s_iret (Y := YX11_lossOf) (pc := 78) dX11_lossOf_78 rfl hF
    · replace hF := if_t c1 hF
      refine g_aload_n (Y := YX11_lossOf) (pc := 14) 0 dX11_lossOf_14 rfl ?_
      refine u_getR (Y := YX11_lossOf) (pc := 15) (j := 187) dX11_lossOf_15 fl_X11_48 k_174 rf_174_26 ?_
      refine g_bipush (Y := YX11_lossOf) (pc := 18) dX11_lossOf_18 kB_6 ?_
      refine g_iload_n (Y := YX11_lossOf) (pc := 20) 1 dX11_lossOf_20 rfl ?_
      refine g_imul (Y := YX11_lossOf) (pc := 21) dX11_lossOf_21 ?_
      refine g_iload (Y := YX11_lossOf) (pc := 22) 4 dX11_lossOf_22 rfl ?_
      refine g_iadd (Y := YX11_lossOf) (pc := 24) dX11_lossOf_24 ?_
      obtain ⟨g2, hF⟩ := gd_some hF
      refine s_iald (Y := YX11_lossOf) (pc := 25) dX11_lossOf_25 k_187 n_187 g2 ?_
      refine g_aload_n (Y := YX11_lossOf) (pc := 26) 0 dX11_lossOf_26 rfl ?_
      refine u_getR (Y := YX11_lossOf) (pc := 27) (j := 187) dX11_lossOf_27 fl_X11_48 k_174 rf_174_26 ?_
      refine g_bipush (Y := YX11_lossOf) (pc := 30) dX11_lossOf_30 kB_6 ?_
      refine g_iload_n (Y := YX11_lossOf) (pc := 32) 2 dX11_lossOf_32 rfl ?_
      refine g_imul (Y := YX11_lossOf) (pc := 33) dX11_lossOf_33 ?_
      refine g_iload (Y := YX11_lossOf) (pc := 34) 4 dX11_lossOf_34 rfl ?_
      refine g_iadd (Y := YX11_lossOf) (pc := 36) dX11_lossOf_36 ?_
      obtain ⟨g3, hF⟩ := gd_some hF
      refine s_iald (Y := YX11_lossOf) (pc := 37) dX11_lossOf_37 k_187 n_187 g3 ?_
      refine g_isub (Y := YX11_lossOf) (pc := 38) dX11_lossOf_38 ?_
      refine g_nm (fun v4 e => ?_)
      replace hF := vl_to e hF; clear e
      refine g_istore (Y := YX11_lossOf) (pc := 39) (L' := [(5, .int v4), (0, .ref 174), (1, .int x1), (2, .int x2), (3, .int x3), (4, .int x4)]) dX11_lossOf_39 (Nat.le_of_ble_eq_true rfl) rfl ?_
      refine g_iload_n (Y := YX11_lossOf) (pc := 41) 4 dX11_lossOf_41 rfl ?_
      refine g_iload (Y := YX11_lossOf) (pc := 42) 0 dX11_lossOf_42 rfl ?_
      refine g_if_ge (Y := YX11_lossOf) (pc := 44) (tgt := 60) dX11_lossOf_44 rfl (fun c5 => ?_) (fun c5 => ?_)
      · replace hF := if_f c5 hF
        refine g_iload (Y := YX11_lossOf) (pc := 60) 0 dX11_lossOf_60 rfl ?_
        refine g_aload_n (Y := YX11_lossOf) (pc := 62) 1 dX11_lossOf_62 rfl ?_
        refine u_getR (Y := YX11_lossOf) (pc := 63) (j := 179) dX11_lossOf_63 fl_X11_23 k_174 rf_174_6 ?_
        refine g_iload_n (Y := YX11_lossOf) (pc := 66) 3 dX11_lossOf_66 rfl ?_
        obtain ⟨g6, hF⟩ := gd_some hF
        refine s_iald (Y := YX11_lossOf) (pc := 67) dX11_lossOf_67 k_179 n_179 g6 ?_
        refine g_imul (Y := YX11_lossOf) (pc := 68) dX11_lossOf_68 ?_
        refine g_loc [1, 2, 3, 5] rfl ?_
        exact w_X11_lossOf_69 ih _ _ _ _ _ _ hF
      · replace hF := if_t c5 hF
        refine g_iload (Y := YX11_lossOf) (pc := 47) 0 dX11_lossOf_47 rfl ?_
        refine g_ineg (Y := YX11_lossOf) (pc := 49) dX11_lossOf_49 ?_
        refine g_aload_n (Y := YX11_lossOf) (pc := 50) 1 dX11_lossOf_50 rfl ?_
        refine u_getR (Y := YX11_lossOf) (pc := 51) (j := 179) dX11_lossOf_51 fl_X11_23 k_174 rf_174_6 ?_
        refine g_iload_n (Y := YX11_lossOf) (pc := 54) 2 dX11_lossOf_54 rfl ?_
        obtain ⟨g9, hF⟩ := gd_some hF
        refine s_iald (Y := YX11_lossOf) (pc := 55) dX11_lossOf_55 k_179 n_179 g9 ?_
        refine g_imul (Y := YX11_lossOf) (pc := 56) dX11_lossOf_56 ?_
        refine g_goto (Y := YX11_lossOf) (pc := 57) (tgt := 69) dX11_lossOf_57 rfl ?_
        refine g_loc [1, 2, 3, 5] rfl ?_
        exact w_X11_lossOf_69 ih _ _ _ _ _ _ hF
def f_X11_lossOf_0  (x1 : Int32) (x2 : Int32) (M : Mem) : Option (Int32 × Mem) :=
  f_X11_lossOf_5 FU x1 x2 0 0 M
set_option maxRecDepth 100000 in
theorem w_X11_lossOf_0 {R : Int32} {M' : Mem}  (x1 x2 : Int32) (M : Mem) (hF : f_X11_lossOf_0 x1 x2 M = some (R, M')) : RunF l D cy ad none YX11_lossOf 0 0 0 (some (.int R)) (lay X M') 0 0 0 [(0, .ref 174), (1, .int x1), (2, .int x2)] [] (lay X M) := by
  unfold f_X11_lossOf_0 at hF
  refine g_iconst (Y := YX11_lossOf) (pc := 0) dX11_lossOf_0 kI_0 ?_
  refine g_istore_n (Y := YX11_lossOf) (pc := 1) (L' := [(3, .int 0), (0, .ref 174), (1, .int x1), (2, .int x2)]) dX11_lossOf_1 (Nat.le_of_ble_eq_true rfl) rfl ?_
  refine g_iconst (Y := YX11_lossOf) (pc := 2) dX11_lossOf_2 kI_0 ?_
  refine g_istore (Y := YX11_lossOf) (pc := 3) (L' := [(4, .int 0), (3, .int 0), (0, .ref 174), (1, .int x1), (2, .int x2)]) dX11_lossOf_3 (Nat.le_of_ble_eq_true rfl) rfl ?_
  refine g_loc [2, 3, 4, 1, 0] rfl ?_
  exact w_X11_lossOf_5  _ _ _ _ _ _ hF
def f_X11_lossOf (x1 : Int32) (x2 : Int32) (M : Mem) : Option (Int32 × Mem) := f_X11_lossOf_0 x1 x2 M
theorem r_X11_lossOf {x1 x2 R : Int32} {M M' : Mem}  (hF : f_X11_lossOf x1 x2 M = some (R, M')) : RunS l D cy ad YX11_lossOf 0 [.ref 174, .int x1, .int x2] X M (some (.int R)) M' := Run.of 2 (miX11_lossOf).1 (Nat.le_of_ble_eq_true rfl) (w_X11_lossOf_0  _ _ _ hF)
def f_X11_loss_0  (x1 : Int32) (x2 : Int32) (M : Mem) : Option (Int32 × Mem) :=
  ml (up M 174 14 0) fun M1 =>
  bd (f_X11_areTwo x1 x2 M1) fun r2 M3 =>
  if r2 = 0 then
    some ((-1), M3)
  else
    bd (f_X11_canJoin x1 x2 M3) fun r6 M7 =>
    if r6 = 0 then
      some ((-2), M7)
    else
      bd (f_X11_layStays M7) fun _ M11 =>
      bd (f_X11_lossOf x1 x2 M11) fun r13 M14 =>
      some (r13, M14)
set_option maxRecDepth 100000 in
theorem w_X11_loss_0 {R : Int32} {M' : Mem}  (x1 x2 : Int32) (M : Mem) (hF : f_X11_loss_0 x1 x2 M = some (R, M')) : RunF l D cy ad none YX11_loss 406 0 0 (some (.int R)) (lay X M') 0 0 0 [(0, .ref 174), (1, .int x1), (2, .int x2)] [] (lay X M) := by
  unfold f_X11_loss_0 at hF
  refine g_aload_n (Y := YX11_loss) (pc := 0) 0 dX11_loss_0 rfl ?_
  refine g_iconst (Y := YX11_loss) (pc := 1) dX11_loss_1 kI_0 ?_
  refine u_putI (Y := YX11_loss) (pc := 2) dX11_loss_2 fl_X11_99  k_174 ?_
  refine g_nmM (fun M1 e => ?_)
  replace hF := ml_to e hF; clear e
  refine g_aload_n (Y := YX11_loss) (pc := 5) 0 dX11_loss_5 rfl ?_
  refine g_iload_n (Y := YX11_loss) (pc := 6) 1 dX11_loss_6 rfl ?_
  refine g_iload_n (Y := YX11_loss) (pc := 7) 2 dX11_loss_7 rfl ?_
  obtain ⟨r2, M3, e4, hF⟩ := bd_some hF
  refine s_callVi (Y := YX11_loss) (pc := 8) (as := [.int x1, .int x2]) (st := []) (r_X11_areTwo  e4) miX11_areTwo lk_X11_360 dX11_loss_8 k_174 rfl (Nat.le_of_ble_eq_true rfl) (Nat.le_of_ble_eq_true rfl) rfl ?_
  clear e4
  refine g_if_ne (Y := YX11_loss) (pc := 11) (tgt := 16) dX11_loss_11 rfl (fun c5 => ?_) (fun c5 => ?_)
  · replace hF := if_f c5 hF
    refine g_aload_n (Y := YX11_loss) (pc := 16) 0 dX11_loss_16 rfl ?_
    refine g_iload_n (Y := YX11_loss) (pc := 17) 1 dX11_loss_17 rfl ?_
    refine g_iload_n (Y := YX11_loss) (pc := 18) 2 dX11_loss_18 rfl ?_
    obtain ⟨r6, M7, e8, hF⟩ := bd_some hF
    refine s_callVi (Y := YX11_loss) (pc := 19) (as := [.int x1, .int x2]) (st := []) (r_X11_canJoin  e8) miX11_canJoin lk_X11_382 dX11_loss_19 k_174 rfl (Nat.le_of_ble_eq_true rfl) (Nat.le_of_ble_eq_true rfl) rfl ?_
    clear e8
    refine g_if_ne (Y := YX11_loss) (pc := 22) (tgt := 28) dX11_loss_22 rfl (fun c9 => ?_) (fun c9 => ?_)
    · replace hF := if_f c9 hF
      refine g_aload_n (Y := YX11_loss) (pc := 28) 0 dX11_loss_28 rfl ?_
      obtain ⟨r10, M11, e12, hF⟩ := bd_some hF
      refine s_callVv (Y := YX11_loss) (pc := 29) (as := []) (st := []) (r_X11_layStays  e12) miX11_layStays lk_X11_271 dX11_loss_29 k_174 rfl (Nat.le_of_ble_eq_true rfl) (Nat.le_of_ble_eq_true rfl) rfl ?_
      clear e12
      refine g_aload_n (Y := YX11_loss) (pc := 32) 0 dX11_loss_32 rfl ?_
      refine g_iload_n (Y := YX11_loss) (pc := 33) 1 dX11_loss_33 rfl ?_
      refine g_iload_n (Y := YX11_loss) (pc := 34) 2 dX11_loss_34 rfl ?_
      obtain ⟨r13, M14, e15, hF⟩ := bd_some hF
      refine s_callVi (Y := YX11_loss) (pc := 35) (as := [.int x1, .int x2]) (st := []) (r_X11_lossOf  e15) miX11_lossOf lk_X11_385 dX11_loss_35 k_174 rfl (Nat.le_of_ble_eq_true rfl) (Nat.le_of_ble_eq_true rfl) rfl ?_
      clear e15
      exact s_iret (Y := YX11_loss) (pc := 38) dX11_loss_38 rfl hF
    · replace hF := if_t c9 hF
      refine g_bipush (Y := YX11_loss) (pc := 25) dX11_loss_25 kB_m2 ?_
      exact s_iret (Y := YX11_loss) (pc := 27) dX11_loss_27 rfl hF
  · replace hF := if_t c5 hF
    refine g_iconst (Y := YX11_loss) (pc := 14) dX11_loss_14 kI_m1 ?_
    exact s_iret (Y := YX11_loss) (pc := 15) dX11_loss_15 rfl hF
def f_X11_loss (x1 : Int32) (x2 : Int32) (M : Mem) : Option (Int32 × Mem) := f_X11_loss_0 x1 x2 M
theorem r_X11_loss {x1 x2 R : Int32} {M M' : Mem}  (hF : f_X11_loss x1 x2 M = some (R, M')) : RunS l D cy ad YX11_loss 406 [.ref 174, .int x1, .int x2] X M (some (.int R)) M' := Run.of 2 (miX11_loss).1 (Nat.le_of_ble_eq_true rfl) (w_X11_loss_0  _ _ _ hF)
def f_X11_goPairs_193 (T : Int32 → Int32 → Int32 → Mem → Option (Int32 × Mem)) (K110 : Int32 → Int32 → Int32 → Int32 → Mem → Option (Int32 × Mem)) (x1 : Int32) (x2 : Int32) (x3 : Int32) (x4 : Int32) (M : Mem) : Option (Int32 × Mem) :=
  vl (x4 + 1) fun v11 =>
  K110 x1 x2 x3 v11 M
set_option maxRecDepth 100000 in
theorem w_X11_goPairs_193 {T : Int32 → Int32 → Int32 → Mem → Option (Int32 × Mem)} {R : Int32} {M' : Mem} {K110 : Int32 → Int32 → Int32 → Int32 → Mem → Option (Int32 × Mem)} (hT : ∀ (y0 y1 y2 : Int32) (M : Mem) (R : Int32) (M' : Mem), T y0 y1 y2 M = some (R, M') → RunS l D cy ad YX11_goPairs dT [.ref 174, .int y0, .int y1, .int y2] X M none M') (hK110 : ∀ (x1 x2 x3 x4 : Int32) (M : Mem), K110 x1 x2 x3 x4 M = some (R, M') → RunF l D cy ad none YX11_goPairs (dT + 4) 0 0 none (lay X M') 0 0 110 [(0, .ref 174), (1, .int x1), (2, .int x2), (3, .int x3), (4, .int x4)] [] (lay X M)) (x1 x2 x3 x4 : Int32) (M : Mem) (hF : f_X11_goPairs_193 T K110 x1 x2 x3 x4 M = some (R, M')) : RunF l D cy ad none YX11_goPairs (dT + 4) 0 0 none (lay X M') 0 0 193 [(0, .ref 174), (1, .int x1), (2, .int x2), (3, .int x3), (4, .int x4)] [] (lay X M) := by
  unfold f_X11_goPairs_193 at hF
  refine s_iinc (Y := YX11_goPairs) (pc := 193) (j := 4) (L' := fun y => [(4, .int y), (0, .ref 174), (1, .int x1), (2, .int x2), (3, .int x3)]) dX11_goPairs_193 kI_1 rfl (Nat.le_of_ble_eq_true rfl) (fun _ => rfl) (fun v11 e => ?_)
  replace hF := vl_to e hF; clear e
  refine g_goto (Y := YX11_goPairs) (pc := 196) (tgt := 110) dX11_goPairs_196 rfl ?_
  refine g_loc [1, 2, 3, 4, 0] rfl ?_
  exact hK110 _ _ _ _ _ hF
def f_X11_goPairs_110 (T : Int32 → Int32 → Int32 → Mem → Option (Int32 × Mem)) : Nat → Int32 → Int32 → Int32 → Int32 → Mem → Option (Int32 × Mem)
  | 0, _, _, _, _, _ => none
  | n + 1, x1, x2, x3, x4, M =>
    if x4 < (M 174 3) then
      gd (0 ≤ x4 ∧ x4.toNatClampNeg < 6) <|
      if (M 198 x4.toNatClampNeg) = (-1) then
        bd (f_X11_canJoin x1 x4 M) fun r12 M13 =>
        if r12 = 0 then
          f_X11_goPairs_193 T (f_X11_goPairs_110 T n) x1 x2 x3 x4 M13
        else
          gd (0 ≤ x1 ∧ x1.toNatClampNeg < 6) <|
          ml (up M13 198 x1.toNatClampNeg x4) fun M17 =>
          gd (0 ≤ x4 ∧ x4.toNatClampNeg < 6) <|
          ml (up M17 198 x4.toNatClampNeg x1) fun M19 =>
          bd (f_X11_lossOf x1 x4 M19) fun r20 M21 =>
          bd (T (x1 + 1) (x2 + 1) (x3 + r20) M21) fun _ M24 =>
          gd (0 ≤ x1 ∧ x1.toNatClampNeg < 6) <|
          ml (up M24 198 x1.toNatClampNeg (-1)) fun M27 =>
          gd (0 ≤ x4 ∧ x4.toNatClampNeg < 6) <|
          ml (up M27 198 x4.toNatClampNeg (-1)) fun M29 =>
          f_X11_goPairs_193 T (f_X11_goPairs_110 T n) x1 x2 x3 x4 M29
      else
        f_X11_goPairs_193 T (f_X11_goPairs_110 T n) x1 x2 x3 x4 M
    else
      some (0, M)
set_option maxRecDepth 100000 in
theorem w_X11_goPairs_110 {T : Int32 → Int32 → Int32 → Mem → Option (Int32 × Mem)} {R : Int32} {M' : Mem} (hT : ∀ (y0 y1 y2 : Int32) (M : Mem) (R : Int32) (M' : Mem), T y0 y1 y2 M = some (R, M') → RunS l D cy ad YX11_goPairs dT [.ref 174, .int y0, .int y1, .int y2] X M none M') : ∀ (n : Nat) (x1 x2 x3 x4 : Int32) (M : Mem), f_X11_goPairs_110 T n x1 x2 x3 x4 M = some (R, M') → RunF l D cy ad none YX11_goPairs (dT + 4) 0 0 none (lay X M') 0 0 110 [(0, .ref 174), (1, .int x1), (2, .int x2), (3, .int x3), (4, .int x4)] [] (lay X M) := by
  intro n
  induction n with
  | zero => intro x1 x2 x3 x4 M hF; exact absurd hF (by unfold f_X11_goPairs_110; exact fun h => nomatch h)
  | succ n ih =>
    intro x1 x2 x3 x4 M hF
    unfold f_X11_goPairs_110 at hF
    refine g_iload (Y := YX11_goPairs) (pc := 110) 4 dX11_goPairs_110 rfl ?_
    refine g_aload_n (Y := YX11_goPairs) (pc := 112) 0 dX11_goPairs_112 rfl ?_
    refine u_getI (Y := YX11_goPairs) (pc := 113) dX11_goPairs_113 fl_X11_113 k_174 ?_
    refine g_icmp_ge (Y := YX11_goPairs) (pc := 116) (tgt := 199) dX11_goPairs_116 rfl (fun c8 => ?_) (fun c8 => ?_)
    · replace hF := if_f c8 hF
      exact s_vret (Y := YX11_goPairs) (pc := 199) dX11_goPairs_199 rfl hF
    · replace hF := if_t c8 hF
      refine g_aload_n (Y := YX11_goPairs) (pc := 119) 0 dX11_goPairs_119 rfl ?_
      refine u_getR (Y := YX11_goPairs) (pc := 120) (j := 198) dX11_goPairs_120 fl_X11_81 k_174 rf_174_47 ?_
      refine g_iload (Y := YX11_goPairs) (pc := 123) 4 dX11_goPairs_123 rfl ?_
      obtain ⟨g9, hF⟩ := gd_some hF
      refine s_iald (Y := YX11_goPairs) (pc := 125) dX11_goPairs_125 k_198 n_198 g9 ?_
      refine g_iconst (Y := YX11_goPairs) (pc := 126) dX11_goPairs_126 kI_m1 ?_
      refine g_icmp_ne (Y := YX11_goPairs) (pc := 127) (tgt := 193) dX11_goPairs_127 rfl (fun c10 => ?_) (fun c10 => ?_)
      · replace hF := if_f c10 hF
        exact w_X11_goPairs_193 hT ih _ _ _ _ _ hF
      · replace hF := if_t c10 hF
        refine g_aload_n (Y := YX11_goPairs) (pc := 130) 0 dX11_goPairs_130 rfl ?_
        refine g_iload_n (Y := YX11_goPairs) (pc := 131) 1 dX11_goPairs_131 rfl ?_
        refine g_iload (Y := YX11_goPairs) (pc := 132) 4 dX11_goPairs_132 rfl ?_
        obtain ⟨r12, M13, e14, hF⟩ := bd_some hF
        refine s_callVi (Y := YX11_goPairs) (pc := 134) (as := [.int x1, .int x4]) (st := []) (r_X11_canJoin  e14) miX11_canJoin lk_X11_382 dX11_goPairs_134 k_174 rfl (Nat.le_of_ble_eq_true rfl) (by omega) rfl ?_
        clear e14
        refine g_if_ne (Y := YX11_goPairs) (pc := 137) (tgt := 143) dX11_goPairs_137 rfl (fun c15 => ?_) (fun c15 => ?_)
        · replace hF := if_f c15 hF
          refine g_aload_n (Y := YX11_goPairs) (pc := 143) 0 dX11_goPairs_143 rfl ?_
          refine u_getR (Y := YX11_goPairs) (pc := 144) (j := 198) dX11_goPairs_144 fl_X11_81 k_174 rf_174_47 ?_
          refine g_iload_n (Y := YX11_goPairs) (pc := 147) 1 dX11_goPairs_147 rfl ?_
          refine g_iload (Y := YX11_goPairs) (pc := 148) 4 dX11_goPairs_148 rfl ?_
          obtain ⟨g16, hF⟩ := gd_some hF
          refine s_iast (Y := YX11_goPairs) (pc := 150) dX11_goPairs_150 k_198 n_198 g16 ?_
          refine g_nmM (fun M17 e => ?_)
          replace hF := ml_to e hF; clear e
          refine g_aload_n (Y := YX11_goPairs) (pc := 151) 0 dX11_goPairs_151 rfl ?_
          refine u_getR (Y := YX11_goPairs) (pc := 152) (j := 198) dX11_goPairs_152 fl_X11_81 k_174 rf_174_47 ?_
          refine g_iload (Y := YX11_goPairs) (pc := 155) 4 dX11_goPairs_155 rfl ?_
          refine g_iload_n (Y := YX11_goPairs) (pc := 157) 1 dX11_goPairs_157 rfl ?_
          obtain ⟨g18, hF⟩ := gd_some hF
          refine s_iast (Y := YX11_goPairs) (pc := 158) dX11_goPairs_158 k_198 n_198 g18 ?_
          refine g_nmM (fun M19 e => ?_)
          replace hF := ml_to e hF; clear e
          refine g_aload_n (Y := YX11_goPairs) (pc := 159) 0 dX11_goPairs_159 rfl ?_
          refine g_iload_n (Y := YX11_goPairs) (pc := 160) 1 dX11_goPairs_160 rfl ?_
          refine g_iconst (Y := YX11_goPairs) (pc := 161) dX11_goPairs_161 kI_1 ?_
          refine g_iadd (Y := YX11_goPairs) (pc := 162) dX11_goPairs_162 ?_
          refine g_iload_n (Y := YX11_goPairs) (pc := 163) 2 dX11_goPairs_163 rfl ?_
          refine g_iconst (Y := YX11_goPairs) (pc := 164) dX11_goPairs_164 kI_1 ?_
          refine g_iadd (Y := YX11_goPairs) (pc := 165) dX11_goPairs_165 ?_
          refine g_iload_n (Y := YX11_goPairs) (pc := 166) 3 dX11_goPairs_166 rfl ?_
          refine g_aload_n (Y := YX11_goPairs) (pc := 167) 0 dX11_goPairs_167 rfl ?_
          refine g_iload_n (Y := YX11_goPairs) (pc := 168) 1 dX11_goPairs_168 rfl ?_
          refine g_iload (Y := YX11_goPairs) (pc := 169) 4 dX11_goPairs_169 rfl ?_
          obtain ⟨r20, M21, e22, hF⟩ := bd_some hF
          refine s_callVi (Y := YX11_goPairs) (pc := 171) (as := [.int x1, .int x4]) (st := [.int x3, .int (x2 + 1), .int (x1 + 1), .ref 174]) (r_X11_lossOf  e22) miX11_lossOf lk_X11_385 dX11_goPairs_171 k_174 rfl (Nat.le_of_ble_eq_true rfl) (by omega) rfl ?_
          clear e22
          refine g_iadd (Y := YX11_goPairs) (pc := 174) dX11_goPairs_174 ?_
          obtain ⟨r23, M24, e25, hF⟩ := bd_some hF
          refine s_callVv (Y := YX11_goPairs) (pc := 175) (as := [.int (x1 + 1), .int (x2 + 1), .int (x3 + r20)]) (st := []) (hT _ _ _ _ _ _ e25) miX11_goPairs lk_X11_394 dX11_goPairs_175 k_174 rfl (Nat.le_of_ble_eq_true rfl) (by omega) rfl ?_
          clear e25
          refine g_aload_n (Y := YX11_goPairs) (pc := 178) 0 dX11_goPairs_178 rfl ?_
          refine u_getR (Y := YX11_goPairs) (pc := 179) (j := 198) dX11_goPairs_179 fl_X11_81 k_174 rf_174_47 ?_
          refine g_iload_n (Y := YX11_goPairs) (pc := 182) 1 dX11_goPairs_182 rfl ?_
          refine g_iconst (Y := YX11_goPairs) (pc := 183) dX11_goPairs_183 kI_m1 ?_
          obtain ⟨g26, hF⟩ := gd_some hF
          refine s_iast (Y := YX11_goPairs) (pc := 184) dX11_goPairs_184 k_198 n_198 g26 ?_
          refine g_nmM (fun M27 e => ?_)
          replace hF := ml_to e hF; clear e
          refine g_aload_n (Y := YX11_goPairs) (pc := 185) 0 dX11_goPairs_185 rfl ?_
          refine u_getR (Y := YX11_goPairs) (pc := 186) (j := 198) dX11_goPairs_186 fl_X11_81 k_174 rf_174_47 ?_
          refine g_iload (Y := YX11_goPairs) (pc := 189) 4 dX11_goPairs_189 rfl ?_
          refine g_iconst (Y := YX11_goPairs) (pc := 191) dX11_goPairs_191 kI_m1 ?_
          obtain ⟨g28, hF⟩ := gd_some hF
          refine s_iast (Y := YX11_goPairs) (pc := 192) dX11_goPairs_192 k_198 n_198 g28 ?_
          refine g_nmM (fun M29 e => ?_)
          replace hF := ml_to e hF; clear e
          exact w_X11_goPairs_193 hT ih _ _ _ _ _ hF
        · replace hF := if_t c15 hF
          refine g_goto (Y := YX11_goPairs) (pc := 140) (tgt := 193) dX11_goPairs_140 rfl ?_
          exact w_X11_goPairs_193 hT ih _ _ _ _ _ hF
def f_X11_goPairs_32 (T : Int32 → Int32 → Int32 → Mem → Option (Int32 × Mem)) (M : Mem) : Option (Int32 × Mem) :=
  some (0, M)
set_option maxRecDepth 100000 in
theorem w_X11_goPairs_32 {T : Int32 → Int32 → Int32 → Mem → Option (Int32 × Mem)} {R : Int32} {M' : Mem} (hT : ∀ (y0 y1 y2 : Int32) (M : Mem) (R : Int32) (M' : Mem), T y0 y1 y2 M = some (R, M') → RunS l D cy ad YX11_goPairs dT [.ref 174, .int y0, .int y1, .int y2] X M none M') (M : Mem) (hF : f_X11_goPairs_32 T  M = some (R, M')) : RunF l D cy ad none YX11_goPairs (dT + 4) 0 0 none (lay X M') 0 0 32 [] [] (lay X M) := by
  unfold f_X11_goPairs_32 at hF
  exact s_vret (Y := YX11_goPairs) (pc := 32) dX11_goPairs_32 rfl hF
def f_X11_goPairs_46 (T : Int32 → Int32 → Int32 → Mem → Option (Int32 × Mem)) : Nat → Int32 → Mem → Option (Int32 × Mem)
  | 0, _, _ => none
  | n + 1, x4, M =>
    if x4 < (M 174 3) then
      gd (0 ≤ x4 ∧ x4.toNatClampNeg < 6) <|
      gd (0 ≤ x4 ∧ x4.toNatClampNeg < 6) <|
      ml (up M 199 x4.toNatClampNeg (M 198 x4.toNatClampNeg)) fun M40 =>
      vl (x4 + 1) fun v41 =>
      f_X11_goPairs_46 T n v41 M40
    else
      some (0, M)
set_option maxRecDepth 100000 in
theorem w_X11_goPairs_46 {T : Int32 → Int32 → Int32 → Mem → Option (Int32 × Mem)} {R : Int32} {M' : Mem} (hT : ∀ (y0 y1 y2 : Int32) (M : Mem) (R : Int32) (M' : Mem), T y0 y1 y2 M = some (R, M') → RunS l D cy ad YX11_goPairs dT [.ref 174, .int y0, .int y1, .int y2] X M none M') : ∀ (n : Nat) (x4 : Int32) (M : Mem), f_X11_goPairs_46 T n x4 M = some (R, M') → RunF l D cy ad none YX11_goPairs (dT + 4) 0 0 none (lay X M') 0 0 46 [(0, .ref 174), (4, .int x4)] [] (lay X M) := by
  intro n
  induction n with
  | zero => intro x4 M hF; exact absurd hF (by unfold f_X11_goPairs_46; exact fun h => nomatch h)
  | succ n ih =>
    intro x4 M hF
    unfold f_X11_goPairs_46 at hF
    refine g_iload (Y := YX11_goPairs) (pc := 46) 1 dX11_goPairs_46 rfl ?_
    refine g_aload_n (Y := YX11_goPairs) (pc := 48) 0 dX11_goPairs_48 rfl ?_
    refine u_getI (Y := YX11_goPairs) (pc := 49) dX11_goPairs_49 fl_X11_113 k_174 ?_
    refine g_icmp_ge (Y := YX11_goPairs) (pc := 52) (tgt := 75) dX11_goPairs_52 rfl (fun c37 => ?_) (fun c37 => ?_)
    · replace hF := if_f c37 hF
      exact s_vret (Y := YX11_goPairs) (pc := 75) dX11_goPairs_75 rfl hF
    · replace hF := if_t c37 hF
      refine g_aload_n (Y := YX11_goPairs) (pc := 55) 0 dX11_goPairs_55 rfl ?_
      refine u_getR (Y := YX11_goPairs) (pc := 56) (j := 199) dX11_goPairs_56 fl_X11_84 k_174 rf_174_48 ?_
      refine g_iload (Y := YX11_goPairs) (pc := 59) 1 dX11_goPairs_59 rfl ?_
      refine g_aload_n (Y := YX11_goPairs) (pc := 61) 0 dX11_goPairs_61 rfl ?_
      refine u_getR (Y := YX11_goPairs) (pc := 62) (j := 198) dX11_goPairs_62 fl_X11_81 k_174 rf_174_47 ?_
      refine g_iload (Y := YX11_goPairs) (pc := 65) 1 dX11_goPairs_65 rfl ?_
      obtain ⟨g38, hF⟩ := gd_some hF
      refine s_iald (Y := YX11_goPairs) (pc := 67) dX11_goPairs_67 k_198 n_198 g38 ?_
      obtain ⟨g39, hF⟩ := gd_some hF
      refine s_iast (Y := YX11_goPairs) (pc := 68) dX11_goPairs_68 k_199 n_199 g39 ?_
      refine g_nmM (fun M40 e => ?_)
      replace hF := ml_to e hF; clear e
      refine s_iinc (Y := YX11_goPairs) (pc := 69) (j := 1) (L' := fun y => [(4, .int y), (0, .ref 174)]) dX11_goPairs_69 kI_1 rfl (Nat.le_of_ble_eq_true rfl) (fun _ => rfl) (fun v41 e => ?_)
      replace hF := vl_to e hF; clear e
      refine g_goto (Y := YX11_goPairs) (pc := 72) (tgt := 46) dX11_goPairs_72 rfl ?_
      refine g_loc [1, 0] rfl ?_
      exact ih _ _ hF
def f_X11_goPairs_33 (T : Int32 → Int32 → Int32 → Mem → Option (Int32 × Mem)) (x2 : Int32) (x3 : Int32) (M : Mem) : Option (Int32 × Mem) :=
  ml (up M 174 49 x2) fun M35 =>
  ml (up M35 174 50 x3) fun M36 =>
  f_X11_goPairs_46 T FU 0 M36
set_option maxRecDepth 100000 in
theorem w_X11_goPairs_33 {T : Int32 → Int32 → Int32 → Mem → Option (Int32 × Mem)} {R : Int32} {M' : Mem} (hT : ∀ (y0 y1 y2 : Int32) (M : Mem) (R : Int32) (M' : Mem), T y0 y1 y2 M = some (R, M') → RunS l D cy ad YX11_goPairs dT [.ref 174, .int y0, .int y1, .int y2] X M none M') (x2 x3 : Int32) (M : Mem) (hF : f_X11_goPairs_33 T x2 x3 M = some (R, M')) : RunF l D cy ad none YX11_goPairs (dT + 4) 0 0 none (lay X M') 0 0 33 [(0, .ref 174), (2, .int x2), (3, .int x3)] [] (lay X M) := by
  unfold f_X11_goPairs_33 at hF
  refine g_aload_n (Y := YX11_goPairs) (pc := 33) 0 dX11_goPairs_33 rfl ?_
  refine g_iload_n (Y := YX11_goPairs) (pc := 34) 1 dX11_goPairs_34 rfl ?_
  refine u_putI (Y := YX11_goPairs) (pc := 35) dX11_goPairs_35 fl_X11_388  k_174 ?_
  refine g_nmM (fun M35 e => ?_)
  replace hF := ml_to e hF; clear e
  refine g_aload_n (Y := YX11_goPairs) (pc := 38) 0 dX11_goPairs_38 rfl ?_
  refine g_iload_n (Y := YX11_goPairs) (pc := 39) 2 dX11_goPairs_39 rfl ?_
  refine u_putI (Y := YX11_goPairs) (pc := 40) dX11_goPairs_40 fl_X11_391  k_174 ?_
  refine g_nmM (fun M36 e => ?_)
  replace hF := ml_to e hF; clear e
  refine g_iconst (Y := YX11_goPairs) (pc := 43) dX11_goPairs_43 kI_0 ?_
  refine g_istore (Y := YX11_goPairs) (pc := 44) (L' := [(4, .int 0), (0, .ref 174), (2, .int x2), (3, .int x3)]) dX11_goPairs_44 (Nat.le_of_ble_eq_true rfl) rfl ?_
  refine g_loc [1, 0] rfl ?_
  exact w_X11_goPairs_46 hT _ _ _ hF
def f_X11_goPairs_0 (T : Int32 → Int32 → Int32 → Mem → Option (Int32 × Mem)) (x1 : Int32) (x2 : Int32) (x3 : Int32) (M : Mem) : Option (Int32 × Mem) :=
  if x1 = (M 174 3) then
    if x2 < (M 174 49) then
      f_X11_goPairs_32 T M
    else
      if x2 = (M 174 49) then
        if x3 < (M 174 50) then
          f_X11_goPairs_33 T x2 x3 M
        else
          f_X11_goPairs_32 T M
      else
        f_X11_goPairs_33 T x2 x3 M
  else
    gd (0 ≤ x1 ∧ x1.toNatClampNeg < 6) <|
    if (M 198 x1.toNatClampNeg) = (-1) then
      bd (T (x1 + 1) x2 x3 M) fun _ M5 =>
      vl ((x1 + 1)) fun v7 =>
      f_X11_goPairs_110 T FU x1 x2 x3 v7 M5
    else
      bd (T (x1 + 1) x2 x3 M) fun _ M31 =>
      some (0, M31)
set_option maxRecDepth 100000 in
theorem w_X11_goPairs_0 {T : Int32 → Int32 → Int32 → Mem → Option (Int32 × Mem)} {R : Int32} {M' : Mem} (hT : ∀ (y0 y1 y2 : Int32) (M : Mem) (R : Int32) (M' : Mem), T y0 y1 y2 M = some (R, M') → RunS l D cy ad YX11_goPairs dT [.ref 174, .int y0, .int y1, .int y2] X M none M') (x1 x2 x3 : Int32) (M : Mem) (hF : f_X11_goPairs_0 T x1 x2 x3 M = some (R, M')) : RunF l D cy ad none YX11_goPairs (dT + 4) 0 0 none (lay X M') 0 0 0 [(0, .ref 174), (1, .int x1), (2, .int x2), (3, .int x3)] [] (lay X M) := by
  unfold f_X11_goPairs_0 at hF
  refine g_iload_n (Y := YX11_goPairs) (pc := 0) 1 dX11_goPairs_0 rfl ?_
  refine g_aload_n (Y := YX11_goPairs) (pc := 1) 0 dX11_goPairs_1 rfl ?_
  refine u_getI (Y := YX11_goPairs) (pc := 2) dX11_goPairs_2 fl_X11_113 k_174 ?_
  refine g_icmp_ne (Y := YX11_goPairs) (pc := 5) (tgt := 76) dX11_goPairs_5 rfl (fun c1 => ?_) (fun c1 => ?_)
  · replace hF := if_f c1 hF
    refine g_aload_n (Y := YX11_goPairs) (pc := 76) 0 dX11_goPairs_76 rfl ?_
    refine u_getR (Y := YX11_goPairs) (pc := 77) (j := 198) dX11_goPairs_77 fl_X11_81 k_174 rf_174_47 ?_
    refine g_iload_n (Y := YX11_goPairs) (pc := 80) 1 dX11_goPairs_80 rfl ?_
    obtain ⟨g2, hF⟩ := gd_some hF
    refine s_iald (Y := YX11_goPairs) (pc := 81) dX11_goPairs_81 k_198 n_198 g2 ?_
    refine g_iconst (Y := YX11_goPairs) (pc := 82) dX11_goPairs_82 kI_m1 ?_
    refine g_icmp_eq (Y := YX11_goPairs) (pc := 83) (tgt := 96) dX11_goPairs_83 rfl (fun c3 => ?_) (fun c3 => ?_)
    · replace hF := if_t c3 hF
      refine g_aload_n (Y := YX11_goPairs) (pc := 96) 0 dX11_goPairs_96 rfl ?_
      refine g_iload_n (Y := YX11_goPairs) (pc := 97) 1 dX11_goPairs_97 rfl ?_
      refine g_iconst (Y := YX11_goPairs) (pc := 98) dX11_goPairs_98 kI_1 ?_
      refine g_iadd (Y := YX11_goPairs) (pc := 99) dX11_goPairs_99 ?_
      refine g_iload_n (Y := YX11_goPairs) (pc := 100) 2 dX11_goPairs_100 rfl ?_
      refine g_iload_n (Y := YX11_goPairs) (pc := 101) 3 dX11_goPairs_101 rfl ?_
      obtain ⟨r4, M5, e6, hF⟩ := bd_some hF
      refine s_callVv (Y := YX11_goPairs) (pc := 102) (as := [.int (x1 + 1), .int x2, .int x3]) (st := []) (hT _ _ _ _ _ _ e6) miX11_goPairs lk_X11_394 dX11_goPairs_102 k_174 rfl (Nat.le_of_ble_eq_true rfl) (by omega) rfl ?_
      clear e6
      refine g_iload_n (Y := YX11_goPairs) (pc := 105) 1 dX11_goPairs_105 rfl ?_
      refine g_iconst (Y := YX11_goPairs) (pc := 106) dX11_goPairs_106 kI_1 ?_
      refine g_iadd (Y := YX11_goPairs) (pc := 107) dX11_goPairs_107 ?_
      refine g_nm (fun v7 e => ?_)
      replace hF := vl_to e hF; clear e
      refine g_istore (Y := YX11_goPairs) (pc := 108) (L' := [(4, .int v7), (0, .ref 174), (1, .int x1), (2, .int x2), (3, .int x3)]) dX11_goPairs_108 (Nat.le_of_ble_eq_true rfl) rfl ?_
      refine g_loc [1, 2, 3, 4, 0] rfl ?_
      exact w_X11_goPairs_110 hT _ _ _ _ _ _ hF
    · replace hF := if_f c3 hF
      refine g_aload_n (Y := YX11_goPairs) (pc := 86) 0 dX11_goPairs_86 rfl ?_
      refine g_iload_n (Y := YX11_goPairs) (pc := 87) 1 dX11_goPairs_87 rfl ?_
      refine g_iconst (Y := YX11_goPairs) (pc := 88) dX11_goPairs_88 kI_1 ?_
      refine g_iadd (Y := YX11_goPairs) (pc := 89) dX11_goPairs_89 ?_
      refine g_iload_n (Y := YX11_goPairs) (pc := 90) 2 dX11_goPairs_90 rfl ?_
      refine g_iload_n (Y := YX11_goPairs) (pc := 91) 3 dX11_goPairs_91 rfl ?_
      obtain ⟨r30, M31, e32, hF⟩ := bd_some hF
      refine s_callVv (Y := YX11_goPairs) (pc := 92) (as := [.int (x1 + 1), .int x2, .int x3]) (st := []) (hT _ _ _ _ _ _ e32) miX11_goPairs lk_X11_394 dX11_goPairs_92 k_174 rfl (Nat.le_of_ble_eq_true rfl) (by omega) rfl ?_
      clear e32
      exact s_vret (Y := YX11_goPairs) (pc := 95) dX11_goPairs_95 rfl hF
  · replace hF := if_t c1 hF
    refine g_iload_n (Y := YX11_goPairs) (pc := 8) 2 dX11_goPairs_8 rfl ?_
    refine g_aload_n (Y := YX11_goPairs) (pc := 9) 0 dX11_goPairs_9 rfl ?_
    refine u_getI (Y := YX11_goPairs) (pc := 10) dX11_goPairs_10 fl_X11_388 k_174 ?_
    refine g_icmp_lt (Y := YX11_goPairs) (pc := 13) (tgt := 32) dX11_goPairs_13 rfl (fun c33 => ?_) (fun c33 => ?_)
    · replace hF := if_t c33 hF
      refine g_loc [] rfl ?_
      exact w_X11_goPairs_32 hT _ hF
    · replace hF := if_f c33 hF
      refine g_iload_n (Y := YX11_goPairs) (pc := 16) 2 dX11_goPairs_16 rfl ?_
      refine g_aload_n (Y := YX11_goPairs) (pc := 17) 0 dX11_goPairs_17 rfl ?_
      refine u_getI (Y := YX11_goPairs) (pc := 18) dX11_goPairs_18 fl_X11_388 k_174 ?_
      refine g_icmp_ne (Y := YX11_goPairs) (pc := 21) (tgt := 33) dX11_goPairs_21 rfl (fun c34 => ?_) (fun c34 => ?_)
      · replace hF := if_f c34 hF
        refine g_loc [0, 2, 3] rfl ?_
        exact w_X11_goPairs_33 hT _ _ _ hF
      · replace hF := if_t c34 hF
        refine g_iload_n (Y := YX11_goPairs) (pc := 24) 3 dX11_goPairs_24 rfl ?_
        refine g_aload_n (Y := YX11_goPairs) (pc := 25) 0 dX11_goPairs_25 rfl ?_
        refine u_getI (Y := YX11_goPairs) (pc := 26) dX11_goPairs_26 fl_X11_391 k_174 ?_
        refine g_icmp_lt (Y := YX11_goPairs) (pc := 29) (tgt := 33) dX11_goPairs_29 rfl (fun c42 => ?_) (fun c42 => ?_)
        · replace hF := if_t c42 hF
          refine g_loc [0, 2, 3] rfl ?_
          exact w_X11_goPairs_33 hT _ _ _ hF
        · replace hF := if_f c42 hF
          refine g_loc [] rfl ?_
          exact w_X11_goPairs_32 hT _ hF
def b_X11_goPairs (T : Int32 → Int32 → Int32 → Mem → Option (Int32 × Mem)) (x1 : Int32) (x2 : Int32) (x3 : Int32) (M : Mem) : Option (Int32 × Mem) := f_X11_goPairs_0 T x1 x2 x3 M
theorem rb_X11_goPairs {x1 x2 x3 R : Int32} {M M' : Mem} {T : Int32 → Int32 → Int32 → Mem → Option (Int32 × Mem)} (hT : ∀ (y0 y1 y2 : Int32) (M : Mem) (R : Int32) (M' : Mem), T y0 y1 y2 M = some (R, M') → RunS l D cy ad YX11_goPairs dT [.ref 174, .int y0, .int y1, .int y2] X M none M') (hF : b_X11_goPairs T x1 x2 x3 M = some (R, M')) : RunS l D cy ad YX11_goPairs (dT + 4) [.ref 174, .int x1, .int x2, .int x3] X M none M' := Run.of 3 (miX11_goPairs).1 (Nat.le_of_ble_eq_true rfl) (w_X11_goPairs_0 hT _ _ _ _ hF)
def f_X11_goPairs : Nat → Int32 → Int32 → Int32 → Mem → Option (Int32 × Mem)
  | 0, _, _, _, _ => none
  | n + 1, x1, x2, x3, M => b_X11_goPairs (f_X11_goPairs n) x1 x2 x3 M
theorem rn_X11_goPairs : ∀ (n : Nat) (x1 x2 x3 : Int32) (M : Mem) (R : Int32) (M' : Mem), f_X11_goPairs n x1 x2 x3 M = some (R, M') → RunS l D cy ad YX11_goPairs (4 * n) [.ref 174, .int x1, .int x2, .int x3] X M none M'
  | 0, _, _, _, _, _, _, h => nomatch h
  | n + 1, x1, x2, x3, M, R, M', h => rb_X11_goPairs (dT := 4 * n) (fun y0 y1 y2 M R M' h => rn_X11_goPairs n y0 y1 y2 M R M' h) h
theorem r_X11_goPairs {x1 x2 x3 : Int32} {M M' : Mem} {R : Int32} (hF : f_X11_goPairs RU x1 x2 x3 M = some (R, M')) : RunS l D cy ad YX11_goPairs 400 [.ref 174, .int x1, .int x2, .int x3] X M none M' := rn_X11_goPairs RU x1 x2 x3 M R M' hF
end NXG
