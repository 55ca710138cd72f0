theorem dX11_pairs_0 : decode cX11_pairs 0 = .ok (.aload_n 0, 1) := by decide +kernel
theorem dX11_pairs_1 : decode cX11_pairs 1 = .ok (.iconst 0, 1) := by decide +kernel
theorem dX11_pairs_2 : decode cX11_pairs 2 = .ok (.putfield 99, 3) := by decide +kernel
theorem dX11_pairs_5 : decode cX11_pairs 5 = .ok (.aload_n 0, 1) := by decide +kernel
theorem dX11_pairs_6 : decode cX11_pairs 6 = .ok (.invokevirtual 271, 3) := by decide +kernel
theorem dX11_pairs_9 : decode cX11_pairs 9 = .ok (.iconst 0, 1) := by decide +kernel
theorem dX11_pairs_10 : decode cX11_pairs 10 = .ok (.istore_n 1, 1) := by decide +kernel
theorem dX11_pairs_11 : decode cX11_pairs 11 = .ok (.iload_n 1, 1) := by decide +kernel
theorem dX11_pairs_12 : decode cX11_pairs 12 = .ok (.bipush 6, 2) := by decide +kernel
theorem dX11_pairs_14 : decode cX11_pairs 14 = .ok (.if_icmp .ge 16, 3) := by decide +kernel
theorem dX11_pairs_17 : decode cX11_pairs 17 = .ok (.aload_n 0, 1) := by decide +kernel
theorem dX11_pairs_18 : decode cX11_pairs 18 = .ok (.getfield 81, 3) := by decide +kernel
theorem dX11_pairs_21 : decode cX11_pairs 21 = .ok (.iload_n 1, 1) := by decide +kernel
theorem dX11_pairs_22 : decode cX11_pairs 22 = .ok (.iconst (-1), 1) := by decide +kernel
theorem dX11_pairs_23 : decode cX11_pairs 23 = .ok (.iastore, 1) := by decide +kernel
theorem dX11_pairs_24 : decode cX11_pairs 24 = .ok (.iinc 1 1, 3) := by decide +kernel
theorem dX11_pairs_27 : decode cX11_pairs 27 = .ok (.goto (-16), 3) := by decide +kernel
theorem dX11_pairs_30 : decode cX11_pairs 30 = .ok (.aload_n 0, 1) := by decide +kernel
theorem dX11_pairs_31 : decode cX11_pairs 31 = .ok (.iconst (-1), 1) := by decide +kernel
theorem dX11_pairs_32 : decode cX11_pairs 32 = .ok (.putfield 388, 3) := by decide +kernel
theorem dX11_pairs_35 : decode cX11_pairs 35 = .ok (.aload_n 0, 1) := by decide +kernel
theorem dX11_pairs_36 : decode cX11_pairs 36 = .ok (.ldc_w 321, 3) := by decide +kernel
theorem dX11_pairs_39 : decode cX11_pairs 39 = .ok (.putfield 391, 3) := by decide +kernel
theorem dX11_pairs_42 : decode cX11_pairs 42 = .ok (.aload_n 0, 1) := by decide +kernel
theorem dX11_pairs_43 : decode cX11_pairs 43 = .ok (.iconst 0, 1) := by decide +kernel
theorem dX11_pairs_44 : decode cX11_pairs 44 = .ok (.iconst 0, 1) := by decide +kernel
theorem dX11_pairs_45 : decode cX11_pairs 45 = .ok (.iconst 0, 1) := by decide +kernel
theorem dX11_pairs_46 : decode cX11_pairs 46 = .ok (.invokevirtual 394, 3) := by decide +kernel
theorem dX11_pairs_49 : decode cX11_pairs 49 = .ok (.aload_n 0, 1) := by decide +kernel
theorem dX11_pairs_50 : decode cX11_pairs 50 = .ok (.iconst 0, 1) := by decide +kernel
theorem dX11_pairs_51 : decode cX11_pairs 51 = .ok (.putfield 103, 3) := by decide +kernel
theorem dX11_pairs_54 : decode cX11_pairs 54 = .ok (.aload_n 0, 1) := by decide +kernel
theorem dX11_pairs_55 : decode cX11_pairs 55 = .ok (.aload_n 0, 1) := by decide +kernel
theorem dX11_pairs_56 : decode cX11_pairs 56 = .ok (.getfield 391, 3) := by decide +kernel
theorem dX11_pairs_59 : decode cX11_pairs 59 = .ok (.invokevirtual 300, 3) := by decide +kernel
theorem dX11_pairs_62 : decode cX11_pairs 62 = .ok (.iconst 0, 1) := by decide +kernel
theorem dX11_pairs_63 : decode cX11_pairs 63 = .ok (.istore_n 1, 1) := by decide +kernel
theorem dX11_pairs_64 : decode cX11_pairs 64 = .ok (.iload_n 1, 1) := by decide +kernel
theorem dX11_pairs_65 : decode cX11_pairs 65 = .ok (.aload_n 0, 1) := by decide +kernel
theorem dX11_pairs_66 : decode cX11_pairs 66 = .ok (.getfield 113, 3) := by decide +kernel
theorem dX11_pairs_69 : decode cX11_pairs 69 = .ok (.if_icmp .ge 19, 3) := by decide +kernel
theorem dX11_pairs_72 : decode cX11_pairs 72 = .ok (.aload_n 0, 1) := by decide +kernel
theorem dX11_pairs_73 : decode cX11_pairs 73 = .ok (.aload_n 0, 1) := by decide +kernel
theorem dX11_pairs_74 : decode cX11_pairs 74 = .ok (.getfield 84, 3) := by decide +kernel
theorem dX11_pairs_77 : decode cX11_pairs 77 = .ok (.iload_n 1, 1) := by decide +kernel
theorem dX11_pairs_78 : decode cX11_pairs 78 = .ok (.iaload, 1) := by decide +kernel
theorem dX11_pairs_79 : decode cX11_pairs 79 = .ok (.invokevirtual 300, 3) := by decide +kernel
theorem dX11_pairs_82 : decode cX11_pairs 82 = .ok (.iinc 1 1, 3) := by decide +kernel
theorem dX11_pairs_85 : decode cX11_pairs 85 = .ok (.goto (-21), 3) := by decide +kernel
theorem dX11_pairs_88 : decode cX11_pairs 88 = .ok (.aload_n 0, 1) := by decide +kernel
theorem dX11_pairs_89 : decode cX11_pairs 89 = .ok (.getfield 388, 3) := by decide +kernel
theorem dX11_pairs_92 : decode cX11_pairs 92 = .ok (.ireturn, 1) := by decide +kernel
theorem dX11_brief_0 : decode cX11_brief 0 = .ok (.aload_n 0, 1) := by decide +kernel
theorem dX11_brief_1 : decode cX11_brief 1 = .ok (.iconst 0, 1) := by decide +kernel
theorem dX11_brief_2 : decode cX11_brief 2 = .ok (.putfield 99, 3) := by decide +kernel
theorem dX11_brief_5 : decode cX11_brief 5 = .ok (.aload_n 0, 1) := by decide +kernel
theorem dX11_brief_6 : decode cX11_brief 6 = .ok (.iload_n 1, 1) := by decide +kernel
theorem dX11_brief_7 : decode cX11_brief 7 = .ok (.invokevirtual 350, 3) := by decide +kernel
theorem dX11_brief_10 : decode cX11_brief 10 = .ok (.ifCond .ne 5, 3) := by decide +kernel
theorem dX11_brief_13 : decode cX11_brief 13 = .ok (.iconst (-1), 1) := by decide +kernel
theorem dX11_brief_14 : decode cX11_brief 14 = .ok (.ireturn, 1) := by decide +kernel
theorem dX11_brief_15 : decode cX11_brief 15 = .ok (.aload_n 0, 1) := by decide +kernel
theorem dX11_brief_16 : decode cX11_brief 16 = .ok (.invokevirtual 271, 3) := by decide +kernel
theorem dX11_brief_19 : decode cX11_brief 19 = .ok (.aload_n 0, 1) := by decide +kernel
theorem dX11_brief_20 : decode cX11_brief 20 = .ok (.iload_n 1, 1) := by decide +kernel
theorem dX11_brief_21 : decode cX11_brief 21 = .ok (.iconst 1, 1) := by decide +kernel
theorem dX11_brief_22 : decode cX11_brief 22 = .ok (.invokevirtual 353, 3) := by decide +kernel
theorem dX11_brief_25 : decode cX11_brief 25 = .ok (.aload_n 0, 1) := by decide +kernel
theorem dX11_brief_26 : decode cX11_brief 26 = .ok (.getfield 338, 3) := by decide +kernel
theorem dX11_brief_29 : decode cX11_brief 29 = .ok (.istore_n 2, 1) := by decide +kernel
theorem dX11_brief_30 : decode cX11_brief 30 = .ok (.iconst (-1), 1) := by decide +kernel
theorem dX11_brief_31 : decode cX11_brief 31 = .ok (.istore_n 3, 1) := by decide +kernel
theorem dX11_brief_32 : decode cX11_brief 32 = .ok (.iconst (-1), 1) := by decide +kernel
theorem dX11_brief_33 : decode cX11_brief 33 = .ok (.istore 4, 2) := by decide +kernel
theorem dX11_brief_35 : decode cX11_brief 35 = .ok (.iconst 0, 1) := by decide +kernel
theorem dX11_brief_36 : decode cX11_brief 36 = .ok (.istore 5, 2) := by decide +kernel
theorem dX11_brief_38 : decode cX11_brief 38 = .ok (.iload 5, 2) := by decide +kernel
theorem dX11_brief_40 : decode cX11_brief 40 = .ok (.aload_n 0, 1) := by decide +kernel
theorem dX11_brief_41 : decode cX11_brief 41 = .ok (.getfield 113, 3) := by decide +kernel
theorem dX11_brief_44 : decode cX11_brief 44 = .ok (.if_icmp .ge 108, 3) := by decide +kernel
theorem dX11_brief_47 : decode cX11_brief 47 = .ok (.iconst 0, 1) := by decide +kernel
theorem dX11_brief_48 : decode cX11_brief 48 = .ok (.istore 6, 2) := by decide +kernel
theorem dX11_brief_50 : decode cX11_brief 50 = .ok (.iload 6, 2) := by decide +kernel
theorem dX11_brief_52 : decode cX11_brief 52 = .ok (.aload_n 0, 1) := by decide +kernel
theorem dX11_brief_53 : decode cX11_brief 53 = .ok (.getfield 106, 3) := by decide +kernel
theorem dX11_brief_56 : decode cX11_brief 56 = .ok (.if_icmp .ge 90, 3) := by decide +kernel
theorem dX11_brief_59 : decode cX11_brief 59 = .ok (.aload_n 0, 1) := by decide +kernel
theorem dX11_brief_60 : decode cX11_brief 60 = .ok (.getfield 48, 3) := by decide +kernel
theorem dX11_brief_63 : decode cX11_brief 63 = .ok (.bipush 6, 2) := by decide +kernel
theorem dX11_brief_65 : decode cX11_brief 65 = .ok (.iload 5, 2) := by decide +kernel
theorem dX11_brief_67 : decode cX11_brief 67 = .ok (.imul, 1) := by decide +kernel
theorem dX11_brief_68 : decode cX11_brief 68 = .ok (.iload 6, 2) := by decide +kernel
theorem dX11_brief_70 : decode cX11_brief 70 = .ok (.iadd, 1) := by decide +kernel
theorem dX11_brief_71 : decode cX11_brief 71 = .ok (.iaload, 1) := by decide +kernel
theorem dX11_brief_72 : decode cX11_brief 72 = .ok (.istore 7, 2) := by decide +kernel
theorem dX11_brief_74 : decode cX11_brief 74 = .ok (.iload 7, 2) := by decide +kernel
theorem dX11_brief_76 : decode cX11_brief 76 = .ok (.ifCond .ne 6, 3) := by decide +kernel
theorem dX11_brief_79 : decode cX11_brief 79 = .ok (.goto 61, 3) := by decide +kernel
theorem dX11_brief_82 : decode cX11_brief 82 = .ok (.aload_n 0, 1) := by decide +kernel
theorem dX11_brief_83 : decode cX11_brief 83 = .ok (.getfield 48, 3) := by decide +kernel
theorem dX11_brief_86 : decode cX11_brief 86 = .ok (.bipush 6, 2) := by decide +kernel
theorem dX11_brief_88 : decode cX11_brief 88 = .ok (.iload 5, 2) := by decide +kernel
theorem dX11_brief_90 : decode cX11_brief 90 = .ok (.imul, 1) := by decide +kernel
theorem dX11_brief_91 : decode cX11_brief 91 = .ok (.iload 6, 2) := by decide +kernel
theorem dX11_brief_93 : decode cX11_brief 93 = .ok (.iadd, 1) := by decide +kernel
theorem dX11_brief_94 : decode cX11_brief 94 = .ok (.iconst 0, 1) := by decide +kernel
theorem dX11_brief_95 : decode cX11_brief 95 = .ok (.iastore, 1) := by decide +kernel
theorem dX11_brief_96 : decode cX11_brief 96 = .ok (.aload_n 0, 1) := by decide +kernel
theorem dX11_brief_97 : decode cX11_brief 97 = .ok (.iload_n 1, 1) := by decide +kernel
theorem dX11_brief_98 : decode cX11_brief 98 = .ok (.iconst 1, 1) := by decide +kernel
theorem dX11_brief_99 : decode cX11_brief 99 = .ok (.invokevirtual 353, 3) := by decide +kernel
theorem dX11_brief_102 : decode cX11_brief 102 = .ok (.aload_n 0, 1) := by decide +kernel
theorem dX11_brief_103 : decode cX11_brief 103 = .ok (.getfield 48, 3) := by decide +kernel
theorem dX11_brief_106 : decode cX11_brief 106 = .ok (.bipush 6, 2) := by decide +kernel
theorem dX11_brief_108 : decode cX11_brief 108 = .ok (.iload 5, 2) := by decide +kernel
theorem dX11_brief_110 : decode cX11_brief 110 = .ok (.imul, 1) := by decide +kernel
theorem dX11_brief_111 : decode cX11_brief 111 = .ok (.iload 6, 2) := by decide +kernel
theorem dX11_brief_113 : decode cX11_brief 113 = .ok (.iadd, 1) := by decide +kernel
theorem dX11_brief_114 : decode cX11_brief 114 = .ok (.iload 7, 2) := by decide +kernel
theorem dX11_brief_116 : decode cX11_brief 116 = .ok (.iastore, 1) := by decide +kernel
theorem dX11_brief_117 : decode cX11_brief 117 = .ok (.aload_n 0, 1) := by decide +kernel
theorem dX11_brief_118 : decode cX11_brief 118 = .ok (.getfield 338, 3) := by decide +kernel
theorem dX11_brief_121 : decode cX11_brief 121 = .ok (.iload_n 2, 1) := by decide +kernel
theorem dX11_brief_122 : decode cX11_brief 122 = .ok (.if_icmp .lt 6, 3) := by decide +kernel
theorem dX11_brief_125 : decode cX11_brief 125 = .ok (.goto 15, 3) := by decide +kernel
theorem dX11_brief_128 : decode cX11_brief 128 = .ok (.aload_n 0, 1) := by decide +kernel
theorem dX11_brief_129 : decode cX11_brief 129 = .ok (.getfield 338, 3) := by decide +kernel
theorem dX11_brief_132 : decode cX11_brief 132 = .ok (.istore_n 2, 1) := by decide +kernel
theorem dX11_brief_133 : decode cX11_brief 133 = .ok (.iload 5, 2) := by decide +kernel
theorem dX11_brief_135 : decode cX11_brief 135 = .ok (.istore_n 3, 1) := by decide +kernel
theorem dX11_brief_136 : decode cX11_brief 136 = .ok (.iload 6, 2) := by decide +kernel
theorem dX11_brief_138 : decode cX11_brief 138 = .ok (.istore 4, 2) := by decide +kernel
theorem dX11_brief_140 : decode cX11_brief 140 = .ok (.iinc 6 1, 3) := by decide +kernel
theorem dX11_brief_143 : decode cX11_brief 143 = .ok (.goto (-93), 3) := by decide +kernel
theorem dX11_brief_146 : decode cX11_brief 146 = .ok (.iinc 5 1, 3) := by decide +kernel
theorem dX11_brief_149 : decode cX11_brief 149 = .ok (.goto (-111), 3) := by decide +kernel
theorem dX11_brief_152 : decode cX11_brief 152 = .ok (.iload_n 2, 1) := by decide +kernel
theorem dX11_brief_153 : decode cX11_brief 153 = .ok (.ldc_w 321, 3) := by decide +kernel
theorem dX11_brief_156 : decode cX11_brief 156 = .ok (.if_icmp .ne 6, 3) := by decide +kernel
theorem dX11_brief_159 : decode cX11_brief 159 = .ok (.bipush (-2), 2) := by decide +kernel
theorem dX11_brief_161 : decode cX11_brief 161 = .ok (.ireturn, 1) := by decide +kernel
theorem dX11_brief_162 : decode cX11_brief 162 = .ok (.aload_n 0, 1) := by decide +kernel
theorem dX11_brief_163 : decode cX11_brief 163 = .ok (.iconst 0, 1) := by decide +kernel
theorem dX11_brief_164 : decode cX11_brief 164 = .ok (.putfield 103, 3) := by decide +kernel
theorem dX11_brief_167 : decode cX11_brief 167 = .ok (.aload_n 0, 1) := by decide +kernel
theorem dX11_brief_168 : decode cX11_brief 168 = .ok (.iload_n 3, 1) := by decide +kernel
theorem dX11_brief_169 : decode cX11_brief 169 = .ok (.invokevirtual 300, 3) := by decide +kernel
theorem dX11_brief_172 : decode cX11_brief 172 = .ok (.aload_n 0, 1) := by decide +kernel
theorem dX11_brief_173 : decode cX11_brief 173 = .ok (.iload 4, 2) := by decide +kernel
theorem dX11_brief_175 : decode cX11_brief 175 = .ok (.invokevirtual 300, 3) := by decide +kernel
theorem dX11_brief_178 : decode cX11_brief 178 = .ok (.iload_n 2, 1) := by decide +kernel
theorem dX11_brief_179 : decode cX11_brief 179 = .ok (.ireturn, 1) := by decide +kernel
theorem dX11_heard_0 : decode cX11_heard 0 = .ok (.aload_n 0, 1) := by decide +kernel
theorem dX11_heard_1 : decode cX11_heard 1 = .ok (.iconst 0, 1) := by decide +kernel
theorem dX11_heard_2 : decode cX11_heard 2 = .ok (.putfield 99, 3) := by decide +kernel
theorem dX11_heard_5 : decode cX11_heard 5 = .ok (.aload_n 0, 1) := by decide +kernel
theorem dX11_heard_6 : decode cX11_heard 6 = .ok (.iload_n 1, 1) := by decide +kernel
theorem dX11_heard_7 : decode cX11_heard 7 = .ok (.invokevirtual 235, 3) := by decide +kernel
theorem dX11_heard_10 : decode cX11_heard 10 = .ok (.ifCond .eq 32, 3) := by decide +kernel
theorem dX11_heard_13 : decode cX11_heard 13 = .ok (.iload_n 2, 1) := by decide +kernel
theorem dX11_heard_14 : decode cX11_heard 14 = .ok (.iconst 1, 1) := by decide +kernel
theorem dX11_heard_15 : decode cX11_heard 15 = .ok (.sipush 300, 3) := by decide +kernel
theorem dX11_heard_18 : decode cX11_heard 18 = .ok (.invokestatic 109, 3) := by decide +kernel
theorem dX11_heard_21 : decode cX11_heard 21 = .ok (.ifCond .eq 21, 3) := by decide +kernel
theorem dX11_heard_24 : decode cX11_heard 24 = .ok (.iload_n 3, 1) := by decide +kernel
theorem dX11_heard_25 : decode cX11_heard 25 = .ok (.iconst (-1), 1) := by decide +kernel
theorem dX11_heard_26 : decode cX11_heard 26 = .ok (.iconst 4, 1) := by decide +kernel
theorem dX11_heard_27 : decode cX11_heard 27 = .ok (.invokestatic 109, 3) := by decide +kernel
theorem dX11_heard_30 : decode cX11_heard 30 = .ok (.ifCond .eq 12, 3) := by decide +kernel
theorem dX11_heard_33 : decode cX11_heard 33 = .ok (.aload_n 0, 1) := by decide +kernel
theorem dX11_heard_34 : decode cX11_heard 34 = .ok (.getfield 150, 3) := by decide +kernel
theorem dX11_heard_37 : decode cX11_heard 37 = .ok (.bipush 12, 2) := by decide +kernel
theorem dX11_heard_39 : decode cX11_heard 39 = .ok (.if_icmp .ne 5, 3) := by decide +kernel
theorem dX11_heard_42 : decode cX11_heard 42 = .ok (.iconst (-1), 1) := by decide +kernel
theorem dX11_heard_43 : decode cX11_heard 43 = .ok (.ireturn, 1) := by decide +kernel
theorem dX11_heard_44 : decode cX11_heard 44 = .ok (.aload_n 0, 1) := by decide +kernel
theorem dX11_heard_45 : decode cX11_heard 45 = .ok (.getfield 87, 3) := by decide +kernel
theorem dX11_heard_48 : decode cX11_heard 48 = .ok (.iconst 3, 1) := by decide +kernel
theorem dX11_heard_49 : decode cX11_heard 49 = .ok (.aload_n 0, 1) := by decide +kernel
theorem dX11_heard_50 : decode cX11_heard 50 = .ok (.getfield 150, 3) := by decide +kernel
theorem dX11_heard_53 : decode cX11_heard 53 = .ok (.imul, 1) := by decide +kernel
theorem dX11_heard_54 : decode cX11_heard 54 = .ok (.iload_n 1, 1) := by decide +kernel
theorem dX11_heard_55 : decode cX11_heard 55 = .ok (.iastore, 1) := by decide +kernel
theorem dX11_heard_56 : decode cX11_heard 56 = .ok (.aload_n 0, 1) := by decide +kernel
theorem dX11_heard_57 : decode cX11_heard 57 = .ok (.getfield 87, 3) := by decide +kernel
theorem dX11_heard_60 : decode cX11_heard 60 = .ok (.iconst 3, 1) := by decide +kernel
theorem dX11_heard_61 : decode cX11_heard 61 = .ok (.aload_n 0, 1) := by decide +kernel
theorem dX11_heard_62 : decode cX11_heard 62 = .ok (.getfield 150, 3) := by decide +kernel
theorem dX11_heard_65 : decode cX11_heard 65 = .ok (.imul, 1) := by decide +kernel
theorem dX11_heard_66 : decode cX11_heard 66 = .ok (.iconst 1, 1) := by decide +kernel
theorem dX11_heard_67 : decode cX11_heard 67 = .ok (.iadd, 1) := by decide +kernel
theorem dX11_heard_68 : decode cX11_heard 68 = .ok (.iload_n 2, 1) := by decide +kernel
theorem dX11_heard_69 : decode cX11_heard 69 = .ok (.iastore, 1) := by decide +kernel
theorem dX11_heard_70 : decode cX11_heard 70 = .ok (.aload_n 0, 1) := by decide +kernel
theorem dX11_heard_71 : decode cX11_heard 71 = .ok (.getfield 87, 3) := by decide +kernel
theorem dX11_heard_74 : decode cX11_heard 74 = .ok (.iconst 3, 1) := by decide +kernel
theorem dX11_heard_75 : decode cX11_heard 75 = .ok (.aload_n 0, 1) := by decide +kernel
theorem dX11_heard_76 : decode cX11_heard 76 = .ok (.getfield 150, 3) := by decide +kernel
theorem dX11_heard_79 : decode cX11_heard 79 = .ok (.imul, 1) := by decide +kernel
theorem dX11_heard_80 : decode cX11_heard 80 = .ok (.iconst 2, 1) := by decide +kernel
theorem dX11_heard_81 : decode cX11_heard 81 = .ok (.iadd, 1) := by decide +kernel
theorem dX11_heard_82 : decode cX11_heard 82 = .ok (.iload_n 3, 1) := by decide +kernel
theorem dX11_heard_83 : decode cX11_heard 83 = .ok (.iastore, 1) := by decide +kernel
theorem dX11_heard_84 : decode cX11_heard 84 = .ok (.aload_n 0, 1) := by decide +kernel
theorem dX11_heard_85 : decode cX11_heard 85 = .ok (.dup, 1) := by decide +kernel
theorem dX11_heard_86 : decode cX11_heard 86 = .ok (.getfield 150, 3) := by decide +kernel
theorem dX11_heard_89 : decode cX11_heard 89 = .ok (.iconst 1, 1) := by decide +kernel
theorem dX11_heard_90 : decode cX11_heard 90 = .ok (.iadd, 1) := by decide +kernel
theorem dX11_heard_91 : decode cX11_heard 91 = .ok (.putfield 150, 3) := by decide +kernel
theorem dX11_heard_94 : decode cX11_heard 94 = .ok (.aload_n 0, 1) := by decide +kernel
theorem dX11_heard_95 : decode cX11_heard 95 = .ok (.getfield 150, 3) := by decide +kernel
theorem dX11_heard_98 : decode cX11_heard 98 = .ok (.ireturn, 1) := by decide +kernel
theorem dX11_forget_0 : decode cX11_forget 0 = .ok (.aload_n 0, 1) := by decide +kernel
theorem dX11_forget_1 : decode cX11_forget 1 = .ok (.iconst 0, 1) := by decide +kernel
theorem dX11_forget_2 : decode cX11_forget 2 = .ok (.putfield 99, 3) := by decide +kernel
theorem dX11_forget_5 : decode cX11_forget 5 = .ok (.aload_n 0, 1) := by decide +kernel
theorem dX11_forget_6 : decode cX11_forget 6 = .ok (.getfield 150, 3) := by decide +kernel
theorem dX11_forget_9 : decode cX11_forget 9 = .ok (.istore_n 1, 1) := by decide +kernel
theorem dX11_forget_10 : decode cX11_forget 10 = .ok (.aload_n 0, 1) := by decide +kernel
theorem dX11_forget_11 : decode cX11_forget 11 = .ok (.iconst 0, 1) := by decide +kernel
theorem dX11_forget_12 : decode cX11_forget 12 = .ok (.putfield 150, 3) := by decide +kernel
theorem dX11_forget_15 : decode cX11_forget 15 = .ok (.iload_n 1, 1) := by decide +kernel
theorem dX11_forget_16 : decode cX11_forget 16 = .ok (.ireturn, 1) := by decide +kernel
theorem dX11_isHeard_0 : decode cX11_isHeard 0 = .ok (.aload_n 0, 1) := by decide +kernel
theorem dX11_isHeard_1 : decode cX11_isHeard 1 = .ok (.aload_n 2, 1) := by decide +kernel
theorem dX11_isHeard_2 : decode cX11_isHeard 2 = .ok (.aload_n 0, 1) := by decide +kernel
theorem dX11_isHeard_3 : decode cX11_isHeard 3 = .ok (.getfield 87, 3) := by decide +kernel
theorem dX11_isHeard_6 : decode cX11_isHeard 6 = .ok (.iconst 3, 1) := by decide +kernel
theorem dX11_isHeard_7 : decode cX11_isHeard 7 = .ok (.iload_n 1, 1) := by decide +kernel
theorem dX11_isHeard_8 : decode cX11_isHeard 8 = .ok (.imul, 1) := by decide +kernel
theorem dX11_isHeard_9 : decode cX11_isHeard 9 = .ok (.iaload, 1) := by decide +kernel
theorem dX11_isHeard_10 : decode cX11_isHeard 10 = .ok (.invokevirtual 238, 3) := by decide +kernel
theorem dX11_isHeard_13 : decode cX11_isHeard 13 = .ok (.istore_n 3, 1) := by decide +kernel
theorem dX11_isHeard_14 : decode cX11_isHeard 14 = .ok (.aload_n 0, 1) := by decide +kernel
theorem dX11_isHeard_15 : decode cX11_isHeard 15 = .ok (.getfield 87, 3) := by decide +kernel
theorem dX11_isHeard_18 : decode cX11_isHeard 18 = .ok (.iconst 3, 1) := by decide +kernel
theorem dX11_isHeard_19 : decode cX11_isHeard 19 = .ok (.iload_n 1, 1) := by decide +kernel
theorem dX11_isHeard_20 : decode cX11_isHeard 20 = .ok (.imul, 1) := by decide +kernel
theorem dX11_isHeard_21 : decode cX11_isHeard 21 = .ok (.iconst 2, 1) := by decide +kernel
theorem dX11_isHeard_22 : decode cX11_isHeard 22 = .ok (.iadd, 1) := by decide +kernel
theorem dX11_isHeard_23 : decode cX11_isHeard 23 = .ok (.iaload, 1) := by decide +kernel
theorem dX11_isHeard_24 : decode cX11_isHeard 24 = .ok (.iconst (-1), 1) := by decide +kernel
theorem dX11_isHeard_25 : decode cX11_isHeard 25 = .ok (.if_icmp .ne 13, 3) := by decide +kernel
theorem dX11_isHeard_28 : decode cX11_isHeard 28 = .ok (.iload_n 3, 1) := by decide +kernel
theorem dX11_isHeard_29 : decode cX11_isHeard 29 = .ok (.ifCond .ne 7, 3) := by decide +kernel
theorem dX11_isHeard_32 : decode cX11_isHeard 32 = .ok (.iconst 1, 1) := by decide +kernel
theorem dX11_isHeard_33 : decode cX11_isHeard 33 = .ok (.goto 4, 3) := by decide +kernel
theorem dX11_isHeard_36 : decode cX11_isHeard 36 = .ok (.iconst 0, 1) := by decide +kernel
theorem dX11_isHeard_37 : decode cX11_isHeard 37 = .ok (.ireturn, 1) := by decide +kernel
theorem dX11_isHeard_38 : decode cX11_isHeard 38 = .ok (.iconst 0, 1) := by decide +kernel
theorem dX11_isHeard_39 : decode cX11_isHeard 39 = .ok (.istore 4, 2) := by decide +kernel
theorem dX11_isHeard_41 : decode cX11_isHeard 41 = .ok (.iload 4, 2) := by decide +kernel
theorem dX11_isHeard_43 : decode cX11_isHeard 43 = .ok (.aload_n 0, 1) := by decide +kernel
theorem dX11_isHeard_44 : decode cX11_isHeard 44 = .ok (.getfield 113, 3) := by decide +kernel
theorem dX11_isHeard_47 : decode cX11_isHeard 47 = .ok (.if_icmp .ge 40, 3) := by decide +kernel
theorem dX11_isHeard_50 : decode cX11_isHeard 50 = .ok (.iload_n 3, 1) := by decide +kernel
theorem dX11_isHeard_51 : decode cX11_isHeard 51 = .ok (.iload 4, 2) := by decide +kernel
theorem dX11_isHeard_53 : decode cX11_isHeard 53 = .ok (.invokestatic 209, 3) := by decide +kernel
theorem dX11_isHeard_56 : decode cX11_isHeard 56 = .ok (.ifCond .eq 25, 3) := by decide +kernel
theorem dX11_isHeard_59 : decode cX11_isHeard 59 = .ok (.aload_n 0, 1) := by decide +kernel
theorem dX11_isHeard_60 : decode cX11_isHeard 60 = .ok (.getfield 20, 3) := by decide +kernel
theorem dX11_isHeard_63 : decode cX11_isHeard 63 = .ok (.iload 4, 2) := by decide +kernel
theorem dX11_isHeard_65 : decode cX11_isHeard 65 = .ok (.iaload, 1) := by decide +kernel
theorem dX11_isHeard_66 : decode cX11_isHeard 66 = .ok (.aload_n 0, 1) := by decide +kernel
theorem dX11_isHeard_67 : decode cX11_isHeard 67 = .ok (.getfield 87, 3) := by decide +kernel
theorem dX11_isHeard_70 : decode cX11_isHeard 70 = .ok (.iconst 3, 1) := by decide +kernel
theorem dX11_isHeard_71 : decode cX11_isHeard 71 = .ok (.iload_n 1, 1) := by decide +kernel
theorem dX11_isHeard_72 : decode cX11_isHeard 72 = .ok (.imul, 1) := by decide +kernel
theorem dX11_isHeard_73 : decode cX11_isHeard 73 = .ok (.iconst 2, 1) := by decide +kernel
theorem dX11_isHeard_74 : decode cX11_isHeard 74 = .ok (.iadd, 1) := by decide +kernel
theorem dX11_isHeard_75 : decode cX11_isHeard 75 = .ok (.iaload, 1) := by decide +kernel
theorem dX11_isHeard_76 : decode cX11_isHeard 76 = .ok (.if_icmp .ne 5, 3) := by decide +kernel
theorem dX11_isHeard_79 : decode cX11_isHeard 79 = .ok (.iconst 1, 1) := by decide +kernel
theorem dX11_isHeard_80 : decode cX11_isHeard 80 = .ok (.ireturn, 1) := by decide +kernel
theorem dX11_isHeard_81 : decode cX11_isHeard 81 = .ok (.iinc 4 1, 3) := by decide +kernel
theorem dX11_isHeard_84 : decode cX11_isHeard 84 = .ok (.goto (-43), 3) := by decide +kernel
theorem dX11_isHeard_87 : decode cX11_isHeard 87 = .ok (.iconst 0, 1) := by decide +kernel
theorem dX11_isHeard_88 : decode cX11_isHeard 88 = .ok (.ireturn, 1) := by decide +kernel
theorem dX11_isOrderHeard_0 : decode cX11_isOrderHeard 0 = .ok (.iconst 0, 1) := by decide +kernel
theorem dX11_isOrderHeard_1 : decode cX11_isOrderHeard 1 = .ok (.istore_n 1, 1) := by decide +kernel
theorem dX11_isOrderHeard_2 : decode cX11_isOrderHeard 2 = .ok (.iconst 0, 1) := by decide +kernel
theorem dX11_isOrderHeard_3 : decode cX11_isOrderHeard 3 = .ok (.istore_n 2, 1) := by decide +kernel
theorem dX11_isOrderHeard_4 : decode cX11_isOrderHeard 4 = .ok (.iload_n 2, 1) := by decide +kernel
theorem dX11_isOrderHeard_5 : decode cX11_isOrderHeard 5 = .ok (.aload_n 0, 1) := by decide +kernel
theorem dX11_isOrderHeard_6 : decode cX11_isOrderHeard 6 = .ok (.getfield 150, 3) := by decide +kernel
theorem dX11_isOrderHeard_9 : decode cX11_isOrderHeard 9 = .ok (.if_icmp .ge 24, 3) := by decide +kernel
theorem dX11_isOrderHeard_12 : decode cX11_isOrderHeard 12 = .ok (.iload_n 1, 1) := by decide +kernel
theorem dX11_isOrderHeard_13 : decode cX11_isOrderHeard 13 = .ok (.aload_n 0, 1) := by decide +kernel
theorem dX11_isOrderHeard_14 : decode cX11_isOrderHeard 14 = .ok (.getfield 87, 3) := by decide +kernel
theorem dX11_isOrderHeard_17 : decode cX11_isOrderHeard 17 = .ok (.iconst 3, 1) := by decide +kernel
theorem dX11_isOrderHeard_18 : decode cX11_isOrderHeard 18 = .ok (.iload_n 2, 1) := by decide +kernel
theorem dX11_isOrderHeard_19 : decode cX11_isOrderHeard 19 = .ok (.imul, 1) := by decide +kernel
theorem dX11_isOrderHeard_20 : decode cX11_isOrderHeard 20 = .ok (.iconst 1, 1) := by decide +kernel
theorem dX11_isOrderHeard_21 : decode cX11_isOrderHeard 21 = .ok (.iadd, 1) := by decide +kernel
theorem dX11_isOrderHeard_22 : decode cX11_isOrderHeard 22 = .ok (.iaload, 1) := by decide +kernel
theorem dX11_isOrderHeard_23 : decode cX11_isOrderHeard 23 = .ok (.invokestatic 218, 3) := by decide +kernel
theorem dX11_isOrderHeard_26 : decode cX11_isOrderHeard 26 = .ok (.istore_n 1, 1) := by decide +kernel
theorem dX11_isOrderHeard_27 : decode cX11_isOrderHeard 27 = .ok (.iinc 2 1, 3) := by decide +kernel
theorem dX11_isOrderHeard_30 : decode cX11_isOrderHeard 30 = .ok (.goto (-26), 3) := by decide +kernel
theorem dX11_isOrderHeard_33 : decode cX11_isOrderHeard 33 = .ok (.aload_n 0, 1) := by decide +kernel
theorem dX11_isOrderHeard_34 : decode cX11_isOrderHeard 34 = .ok (.getfield 9, 3) := by decide +kernel
theorem dX11_isOrderHeard_37 : decode cX11_isOrderHeard 37 = .ok (.aload_n 0, 1) := by decide +kernel
theorem dX11_isOrderHeard_38 : decode cX11_isOrderHeard 38 = .ok (.getfield 60, 3) := by decide +kernel
theorem dX11_isOrderHeard_41 : decode cX11_isOrderHeard 41 = .ok (.iconst 0, 1) := by decide +kernel
theorem dX11_isOrderHeard_42 : decode cX11_isOrderHeard 42 = .ok (.invokestatic 242, 3) := by decide +kernel
theorem dX11_isOrderHeard_45 : decode cX11_isOrderHeard 45 = .ok (.iconst 0, 1) := by decide +kernel
theorem dX11_isOrderHeard_46 : decode cX11_isOrderHeard 46 = .ok (.istore_n 2, 1) := by decide +kernel
theorem dX11_isOrderHeard_47 : decode cX11_isOrderHeard 47 = .ok (.iconst 1, 1) := by decide +kernel
theorem dX11_isOrderHeard_48 : decode cX11_isOrderHeard 48 = .ok (.istore_n 3, 1) := by decide +kernel
theorem dX11_isOrderHeard_49 : decode cX11_isOrderHeard 49 = .ok (.iload_n 3, 1) := by decide +kernel
theorem dX11_isOrderHeard_50 : decode cX11_isOrderHeard 50 = .ok (.iload_n 1, 1) := by decide +kernel
theorem dX11_isOrderHeard_51 : decode cX11_isOrderHeard 51 = .ok (.if_icmp .gt 110, 3) := by decide +kernel
theorem dX11_isOrderHeard_54 : decode cX11_isOrderHeard 54 = .ok (.iload_n 2, 1) := by decide +kernel
theorem dX11_isOrderHeard_55 : decode cX11_isOrderHeard 55 = .ok (.aload_n 0, 1) := by decide +kernel
theorem dX11_isOrderHeard_56 : decode cX11_isOrderHeard 56 = .ok (.getfield 315, 3) := by decide +kernel
theorem dX11_isOrderHeard_59 : decode cX11_isOrderHeard 59 = .ok (.if_icmp .ge 40, 3) := by decide +kernel
theorem dX11_isOrderHeard_62 : decode cX11_isOrderHeard 62 = .ok (.aload_n 0, 1) := by decide +kernel
theorem dX11_isOrderHeard_63 : decode cX11_isOrderHeard 63 = .ok (.aload_n 0, 1) := by decide +kernel
theorem dX11_isOrderHeard_64 : decode cX11_isOrderHeard 64 = .ok (.getfield 60, 3) := by decide +kernel
theorem dX11_isOrderHeard_67 : decode cX11_isOrderHeard 67 = .ok (.aload_n 0, 1) := by decide +kernel
theorem dX11_isOrderHeard_68 : decode cX11_isOrderHeard 68 = .ok (.getfield 63, 3) := by decide +kernel
theorem dX11_isOrderHeard_71 : decode cX11_isOrderHeard 71 = .ok (.iload_n 2, 1) := by decide +kernel
theorem dX11_isOrderHeard_72 : decode cX11_isOrderHeard 72 = .ok (.iaload, 1) := by decide +kernel
theorem dX11_isOrderHeard_73 : decode cX11_isOrderHeard 73 = .ok (.invokevirtual 268, 3) := by decide +kernel
theorem dX11_isOrderHeard_76 : decode cX11_isOrderHeard 76 = .ok (.ifCond .ne 23, 3) := by decide +kernel
theorem dX11_isOrderHeard_79 : decode cX11_isOrderHeard 79 = .ok (.aload_n 0, 1) := by decide +kernel
theorem dX11_isOrderHeard_80 : decode cX11_isOrderHeard 80 = .ok (.aload_n 0, 1) := by decide +kernel
theorem dX11_isOrderHeard_81 : decode cX11_isOrderHeard 81 = .ok (.getfield 60, 3) := by decide +kernel
theorem dX11_isOrderHeard_84 : decode cX11_isOrderHeard 84 = .ok (.aload_n 0, 1) := by decide +kernel
theorem dX11_isOrderHeard_85 : decode cX11_isOrderHeard 85 = .ok (.getfield 63, 3) := by decide +kernel
theorem dX11_isOrderHeard_88 : decode cX11_isOrderHeard 88 = .ok (.iload_n 2, 1) := by decide +kernel
theorem dX11_isOrderHeard_89 : decode cX11_isOrderHeard 89 = .ok (.iinc 2 1, 3) := by decide +kernel
theorem dX11_isOrderHeard_92 : decode cX11_isOrderHeard 92 = .ok (.iaload, 1) := by decide +kernel
theorem dX11_isOrderHeard_93 : decode cX11_isOrderHeard 93 = .ok (.invokevirtual 278, 3) := by decide +kernel
theorem dX11_isOrderHeard_96 : decode cX11_isOrderHeard 96 = .ok (.goto (-42), 3) := by decide +kernel
theorem dX11_isOrderHeard_99 : decode cX11_isOrderHeard 99 = .ok (.aload_n 0, 1) := by decide +kernel
theorem dX11_isOrderHeard_100 : decode cX11_isOrderHeard 100 = .ok (.aload_n 0, 1) := by decide +kernel
theorem dX11_isOrderHeard_101 : decode cX11_isOrderHeard 101 = .ok (.getfield 60, 3) := by decide +kernel
theorem dX11_isOrderHeard_104 : decode cX11_isOrderHeard 104 = .ok (.invokevirtual 297, 3) := by decide +kernel
theorem dX11_isOrderHeard_107 : decode cX11_isOrderHeard 107 = .ok (.iconst 0, 1) := by decide +kernel
theorem dX11_isOrderHeard_108 : decode cX11_isOrderHeard 108 = .ok (.istore 4, 2) := by decide +kernel
theorem dX11_isOrderHeard_110 : decode cX11_isOrderHeard 110 = .ok (.iload 4, 2) := by decide +kernel
theorem dX11_isOrderHeard_112 : decode cX11_isOrderHeard 112 = .ok (.aload_n 0, 1) := by decide +kernel
theorem dX11_isOrderHeard_113 : decode cX11_isOrderHeard 113 = .ok (.getfield 150, 3) := by decide +kernel
theorem dX11_isOrderHeard_116 : decode cX11_isOrderHeard 116 = .ok (.if_icmp .ge 39, 3) := by decide +kernel
theorem dX11_isOrderHeard_119 : decode cX11_isOrderHeard 119 = .ok (.aload_n 0, 1) := by decide +kernel
theorem dX11_isOrderHeard_120 : decode cX11_isOrderHeard 120 = .ok (.getfield 87, 3) := by decide +kernel
theorem dX11_isOrderHeard_123 : decode cX11_isOrderHeard 123 = .ok (.iconst 3, 1) := by decide +kernel
theorem dX11_isOrderHeard_124 : decode cX11_isOrderHeard 124 = .ok (.iload 4, 2) := by decide +kernel
theorem dX11_isOrderHeard_126 : decode cX11_isOrderHeard 126 = .ok (.imul, 1) := by decide +kernel
theorem dX11_isOrderHeard_127 : decode cX11_isOrderHeard 127 = .ok (.iconst 1, 1) := by decide +kernel
theorem dX11_isOrderHeard_128 : decode cX11_isOrderHeard 128 = .ok (.iadd, 1) := by decide +kernel
theorem dX11_isOrderHeard_129 : decode cX11_isOrderHeard 129 = .ok (.iaload, 1) := by decide +kernel
theorem dX11_isOrderHeard_130 : decode cX11_isOrderHeard 130 = .ok (.iload_n 3, 1) := by decide +kernel
theorem dX11_isOrderHeard_131 : decode cX11_isOrderHeard 131 = .ok (.if_icmp .ne 18, 3) := by decide +kernel
theorem dX11_isOrderHeard_134 : decode cX11_isOrderHeard 134 = .ok (.aload_n 0, 1) := by decide +kernel
theorem dX11_isOrderHeard_135 : decode cX11_isOrderHeard 135 = .ok (.iload 4, 2) := by decide +kernel
theorem dX11_isOrderHeard_137 : decode cX11_isOrderHeard 137 = .ok (.aload_n 0, 1) := by decide +kernel
theorem dX11_isOrderHeard_138 : decode cX11_isOrderHeard 138 = .ok (.getfield 60, 3) := by decide +kernel
theorem dX11_isOrderHeard_141 : decode cX11_isOrderHeard 141 = .ok (.invokevirtual 398, 3) := by decide +kernel
theorem dX11_isOrderHeard_144 : decode cX11_isOrderHeard 144 = .ok (.ifCond .ne 5, 3) := by decide +kernel
theorem dX11_isOrderHeard_147 : decode cX11_isOrderHeard 147 = .ok (.iconst 0, 1) := by decide +kernel
theorem dX11_isOrderHeard_148 : decode cX11_isOrderHeard 148 = .ok (.ireturn, 1) := by decide +kernel
theorem dX11_isOrderHeard_149 : decode cX11_isOrderHeard 149 = .ok (.iinc 4 1, 3) := by decide +kernel
theorem dX11_isOrderHeard_152 : decode cX11_isOrderHeard 152 = .ok (.goto (-42), 3) := by decide +kernel
theorem dX11_isOrderHeard_155 : decode cX11_isOrderHeard 155 = .ok (.iinc 3 1, 3) := by decide +kernel
theorem dX11_isOrderHeard_158 : decode cX11_isOrderHeard 158 = .ok (.goto (-109), 3) := by decide +kernel
theorem dX11_isOrderHeard_161 : decode cX11_isOrderHeard 161 = .ok (.iconst 1, 1) := by decide +kernel
theorem dX11_isOrderHeard_162 : decode cX11_isOrderHeard 162 = .ok (.ireturn, 1) := by decide +kernel
theorem dX11_findFits_0 : decode cX11_findFits 0 = .ok (.aload_n 0, 1) := by decide +kernel
theorem dX11_findFits_1 : decode cX11_findFits 1 = .ok (.iconst 0, 1) := by decide +kernel
theorem dX11_findFits_2 : decode cX11_findFits 2 = .ok (.putfield 402, 3) := by decide +kernel
theorem dX11_findFits_5 : decode cX11_findFits 5 = .ok (.aload_n 0, 1) := by decide +kernel
theorem dX11_findFits_6 : decode cX11_findFits 6 = .ok (.iconst 0, 1) := by decide +kernel
theorem dX11_findFits_7 : decode cX11_findFits 7 = .ok (.putfield 405, 3) := by decide +kernel
theorem dX11_findFits_10 : decode cX11_findFits 10 = .ok (.aload_n 0, 1) := by decide +kernel
theorem dX11_findFits_11 : decode cX11_findFits 11 = .ok (.iconst 0, 1) := by decide +kernel
theorem dX11_findFits_12 : decode cX11_findFits 12 = .ok (.putfield 408, 3) := by decide +kernel
theorem dX11_findFits_15 : decode cX11_findFits 15 = .ok (.aload_n 0, 1) := by decide +kernel
theorem dX11_findFits_16 : decode cX11_findFits 16 = .ok (.iload_n 1, 1) := by decide +kernel
theorem dX11_findFits_17 : decode cX11_findFits 17 = .ok (.invokevirtual 344, 3) := by decide +kernel
theorem dX11_findFits_20 : decode cX11_findFits 20 = .ok (.iconst 1, 1) := by decide +kernel
theorem dX11_findFits_21 : decode cX11_findFits 21 = .ok (.istore_n 2, 1) := by decide +kernel
theorem dX11_findFits_22 : decode cX11_findFits 22 = .ok (.iload_n 2, 1) := by decide +kernel
theorem dX11_findFits_23 : decode cX11_findFits 23 = .ok (.ifCond .eq 102, 3) := by decide +kernel
theorem dX11_findFits_26 : decode cX11_findFits 26 = .ok (.aload_n 0, 1) := by decide +kernel
theorem dX11_findFits_27 : decode cX11_findFits 27 = .ok (.invokevirtual 411, 3) := by decide +kernel
theorem dX11_findFits_30 : decode cX11_findFits 30 = .ok (.ifCond .eq 87, 3) := by decide +kernel
theorem dX11_findFits_33 : decode cX11_findFits 33 = .ok (.aload_n 0, 1) := by decide +kernel
theorem dX11_findFits_34 : decode cX11_findFits 34 = .ok (.getfield 402, 3) := by decide +kernel
theorem dX11_findFits_37 : decode cX11_findFits 37 = .ok (.ifCond .ne 31, 3) := by decide +kernel
theorem dX11_findFits_40 : decode cX11_findFits 40 = .ok (.iconst 0, 1) := by decide +kernel
theorem dX11_findFits_41 : decode cX11_findFits 41 = .ok (.istore_n 3, 1) := by decide +kernel
theorem dX11_findFits_42 : decode cX11_findFits 42 = .ok (.iload_n 3, 1) := by decide +kernel
theorem dX11_findFits_43 : decode cX11_findFits 43 = .ok (.aload_n 0, 1) := by decide +kernel
theorem dX11_findFits_44 : decode cX11_findFits 44 = .ok (.getfield 315, 3) := by decide +kernel
theorem dX11_findFits_47 : decode cX11_findFits 47 = .ok (.if_icmp .ge 21, 3) := by decide +kernel
theorem dX11_findFits_50 : decode cX11_findFits 50 = .ok (.aload_n 0, 1) := by decide +kernel
theorem dX11_findFits_51 : decode cX11_findFits 51 = .ok (.getfield 66, 3) := by decide +kernel
theorem dX11_findFits_54 : decode cX11_findFits 54 = .ok (.iload_n 3, 1) := by decide +kernel
theorem dX11_findFits_55 : decode cX11_findFits 55 = .ok (.aload_n 0, 1) := by decide +kernel
theorem dX11_findFits_56 : decode cX11_findFits 56 = .ok (.getfield 63, 3) := by decide +kernel
theorem dX11_findFits_59 : decode cX11_findFits 59 = .ok (.iload_n 3, 1) := by decide +kernel
theorem dX11_findFits_60 : decode cX11_findFits 60 = .ok (.iaload, 1) := by decide +kernel
theorem dX11_findFits_61 : decode cX11_findFits 61 = .ok (.iastore, 1) := by decide +kernel
theorem dX11_findFits_62 : decode cX11_findFits 62 = .ok (.iinc 3 1, 3) := by decide +kernel
theorem dX11_findFits_65 : decode cX11_findFits 65 = .ok (.goto (-23), 3) := by decide +kernel
theorem dX11_findFits_68 : decode cX11_findFits 68 = .ok (.aload_n 0, 1) := by decide +kernel
theorem dX11_findFits_69 : decode cX11_findFits 69 = .ok (.dup, 1) := by decide +kernel
theorem dX11_findFits_70 : decode cX11_findFits 70 = .ok (.getfield 402, 3) := by decide +kernel
theorem dX11_findFits_73 : decode cX11_findFits 73 = .ok (.iconst 1, 1) := by decide +kernel
theorem dX11_findFits_74 : decode cX11_findFits 74 = .ok (.iadd, 1) := by decide +kernel
theorem dX11_findFits_75 : decode cX11_findFits 75 = .ok (.putfield 402, 3) := by decide +kernel
theorem dX11_findFits_78 : decode cX11_findFits 78 = .ok (.aload_n 0, 1) := by decide +kernel
theorem dX11_findFits_79 : decode cX11_findFits 79 = .ok (.dup, 1) := by decide +kernel
theorem dX11_findFits_80 : decode cX11_findFits 80 = .ok (.getfield 405, 3) := by decide +kernel
theorem dX11_findFits_83 : decode cX11_findFits 83 = .ok (.iconst 1, 1) := by decide +kernel
theorem dX11_findFits_84 : decode cX11_findFits 84 = .ok (.aload_n 0, 1) := by decide +kernel
theorem dX11_findFits_85 : decode cX11_findFits 85 = .ok (.getfield 63, 3) := by decide +kernel
theorem dX11_findFits_88 : decode cX11_findFits 88 = .ok (.iconst 0, 1) := by decide +kernel
theorem dX11_findFits_89 : decode cX11_findFits 89 = .ok (.iaload, 1) := by decide +kernel
theorem dX11_findFits_90 : decode cX11_findFits 90 = .ok (.ishl, 1) := by decide +kernel
theorem dX11_findFits_91 : decode cX11_findFits 91 = .ok (.ior, 1) := by decide +kernel
theorem dX11_findFits_92 : decode cX11_findFits 92 = .ok (.putfield 405, 3) := by decide +kernel
theorem dX11_findFits_95 : decode cX11_findFits 95 = .ok (.aload_n 0, 1) := by decide +kernel
theorem dX11_findFits_96 : decode cX11_findFits 96 = .ok (.dup, 1) := by decide +kernel
theorem dX11_findFits_97 : decode cX11_findFits 97 = .ok (.getfield 408, 3) := by decide +kernel
theorem dX11_findFits_100 : decode cX11_findFits 100 = .ok (.iconst 1, 1) := by decide +kernel
theorem dX11_findFits_101 : decode cX11_findFits 101 = .ok (.aload_n 0, 1) := by decide +kernel
theorem dX11_findFits_102 : decode cX11_findFits 102 = .ok (.getfield 63, 3) := by decide +kernel
theorem dX11_findFits_105 : decode cX11_findFits 105 = .ok (.aload_n 0, 1) := by decide +kernel
theorem dX11_findFits_106 : decode cX11_findFits 106 = .ok (.getfield 315, 3) := by decide +kernel
theorem dX11_findFits_109 : decode cX11_findFits 109 = .ok (.iconst 1, 1) := by decide +kernel
theorem dX11_findFits_110 : decode cX11_findFits 110 = .ok (.isub, 1) := by decide +kernel
theorem dX11_findFits_111 : decode cX11_findFits 111 = .ok (.iaload, 1) := by decide +kernel
theorem dX11_findFits_112 : decode cX11_findFits 112 = .ok (.ishl, 1) := by decide +kernel
theorem dX11_findFits_113 : decode cX11_findFits 113 = .ok (.ior, 1) := by decide +kernel
theorem dX11_findFits_114 : decode cX11_findFits 114 = .ok (.putfield 408, 3) := by decide +kernel
theorem dX11_findFits_117 : decode cX11_findFits 117 = .ok (.aload_n 0, 1) := by decide +kernel
theorem dX11_findFits_118 : decode cX11_findFits 118 = .ok (.invokevirtual 347, 3) := by decide +kernel
theorem dX11_findFits_121 : decode cX11_findFits 121 = .ok (.istore_n 2, 1) := by decide +kernel
theorem dX11_findFits_122 : decode cX11_findFits 122 = .ok (.goto (-100), 3) := by decide +kernel
theorem dX11_findFits_125 : decode cX11_findFits 125 = .ok (.return_, 1) := by decide +kernel
theorem dX11_fits_0 : decode cX11_fits 0 = .ok (.aload_n 0, 1) := by decide +kernel
theorem dX11_fits_1 : decode cX11_fits 1 = .ok (.iconst 0, 1) := by decide +kernel
theorem dX11_fits_2 : decode cX11_fits 2 = .ok (.putfield 99, 3) := by decide +kernel
theorem dX11_fits_5 : decode cX11_fits 5 = .ok (.aload_n 0, 1) := by decide +kernel
theorem dX11_fits_6 : decode cX11_fits 6 = .ok (.iload_n 1, 1) := by decide +kernel
theorem dX11_fits_7 : decode cX11_fits 7 = .ok (.invokevirtual 350, 3) := by decide +kernel
theorem dX11_fits_10 : decode cX11_fits 10 = .ok (.ifCond .ne 5, 3) := by decide +kernel
theorem dX11_fits_13 : decode cX11_fits 13 = .ok (.iconst (-1), 1) := by decide +kernel
theorem dX11_fits_14 : decode cX11_fits 14 = .ok (.ireturn, 1) := by decide +kernel
theorem dX11_fits_15 : decode cX11_fits 15 = .ok (.aload_n 0, 1) := by decide +kernel
theorem dX11_fits_16 : decode cX11_fits 16 = .ok (.invokevirtual 271, 3) := by decide +kernel
theorem dX11_fits_19 : decode cX11_fits 19 = .ok (.aload_n 0, 1) := by decide +kernel
theorem dX11_fits_20 : decode cX11_fits 20 = .ok (.iload_n 1, 1) := by decide +kernel
theorem dX11_fits_21 : decode cX11_fits 21 = .ok (.invokevirtual 414, 3) := by decide +kernel
theorem dX11_fits_24 : decode cX11_fits 24 = .ok (.aload_n 0, 1) := by decide +kernel
theorem dX11_fits_25 : decode cX11_fits 25 = .ok (.iconst 0, 1) := by decide +kernel
theorem dX11_fits_26 : decode cX11_fits 26 = .ok (.putfield 103, 3) := by decide +kernel
theorem dX11_fits_29 : decode cX11_fits 29 = .ok (.iconst 0, 1) := by decide +kernel
theorem dX11_fits_30 : decode cX11_fits 30 = .ok (.istore_n 2, 1) := by decide +kernel
theorem dX11_fits_31 : decode cX11_fits 31 = .ok (.iload_n 2, 1) := by decide +kernel
theorem dX11_fits_32 : decode cX11_fits 32 = .ok (.aload_n 0, 1) := by decide +kernel
theorem dX11_fits_33 : decode cX11_fits 33 = .ok (.getfield 315, 3) := by decide +kernel
theorem dX11_fits_36 : decode cX11_fits 36 = .ok (.if_icmp .ge 26, 3) := by decide +kernel
theorem dX11_fits_39 : decode cX11_fits 39 = .ok (.aload_n 0, 1) := by decide +kernel
theorem dX11_fits_40 : decode cX11_fits 40 = .ok (.getfield 402, 3) := by decide +kernel
theorem dX11_fits_43 : decode cX11_fits 43 = .ok (.ifCond .le 19, 3) := by decide +kernel
theorem dX11_fits_46 : decode cX11_fits 46 = .ok (.aload_n 0, 1) := by decide +kernel
theorem dX11_fits_47 : decode cX11_fits 47 = .ok (.aload_n 0, 1) := by decide +kernel
theorem dX11_fits_48 : decode cX11_fits 48 = .ok (.getfield 66, 3) := by decide +kernel
theorem dX11_fits_51 : decode cX11_fits 51 = .ok (.iload_n 2, 1) := by decide +kernel
theorem dX11_fits_52 : decode cX11_fits 52 = .ok (.iaload, 1) := by decide +kernel
theorem dX11_fits_53 : decode cX11_fits 53 = .ok (.invokevirtual 300, 3) := by decide +kernel
theorem dX11_fits_56 : decode cX11_fits 56 = .ok (.iinc 2 1, 3) := by decide +kernel
theorem dX11_fits_59 : decode cX11_fits 59 = .ok (.goto (-28), 3) := by decide +kernel
theorem dX11_fits_62 : decode cX11_fits 62 = .ok (.aload_n 0, 1) := by decide +kernel
theorem dX11_fits_63 : decode cX11_fits 63 = .ok (.getfield 402, 3) := by decide +kernel
theorem dX11_fits_66 : decode cX11_fits 66 = .ok (.ireturn, 1) := by decide +kernel
theorem dX11_began_0 : decode cX11_began 0 = .ok (.aload_n 0, 1) := by decide +kernel
theorem dX11_began_1 : decode cX11_began 1 = .ok (.iconst 0, 1) := by decide +kernel
theorem dX11_began_2 : decode cX11_began 2 = .ok (.putfield 99, 3) := by decide +kernel
theorem dX11_began_5 : decode cX11_began 5 = .ok (.aload_n 0, 1) := by decide +kernel
theorem dX11_began_6 : decode cX11_began 6 = .ok (.iload_n 1, 1) := by decide +kernel
theorem dX11_began_7 : decode cX11_began 7 = .ok (.invokevirtual 350, 3) := by decide +kernel
theorem dX11_began_10 : decode cX11_began 10 = .ok (.ifCond .ne 5, 3) := by decide +kernel
theorem dX11_began_13 : decode cX11_began 13 = .ok (.iconst (-1), 1) := by decide +kernel
theorem dX11_began_14 : decode cX11_began 14 = .ok (.ireturn, 1) := by decide +kernel
theorem dX11_began_15 : decode cX11_began 15 = .ok (.aload_n 0, 1) := by decide +kernel
theorem dX11_began_16 : decode cX11_began 16 = .ok (.invokevirtual 271, 3) := by decide +kernel
theorem dX11_began_19 : decode cX11_began 19 = .ok (.aload_n 0, 1) := by decide +kernel
theorem dX11_began_20 : decode cX11_began 20 = .ok (.iload_n 1, 1) := by decide +kernel
theorem dX11_began_21 : decode cX11_began 21 = .ok (.invokevirtual 414, 3) := by decide +kernel
theorem dX11_began_24 : decode cX11_began 24 = .ok (.aload_n 0, 1) := by decide +kernel
theorem dX11_began_25 : decode cX11_began 25 = .ok (.iconst 0, 1) := by decide +kernel
theorem dX11_began_26 : decode cX11_began 26 = .ok (.putfield 103, 3) := by decide +kernel
theorem dX11_began_29 : decode cX11_began 29 = .ok (.aload_n 0, 1) := by decide +kernel
theorem dX11_began_30 : decode cX11_began 30 = .ok (.aload_n 0, 1) := by decide +kernel
theorem dX11_began_31 : decode cX11_began 31 = .ok (.getfield 408, 3) := by decide +kernel
theorem dX11_began_34 : decode cX11_began 34 = .ok (.invokevirtual 300, 3) := by decide +kernel
theorem dX11_began_37 : decode cX11_began 37 = .ok (.aload_n 0, 1) := by decide +kernel
theorem dX11_began_38 : decode cX11_began 38 = .ok (.getfield 405, 3) := by decide +kernel
theorem dX11_began_41 : decode cX11_began 41 = .ok (.ireturn, 1) := by decide +kernel
theorem dX11_draw_0 : decode cX11_draw 0 = .ok (.aload_n 0, 1) := by decide +kernel
theorem dX11_draw_1 : decode cX11_draw 1 = .ok (.aload_n 0, 1) := by decide +kernel
theorem dX11_draw_2 : decode cX11_draw 2 = .ok (.getfield 417, 3) := by decide +kernel
theorem dX11_draw_5 : decode cX11_draw 5 = .ok (.ldc_w 420, 3) := by decide +kernel
theorem dX11_draw_8 : decode cX11_draw 8 = .ok (.imul, 1) := by decide +kernel
theorem dX11_draw_9 : decode cX11_draw 9 = .ok (.sipush 12345, 3) := by decide +kernel
theorem dX11_draw_12 : decode cX11_draw 12 = .ok (.iadd, 1) := by decide +kernel
theorem dX11_draw_13 : decode cX11_draw 13 = .ok (.putfield 417, 3) := by decide +kernel
theorem dX11_draw_16 : decode cX11_draw 16 = .ok (.aload_n 0, 1) := by decide +kernel
theorem dX11_draw_17 : decode cX11_draw 17 = .ok (.getfield 417, 3) := by decide +kernel
theorem dX11_draw_20 : decode cX11_draw 20 = .ok (.bipush 16, 2) := by decide +kernel
theorem dX11_draw_22 : decode cX11_draw 22 = .ok (.iushr, 1) := by decide +kernel
theorem dX11_draw_23 : decode cX11_draw 23 = .ok (.iload_n 1, 1) := by decide +kernel
theorem dX11_draw_24 : decode cX11_draw 24 = .ok (.irem, 1) := by decide +kernel
theorem dX11_draw_25 : decode cX11_draw 25 = .ok (.ireturn, 1) := by decide +kernel
theorem dJ6_numberOfTrailingZeros_0f7a4_0 : decode cJ6_numberOfTrailingZeros_0f7a4 0 = .ok (.iload_n 0, 1) := by decide +kernel
theorem dJ6_numberOfTrailingZeros_0f7a4_1 : decode cJ6_numberOfTrailingZeros_0f7a4 1 = .ok (.iconst (-1), 1) := by decide +kernel
theorem dJ6_numberOfTrailingZeros_0f7a4_2 : decode cJ6_numberOfTrailingZeros_0f7a4 2 = .ok (.ixor, 1) := by decide +kernel
theorem dJ6_numberOfTrailingZeros_0f7a4_3 : decode cJ6_numberOfTrailingZeros_0f7a4 3 = .ok (.iload_n 0, 1) := by decide +kernel
theorem dJ6_numberOfTrailingZeros_0f7a4_4 : decode cJ6_numberOfTrailingZeros_0f7a4 4 = .ok (.iconst 1, 1) := by decide +kernel
theorem dJ6_numberOfTrailingZeros_0f7a4_5 : decode cJ6_numberOfTrailingZeros_0f7a4 5 = .ok (.isub, 1) := by decide +kernel
theorem dJ6_numberOfTrailingZeros_0f7a4_6 : decode cJ6_numberOfTrailingZeros_0f7a4 6 = .ok (.iand, 1) := by decide +kernel
theorem dJ6_numberOfTrailingZeros_0f7a4_7 : decode cJ6_numberOfTrailingZeros_0f7a4 7 = .ok (.istore_n 0, 1) := by decide +kernel
theorem dJ6_numberOfTrailingZeros_0f7a4_8 : decode cJ6_numberOfTrailingZeros_0f7a4 8 = .ok (.iload_n 0, 1) := by decide +kernel
theorem dJ6_numberOfTrailingZeros_0f7a4_9 : decode cJ6_numberOfTrailingZeros_0f7a4 9 = .ok (.ifCond .gt 8, 3) := by decide +kernel
theorem dJ6_numberOfTrailingZeros_0f7a4_12 : decode cJ6_numberOfTrailingZeros_0f7a4 12 = .ok (.iload_n 0, 1) := by decide +kernel
theorem dJ6_numberOfTrailingZeros_0f7a4_13 : decode cJ6_numberOfTrailingZeros_0f7a4 13 = .ok (.bipush 32, 2) := by decide +kernel
theorem dJ6_numberOfTrailingZeros_0f7a4_15 : decode cJ6_numberOfTrailingZeros_0f7a4 15 = .ok (.iand, 1) := by decide +kernel
theorem dJ6_numberOfTrailingZeros_0f7a4_16 : decode cJ6_numberOfTrailingZeros_0f7a4 16 = .ok (.ireturn, 1) := by decide +kernel
theorem dJ6_numberOfTrailingZeros_0f7a4_17 : decode cJ6_numberOfTrailingZeros_0f7a4 17 = .ok (.iconst 1, 1) := by decide +kernel
theorem dJ6_numberOfTrailingZeros_0f7a4_18 : decode cJ6_numberOfTrailingZeros_0f7a4 18 = .ok (.istore_n 1, 1) := by decide +kernel
theorem dJ6_numberOfTrailingZeros_0f7a4_19 : decode cJ6_numberOfTrailingZeros_0f7a4 19 = .ok (.iload_n 0, 1) := by decide +kernel
theorem dJ6_numberOfTrailingZeros_0f7a4_20 : decode cJ6_numberOfTrailingZeros_0f7a4 20 = .ok (.ldc_w 264, 3) := by decide +kernel
theorem dJ6_numberOfTrailingZeros_0f7a4_23 : decode cJ6_numberOfTrailingZeros_0f7a4 23 = .ok (.if_icmp .le 11, 3) := by decide +kernel
theorem dJ6_numberOfTrailingZeros_0f7a4_26 : decode cJ6_numberOfTrailingZeros_0f7a4 26 = .ok (.iinc 1 16, 3) := by decide +kernel
theorem dJ6_numberOfTrailingZeros_0f7a4_29 : decode cJ6_numberOfTrailingZeros_0f7a4 29 = .ok (.iload_n 0, 1) := by decide +kernel
theorem dJ6_numberOfTrailingZeros_0f7a4_30 : decode cJ6_numberOfTrailingZeros_0f7a4 30 = .ok (.bipush 16, 2) := by decide +kernel
theorem dJ6_numberOfTrailingZeros_0f7a4_32 : decode cJ6_numberOfTrailingZeros_0f7a4 32 = .ok (.iushr, 1) := by decide +kernel
theorem dJ6_numberOfTrailingZeros_0f7a4_33 : decode cJ6_numberOfTrailingZeros_0f7a4 33 = .ok (.istore_n 0, 1) := by decide +kernel
theorem dJ6_numberOfTrailingZeros_0f7a4_34 : decode cJ6_numberOfTrailingZeros_0f7a4 34 = .ok (.iload_n 0, 1) := by decide +kernel
theorem dJ6_numberOfTrailingZeros_0f7a4_35 : decode cJ6_numberOfTrailingZeros_0f7a4 35 = .ok (.sipush 256, 3) := by decide +kernel
theorem dJ6_numberOfTrailingZeros_0f7a4_38 : decode cJ6_numberOfTrailingZeros_0f7a4 38 = .ok (.if_icmp .le 11, 3) := by decide +kernel
theorem dJ6_numberOfTrailingZeros_0f7a4_41 : decode cJ6_numberOfTrailingZeros_0f7a4 41 = .ok (.iinc 1 8, 3) := by decide +kernel
theorem dJ6_numberOfTrailingZeros_0f7a4_44 : decode cJ6_numberOfTrailingZeros_0f7a4 44 = .ok (.iload_n 0, 1) := by decide +kernel
theorem dJ6_numberOfTrailingZeros_0f7a4_45 : decode cJ6_numberOfTrailingZeros_0f7a4 45 = .ok (.bipush 8, 2) := by decide +kernel
theorem dJ6_numberOfTrailingZeros_0f7a4_47 : decode cJ6_numberOfTrailingZeros_0f7a4 47 = .ok (.iushr, 1) := by decide +kernel
theorem dJ6_numberOfTrailingZeros_0f7a4_48 : decode cJ6_numberOfTrailingZeros_0f7a4 48 = .ok (.istore_n 0, 1) := by decide +kernel
theorem dJ6_numberOfTrailingZeros_0f7a4_49 : decode cJ6_numberOfTrailingZeros_0f7a4 49 = .ok (.iload_n 0, 1) := by decide +kernel
theorem dJ6_numberOfTrailingZeros_0f7a4_50 : decode cJ6_numberOfTrailingZeros_0f7a4 50 = .ok (.bipush 16, 2) := by decide +kernel
theorem dJ6_numberOfTrailingZeros_0f7a4_52 : decode cJ6_numberOfTrailingZeros_0f7a4 52 = .ok (.if_icmp .le 10, 3) := by decide +kernel
theorem dJ6_numberOfTrailingZeros_0f7a4_55 : decode cJ6_numberOfTrailingZeros_0f7a4 55 = .ok (.iinc 1 4, 3) := by decide +kernel
theorem dJ6_numberOfTrailingZeros_0f7a4_58 : decode cJ6_numberOfTrailingZeros_0f7a4 58 = .ok (.iload_n 0, 1) := by decide +kernel
theorem dJ6_numberOfTrailingZeros_0f7a4_59 : decode cJ6_numberOfTrailingZeros_0f7a4 59 = .ok (.iconst 4, 1) := by decide +kernel
theorem dJ6_numberOfTrailingZeros_0f7a4_60 : decode cJ6_numberOfTrailingZeros_0f7a4 60 = .ok (.iushr, 1) := by decide +kernel
theorem dJ6_numberOfTrailingZeros_0f7a4_61 : decode cJ6_numberOfTrailingZeros_0f7a4 61 = .ok (.istore_n 0, 1) := by decide +kernel
theorem dJ6_numberOfTrailingZeros_0f7a4_62 : decode cJ6_numberOfTrailingZeros_0f7a4 62 = .ok (.iload_n 0, 1) := by decide +kernel
theorem dJ6_numberOfTrailingZeros_0f7a4_63 : decode cJ6_numberOfTrailingZeros_0f7a4 63 = .ok (.iconst 4, 1) := by decide +kernel
theorem dJ6_numberOfTrailingZeros_0f7a4_64 : decode cJ6_numberOfTrailingZeros_0f7a4 64 = .ok (.if_icmp .le 10, 3) := by decide +kernel
theorem dJ6_numberOfTrailingZeros_0f7a4_67 : decode cJ6_numberOfTrailingZeros_0f7a4 67 = .ok (.iinc 1 2, 3) := by decide +kernel
theorem dJ6_numberOfTrailingZeros_0f7a4_70 : decode cJ6_numberOfTrailingZeros_0f7a4 70 = .ok (.iload_n 0, 1) := by decide +kernel
theorem dJ6_numberOfTrailingZeros_0f7a4_71 : decode cJ6_numberOfTrailingZeros_0f7a4 71 = .ok (.iconst 2, 1) := by decide +kernel
theorem dJ6_numberOfTrailingZeros_0f7a4_72 : decode cJ6_numberOfTrailingZeros_0f7a4 72 = .ok (.iushr, 1) := by decide +kernel
theorem dJ6_numberOfTrailingZeros_0f7a4_73 : decode cJ6_numberOfTrailingZeros_0f7a4 73 = .ok (.istore_n 0, 1) := by decide +kernel
theorem dJ6_numberOfTrailingZeros_0f7a4_74 : decode cJ6_numberOfTrailingZeros_0f7a4 74 = .ok (.iload_n 1, 1) := by decide +kernel
theorem dJ6_numberOfTrailingZeros_0f7a4_75 : decode cJ6_numberOfTrailingZeros_0f7a4 75 = .ok (.iload_n 0, 1) := by decide +kernel
theorem dJ6_numberOfTrailingZeros_0f7a4_76 : decode cJ6_numberOfTrailingZeros_0f7a4 76 = .ok (.iconst 1, 1) := by decide +kernel
theorem dJ6_numberOfTrailingZeros_0f7a4_77 : decode cJ6_numberOfTrailingZeros_0f7a4 77 = .ok (.iushr, 1) := by decide +kernel
theorem dJ6_numberOfTrailingZeros_0f7a4_78 : decode cJ6_numberOfTrailingZeros_0f7a4 78 = .ok (.iadd, 1) := by decide +kernel
theorem dJ6_numberOfTrailingZeros_0f7a4_79 : decode cJ6_numberOfTrailingZeros_0f7a4 79 = .ok (.ireturn, 1) := by decide +kernel
theorem dX11_drawOrder_0 : decode cX11_drawOrder 0 = .ok (.iload_n 1, 1) := by decide +kernel
theorem dX11_drawOrder_1 : decode cX11_drawOrder 1 = .ok (.istore_n 2, 1) := by decide +kernel
theorem dX11_drawOrder_2 : decode cX11_drawOrder 2 = .ok (.aload_n 0, 1) := by decide +kernel
theorem dX11_drawOrder_3 : decode cX11_drawOrder 3 = .ok (.iconst 0, 1) := by decide +kernel
theorem dX11_drawOrder_4 : decode cX11_drawOrder 4 = .ok (.putfield 315, 3) := by decide +kernel
theorem dX11_drawOrder_7 : decode cX11_drawOrder 7 = .ok (.iload_n 2, 1) := by decide +kernel
theorem dX11_drawOrder_8 : decode cX11_drawOrder 8 = .ok (.ifCond .eq 79, 3) := by decide +kernel
theorem dX11_drawOrder_11 : decode cX11_drawOrder 11 = .ok (.aload_n 0, 1) := by decide +kernel
theorem dX11_drawOrder_12 : decode cX11_drawOrder 12 = .ok (.iload_n 2, 1) := by decide +kernel
theorem dX11_drawOrder_13 : decode cX11_drawOrder 13 = .ok (.invokestatic 285, 3) := by decide +kernel
theorem dX11_drawOrder_16 : decode cX11_drawOrder 16 = .ok (.invokevirtual 421, 3) := by decide +kernel
theorem dX11_drawOrder_19 : decode cX11_drawOrder 19 = .ok (.istore_n 3, 1) := by decide +kernel
theorem dX11_drawOrder_20 : decode cX11_drawOrder 20 = .ok (.iload_n 2, 1) := by decide +kernel
theorem dX11_drawOrder_21 : decode cX11_drawOrder 21 = .ok (.istore 4, 2) := by decide +kernel
theorem dX11_drawOrder_23 : decode cX11_drawOrder 23 = .ok (.iconst 0, 1) := by decide +kernel
theorem dX11_drawOrder_24 : decode cX11_drawOrder 24 = .ok (.istore 5, 2) := by decide +kernel
theorem dX11_drawOrder_26 : decode cX11_drawOrder 26 = .ok (.iload 5, 2) := by decide +kernel
theorem dX11_drawOrder_28 : decode cX11_drawOrder 28 = .ok (.iload_n 3, 1) := by decide +kernel
theorem dX11_drawOrder_29 : decode cX11_drawOrder 29 = .ok (.if_icmp .ge 18, 3) := by decide +kernel
theorem dX11_drawOrder_32 : decode cX11_drawOrder 32 = .ok (.iload 4, 2) := by decide +kernel
theorem dX11_drawOrder_34 : decode cX11_drawOrder 34 = .ok (.iload 4, 2) := by decide +kernel
theorem dX11_drawOrder_36 : decode cX11_drawOrder 36 = .ok (.iconst 1, 1) := by decide +kernel
theorem dX11_drawOrder_37 : decode cX11_drawOrder 37 = .ok (.isub, 1) := by decide +kernel
theorem dX11_drawOrder_38 : decode cX11_drawOrder 38 = .ok (.iand, 1) := by decide +kernel
theorem dX11_drawOrder_39 : decode cX11_drawOrder 39 = .ok (.istore 4, 2) := by decide +kernel
theorem dX11_drawOrder_41 : decode cX11_drawOrder 41 = .ok (.iinc 5 1, 3) := by decide +kernel
theorem dX11_drawOrder_44 : decode cX11_drawOrder 44 = .ok (.goto (-18), 3) := by decide +kernel
theorem dX11_drawOrder_47 : decode cX11_drawOrder 47 = .ok (.iload 4, 2) := by decide +kernel
theorem dX11_drawOrder_49 : decode cX11_drawOrder 49 = .ok (.invokestatic 424, 3) := by decide +kernel
theorem dX11_drawOrder_52 : decode cX11_drawOrder 52 = .ok (.istore 5, 2) := by decide +kernel
theorem dX11_drawOrder_54 : decode cX11_drawOrder 54 = .ok (.aload_n 0, 1) := by decide +kernel
theorem dX11_drawOrder_55 : decode cX11_drawOrder 55 = .ok (.getfield 63, 3) := by decide +kernel
theorem dX11_drawOrder_58 : decode cX11_drawOrder 58 = .ok (.aload_n 0, 1) := by decide +kernel
theorem dX11_drawOrder_59 : decode cX11_drawOrder 59 = .ok (.getfield 315, 3) := by decide +kernel
theorem dX11_drawOrder_62 : decode cX11_drawOrder 62 = .ok (.iload 5, 2) := by decide +kernel
theorem dX11_drawOrder_64 : decode cX11_drawOrder 64 = .ok (.iastore, 1) := by decide +kernel
theorem dX11_drawOrder_65 : decode cX11_drawOrder 65 = .ok (.aload_n 0, 1) := by decide +kernel
theorem dX11_drawOrder_66 : decode cX11_drawOrder 66 = .ok (.dup, 1) := by decide +kernel
theorem dX11_drawOrder_67 : decode cX11_drawOrder 67 = .ok (.getfield 315, 3) := by decide +kernel
theorem dX11_drawOrder_70 : decode cX11_drawOrder 70 = .ok (.iconst 1, 1) := by decide +kernel
theorem dX11_drawOrder_71 : decode cX11_drawOrder 71 = .ok (.iadd, 1) := by decide +kernel
theorem dX11_drawOrder_72 : decode cX11_drawOrder 72 = .ok (.putfield 315, 3) := by decide +kernel
theorem dX11_drawOrder_75 : decode cX11_drawOrder 75 = .ok (.iload_n 2, 1) := by decide +kernel
theorem dX11_drawOrder_76 : decode cX11_drawOrder 76 = .ok (.iconst 1, 1) := by decide +kernel
theorem dX11_drawOrder_77 : decode cX11_drawOrder 77 = .ok (.iload 5, 2) := by decide +kernel
theorem dX11_drawOrder_79 : decode cX11_drawOrder 79 = .ok (.ishl, 1) := by decide +kernel
theorem dX11_drawOrder_80 : decode cX11_drawOrder 80 = .ok (.iconst (-1), 1) := by decide +kernel
theorem dX11_drawOrder_81 : decode cX11_drawOrder 81 = .ok (.ixor, 1) := by decide +kernel
theorem dX11_drawOrder_82 : decode cX11_drawOrder 82 = .ok (.iand, 1) := by decide +kernel
theorem dX11_drawOrder_83 : decode cX11_drawOrder 83 = .ok (.istore_n 2, 1) := by decide +kernel
theorem dX11_drawOrder_84 : decode cX11_drawOrder 84 = .ok (.goto (-77), 3) := by decide +kernel
theorem dX11_drawOrder_87 : decode cX11_drawOrder 87 = .ok (.return_, 1) := by decide +kernel
theorem dX11_season_0 : decode cX11_season 0 = .ok (.aload_n 0, 1) := by decide +kernel
theorem dX11_season_1 : decode cX11_season 1 = .ok (.iconst 0, 1) := by decide +kernel
theorem dX11_season_2 : decode cX11_season 2 = .ok (.putfield 99, 3) := by decide +kernel
theorem dX11_season_5 : decode cX11_season 5 = .ok (.aload_n 0, 1) := by decide +kernel
theorem dX11_season_6 : decode cX11_season 6 = .ok (.iload_n 1, 1) := by decide +kernel
theorem dX11_season_7 : decode cX11_season 7 = .ok (.invokevirtual 350, 3) := by decide +kernel
theorem dX11_season_10 : decode cX11_season 10 = .ok (.ifCond .eq 13, 3) := by decide +kernel
theorem dX11_season_13 : decode cX11_season 13 = .ok (.iload_n 3, 1) := by decide +kernel
theorem dX11_season_14 : decode cX11_season 14 = .ok (.iconst 1, 1) := by decide +kernel
theorem dX11_season_15 : decode cX11_season 15 = .ok (.bipush 20, 2) := by decide +kernel
theorem dX11_season_17 : decode cX11_season 17 = .ok (.invokestatic 109, 3) := by decide +kernel
theorem dX11_season_20 : decode cX11_season 20 = .ok (.ifCond .ne 5, 3) := by decide +kernel
theorem dX11_season_23 : decode cX11_season 23 = .ok (.iconst (-1), 1) := by decide +kernel
theorem dX11_season_24 : decode cX11_season 24 = .ok (.ireturn, 1) := by decide +kernel
theorem dX11_season_25 : decode cX11_season 25 = .ok (.aload_n 0, 1) := by decide +kernel
theorem dX11_season_26 : decode cX11_season 26 = .ok (.invokevirtual 271, 3) := by decide +kernel
theorem dX11_season_29 : decode cX11_season 29 = .ok (.aload_n 0, 1) := by decide +kernel
theorem dX11_season_30 : decode cX11_season 30 = .ok (.iload_n 2, 1) := by decide +kernel
theorem dX11_season_31 : decode cX11_season 31 = .ok (.putfield 417, 3) := by decide +kernel
theorem dX11_season_34 : decode cX11_season 34 = .ok (.iconst 0, 1) := by decide +kernel
theorem dX11_season_35 : decode cX11_season 35 = .ok (.istore 4, 2) := by decide +kernel
theorem dX11_season_37 : decode cX11_season 37 = .ok (.iconst (-1), 1) := by decide +kernel
theorem dX11_season_38 : decode cX11_season 38 = .ok (.istore 5, 2) := by decide +kernel
theorem dX11_season_40 : decode cX11_season 40 = .ok (.iconst (-1), 1) := by decide +kernel
theorem dX11_season_41 : decode cX11_season 41 = .ok (.istore 6, 2) := by decide +kernel
theorem dX11_season_43 : decode cX11_season 43 = .ok (.iconst (-1), 1) := by decide +kernel
theorem dX11_season_44 : decode cX11_season 44 = .ok (.istore 7, 2) := by decide +kernel
theorem dX11_season_46 : decode cX11_season 46 = .ok (.iconst 0, 1) := by decide +kernel
theorem dX11_season_47 : decode cX11_season 47 = .ok (.istore 8, 2) := by decide +kernel
theorem dX11_season_49 : decode cX11_season 49 = .ok (.iload 8, 2) := by decide +kernel
theorem dX11_season_51 : decode cX11_season 51 = .ok (.iload_n 3, 1) := by decide +kernel
theorem dX11_season_52 : decode cX11_season 52 = .ok (.if_icmp .ge 67, 3) := by decide +kernel
theorem dX11_season_55 : decode cX11_season 55 = .ok (.aload_n 0, 1) := by decide +kernel
theorem dX11_season_56 : decode cX11_season 56 = .ok (.iload_n 1, 1) := by decide +kernel
theorem dX11_season_57 : decode cX11_season 57 = .ok (.invokevirtual 427, 3) := by decide +kernel
theorem dX11_season_60 : decode cX11_season 60 = .ok (.aload_n 0, 1) := by decide +kernel
theorem dX11_season_61 : decode cX11_season 61 = .ok (.invokevirtual 325, 3) := by decide +kernel
theorem dX11_season_64 : decode cX11_season 64 = .ok (.istore 9, 2) := by decide +kernel
theorem dX11_season_66 : decode cX11_season 66 = .ok (.iload 9, 2) := by decide +kernel
theorem dX11_season_68 : decode cX11_season 68 = .ok (.ldc_w 321, 3) := by decide +kernel
theorem dX11_season_71 : decode cX11_season 71 = .ok (.if_icmp .ne 6, 3) := by decide +kernel
theorem dX11_season_74 : decode cX11_season 74 = .ok (.goto 39, 3) := by decide +kernel
theorem dX11_season_77 : decode cX11_season 77 = .ok (.iinc 4 1, 3) := by decide +kernel
theorem dX11_season_80 : decode cX11_season 80 = .ok (.iload 6, 2) := by decide +kernel
theorem dX11_season_82 : decode cX11_season 82 = .ok (.iload 9, 2) := by decide +kernel
theorem dX11_season_84 : decode cX11_season 84 = .ok (.invokestatic 218, 3) := by decide +kernel
theorem dX11_season_87 : decode cX11_season 87 = .ok (.istore 6, 2) := by decide +kernel
theorem dX11_season_89 : decode cX11_season 89 = .ok (.iload 5, 2) := by decide +kernel
theorem dX11_season_91 : decode cX11_season 91 = .ok (.iconst (-1), 1) := by decide +kernel
theorem dX11_season_92 : decode cX11_season 92 = .ok (.if_icmp .eq 13, 3) := by decide +kernel
theorem dX11_season_95 : decode cX11_season 95 = .ok (.iload 9, 2) := by decide +kernel
theorem dX11_season_97 : decode cX11_season 97 = .ok (.iload 5, 2) := by decide +kernel
theorem dX11_season_99 : decode cX11_season 99 = .ok (.if_icmp .lt 6, 3) := by decide +kernel
theorem dX11_season_102 : decode cX11_season 102 = .ok (.goto 11, 3) := by decide +kernel
theorem dX11_season_105 : decode cX11_season 105 = .ok (.iload 9, 2) := by decide +kernel
theorem dX11_season_107 : decode cX11_season 107 = .ok (.istore 5, 2) := by decide +kernel
theorem dX11_season_109 : decode cX11_season 109 = .ok (.iload 8, 2) := by decide +kernel
theorem dX11_season_111 : decode cX11_season 111 = .ok (.istore 7, 2) := by decide +kernel
theorem dX11_season_113 : decode cX11_season 113 = .ok (.iinc 8 1, 3) := by decide +kernel
theorem dX11_season_116 : decode cX11_season 116 = .ok (.goto (-67), 3) := by decide +kernel
theorem dX11_season_119 : decode cX11_season 119 = .ok (.aload_n 0, 1) := by decide +kernel
theorem dX11_season_120 : decode cX11_season 120 = .ok (.iconst 0, 1) := by decide +kernel
theorem dX11_season_121 : decode cX11_season 121 = .ok (.putfield 103, 3) := by decide +kernel
theorem dX11_season_124 : decode cX11_season 124 = .ok (.aload_n 0, 1) := by decide +kernel
theorem dX11_season_125 : decode cX11_season 125 = .ok (.iload 5, 2) := by decide +kernel
theorem dX11_season_127 : decode cX11_season 127 = .ok (.invokevirtual 300, 3) := by decide +kernel
theorem dX11_season_130 : decode cX11_season 130 = .ok (.aload_n 0, 1) := by decide +kernel
theorem dX11_season_131 : decode cX11_season 131 = .ok (.iload 6, 2) := by decide +kernel
theorem dX11_season_133 : decode cX11_season 133 = .ok (.invokevirtual 300, 3) := by decide +kernel
theorem dX11_season_136 : decode cX11_season 136 = .ok (.aload_n 0, 1) := by decide +kernel
theorem dX11_season_137 : decode cX11_season 137 = .ok (.iload 7, 2) := by decide +kernel
theorem dX11_season_139 : decode cX11_season 139 = .ok (.invokevirtual 300, 3) := by decide +kernel
theorem dX11_season_142 : decode cX11_season 142 = .ok (.iload 4, 2) := by decide +kernel
theorem dX11_season_144 : decode cX11_season 144 = .ok (.ireturn, 1) := by decide +kernel
theorem dX11_keep_0 : decode cX11_keep 0 = .ok (.aload_n 0, 1) := by decide +kernel
theorem dX11_keep_1 : decode cX11_keep 1 = .ok (.iconst 0, 1) := by decide +kernel
theorem dX11_keep_2 : decode cX11_keep 2 = .ok (.putfield 99, 3) := by decide +kernel
theorem dX11_keep_5 : decode cX11_keep 5 = .ok (.iload_n 1, 1) := by decide +kernel
theorem dX11_keep_6 : decode cX11_keep 6 = .ok (.iconst 0, 1) := by decide +kernel
theorem dX11_keep_7 : decode cX11_keep 7 = .ok (.iconst 1, 1) := by decide +kernel
theorem dX11_keep_8 : decode cX11_keep 8 = .ok (.invokestatic 109, 3) := by decide +kernel
theorem dX11_keep_11 : decode cX11_keep 11 = .ok (.ifCond .ne 5, 3) := by decide +kernel
theorem dX11_keep_14 : decode cX11_keep 14 = .ok (.iconst 0, 1) := by decide +kernel
theorem dX11_keep_15 : decode cX11_keep 15 = .ok (.ireturn, 1) := by decide +kernel
theorem dX11_keep_16 : decode cX11_keep 16 = .ok (.aload_n 0, 1) := by decide +kernel
theorem dX11_keep_17 : decode cX11_keep 17 = .ok (.getfield 93, 3) := by decide +kernel
theorem dX11_keep_20 : decode cX11_keep 20 = .ok (.iload_n 1, 1) := by decide +kernel
theorem dX11_keep_21 : decode cX11_keep 21 = .ok (.iconst 1, 1) := by decide +kernel
theorem dX11_keep_22 : decode cX11_keep 22 = .ok (.bastore, 1) := by decide +kernel
theorem dX11_keep_23 : decode cX11_keep 23 = .ok (.aload_n 0, 1) := by decide +kernel
theorem dX11_keep_24 : decode cX11_keep 24 = .ok (.getfield 96, 3) := by decide +kernel
theorem dX11_keep_27 : decode cX11_keep 27 = .ok (.iload_n 1, 1) := by decide +kernel
theorem dX11_keep_28 : decode cX11_keep 28 = .ok (.aload_n 0, 1) := by decide +kernel
theorem dX11_keep_29 : decode cX11_keep 29 = .ok (.getfield 178, 3) := by decide +kernel
theorem dX11_keep_32 : decode cX11_keep 32 = .ok (.iastore, 1) := by decide +kernel
theorem dX11_keep_33 : decode cX11_keep 33 = .ok (.aload_n 0, 1) := by decide +kernel
theorem dX11_keep_34 : decode cX11_keep 34 = .ok (.getfield 9, 3) := by decide +kernel
theorem dX11_keep_37 : decode cX11_keep 37 = .ok (.aload_n 0, 1) := by decide +kernel
theorem dX11_keep_38 : decode cX11_keep 38 = .ok (.getfield 90, 3) := by decide +kernel
theorem dX11_keep_41 : decode cX11_keep 41 = .ok (.bipush 25, 2) := by decide +kernel
theorem dX11_keep_43 : decode cX11_keep 43 = .ok (.iload_n 1, 1) := by decide +kernel
theorem dX11_keep_44 : decode cX11_keep 44 = .ok (.imul, 1) := by decide +kernel
theorem dX11_keep_45 : decode cX11_keep 45 = .ok (.invokestatic 242, 3) := by decide +kernel
theorem dX11_keep_48 : decode cX11_keep 48 = .ok (.iconst 1, 1) := by decide +kernel
theorem dX11_keep_49 : decode cX11_keep 49 = .ok (.ireturn, 1) := by decide +kernel
theorem dX11_again_0 : decode cX11_again 0 = .ok (.aload_n 0, 1) := by decide +kernel
theorem dX11_again_1 : decode cX11_again 1 = .ok (.iconst 0, 1) := by decide +kernel
theorem dX11_again_2 : decode cX11_again 2 = .ok (.putfield 99, 3) := by decide +kernel
theorem dX11_again_5 : decode cX11_again 5 = .ok (.iload_n 1, 1) := by decide +kernel
theorem dX11_again_6 : decode cX11_again 6 = .ok (.iconst 0, 1) := by decide +kernel
theorem dX11_again_7 : decode cX11_again 7 = .ok (.iconst 1, 1) := by decide +kernel
theorem dX11_again_8 : decode cX11_again 8 = .ok (.invokestatic 109, 3) := by decide +kernel
theorem dX11_again_11 : decode cX11_again 11 = .ok (.ifCond .eq 25, 3) := by decide +kernel
theorem dX11_again_14 : decode cX11_again 14 = .ok (.aload_n 0, 1) := by decide +kernel
theorem dX11_again_15 : decode cX11_again 15 = .ok (.getfield 93, 3) := by decide +kernel
theorem dX11_again_18 : decode cX11_again 18 = .ok (.iload_n 1, 1) := by decide +kernel
theorem dX11_again_19 : decode cX11_again 19 = .ok (.baload, 1) := by decide +kernel
theorem dX11_again_20 : decode cX11_again 20 = .ok (.ifCond .eq 16, 3) := by decide +kernel
theorem dX11_again_23 : decode cX11_again 23 = .ok (.aload_n 0, 1) := by decide +kernel
theorem dX11_again_24 : decode cX11_again 24 = .ok (.getfield 96, 3) := by decide +kernel
theorem dX11_again_27 : decode cX11_again 27 = .ok (.iload_n 1, 1) := by decide +kernel
theorem dX11_again_28 : decode cX11_again 28 = .ok (.iaload, 1) := by decide +kernel
theorem dX11_again_29 : decode cX11_again 29 = .ok (.aload_n 0, 1) := by decide +kernel
theorem dX11_again_30 : decode cX11_again 30 = .ok (.getfield 178, 3) := by decide +kernel
theorem dX11_again_33 : decode cX11_again 33 = .ok (.if_icmp .eq 5, 3) := by decide +kernel
theorem dX11_again_36 : decode cX11_again 36 = .ok (.iconst 0, 1) := by decide +kernel
theorem dX11_again_37 : decode cX11_again 37 = .ok (.ireturn, 1) := by decide +kernel
theorem dX11_again_38 : decode cX11_again 38 = .ok (.iconst 0, 1) := by decide +kernel
theorem dX11_again_39 : decode cX11_again 39 = .ok (.istore_n 2, 1) := by decide +kernel
theorem dX11_again_40 : decode cX11_again 40 = .ok (.iload_n 2, 1) := by decide +kernel
theorem dX11_again_41 : decode cX11_again 41 = .ok (.bipush 25, 2) := by decide +kernel
theorem dX11_again_43 : decode cX11_again 43 = .ok (.if_icmp .ge 26, 3) := by decide +kernel
theorem dX11_again_46 : decode cX11_again 46 = .ok (.aload_n 0, 1) := by decide +kernel
theorem dX11_again_47 : decode cX11_again 47 = .ok (.getfield 9, 3) := by decide +kernel
theorem dX11_again_50 : decode cX11_again 50 = .ok (.iload_n 2, 1) := by decide +kernel
theorem dX11_again_51 : decode cX11_again 51 = .ok (.aload_n 0, 1) := by decide +kernel
theorem dX11_again_52 : decode cX11_again 52 = .ok (.getfield 90, 3) := by decide +kernel
theorem dX11_again_55 : decode cX11_again 55 = .ok (.bipush 25, 2) := by decide +kernel
theorem dX11_again_57 : decode cX11_again 57 = .ok (.iload_n 1, 1) := by decide +kernel
theorem dX11_again_58 : decode cX11_again 58 = .ok (.imul, 1) := by decide +kernel
theorem dX11_again_59 : decode cX11_again 59 = .ok (.iload_n 2, 1) := by decide +kernel
theorem dX11_again_60 : decode cX11_again 60 = .ok (.iadd, 1) := by decide +kernel
theorem dX11_again_61 : decode cX11_again 61 = .ok (.iaload, 1) := by decide +kernel
theorem dX11_again_62 : decode cX11_again 62 = .ok (.iastore, 1) := by decide +kernel
theorem dX11_again_63 : decode cX11_again 63 = .ok (.iinc 2 1, 3) := by decide +kernel
theorem dX11_again_66 : decode cX11_again 66 = .ok (.goto (-26), 3) := by decide +kernel
theorem dX11_again_69 : decode cX11_again 69 = .ok (.aload_n 0, 1) := by decide +kernel
theorem dX11_again_70 : decode cX11_again 70 = .ok (.iconst 0, 1) := by decide +kernel
theorem dX11_again_71 : decode cX11_again 71 = .ok (.putfield 153, 3) := by decide +kernel
theorem dX11_again_74 : decode cX11_again 74 = .ok (.iconst 1, 1) := by decide +kernel
theorem dX11_again_75 : decode cX11_again 75 = .ok (.ireturn, 1) := by decide +kernel
theorem dX11_count_0 : decode cX11_count 0 = .ok (.aload_n 0, 1) := by decide +kernel
theorem dX11_count_1 : decode cX11_count 1 = .ok (.iconst 0, 1) := by decide +kernel
theorem dX11_count_2 : decode cX11_count 2 = .ok (.putfield 99, 3) := by decide +kernel
theorem dX11_count_5 : decode cX11_count 5 = .ok (.iconst 0, 1) := by decide +kernel
theorem dX11_count_6 : decode cX11_count 6 = .ok (.istore_n 2, 1) := by decide +kernel
theorem dX11_count_7 : decode cX11_count 7 = .ok (.iload_n 1, 1) := by decide +kernel
theorem dX11_count_8 : decode cX11_count 8 = .ok (.tableswitch 163 0 10 #[60, 65, 70, 78, 93, 102, 113, 143, 148, 153, 158], 60) := by decide +kernel
theorem dX11_count_68 : decode cX11_count 68 = .ok (.aload_n 0, 1) := by decide +kernel
theorem dX11_count_69 : decode cX11_count 69 = .ok (.getfield 106, 3) := by decide +kernel
theorem dX11_count_72 : decode cX11_count 72 = .ok (.ireturn, 1) := by decide +kernel
theorem dX11_count_73 : decode cX11_count 73 = .ok (.aload_n 0, 1) := by decide +kernel
theorem dX11_count_74 : decode cX11_count 74 = .ok (.getfield 113, 3) := by decide +kernel
theorem dX11_count_77 : decode cX11_count 77 = .ok (.ireturn, 1) := by decide +kernel
theorem dX11_count_78 : decode cX11_count 78 = .ok (.aload_n 0, 1) := by decide +kernel
theorem dX11_count_79 : decode cX11_count 79 = .ok (.getfield 9, 3) := by decide +kernel
theorem dX11_count_82 : decode cX11_count 82 = .ok (.bipush 24, 2) := by decide +kernel
theorem dX11_count_84 : decode cX11_count 84 = .ok (.iaload, 1) := by decide +kernel
theorem dX11_count_85 : decode cX11_count 85 = .ok (.ireturn, 1) := by decide +kernel
theorem dX11_count_86 : decode cX11_count 86 = .ok (.aload_n 0, 1) := by decide +kernel
theorem dX11_count_87 : decode cX11_count 87 = .ok (.invokevirtual 331, 3) := by decide +kernel
theorem dX11_count_90 : decode cX11_count 90 = .ok (.aload_n 0, 1) := by decide +kernel
theorem dX11_count_91 : decode cX11_count 91 = .ok (.aload_n 0, 1) := by decide +kernel
theorem dX11_count_92 : decode cX11_count 92 = .ok (.getfield 9, 3) := by decide +kernel
theorem dX11_count_95 : decode cX11_count 95 = .ok (.iconst (-1), 1) := by decide +kernel
theorem dX11_count_96 : decode cX11_count 96 = .ok (.invokevirtual 238, 3) := by decide +kernel
theorem dX11_count_99 : decode cX11_count 99 = .ok (.iand, 1) := by decide +kernel
theorem dX11_count_100 : decode cX11_count 100 = .ok (.ireturn, 1) := by decide +kernel
theorem dX11_count_101 : decode cX11_count 101 = .ok (.aload_n 0, 1) := by decide +kernel
theorem dX11_count_102 : decode cX11_count 102 = .ok (.aload_n 0, 1) := by decide +kernel
theorem dX11_count_103 : decode cX11_count 103 = .ok (.getfield 9, 3) := by decide +kernel
theorem dX11_count_106 : decode cX11_count 106 = .ok (.invokevirtual 282, 3) := by decide +kernel
theorem dX11_count_109 : decode cX11_count 109 = .ok (.ireturn, 1) := by decide +kernel
theorem dX11_count_110 : decode cX11_count 110 = .ok (.aload_n 0, 1) := by decide +kernel
theorem dX11_count_111 : decode cX11_count 111 = .ok (.aload_n 0, 1) := by decide +kernel
theorem dX11_count_112 : decode cX11_count 112 = .ok (.getfield 9, 3) := by decide +kernel
theorem dX11_count_115 : decode cX11_count 115 = .ok (.bipush 9, 2) := by decide +kernel
theorem dX11_count_117 : decode cX11_count 117 = .ok (.invokevirtual 238, 3) := by decide +kernel
theorem dX11_count_120 : decode cX11_count 120 = .ok (.ireturn, 1) := by decide +kernel
theorem dX11_count_121 : decode cX11_count 121 = .ok (.iconst 0, 1) := by decide +kernel
theorem dX11_count_122 : decode cX11_count 122 = .ok (.istore_n 3, 1) := by decide +kernel
theorem dX11_count_123 : decode cX11_count 123 = .ok (.iload_n 3, 1) := by decide +kernel
theorem dX11_count_124 : decode cX11_count 124 = .ok (.aload_n 0, 1) := by decide +kernel
theorem dX11_count_125 : decode cX11_count 125 = .ok (.getfield 113, 3) := by decide +kernel
theorem dX11_count_128 : decode cX11_count 128 = .ok (.if_icmp .ge 21, 3) := by decide +kernel
theorem dX11_count_131 : decode cX11_count 131 = .ok (.iload_n 2, 1) := by decide +kernel
theorem dX11_count_132 : decode cX11_count 132 = .ok (.aload_n 0, 1) := by decide +kernel
theorem dX11_count_133 : decode cX11_count 133 = .ok (.getfield 9, 3) := by decide +kernel
theorem dX11_count_136 : decode cX11_count 136 = .ok (.bipush 12, 2) := by decide +kernel
theorem dX11_count_138 : decode cX11_count 138 = .ok (.iload_n 3, 1) := by decide +kernel
theorem dX11_count_139 : decode cX11_count 139 = .ok (.iadd, 1) := by decide +kernel
theorem dX11_count_140 : decode cX11_count 140 = .ok (.iaload, 1) := by decide +kernel
theorem dX11_count_141 : decode cX11_count 141 = .ok (.iadd, 1) := by decide +kernel
theorem dX11_count_142 : decode cX11_count 142 = .ok (.istore_n 2, 1) := by decide +kernel
theorem dX11_count_143 : decode cX11_count 143 = .ok (.iinc 3 1, 3) := by decide +kernel
theorem dX11_count_146 : decode cX11_count 146 = .ok (.goto (-23), 3) := by decide +kernel
theorem dX11_count_149 : decode cX11_count 149 = .ok (.iload_n 2, 1) := by decide +kernel
theorem dX11_count_150 : decode cX11_count 150 = .ok (.ireturn, 1) := by decide +kernel
theorem dX11_count_151 : decode cX11_count 151 = .ok (.aload_n 0, 1) := by decide +kernel
theorem dX11_count_152 : decode cX11_count 152 = .ok (.getfield 150, 3) := by decide +kernel
theorem dX11_count_155 : decode cX11_count 155 = .ok (.ireturn, 1) := by decide +kernel
theorem dX11_count_156 : decode cX11_count 156 = .ok (.aload_n 0, 1) := by decide +kernel
theorem dX11_count_157 : decode cX11_count 157 = .ok (.getfield 153, 3) := by decide +kernel
theorem dX11_count_160 : decode cX11_count 160 = .ok (.ireturn, 1) := by decide +kernel
theorem dX11_count_161 : decode cX11_count 161 = .ok (.aload_n 0, 1) := by decide +kernel
theorem dX11_count_162 : decode cX11_count 162 = .ok (.getfield 103, 3) := by decide +kernel
theorem dX11_count_165 : decode cX11_count 165 = .ok (.ireturn, 1) := by decide +kernel
theorem dX11_count_166 : decode cX11_count 166 = .ok (.aload_n 0, 1) := by decide +kernel
theorem dX11_count_167 : decode cX11_count 167 = .ok (.getfield 116, 3) := by decide +kernel
theorem dX11_count_170 : decode cX11_count 170 = .ok (.ireturn, 1) := by decide +kernel
theorem dX11_count_171 : decode cX11_count 171 = .ok (.iconst (-1), 1) := by decide +kernel
theorem dX11_count_172 : decode cX11_count 172 = .ok (.ireturn, 1) := by decide +kernel
theorem dX11_row_0 : decode cX11_row 0 = .ok (.aload_n 0, 1) := by decide +kernel
theorem dX11_row_1 : decode cX11_row 1 = .ok (.iconst 0, 1) := by decide +kernel
theorem dX11_row_2 : decode cX11_row 2 = .ok (.putfield 99, 3) := by decide +kernel
theorem dX11_row_5 : decode cX11_row 5 = .ok (.iload_n 1, 1) := by decide +kernel
theorem dX11_row_6 : decode cX11_row 6 = .ok (.iconst 0, 1) := by decide +kernel
theorem dX11_row_7 : decode cX11_row 7 = .ok (.aload_n 0, 1) := by decide +kernel
theorem dX11_row_8 : decode cX11_row 8 = .ok (.getfield 103, 3) := by decide +kernel
theorem dX11_row_11 : decode cX11_row 11 = .ok (.iconst 1, 1) := by decide +kernel
theorem dX11_row_12 : decode cX11_row 12 = .ok (.isub, 1) := by decide +kernel
theorem dX11_row_13 : decode cX11_row 13 = .ok (.invokestatic 109, 3) := by decide +kernel
theorem dX11_row_16 : decode cX11_row 16 = .ok (.ifCond .eq 12, 3) := by decide +kernel
theorem dX11_row_19 : decode cX11_row 19 = .ok (.aload_n 0, 1) := by decide +kernel
theorem dX11_row_20 : decode cX11_row 20 = .ok (.getfield 39, 3) := by decide +kernel
theorem dX11_row_23 : decode cX11_row 23 = .ok (.iload_n 1, 1) := by decide +kernel
theorem dX11_row_24 : decode cX11_row 24 = .ok (.iaload, 1) := by decide +kernel
theorem dX11_row_25 : decode cX11_row 25 = .ok (.goto 7, 3) := by decide +kernel
theorem dX11_row_28 : decode cX11_row 28 = .ok (.aload_n 0, 1) := by decide +kernel
theorem dX11_row_29 : decode cX11_row 29 = .ok (.invokevirtual 232, 3) := by decide +kernel
theorem dX11_row_32 : decode cX11_row 32 = .ok (.ireturn, 1) := by decide +kernel
section NXG
variable {l : Launch} {D : va_G} {cy : Nat → ClassId} {ad : Nat → Nat} {dT : Nat} {X : Mm}
def f_X11_pairs_64  : Nat → Int32 → Mem → Option (Int32 × Mem)
  | 0, _, _ => none
  | n + 1, x1, M =>
    if x1 < (M 174 3) then
      gd (0 ≤ x1 ∧ x1.toNatClampNeg < 6) <|
      bd (f_X11_tell (M 199 x1.toNatClampNeg) M) fun _ M18 =>
      vl (x1 + 1) fun v20 =>
      f_X11_pairs_64 n v20 M18
    else
      some ((M 174 49), M)
set_option maxRecDepth 100000 in
theorem w_X11_pairs_64 {R : Int32} {M' : Mem}  : ∀ (n : Nat) (x1 : Int32) (M : Mem), f_X11_pairs_64 n x1 M = some (R, M') → RunF l D cy ad none YX11_pairs 406 0 0 (some (.int R)) (lay X M') 0 0 64 [(0, .ref 174), (1, .int x1)] [] (lay X M) := by
  intro n
  induction n with
  | zero => intro x1 M hF; exact absurd hF (by unfold f_X11_pairs_64; exact fun h => nomatch h)
  | succ n ih =>
    intro x1 M hF
    unfold f_X11_pairs_64 at hF
    refine g_iload_n (Y := YX11_pairs) (pc := 64) 1 dX11_pairs_64 rfl ?_
    refine g_aload_n (Y := YX11_pairs) (pc := 65) 0 dX11_pairs_65 rfl ?_
    refine u_getI (Y := YX11_pairs) (pc := 66) dX11_pairs_66 fl_X11_113 k_174 ?_
    refine g_icmp_ge (Y := YX11_pairs) (pc := 69) (tgt := 88) dX11_pairs_69 rfl (fun c15 => ?_) (fun c15 => ?_)
    · replace hF := if_f c15 hF
      refine g_aload_n (Y := YX11_pairs) (pc := 88) 0 dX11_pairs_88 rfl ?_
      refine u_getI (Y := YX11_pairs) (pc := 89) dX11_pairs_89 fl_X11_388 k_174 ?_
      exact s_iret (Y := YX11_pairs) (pc := 92) dX11_pairs_92 rfl hF
    · replace hF := if_t c15 hF
      refine g_aload_n (Y := YX11_pairs) (pc := 72) 0 dX11_pairs_72 rfl ?_
      refine g_aload_n (Y := YX11_pairs) (pc := 73) 0 dX11_pairs_73 rfl ?_
      refine u_getR (Y := YX11_pairs) (pc := 74) (j := 199) dX11_pairs_74 fl_X11_84 k_174 rf_174_48 ?_
      refine g_iload_n (Y := YX11_pairs) (pc := 77) 1 dX11_pairs_77 rfl ?_
      obtain ⟨g16, hF⟩ := gd_some hF
      refine s_iald (Y := YX11_pairs) (pc := 78) dX11_pairs_78 k_199 n_199 g16 ?_
      obtain ⟨r17, M18, e19, hF⟩ := bd_some hF
      refine s_callVv (Y := YX11_pairs) (pc := 79) (as := [.int (M 199 x1.toNatClampNeg)]) (st := []) (r_X11_tell  e19) miX11_tell lk_X11_300 dX11_pairs_79 k_174 rfl (Nat.le_of_ble_eq_true rfl) (Nat.le_of_ble_eq_true rfl) rfl ?_
      clear e19
      refine s_iinc (Y := YX11_pairs) (pc := 82) (j := 1) (L' := fun y => [(1, .int y), (0, .ref 174)]) dX11_pairs_82 kI_1 rfl (Nat.le_of_ble_eq_true rfl) (fun _ => rfl) (fun v20 e => ?_)
      replace hF := vl_to e hF; clear e
      refine g_goto (Y := YX11_pairs) (pc := 85) (tgt := 64) dX11_pairs_85 rfl ?_
      refine g_loc [1, 0] rfl ?_
      exact ih _ _ hF
def f_X11_pairs_11  : Nat → Int32 → Mem → Option (Int32 × Mem)
  | 0, _, _ => none
  | n + 1, x1, M =>
    if x1 < 6 then
      gd (0 ≤ x1 ∧ x1.toNatClampNeg < 6) <|
      ml (up M 198 x1.toNatClampNeg (-1)) fun M22 =>
      vl (x1 + 1) fun v23 =>
      f_X11_pairs_11 n v23 M22
    else
      ml (up M 174 49 (-1)) fun M6 =>
      ml (up M6 174 50 1000000) fun M7 =>
      bd (f_X11_goPairs RU 0 0 0 M7) fun _ M9 =>
      ml (up M9 174 13 0) fun M11 =>
      bd (f_X11_tell (M11 174 50) M11) fun _ M13 =>
      f_X11_pairs_64 FU 0 M13
set_option maxRecDepth 100000 in
theorem w_X11_pairs_11 {R : Int32} {M' : Mem}  : ∀ (n : Nat) (x1 : Int32) (M : Mem), f_X11_pairs_11 n x1 M = some (R, M') → RunF l D cy ad none YX11_pairs 406 0 0 (some (.int R)) (lay X M') 0 0 11 [(0, .ref 174), (1, .int x1)] [] (lay X M) := by
  intro n
  induction n with
  | zero => intro x1 M hF; exact absurd hF (by unfold f_X11_pairs_11; exact fun h => nomatch h)
  | succ n ih =>
    intro x1 M hF
    unfold f_X11_pairs_11 at hF
    refine g_iload_n (Y := YX11_pairs) (pc := 11) 1 dX11_pairs_11 rfl ?_
    refine g_bipush (Y := YX11_pairs) (pc := 12) dX11_pairs_12 kB_6 ?_
    refine g_icmp_ge (Y := YX11_pairs) (pc := 14) (tgt := 30) dX11_pairs_14 rfl (fun c5 => ?_) (fun c5 => ?_)
    · replace hF := if_f c5 hF
      refine g_aload_n (Y := YX11_pairs) (pc := 30) 0 dX11_pairs_30 rfl ?_
      refine g_iconst (Y := YX11_pairs) (pc := 31) dX11_pairs_31 kI_m1 ?_
      refine u_putI (Y := YX11_pairs) (pc := 32) dX11_pairs_32 fl_X11_388  k_174 ?_
      refine g_nmM (fun M6 e => ?_)
      replace hF := ml_to e hF; clear e
      refine g_aload_n (Y := YX11_pairs) (pc := 35) 0 dX11_pairs_35 rfl ?_
      refine g_ldcw (Y := YX11_pairs) (pc := 36) dX11_pairs_36 cw_X11_321 ?_
      refine u_putI (Y := YX11_pairs) (pc := 39) dX11_pairs_39 fl_X11_391  k_174 ?_
      refine g_nmM (fun M7 e => ?_)
      replace hF := ml_to e hF; clear e
      refine g_aload_n (Y := YX11_pairs) (pc := 42) 0 dX11_pairs_42 rfl ?_
      refine g_iconst (Y := YX11_pairs) (pc := 43) dX11_pairs_43 kI_0 ?_
      refine g_iconst (Y := YX11_pairs) (pc := 44) dX11_pairs_44 kI_0 ?_
      refine g_iconst (Y := YX11_pairs) (pc := 45) dX11_pairs_45 kI_0 ?_
      obtain ⟨r8, M9, e10, hF⟩ := bd_some hF
      refine s_callVv (Y := YX11_pairs) (pc := 46) (as := [.int 0, .int 0, .int 0]) (st := []) (r_X11_goPairs  e10) miX11_goPairs lk_X11_394 dX11_pairs_46 k_174 rfl (Nat.le_of_ble_eq_true rfl) (Nat.le_of_ble_eq_true rfl) rfl ?_
      clear e10
      refine g_aload_n (Y := YX11_pairs) (pc := 49) 0 dX11_pairs_49 rfl ?_
      refine g_iconst (Y := YX11_pairs) (pc := 50) dX11_pairs_50 kI_0 ?_
      refine u_putI (Y := YX11_pairs) (pc := 51) dX11_pairs_51 fl_X11_103  k_174 ?_
      refine g_nmM (fun M11 e => ?_)
      replace hF := ml_to e hF; clear e
      refine g_aload_n (Y := YX11_pairs) (pc := 54) 0 dX11_pairs_54 rfl ?_
      refine g_aload_n (Y := YX11_pairs) (pc := 55) 0 dX11_pairs_55 rfl ?_
      refine u_getI (Y := YX11_pairs) (pc := 56) dX11_pairs_56 fl_X11_391 k_174 ?_
      obtain ⟨r12, M13, e14, hF⟩ := bd_some hF
      refine s_callVv (Y := YX11_pairs) (pc := 59) (as := [.int (M11 174 50)]) (st := []) (r_X11_tell  e14) miX11_tell lk_X11_300 dX11_pairs_59 k_174 rfl (Nat.le_of_ble_eq_true rfl) (Nat.le_of_ble_eq_true rfl) rfl ?_
      clear e14
      refine g_iconst (Y := YX11_pairs) (pc := 62) dX11_pairs_62 kI_0 ?_
      refine g_istore_n (Y := YX11_pairs) (pc := 63) (L' := [(1, .int 0), (0, .ref 174)]) dX11_pairs_63 (Nat.le_of_ble_eq_true rfl) rfl ?_
      refine g_loc [1, 0] rfl ?_
      exact w_X11_pairs_64  _ _ _ hF
    · replace hF := if_t c5 hF
      refine g_aload_n (Y := YX11_pairs) (pc := 17) 0 dX11_pairs_17 rfl ?_
      refine u_getR (Y := YX11_pairs) (pc := 18) (j := 198) dX11_pairs_18 fl_X11_81 k_174 rf_174_47 ?_
      refine g_iload_n (Y := YX11_pairs) (pc := 21) 1 dX11_pairs_21 rfl ?_
      refine g_iconst (Y := YX11_pairs) (pc := 22) dX11_pairs_22 kI_m1 ?_
      obtain ⟨g21, hF⟩ := gd_some hF
      refine s_iast (Y := YX11_pairs) (pc := 23) dX11_pairs_23 k_198 n_198 g21 ?_
      refine g_nmM (fun M22 e => ?_)
      replace hF := ml_to e hF; clear e
      refine s_iinc (Y := YX11_pairs) (pc := 24) (j := 1) (L' := fun y => [(1, .int y), (0, .ref 174)]) dX11_pairs_24 kI_1 rfl (Nat.le_of_ble_eq_true rfl) (fun _ => rfl) (fun v23 e => ?_)
      replace hF := vl_to e hF; clear e
      refine g_goto (Y := YX11_pairs) (pc := 27) (tgt := 11) dX11_pairs_27 rfl ?_
      refine g_loc [1, 0] rfl ?_
      exact ih _ _ hF
def f_X11_pairs_0  (M : Mem) : Option (Int32 × Mem) :=
  ml (up M 174 14 0) fun M1 =>
  bd (f_X11_layStays M1) fun _ M3 =>
  f_X11_pairs_11 FU 0 M3
set_option maxRecDepth 100000 in
theorem w_X11_pairs_0 {R : Int32} {M' : Mem}  (M : Mem) (hF : f_X11_pairs_0  M = some (R, M')) : RunF l D cy ad none YX11_pairs 406 0 0 (some (.int R)) (lay X M') 0 0 0 [(0, .ref 174)] [] (lay X M) := by
  unfold f_X11_pairs_0 at hF
  refine g_aload_n (Y := YX11_pairs) (pc := 0) 0 dX11_pairs_0 rfl ?_
  refine g_iconst (Y := YX11_pairs) (pc := 1) dX11_pairs_1 kI_0 ?_
  refine u_putI (Y := YX11_pairs) (pc := 2) dX11_pairs_2 fl_X11_99  k_174 ?_
  refine g_nmM (fun M1 e => ?_)
  replace hF := ml_to e hF; clear e
  refine g_aload_n (Y := YX11_pairs) (pc := 5) 0 dX11_pairs_5 rfl ?_
  obtain ⟨r2, M3, e4, hF⟩ := bd_some hF
  refine s_callVv (Y := YX11_pairs) (pc := 6) (as := []) (st := []) (r_X11_layStays  e4) miX11_layStays lk_X11_271 dX11_pairs_6 k_174 rfl (Nat.le_of_ble_eq_true rfl) (Nat.le_of_ble_eq_true rfl) rfl ?_
  clear e4
  refine g_iconst (Y := YX11_pairs) (pc := 9) dX11_pairs_9 kI_0 ?_
  refine g_istore_n (Y := YX11_pairs) (pc := 10) (L' := [(1, .int 0), (0, .ref 174)]) dX11_pairs_10 (Nat.le_of_ble_eq_true rfl) rfl ?_
  refine g_loc [1, 0] rfl ?_
  exact w_X11_pairs_11  _ _ _ hF
def f_X11_pairs (M : Mem) : Option (Int32 × Mem) := f_X11_pairs_0 M
theorem r_X11_pairs {R : Int32} {M M' : Mem}  (hF : f_X11_pairs  M = some (R, M')) : RunS l D cy ad YX11_pairs 406 [.ref 174] X M (some (.int R)) M' := Run.of 0 (miX11_pairs).1 (Nat.le_of_ble_eq_true rfl) (w_X11_pairs_0  _ hF)
def f_X11_brief_140 (K38 : Int32 → Int32 → Int32 → Int32 → Int32 → Mem → Option (Int32 × Mem)) (K50 : Int32 → Int32 → Int32 → Int32 → Int32 → Int32 → Mem → Option (Int32 × Mem)) (x1 : Int32) (x2 : Int32) (x3 : Int32) (x4 : Int32) (x5 : Int32) (x6 : Int32) (M : Mem) : Option (Int32 × Mem) :=
  vl (x6 + 1) fun v36 =>
  K50 x1 x2 x3 x4 x5 v36 M
set_option maxRecDepth 100000 in
theorem w_X11_brief_140 {R : Int32} {M' : Mem} {K38 : Int32 → Int32 → Int32 → Int32 → Int32 → Mem → Option (Int32 × Mem)} {K50 : Int32 → Int32 → Int32 → Int32 → Int32 → Int32 → Mem → Option (Int32 × Mem)} (hK38 : ∀ (x1 x2 x3 x4 x5 : Int32) (M : Mem), K38 x1 x2 x3 x4 x5 M = some (R, M') → RunF l D cy ad none YX11_brief 406 0 0 (some (.int R)) (lay X M') 0 0 38 [(0, .ref 174), (1, .int x1), (2, .int x2), (3, .int x3), (4, .int x4), (5, .int x5)] [] (lay X M)) (hK50 : ∀ (x1 x2 x3 x4 x5 x6 : Int32) (M : Mem), K50 x1 x2 x3 x4 x5 x6 M = some (R, M') → RunF l D cy ad none YX11_brief 406 0 0 (some (.int R)) (lay X M') 0 0 50 [(0, .ref 174), (1, .int x1), (2, .int x2), (3, .int x3), (4, .int x4), (5, .int x5), (6, .int x6)] [] (lay X M)) (x1 x2 x3 x4 x5 x6 : Int32) (M : Mem) (hF : f_X11_brief_140 K38 K50 x1 x2 x3 x4 x5 x6 M = some (R, M')) : RunF l D cy ad none YX11_brief 406 0 0 (some (.int R)) (lay X M') 0 0 140 [(0, .ref 174), (1, .int x1), (2, .int x2), (3, .int x3), (4, .int x4), (5, .int x5), (6, .int x6)] [] (lay X M) := by
  unfold f_X11_brief_140 at hF
  refine s_iinc (Y := YX11_brief) (pc := 140) (j := 6) (L' := fun y => [(6, .int y), (0, .ref 174), (1, .int x1), (2, .int x2), (3, .int x3), (4, .int x4), (5, .int x5)]) dX11_brief_140 kI_1 rfl (Nat.le_of_ble_eq_true rfl) (fun _ => rfl) (fun v36 e => ?_)
  replace hF := vl_to e hF; clear e
  refine g_goto (Y := YX11_brief) (pc := 143) (tgt := 50) dX11_brief_143 rfl ?_
  refine g_loc [1, 2, 3, 4, 5, 6, 0] rfl ?_
  exact hK50 _ _ _ _ _ _ _ hF
def f_X11_brief_50 (K38 : Int32 → Int32 → Int32 → Int32 → Int32 → Mem → Option (Int32 × Mem)) : Nat → Int32 → Int32 → Int32 → Int32 → Int32 → Int32 → Mem → Option (Int32 × Mem)
  | 0, _, _, _, _, _, _, _ => none
  | n + 1, x1, x2, x3, x4, x5, x6, M =>
    if x6 < (M 174 1) then
      gd (0 ≤ ((6 * x5) + x6) ∧ ((6 * x5) + x6).toNatClampNeg < 36) <|
      vl ((M 187 ((6 * x5) + x6).toNatClampNeg)) fun v25 =>
      if v25 = 0 then
        f_X11_brief_140 K38 (f_X11_brief_50 K38 n) x1 x2 x3 x4 x5 x6 M
      else
        gd (0 ≤ ((6 * x5) + x6) ∧ ((6 * x5) + x6).toNatClampNeg < 36) <|
        ml (up M 187 ((6 * x5) + x6).toNatClampNeg 0) fun M28 =>
        bd (f_X11_findBest x1 1 M28) fun _ M30 =>
        gd (0 ≤ ((6 * x5) + x6) ∧ ((6 * x5) + x6).toNatClampNeg < 36) <|
        ml (up M30 187 ((6 * x5) + x6).toNatClampNeg v25) fun M33 =>
        if (M33 174 39) < x2 then
          vl ((M33 174 39)) fun v35 =>
          f_X11_brief_140 K38 (f_X11_brief_50 K38 n) x1 v35 x5 x6 x5 x6 M33
        else
          f_X11_brief_140 K38 (f_X11_brief_50 K38 n) x1 x2 x3 x4 x5 x6 M33
    else
      vl (x5 + 1) fun v23 =>
      K38 x1 x2 x3 x4 v23 M
set_option maxRecDepth 100000 in
theorem w_X11_brief_50 {R : Int32} {M' : Mem} {K38 : Int32 → Int32 → Int32 → Int32 → Int32 → Mem → Option (Int32 × Mem)} (hK38 : ∀ (x1 x2 x3 x4 x5 : Int32) (M : Mem), K38 x1 x2 x3 x4 x5 M = some (R, M') → RunF l D cy ad none YX11_brief 406 0 0 (some (.int R)) (lay X M') 0 0 38 [(0, .ref 174), (1, .int x1), (2, .int x2), (3, .int x3), (4, .int x4), (5, .int x5)] [] (lay X M)) : ∀ (n : Nat) (x1 x2 x3 x4 x5 x6 : Int32) (M : Mem), f_X11_brief_50 K38 n x1 x2 x3 x4 x5 x6 M = some (R, M') → RunF l D cy ad none YX11_brief 406 0 0 (some (.int R)) (lay X M') 0 0 50 [(0, .ref 174), (1, .int x1), (2, .int x2), (3, .int x3), (4, .int x4), (5, .int x5), (6, .int x6)] [] (lay X M) := by
  intro n
  induction n with
  | zero => intro x1 x2 x3 x4 x5 x6 M hF; exact absurd hF (by unfold f_X11_brief_50; exact fun h => nomatch h)
  | succ n ih =>
    intro x1 x2 x3 x4 x5 x6 M hF
    unfold f_X11_brief_50 at hF
    refine g_iload (Y := YX11_brief) (pc := 50) 6 dX11_brief_50 rfl ?_
    refine g_aload_n (Y := YX11_brief) (pc := 52) 0 dX11_brief_52 rfl ?_
    refine u_getI (Y := YX11_brief) (pc := 53) dX11_brief_53 fl_X11_106 k_174 ?_
    refine g_icmp_ge (Y := YX11_brief) (pc := 56) (tgt := 146) dX11_brief_56 rfl (fun c22 => ?_) (fun c22 => ?_)
    · replace hF := if_f c22 hF
      refine s_iinc (Y := YX11_brief) (pc := 146) (j := 5) (L' := fun y => [(5, .int y), (0, .ref 174), (1, .int x1), (2, .int x2), (3, .int x3), (4, .int x4), (6, .int x6)]) dX11_brief_146 kI_1 rfl (Nat.le_of_ble_eq_true rfl) (fun _ => rfl) (fun v23 e => ?_)
      replace hF := vl_to e hF; clear e
      refine g_goto (Y := YX11_brief) (pc := 149) (tgt := 38) dX11_brief_149 rfl ?_
      refine g_loc [1, 2, 3, 4, 5, 0] rfl ?_
      exact hK38 _ _ _ _ _ _ hF
    · replace hF := if_t c22 hF
      refine g_aload_n (Y := YX11_brief) (pc := 59) 0 dX11_brief_59 rfl ?_
      refine u_getR (Y := YX11_brief) (pc := 60) (j := 187) dX11_brief_60 fl_X11_48 k_174 rf_174_26 ?_
      refine g_bipush (Y := YX11_brief) (pc := 63) dX11_brief_63 kB_6 ?_
      refine g_iload (Y := YX11_brief) (pc := 65) 5 dX11_brief_65 rfl ?_
      refine g_imul (Y := YX11_brief) (pc := 67) dX11_brief_67 ?_
      refine g_iload (Y := YX11_brief) (pc := 68) 6 dX11_brief_68 rfl ?_
      refine g_iadd (Y := YX11_brief) (pc := 70) dX11_brief_70 ?_
      obtain ⟨g24, hF⟩ := gd_some hF
      refine s_iald (Y := YX11_brief) (pc := 71) dX11_brief_71 k_187 n_187 g24 ?_
      refine g_nm (fun v25 e => ?_)
      replace hF := vl_to e hF; clear e
      refine g_istore (Y := YX11_brief) (pc := 72) (L' := [(7, .int v25), (0, .ref 174), (1, .int x1), (2, .int x2), (3, .int x3), (4, .int x4), (5, .int x5), (6, .int x6)]) dX11_brief_72 (Nat.le_of_ble_eq_true rfl) rfl ?_
      refine g_iload (Y := YX11_brief) (pc := 74) 0 dX11_brief_74 rfl ?_
      refine g_if_ne (Y := YX11_brief) (pc := 76) (tgt := 82) dX11_brief_76 rfl (fun c26 => ?_) (fun c26 => ?_)
      · replace hF := if_f c26 hF
        refine g_aload_n (Y := YX11_brief) (pc := 82) 1 dX11_brief_82 rfl ?_
        refine u_getR (Y := YX11_brief) (pc := 83) (j := 187) dX11_brief_83 fl_X11_48 k_174 rf_174_26 ?_
        refine g_bipush (Y := YX11_brief) (pc := 86) dX11_brief_86 kB_6 ?_
        refine g_iload (Y := YX11_brief) (pc := 88) 6 dX11_brief_88 rfl ?_
        refine g_imul (Y := YX11_brief) (pc := 90) dX11_brief_90 ?_
        refine g_iload (Y := YX11_brief) (pc := 91) 7 dX11_brief_91 rfl ?_
        refine g_iadd (Y := YX11_brief) (pc := 93) dX11_brief_93 ?_
        refine g_iconst (Y := YX11_brief) (pc := 94) dX11_brief_94 kI_0 ?_
        obtain ⟨g27, hF⟩ := gd_some hF
        refine s_iast (Y := YX11_brief) (pc := 95) dX11_brief_95 k_187 n_187 g27 ?_
        refine g_nmM (fun M28 e => ?_)
        replace hF := ml_to e hF; clear e
        refine g_aload_n (Y := YX11_brief) (pc := 96) 1 dX11_brief_96 rfl ?_
        refine g_iload_n (Y := YX11_brief) (pc := 97) 2 dX11_brief_97 rfl ?_
        refine g_iconst (Y := YX11_brief) (pc := 98) dX11_brief_98 kI_1 ?_
        obtain ⟨r29, M30, e31, hF⟩ := bd_some hF
        refine s_callVv (Y := YX11_brief) (pc := 99) (as := [.int x1, .int 1]) (st := []) (r_X11_findBest  e31) miX11_findBest lk_X11_353 dX11_brief_99 k_174 rfl (Nat.le_of_ble_eq_true rfl) (Nat.le_of_ble_eq_true rfl) rfl ?_
        clear e31
        refine g_aload_n (Y := YX11_brief) (pc := 102) 1 dX11_brief_102 rfl ?_
        refine u_getR (Y := YX11_brief) (pc := 103) (j := 187) dX11_brief_103 fl_X11_48 k_174 rf_174_26 ?_
        refine g_bipush (Y := YX11_brief) (pc := 106) dX11_brief_106 kB_6 ?_
        refine g_iload (Y := YX11_brief) (pc := 108) 6 dX11_brief_108 rfl ?_
        refine g_imul (Y := YX11_brief) (pc := 110) dX11_brief_110 ?_
        refine g_iload (Y := YX11_brief) (pc := 111) 7 dX11_brief_111 rfl ?_
        refine g_iadd (Y := YX11_brief) (pc := 113) dX11_brief_113 ?_
        refine g_iload (Y := YX11_brief) (pc := 114) 0 dX11_brief_114 rfl ?_
        obtain ⟨g32, hF⟩ := gd_some hF
        refine s_iast (Y := YX11_brief) (pc := 116) dX11_brief_116 k_187 n_187 g32 ?_
        refine g_nmM (fun M33 e => ?_)
        replace hF := ml_to e hF; clear e
        refine g_aload_n (Y := YX11_brief) (pc := 117) 1 dX11_brief_117 rfl ?_
        refine u_getI (Y := YX11_brief) (pc := 118) dX11_brief_118 fl_X11_338 k_174 ?_
        refine g_iload_n (Y := YX11_brief) (pc := 121) 3 dX11_brief_121 rfl ?_
        refine g_icmp_lt (Y := YX11_brief) (pc := 122) (tgt := 128) dX11_brief_122 rfl (fun c34 => ?_) (fun c34 => ?_)
        · replace hF := if_t c34 hF
          refine g_aload_n (Y := YX11_brief) (pc := 128) 1 dX11_brief_128 rfl ?_
          refine u_getI (Y := YX11_brief) (pc := 129) dX11_brief_129 fl_X11_338 k_174 ?_
          refine g_nm (fun v35 e => ?_)
          replace hF := vl_to e hF; clear e
          refine g_istore_n (Y := YX11_brief) (pc := 132) (L' := [(2, .int v35), (7, .int v25), (0, .ref 174), (1, .int x1), (3, .int x3), (4, .int x4), (5, .int x5), (6, .int x6)]) dX11_brief_132 (Nat.le_of_ble_eq_true rfl) rfl ?_
          refine g_iload (Y := YX11_brief) (pc := 133) 6 dX11_brief_133 rfl ?_
          refine g_istore_n (Y := YX11_brief) (pc := 135) (L' := [(3, .int x5), (2, .int v35), (7, .int v25), (0, .ref 174), (1, .int x1), (4, .int x4), (5, .int x5), (6, .int x6)]) dX11_brief_135 (Nat.le_of_ble_eq_true rfl) rfl ?_
          refine g_iload (Y := YX11_brief) (pc := 136) 7 dX11_brief_136 rfl ?_
          refine g_istore (Y := YX11_brief) (pc := 138) (L' := [(4, .int x6), (3, .int x5), (2, .int v35), (7, .int v25), (0, .ref 174), (1, .int x1), (5, .int x5), (6, .int x6)]) dX11_brief_138 (Nat.le_of_ble_eq_true rfl) rfl ?_
          refine g_loc [4, 5, 2, 1, 0, 6, 7] rfl ?_
          exact w_X11_brief_140 hK38 ih _ _ _ _ _ _ _ hF
        · replace hF := if_f c34 hF
          refine g_goto (Y := YX11_brief) (pc := 125) (tgt := 140) dX11_brief_125 rfl ?_
          refine g_loc [1, 2, 3, 4, 5, 6, 7] rfl ?_
          exact w_X11_brief_140 hK38 ih _ _ _ _ _ _ _ hF
      · replace hF := if_t c26 hF
        refine g_goto (Y := YX11_brief) (pc := 79) (tgt := 140) dX11_brief_79 rfl ?_
        refine g_loc [1, 2, 3, 4, 5, 6, 7] rfl ?_
        exact w_X11_brief_140 hK38 ih _ _ _ _ _ _ _ hF
def f_X11_brief_38  : Nat → Int32 → Int32 → Int32 → Int32 → Int32 → Mem → Option (Int32 × Mem)
  | 0, _, _, _, _, _, _ => none
  | n + 1, x1, x2, x3, x4, x5, M =>
    if x5 < (M 174 3) then
      f_X11_brief_50 (f_X11_brief_38 n) FU x1 x2 x3 x4 x5 0 M
    else
      if x2 = 1000000 then
        some ((-2), M)
      else
        ml (up M 174 13 0) fun M15 =>
        bd (f_X11_tell x3 M15) fun _ M17 =>
        bd (f_X11_tell x4 M17) fun _ M20 =>
        some (x2, M20)
set_option maxRecDepth 100000 in
theorem w_X11_brief_38 {R : Int32} {M' : Mem}  : ∀ (n : Nat) (x1 x2 x3 x4 x5 : Int32) (M : Mem), f_X11_brief_38 n x1 x2 x3 x4 x5 M = some (R, M') → RunF l D cy ad none YX11_brief 406 0 0 (some (.int R)) (lay X M') 0 0 38 [(0, .ref 174), (1, .int x1), (2, .int x2), (3, .int x3), (4, .int x4), (5, .int x5)] [] (lay X M) := by
  intro n
  induction n with
  | zero => intro x1 x2 x3 x4 x5 M hF; exact absurd hF (by unfold f_X11_brief_38; exact fun h => nomatch h)
  | succ n ih =>
    intro x1 x2 x3 x4 x5 M hF
    unfold f_X11_brief_38 at hF
    refine g_iload (Y := YX11_brief) (pc := 38) 5 dX11_brief_38 rfl ?_
    refine g_aload_n (Y := YX11_brief) (pc := 40) 0 dX11_brief_40 rfl ?_
    refine u_getI (Y := YX11_brief) (pc := 41) dX11_brief_41 fl_X11_113 k_174 ?_
    refine g_icmp_ge (Y := YX11_brief) (pc := 44) (tgt := 152) dX11_brief_44 rfl (fun c13 => ?_) (fun c13 => ?_)
    · replace hF := if_f c13 hF
      refine g_iload_n (Y := YX11_brief) (pc := 152) 2 dX11_brief_152 rfl ?_
      refine g_ldcw (Y := YX11_brief) (pc := 153) dX11_brief_153 cw_X11_321 ?_
      refine g_icmp_ne (Y := YX11_brief) (pc := 156) (tgt := 162) dX11_brief_156 rfl (fun c14 => ?_) (fun c14 => ?_)
      · replace hF := if_f c14 hF
        refine g_aload_n (Y := YX11_brief) (pc := 162) 0 dX11_brief_162 rfl ?_
        refine g_iconst (Y := YX11_brief) (pc := 163) dX11_brief_163 kI_0 ?_
        refine u_putI (Y := YX11_brief) (pc := 164) dX11_brief_164 fl_X11_103  k_174 ?_
        refine g_nmM (fun M15 e => ?_)
        replace hF := ml_to e hF; clear e
        refine g_aload_n (Y := YX11_brief) (pc := 167) 0 dX11_brief_167 rfl ?_
        refine g_iload_n (Y := YX11_brief) (pc := 168) 3 dX11_brief_168 rfl ?_
        obtain ⟨r16, M17, e18, hF⟩ := bd_some hF
        refine s_callVv (Y := YX11_brief) (pc := 169) (as := [.int x3]) (st := []) (r_X11_tell  e18) miX11_tell lk_X11_300 dX11_brief_169 k_174 rfl (Nat.le_of_ble_eq_true rfl) (Nat.le_of_ble_eq_true rfl) rfl ?_
        clear e18
        refine g_aload_n (Y := YX11_brief) (pc := 172) 0 dX11_brief_172 rfl ?_
        refine g_iload (Y := YX11_brief) (pc := 173) 4 dX11_brief_173 rfl ?_
        obtain ⟨r19, M20, e21, hF⟩ := bd_some hF
        refine s_callVv (Y := YX11_brief) (pc := 175) (as := [.int x4]) (st := []) (r_X11_tell  e21) miX11_tell lk_X11_300 dX11_brief_175 k_174 rfl (Nat.le_of_ble_eq_true rfl) (Nat.le_of_ble_eq_true rfl) rfl ?_
        clear e21
        refine g_iload_n (Y := YX11_brief) (pc := 178) 2 dX11_brief_178 rfl ?_
        exact s_iret (Y := YX11_brief) (pc := 179) dX11_brief_179 rfl hF
      · replace hF := if_t c14 hF
        refine g_bipush (Y := YX11_brief) (pc := 159) dX11_brief_159 kB_m2 ?_
        exact s_iret (Y := YX11_brief) (pc := 161) dX11_brief_161 rfl hF
    · replace hF := if_t c13 hF
      refine g_iconst (Y := YX11_brief) (pc := 47) dX11_brief_47 kI_0 ?_
      refine g_istore (Y := YX11_brief) (pc := 48) (L' := [(6, .int 0), (0, .ref 174), (1, .int x1), (2, .int x2), (3, .int x3), (4, .int x4), (5, .int x5)]) dX11_brief_48 (Nat.le_of_ble_eq_true rfl) rfl ?_
      refine g_loc [1, 2, 3, 4, 5, 6, 0] rfl ?_
      exact w_X11_brief_50 ih _ _ _ _ _ _ _ _ hF
def f_X11_brief_0  (x1 : Int32) (M : Mem) : Option (Int32 × Mem) :=
  ml (up M 174 14 0) fun M1 =>
  bd (f_X11_canOrder x1 M1) fun r2 M3 =>
  if r2 = 0 then
    some ((-1), M3)
  else
    bd (f_X11_layStays M3) fun _ M7 =>
    bd (f_X11_findBest x1 1 M7) fun _ M10 =>
    vl ((M10 174 39)) fun v12 =>
    f_X11_brief_38 FU x1 v12 (-1) (-1) 0 M10
set_option maxRecDepth 100000 in
theorem w_X11_brief_0 {R : Int32} {M' : Mem}  (x1 : Int32) (M : Mem) (hF : f_X11_brief_0 x1 M = some (R, M')) : RunF l D cy ad none YX11_brief 406 0 0 (some (.int R)) (lay X M') 0 0 0 [(0, .ref 174), (1, .int x1)] [] (lay X M) := by
  unfold f_X11_brief_0 at hF
  refine g_aload_n (Y := YX11_brief) (pc := 0) 0 dX11_brief_0 rfl ?_
  refine g_iconst (Y := YX11_brief) (pc := 1) dX11_brief_1 kI_0 ?_
  refine u_putI (Y := YX11_brief) (pc := 2) dX11_brief_2 fl_X11_99  k_174 ?_
  refine g_nmM (fun M1 e => ?_)
  replace hF := ml_to e hF; clear e
  refine g_aload_n (Y := YX11_brief) (pc := 5) 0 dX11_brief_5 rfl ?_
  refine g_iload_n (Y := YX11_brief) (pc := 6) 1 dX11_brief_6 rfl ?_
  obtain ⟨r2, M3, e4, hF⟩ := bd_some hF
  refine s_callVi (Y := YX11_brief) (pc := 7) (as := [.int x1]) (st := []) (r_X11_canOrder  e4) miX11_canOrder lk_X11_350 dX11_brief_7 k_174 rfl (Nat.le_of_ble_eq_true rfl) (Nat.le_of_ble_eq_true rfl) rfl ?_
  clear e4
  refine g_if_ne (Y := YX11_brief) (pc := 10) (tgt := 15) dX11_brief_10 rfl (fun c5 => ?_) (fun c5 => ?_)
  · replace hF := if_f c5 hF
    refine g_aload_n (Y := YX11_brief) (pc := 15) 0 dX11_brief_15 rfl ?_
    obtain ⟨r6, M7, e8, hF⟩ := bd_some hF
    refine s_callVv (Y := YX11_brief) (pc := 16) (as := []) (st := []) (r_X11_layStays  e8) miX11_layStays lk_X11_271 dX11_brief_16 k_174 rfl (Nat.le_of_ble_eq_true rfl) (Nat.le_of_ble_eq_true rfl) rfl ?_
    clear e8
    refine g_aload_n (Y := YX11_brief) (pc := 19) 0 dX11_brief_19 rfl ?_
    refine g_iload_n (Y := YX11_brief) (pc := 20) 1 dX11_brief_20 rfl ?_
    refine g_iconst (Y := YX11_brief) (pc := 21) dX11_brief_21 kI_1 ?_
    obtain ⟨r9, M10, e11, hF⟩ := bd_some hF
    refine s_callVv (Y := YX11_brief) (pc := 22) (as := [.int x1, .int 1]) (st := []) (r_X11_findBest  e11) miX11_findBest lk_X11_353 dX11_brief_22 k_174 rfl (Nat.le_of_ble_eq_true rfl) (Nat.le_of_ble_eq_true rfl) rfl ?_
    clear e11
    refine g_aload_n (Y := YX11_brief) (pc := 25) 0 dX11_brief_25 rfl ?_
    refine u_getI (Y := YX11_brief) (pc := 26) dX11_brief_26 fl_X11_338 k_174 ?_
    refine g_nm (fun v12 e => ?_)
    replace hF := vl_to e hF; clear e
    refine g_istore_n (Y := YX11_brief) (pc := 29) (L' := [(2, .int v12), (0, .ref 174), (1, .int x1)]) dX11_brief_29 (Nat.le_of_ble_eq_true rfl) rfl ?_
    refine g_iconst (Y := YX11_brief) (pc := 30) dX11_brief_30 kI_m1 ?_
    refine g_istore_n (Y := YX11_brief) (pc := 31) (L' := [(3, .int (-1)), (2, .int v12), (0, .ref 174), (1, .int x1)]) dX11_brief_31 (Nat.le_of_ble_eq_true rfl) rfl ?_
    refine g_iconst (Y := YX11_brief) (pc := 32) dX11_brief_32 kI_m1 ?_
    refine g_istore (Y := YX11_brief) (pc := 33) (L' := [(4, .int (-1)), (3, .int (-1)), (2, .int v12), (0, .ref 174), (1, .int x1)]) dX11_brief_33 (Nat.le_of_ble_eq_true rfl) rfl ?_
    refine g_iconst (Y := YX11_brief) (pc := 35) dX11_brief_35 kI_0 ?_
    refine g_istore (Y := YX11_brief) (pc := 36) (L' := [(5, .int 0), (4, .int (-1)), (3, .int (-1)), (2, .int v12), (0, .ref 174), (1, .int x1)]) dX11_brief_36 (Nat.le_of_ble_eq_true rfl) rfl ?_
    refine g_loc [4, 5, 3, 2, 1, 0] rfl ?_
    exact w_X11_brief_38  _ _ _ _ _ _ _ hF
  · replace hF := if_t c5 hF
    refine g_iconst (Y := YX11_brief) (pc := 13) dX11_brief_13 kI_m1 ?_
    exact s_iret (Y := YX11_brief) (pc := 14) dX11_brief_14 rfl hF
def f_X11_brief (x1 : Int32) (M : Mem) : Option (Int32 × Mem) := f_X11_brief_0 x1 M
theorem r_X11_brief {x1 R : Int32} {M M' : Mem}  (hF : f_X11_brief x1 M = some (R, M')) : RunS l D cy ad YX11_brief 406 [.ref 174, .int x1] X M (some (.int R)) M' := Run.of 1 (miX11_brief).1 (Nat.le_of_ble_eq_true rfl) (w_X11_brief_0  _ _ hF)
def f_X11_heard_42  (M : Mem) : Option (Int32 × Mem) :=
  some ((-1), M)
set_option maxRecDepth 100000 in
theorem w_X11_heard_42 {R : Int32} {M' : Mem}  (M : Mem) (hF : f_X11_heard_42  M = some (R, M')) : RunF l D cy ad none YX11_heard 2 0 0 (some (.int R)) (lay X M') 0 0 42 [] [] (lay X M) := by
  unfold f_X11_heard_42 at hF
  refine g_iconst (Y := YX11_heard) (pc := 42) dX11_heard_42 kI_m1 ?_
  exact s_iret (Y := YX11_heard) (pc := 43) dX11_heard_43 rfl hF
def f_X11_heard_0  (x1 : Int32) (x2 : Int32) (x3 : Int32) (M : Mem) : Option (Int32 × Mem) :=
  ml (up M 174 14 0) fun M1 =>
  bd (f_X11_isRoom x1 M1) fun r2 M3 =>
  if r2 = 0 then
    f_X11_heard_42 M3
  else
    bd (f_X11_in x2 1 300 M3) fun r6 M7 =>
    if r6 = 0 then
      f_X11_heard_42 M7
    else
      bd (f_X11_in x3 (-1) 4 M7) fun r10 M11 =>
      if r10 = 0 then
        f_X11_heard_42 M11
      else
        if (M11 174 52) = 12 then
          f_X11_heard_42 M11
        else
          gd (0 ≤ (3 * (M11 174 52)) ∧ (3 * (M11 174 52)).toNatClampNeg < 36) <|
          ml (up M11 200 (3 * (M11 174 52)).toNatClampNeg x1) fun M16 =>
          gd (0 ≤ ((3 * (M16 174 52)) + 1) ∧ ((3 * (M16 174 52)) + 1).toNatClampNeg < 36) <|
          ml (up M16 200 ((3 * (M16 174 52)) + 1).toNatClampNeg x2) fun M18 =>
          gd (0 ≤ ((3 * (M18 174 52)) + 2) ∧ ((3 * (M18 174 52)) + 2).toNatClampNeg < 36) <|
          ml (up M18 200 ((3 * (M18 174 52)) + 2).toNatClampNeg x3) fun M20 =>
          ml (up M20 174 52 ((M20 174 52) + 1)) fun M21 =>
          some ((M21 174 52), M21)
set_option maxRecDepth 100000 in
theorem w_X11_heard_0 {R : Int32} {M' : Mem}  (x1 x2 x3 : Int32) (M : Mem) (hF : f_X11_heard_0 x1 x2 x3 M = some (R, M')) : RunF l D cy ad none YX11_heard 2 0 0 (some (.int R)) (lay X M') 0 0 0 [(0, .ref 174), (1, .int x1), (2, .int x2), (3, .int x3)] [] (lay X M) := by
  unfold f_X11_heard_0 at hF
  refine g_aload_n (Y := YX11_heard) (pc := 0) 0 dX11_heard_0 rfl ?_
  refine g_iconst (Y := YX11_heard) (pc := 1) dX11_heard_1 kI_0 ?_
  refine u_putI (Y := YX11_heard) (pc := 2) dX11_heard_2 fl_X11_99  k_174 ?_
  refine g_nmM (fun M1 e => ?_)
  replace hF := ml_to e hF; clear e
  refine g_aload_n (Y := YX11_heard) (pc := 5) 0 dX11_heard_5 rfl ?_
  refine g_iload_n (Y := YX11_heard) (pc := 6) 1 dX11_heard_6 rfl ?_
  obtain ⟨r2, M3, e4, hF⟩ := bd_some hF
  refine s_callVi (Y := YX11_heard) (pc := 7) (as := [.int x1]) (st := []) (r_X11_isRoom  e4) miX11_isRoom lk_X11_235 dX11_heard_7 k_174 rfl (Nat.le_of_ble_eq_true rfl) (Nat.le_of_ble_eq_true rfl) rfl ?_
  clear e4
  refine g_if_eq (Y := YX11_heard) (pc := 10) (tgt := 42) dX11_heard_10 rfl (fun c5 => ?_) (fun c5 => ?_)
  · replace hF := if_t c5 hF
    refine g_loc [] rfl ?_
    exact w_X11_heard_42  _ hF
  · replace hF := if_f c5 hF
    refine g_iload_n (Y := YX11_heard) (pc := 13) 2 dX11_heard_13 rfl ?_
    refine g_iconst (Y := YX11_heard) (pc := 14) dX11_heard_14 kI_1 ?_
    refine g_sipush (Y := YX11_heard) (pc := 15) dX11_heard_15 kS_300 ?_
    obtain ⟨r6, M7, e8, hF⟩ := bd_some hF
    refine s_callSi (Y := YX11_heard) (pc := 18) (as := [.int x2, .int 1, .int 300]) (st := []) (r_X11_in  e8) msX11_in lk_X11_109 dX11_heard_18 rfl (Nat.le_of_ble_eq_true rfl) (Nat.le_of_ble_eq_true rfl) rfl ?_
    clear e8
    refine g_if_eq (Y := YX11_heard) (pc := 21) (tgt := 42) dX11_heard_21 rfl (fun c9 => ?_) (fun c9 => ?_)
    · replace hF := if_t c9 hF
      refine g_loc [] rfl ?_
      exact w_X11_heard_42  _ hF
    · replace hF := if_f c9 hF
      refine g_iload_n (Y := YX11_heard) (pc := 24) 3 dX11_heard_24 rfl ?_
      refine g_iconst (Y := YX11_heard) (pc := 25) dX11_heard_25 kI_m1 ?_
      refine g_iconst (Y := YX11_heard) (pc := 26) dX11_heard_26 kI_4 ?_
      obtain ⟨r10, M11, e12, hF⟩ := bd_some hF
      refine s_callSi (Y := YX11_heard) (pc := 27) (as := [.int x3, .int (-1), .int 4]) (st := []) (r_X11_in  e12) msX11_in lk_X11_109 dX11_heard_27 rfl (Nat.le_of_ble_eq_true rfl) (Nat.le_of_ble_eq_true rfl) rfl ?_
      clear e12
      refine g_if_eq (Y := YX11_heard) (pc := 30) (tgt := 42) dX11_heard_30 rfl (fun c13 => ?_) (fun c13 => ?_)
      · replace hF := if_t c13 hF
        refine g_loc [] rfl ?_
        exact w_X11_heard_42  _ hF
      · replace hF := if_f c13 hF
        refine g_aload_n (Y := YX11_heard) (pc := 33) 0 dX11_heard_33 rfl ?_
        refine u_getI (Y := YX11_heard) (pc := 34) dX11_heard_34 fl_X11_150 k_174 ?_
        refine g_bipush (Y := YX11_heard) (pc := 37) dX11_heard_37 kB_12 ?_
        refine g_icmp_ne (Y := YX11_heard) (pc := 39) (tgt := 44) dX11_heard_39 rfl (fun c14 => ?_) (fun c14 => ?_)
        · replace hF := if_f c14 hF
          refine g_aload_n (Y := YX11_heard) (pc := 44) 0 dX11_heard_44 rfl ?_
          refine u_getR (Y := YX11_heard) (pc := 45) (j := 200) dX11_heard_45 fl_X11_87 k_174 rf_174_51 ?_
          refine g_iconst (Y := YX11_heard) (pc := 48) dX11_heard_48 kI_3 ?_
          refine g_aload_n (Y := YX11_heard) (pc := 49) 0 dX11_heard_49 rfl ?_
          refine u_getI (Y := YX11_heard) (pc := 50) dX11_heard_50 fl_X11_150 k_174 ?_
          refine g_imul (Y := YX11_heard) (pc := 53) dX11_heard_53 ?_
          refine g_iload_n (Y := YX11_heard) (pc := 54) 1 dX11_heard_54 rfl ?_
          obtain ⟨g15, hF⟩ := gd_some hF
          refine s_iast (Y := YX11_heard) (pc := 55) dX11_heard_55 k_200 n_200 g15 ?_
          refine g_nmM (fun M16 e => ?_)
          replace hF := ml_to e hF; clear e
          refine g_aload_n (Y := YX11_heard) (pc := 56) 0 dX11_heard_56 rfl ?_
          refine u_getR (Y := YX11_heard) (pc := 57) (j := 200) dX11_heard_57 fl_X11_87 k_174 rf_174_51 ?_
          refine g_iconst (Y := YX11_heard) (pc := 60) dX11_heard_60 kI_3 ?_
          refine g_aload_n (Y := YX11_heard) (pc := 61) 0 dX11_heard_61 rfl ?_
          refine u_getI (Y := YX11_heard) (pc := 62) dX11_heard_62 fl_X11_150 k_174 ?_
          refine g_imul (Y := YX11_heard) (pc := 65) dX11_heard_65 ?_
          refine g_iconst (Y := YX11_heard) (pc := 66) dX11_heard_66 kI_1 ?_
          refine g_iadd (Y := YX11_heard) (pc := 67) dX11_heard_67 ?_
          refine g_iload_n (Y := YX11_heard) (pc := 68) 2 dX11_heard_68 rfl ?_
          obtain ⟨g17, hF⟩ := gd_some hF
          refine s_iast (Y := YX11_heard) (pc := 69) dX11_heard_69 k_200 n_200 g17 ?_
          refine g_nmM (fun M18 e => ?_)
          replace hF := ml_to e hF; clear e
          refine g_aload_n (Y := YX11_heard) (pc := 70) 0 dX11_heard_70 rfl ?_
          refine u_getR (Y := YX11_heard) (pc := 71) (j := 200) dX11_heard_71 fl_X11_87 k_174 rf_174_51 ?_
          refine g_iconst (Y := YX11_heard) (pc := 74) dX11_heard_74 kI_3 ?_
          refine g_aload_n (Y := YX11_heard) (pc := 75) 0 dX11_heard_75 rfl ?_
          refine u_getI (Y := YX11_heard) (pc := 76) dX11_heard_76 fl_X11_150 k_174 ?_
          refine g_imul (Y := YX11_heard) (pc := 79) dX11_heard_79 ?_
          refine g_iconst (Y := YX11_heard) (pc := 80) dX11_heard_80 kI_2 ?_
          refine g_iadd (Y := YX11_heard) (pc := 81) dX11_heard_81 ?_
          refine g_iload_n (Y := YX11_heard) (pc := 82) 3 dX11_heard_82 rfl ?_
          obtain ⟨g19, hF⟩ := gd_some hF
          refine s_iast (Y := YX11_heard) (pc := 83) dX11_heard_83 k_200 n_200 g19 ?_
          refine g_nmM (fun M20 e => ?_)
          replace hF := ml_to e hF; clear e
          refine g_aload_n (Y := YX11_heard) (pc := 84) 0 dX11_heard_84 rfl ?_
          refine g_dup (Y := YX11_heard) (pc := 85) dX11_heard_85 rfl ?_
          refine u_getI (Y := YX11_heard) (pc := 86) dX11_heard_86 fl_X11_150 k_174 ?_
          refine g_iconst (Y := YX11_heard) (pc := 89) dX11_heard_89 kI_1 ?_
          refine g_iadd (Y := YX11_heard) (pc := 90) dX11_heard_90 ?_
          refine u_putI (Y := YX11_heard) (pc := 91) dX11_heard_91 fl_X11_150  k_174 ?_
          refine g_nmM (fun M21 e => ?_)
          replace hF := ml_to e hF; clear e
          refine g_aload_n (Y := YX11_heard) (pc := 94) 0 dX11_heard_94 rfl ?_
          refine u_getI (Y := YX11_heard) (pc := 95) dX11_heard_95 fl_X11_150 k_174 ?_
          exact s_iret (Y := YX11_heard) (pc := 98) dX11_heard_98 rfl hF
        · replace hF := if_t c14 hF
          refine g_loc [] rfl ?_
          exact w_X11_heard_42  _ hF
def f_X11_heard (x1 : Int32) (x2 : Int32) (x3 : Int32) (M : Mem) : Option (Int32 × Mem) := f_X11_heard_0 x1 x2 x3 M
theorem r_X11_heard {x1 x2 x3 R : Int32} {M M' : Mem}  (hF : f_X11_heard x1 x2 x3 M = some (R, M')) : RunS l D cy ad YX11_heard 2 [.ref 174, .int x1, .int x2, .int x3] X M (some (.int R)) M' := Run.of 3 (miX11_heard).1 (Nat.le_of_ble_eq_true rfl) (w_X11_heard_0  _ _ _ _ hF)
def f_X11_forget_0  (M : Mem) : Option (Int32 × Mem) :=
  ml (up M 174 14 0) fun M1 =>
  vl ((M1 174 52)) fun v2 =>
  ml (up M1 174 52 0) fun M3 =>
  some (v2, M3)
set_option maxRecDepth 100000 in
theorem w_X11_forget_0 {R : Int32} {M' : Mem}  (M : Mem) (hF : f_X11_forget_0  M = some (R, M')) : RunF l D cy ad none YX11_forget 0 0 0 (some (.int R)) (lay X M') 0 0 0 [(0, .ref 174)] [] (lay X M) := by
  unfold f_X11_forget_0 at hF
  refine g_aload_n (Y := YX11_forget) (pc := 0) 0 dX11_forget_0 rfl ?_
  refine g_iconst (Y := YX11_forget) (pc := 1) dX11_forget_1 kI_0 ?_
  refine u_putI (Y := YX11_forget) (pc := 2) dX11_forget_2 fl_X11_99  k_174 ?_
  refine g_nmM (fun M1 e => ?_)
  replace hF := ml_to e hF; clear e
  refine g_aload_n (Y := YX11_forget) (pc := 5) 0 dX11_forget_5 rfl ?_
  refine u_getI (Y := YX11_forget) (pc := 6) dX11_forget_6 fl_X11_150 k_174 ?_
  refine g_nm (fun v2 e => ?_)
  replace hF := vl_to e hF; clear e
  refine g_istore_n (Y := YX11_forget) (pc := 9) (L' := [(1, .int v2), (0, .ref 174)]) dX11_forget_9 (Nat.le_of_ble_eq_true rfl) rfl ?_
  refine g_aload_n (Y := YX11_forget) (pc := 10) 1 dX11_forget_10 rfl ?_
  refine g_iconst (Y := YX11_forget) (pc := 11) dX11_forget_11 kI_0 ?_
  refine u_putI (Y := YX11_forget) (pc := 12) dX11_forget_12 fl_X11_150  k_174 ?_
  refine g_nmM (fun M3 e => ?_)
  replace hF := ml_to e hF; clear e
  refine g_iload_n (Y := YX11_forget) (pc := 15) 0 dX11_forget_15 rfl ?_
  exact s_iret (Y := YX11_forget) (pc := 16) dX11_forget_16 rfl hF
def f_X11_forget (M : Mem) : Option (Int32 × Mem) := f_X11_forget_0 M
theorem r_X11_forget {R : Int32} {M M' : Mem}  (hF : f_X11_forget  M = some (R, M')) : RunS l D cy ad YX11_forget 0 [.ref 174] X M (some (.int R)) M' := Run.of 0 (miX11_forget).1 (Nat.le_of_ble_eq_true rfl) (w_X11_forget_0  _ hF)
def f_X11_isHeard_81 (K41 : Int32 → Int32 → Int32 → Mem → Option (Int32 × Mem)) (a2 : Nat) (x1 : Int32) (x3 : Int32) (x4 : Int32) (M : Mem) : Option (Int32 × Mem) :=
  vl (x4 + 1) fun v12 =>
  K41 x1 x3 v12 M
set_option maxRecDepth 100000 in
theorem w_X11_isHeard_81 {R : Int32} {M' : Mem} {a2 : Nat} {K41 : Int32 → Int32 → Int32 → Mem → Option (Int32 × Mem)} (ha2 : kinds[a2]? = some 14) (hK41 : ∀ (x1 x3 x4 : Int32) (M : Mem), K41 x1 x3 x4 M = some (R, M') → RunF l D cy ad none YX11_isHeard 1 0 0 (some (.int R)) (lay X M') 0 0 41 [(0, .ref 174), (1, .int x1), (3, .int x3), (4, .int x4)] [] (lay X M)) (x1 x3 x4 : Int32) (M : Mem) (hF : f_X11_isHeard_81 K41 a2 x1 x3 x4 M = some (R, M')) : RunF l D cy ad none YX11_isHeard 1 0 0 (some (.int R)) (lay X M') 0 0 81 [(0, .ref 174), (1, .int x1), (3, .int x3), (4, .int x4)] [] (lay X M) := by
  unfold f_X11_isHeard_81 at hF
  refine s_iinc (Y := YX11_isHeard) (pc := 81) (j := 3) (L' := fun y => [(4, .int y), (0, .ref 174), (1, .int x1), (3, .int x3)]) dX11_isHeard_81 kI_1 rfl (Nat.le_of_ble_eq_true rfl) (fun _ => rfl) (fun v12 e => ?_)
  replace hF := vl_to e hF; clear e
  refine g_goto (Y := YX11_isHeard) (pc := 84) (tgt := 41) dX11_isHeard_84 rfl ?_
  refine g_loc [1, 2, 3, 0] rfl ?_
  exact hK41 _ _ _ _ hF
def f_X11_isHeard_41 (a2 : Nat) : Nat → Int32 → Int32 → Int32 → Mem → Option (Int32 × Mem)
  | 0, _, _, _, _ => none
  | n + 1, x1, x3, x4, M =>
    if x4 < (M 174 3) then
      bd (f_X11_has x3 x4 M) fun r8 M9 =>
      if r8 = 0 then
        f_X11_isHeard_81 (f_X11_isHeard_41 a2 n) a2 x1 x3 x4 M9
      else
        gd (0 ≤ x4 ∧ x4.toNatClampNeg < 6) <|
        gd (0 ≤ ((3 * x1) + 2) ∧ ((3 * x1) + 2).toNatClampNeg < 36) <|
        if (M9 178 x4.toNatClampNeg) = (M9 200 ((3 * x1) + 2).toNatClampNeg) then
          some (1, M9)
        else
          f_X11_isHeard_81 (f_X11_isHeard_41 a2 n) a2 x1 x3 x4 M9
    else
      some (0, M)
set_option maxRecDepth 100000 in
theorem w_X11_isHeard_41 {R : Int32} {M' : Mem} {a2 : Nat} (ha2 : kinds[a2]? = some 14) : ∀ (n : Nat) (x1 x3 x4 : Int32) (M : Mem), f_X11_isHeard_41 a2 n x1 x3 x4 M = some (R, M') → RunF l D cy ad none YX11_isHeard 1 0 0 (some (.int R)) (lay X M') 0 0 41 [(0, .ref 174), (1, .int x1), (3, .int x3), (4, .int x4)] [] (lay X M) := by
  intro n
  induction n with
  | zero => intro x1 x3 x4 M hF; exact absurd hF (by unfold f_X11_isHeard_41; exact fun h => nomatch h)
  | succ n ih =>
    intro x1 x3 x4 M hF
    unfold f_X11_isHeard_41 at hF
    refine g_iload (Y := YX11_isHeard) (pc := 41) 3 dX11_isHeard_41 rfl ?_
    refine g_aload_n (Y := YX11_isHeard) (pc := 43) 0 dX11_isHeard_43 rfl ?_
    refine u_getI (Y := YX11_isHeard) (pc := 44) dX11_isHeard_44 fl_X11_113 k_174 ?_
    refine g_icmp_ge (Y := YX11_isHeard) (pc := 47) (tgt := 87) dX11_isHeard_47 rfl (fun c7 => ?_) (fun c7 => ?_)
    · replace hF := if_f c7 hF
      refine g_iconst (Y := YX11_isHeard) (pc := 87) dX11_isHeard_87 kI_0 ?_
      exact s_zret (Y := YX11_isHeard) (pc := 88) dX11_isHeard_88 rfl (Or.inl rfl) hF
    · replace hF := if_t c7 hF
      refine g_iload_n (Y := YX11_isHeard) (pc := 50) 2 dX11_isHeard_50 rfl ?_
      refine g_iload (Y := YX11_isHeard) (pc := 51) 3 dX11_isHeard_51 rfl ?_
      obtain ⟨r8, M9, e10, hF⟩ := bd_some hF
      refine s_callSi (Y := YX11_isHeard) (pc := 53) (as := [.int x3, .int x4]) (st := []) (r_X11_has  e10) msX11_has lk_X11_209 dX11_isHeard_53 rfl (Nat.le_of_ble_eq_true rfl) (Nat.le_of_ble_eq_true rfl) rfl ?_
      clear e10
      refine g_if_eq (Y := YX11_isHeard) (pc := 56) (tgt := 81) dX11_isHeard_56 rfl (fun c11 => ?_) (fun c11 => ?_)
      · replace hF := if_t c11 hF
        exact w_X11_isHeard_81 ha2 ih _ _ _ _ hF
      · replace hF := if_f c11 hF
        refine g_aload_n (Y := YX11_isHeard) (pc := 59) 0 dX11_isHeard_59 rfl ?_
        refine u_getR (Y := YX11_isHeard) (pc := 60) (j := 178) dX11_isHeard_60 fl_X11_20 k_174 rf_174_5 ?_
        refine g_iload (Y := YX11_isHeard) (pc := 63) 3 dX11_isHeard_63 rfl ?_
        obtain ⟨g13, hF⟩ := gd_some hF
        refine s_iald (Y := YX11_isHeard) (pc := 65) dX11_isHeard_65 k_178 n_178 g13 ?_
        refine g_aload_n (Y := YX11_isHeard) (pc := 66) 0 dX11_isHeard_66 rfl ?_
        refine u_getR (Y := YX11_isHeard) (pc := 67) (j := 200) dX11_isHeard_67 fl_X11_87 k_174 rf_174_51 ?_
        refine g_iconst (Y := YX11_isHeard) (pc := 70) dX11_isHeard_70 kI_3 ?_
        refine g_iload_n (Y := YX11_isHeard) (pc := 71) 1 dX11_isHeard_71 rfl ?_
        refine g_imul (Y := YX11_isHeard) (pc := 72) dX11_isHeard_72 ?_
        refine g_iconst (Y := YX11_isHeard) (pc := 73) dX11_isHeard_73 kI_2 ?_
        refine g_iadd (Y := YX11_isHeard) (pc := 74) dX11_isHeard_74 ?_
        obtain ⟨g14, hF⟩ := gd_some hF
        refine s_iald (Y := YX11_isHeard) (pc := 75) dX11_isHeard_75 k_200 n_200 g14 ?_
        refine g_icmp_ne (Y := YX11_isHeard) (pc := 76) (tgt := 81) dX11_isHeard_76 rfl (fun c15 => ?_) (fun c15 => ?_)
        · replace hF := if_f c15 hF
          exact w_X11_isHeard_81 ha2 ih _ _ _ _ hF
        · replace hF := if_t c15 hF
          refine g_iconst (Y := YX11_isHeard) (pc := 79) dX11_isHeard_79 kI_1 ?_
          exact s_zret (Y := YX11_isHeard) (pc := 80) dX11_isHeard_80 rfl (Or.inr rfl) hF
def f_X11_isHeard_37 (a2 : Nat) (t0 : Int32) (M : Mem) : Option (Int32 × Mem) :=
  gd (t0 = 0 ∨ t0 = 1) <|
  some (t0, M)
set_option maxRecDepth 100000 in
theorem w_X11_isHeard_37 {R : Int32} {M' : Mem} {a2 : Nat} (ha2 : kinds[a2]? = some 14) (t0 : Int32) (M : Mem) (hF : f_X11_isHeard_37 a2 t0 M = some (R, M')) : RunF l D cy ad none YX11_isHeard 1 0 0 (some (.int R)) (lay X M') 0 0 37 [] [.int t0] (lay X M) := by
  unfold f_X11_isHeard_37 at hF
  obtain ⟨g17, hF⟩ := gd_some hF
  exact s_zret (Y := YX11_isHeard) (pc := 37) dX11_isHeard_37 rfl g17 hF
def f_X11_isHeard_0 (a2 : Nat) (x1 : Int32) (M : Mem) : Option (Int32 × Mem) :=
  gd (0 ≤ (3 * x1) ∧ (3 * x1).toNatClampNeg < 36) <|
  bd (f_X11_inRoom a2 (M 200 (3 * x1).toNatClampNeg) M) fun r2 M3 =>
  gd (0 ≤ ((3 * x1) + 2) ∧ ((3 * x1) + 2).toNatClampNeg < 36) <|
  if (M3 200 ((3 * x1) + 2).toNatClampNeg) = (-1) then
    if r2 = 0 then
      f_X11_isHeard_37 a2 1 M3
    else
      f_X11_isHeard_37 a2 0 M3
  else
    f_X11_isHeard_41 a2 FU x1 r2 0 M3
set_option maxRecDepth 100000 in
theorem w_X11_isHeard_0 {R : Int32} {M' : Mem} {a2 : Nat} (ha2 : kinds[a2]? = some 14) (x1 : Int32) (M : Mem) (hF : f_X11_isHeard_0 a2 x1 M = some (R, M')) : RunF l D cy ad none YX11_isHeard 1 0 0 (some (.int R)) (lay X M') 0 0 0 [(0, .ref 174), (1, .int x1), (2, .ref a2)] [] (lay X M) := by
  unfold f_X11_isHeard_0 at hF
  refine g_aload_n (Y := YX11_isHeard) (pc := 0) 0 dX11_isHeard_0 rfl ?_
  refine g_aload_n (Y := YX11_isHeard) (pc := 1) 2 dX11_isHeard_1 rfl ?_
  refine g_aload_n (Y := YX11_isHeard) (pc := 2) 0 dX11_isHeard_2 rfl ?_
  refine u_getR (Y := YX11_isHeard) (pc := 3) (j := 200) dX11_isHeard_3 fl_X11_87 k_174 rf_174_51 ?_
  refine g_iconst (Y := YX11_isHeard) (pc := 6) dX11_isHeard_6 kI_3 ?_
  refine g_iload_n (Y := YX11_isHeard) (pc := 7) 1 dX11_isHeard_7 rfl ?_
  refine g_imul (Y := YX11_isHeard) (pc := 8) dX11_isHeard_8 ?_
  obtain ⟨g1, hF⟩ := gd_some hF
  refine s_iald (Y := YX11_isHeard) (pc := 9) dX11_isHeard_9 k_200 n_200 g1 ?_
  obtain ⟨r2, M3, e4, hF⟩ := bd_some hF
  refine s_callVi (Y := YX11_isHeard) (pc := 10) (as := [.ref a2, .int (M 200 (3 * x1).toNatClampNeg)]) (st := []) (r_X11_inRoom ha2 e4) miX11_inRoom lk_X11_238 dX11_isHeard_10 k_174 rfl (Nat.le_of_ble_eq_true rfl) (Nat.le_of_ble_eq_true rfl) rfl ?_
  clear e4
  refine g_istore_n (Y := YX11_isHeard) (pc := 13) (L' := [(3, .int r2), (0, .ref 174), (1, .int x1), (2, .ref a2)]) dX11_isHeard_13 (Nat.le_of_ble_eq_true rfl) rfl ?_
  refine g_aload_n (Y := YX11_isHeard) (pc := 14) 1 dX11_isHeard_14 rfl ?_
  refine u_getR (Y := YX11_isHeard) (pc := 15) (j := 200) dX11_isHeard_15 fl_X11_87 k_174 rf_174_51 ?_
  refine g_iconst (Y := YX11_isHeard) (pc := 18) dX11_isHeard_18 kI_3 ?_
  refine g_iload_n (Y := YX11_isHeard) (pc := 19) 2 dX11_isHeard_19 rfl ?_
  refine g_imul (Y := YX11_isHeard) (pc := 20) dX11_isHeard_20 ?_
  refine g_iconst (Y := YX11_isHeard) (pc := 21) dX11_isHeard_21 kI_2 ?_
  refine g_iadd (Y := YX11_isHeard) (pc := 22) dX11_isHeard_22 ?_
  obtain ⟨g5, hF⟩ := gd_some hF
  refine s_iald (Y := YX11_isHeard) (pc := 23) dX11_isHeard_23 k_200 n_200 g5 ?_
  refine g_iconst (Y := YX11_isHeard) (pc := 24) dX11_isHeard_24 kI_m1 ?_
  refine g_icmp_ne (Y := YX11_isHeard) (pc := 25) (tgt := 38) dX11_isHeard_25 rfl (fun c6 => ?_) (fun c6 => ?_)
  · replace hF := if_f c6 hF
    refine g_iconst (Y := YX11_isHeard) (pc := 38) dX11_isHeard_38 kI_0 ?_
    refine g_istore (Y := YX11_isHeard) (pc := 39) (L' := [(4, .int 0), (3, .int r2), (0, .ref 174), (1, .int x1), (2, .ref a2)]) dX11_isHeard_39 (Nat.le_of_ble_eq_true rfl) rfl ?_
    refine g_loc [2, 3, 1, 0] rfl ?_
    exact w_X11_isHeard_41 ha2 _ _ _ _ _ hF
  · replace hF := if_t c6 hF
    refine g_iload_n (Y := YX11_isHeard) (pc := 28) 0 dX11_isHeard_28 rfl ?_
    refine g_if_ne (Y := YX11_isHeard) (pc := 29) (tgt := 36) dX11_isHeard_29 rfl (fun c16 => ?_) (fun c16 => ?_)
    · replace hF := if_f c16 hF
      refine g_iconst (Y := YX11_isHeard) (pc := 36) dX11_isHeard_36 kI_0 ?_
      refine g_loc [] rfl ?_
      exact w_X11_isHeard_37 ha2 _ _ hF
    · replace hF := if_t c16 hF
      refine g_iconst (Y := YX11_isHeard) (pc := 32) dX11_isHeard_32 kI_1 ?_
      refine g_goto (Y := YX11_isHeard) (pc := 33) (tgt := 37) dX11_isHeard_33 rfl ?_
      refine g_loc [] rfl ?_
      exact w_X11_isHeard_37 ha2 _ _ hF
def f_X11_isHeard (a2 : Nat) (x1 : Int32) (M : Mem) : Option (Int32 × Mem) := f_X11_isHeard_0 a2 x1 M
theorem r_X11_isHeard {a2 : Nat} {x1 R : Int32} {M M' : Mem} (ha2 : kinds[a2]? = some 14) (hF : f_X11_isHeard a2 x1 M = some (R, M')) : RunS l D cy ad YX11_isHeard 1 [.ref 174, .int x1, .ref a2] X M (some (.int R)) M' := Run.of 2 (miX11_isHeard).1 (Nat.le_of_ble_eq_true rfl) (w_X11_isHeard_0 ha2 _ _ hF)
def f_X11_isOrderHeard_149 (K49 : Int32 → Int32 → Int32 → Mem → Option (Int32 × Mem)) (K110 : Int32 → Int32 → Int32 → Int32 → Mem → Option (Int32 × Mem)) (x1 : Int32) (x2 : Int32) (x3 : Int32) (x4 : Int32) (M : Mem) : Option (Int32 × Mem) :=
  vl (x4 + 1) fun v14 =>
  K110 x1 x2 x3 v14 M
set_option maxRecDepth 100000 in
theorem w_X11_isOrderHeard_149 {R : Int32} {M' : Mem} {K49 : Int32 → Int32 → Int32 → Mem → Option (Int32 × Mem)} {K110 : Int32 → Int32 → Int32 → Int32 → Mem → Option (Int32 × Mem)} (hK49 : ∀ (x1 x2 x3 : Int32) (M : Mem), K49 x1 x2 x3 M = some (R, M') → RunF l D cy ad none YX11_isOrderHeard 5 0 0 (some (.int R)) (lay X M') 0 0 49 [(0, .ref 174), (1, .int x1), (2, .int x2), (3, .int x3)] [] (lay X M)) (hK110 : ∀ (x1 x2 x3 x4 : Int32) (M : Mem), K110 x1 x2 x3 x4 M = some (R, M') → RunF l D cy ad none YX11_isOrderHeard 5 0 0 (some (.int R)) (lay X M') 0 0 110 [(0, .ref 174), (1, .int x1), (2, .int x2), (3, .int x3), (4, .int x4)] [] (lay X M)) (x1 x2 x3 x4 : Int32) (M : Mem) (hF : f_X11_isOrderHeard_149 K49 K110 x1 x2 x3 x4 M = some (R, M')) : RunF l D cy ad none YX11_isOrderHeard 5 0 0 (some (.int R)) (lay X M') 0 0 149 [(0, .ref 174), (1, .int x1), (2, .int x2), (3, .int x3), (4, .int x4)] [] (lay X M) := by
  unfold f_X11_isOrderHeard_149 at hF
  refine s_iinc (Y := YX11_isOrderHeard) (pc := 149) (j := 4) (L' := fun y => [(4, .int y), (0, .ref 174), (1, .int x1), (2, .int x2), (3, .int x3)]) dX11_isOrderHeard_149 kI_1 rfl (Nat.le_of_ble_eq_true rfl) (fun _ => rfl) (fun v14 e => ?_)
  replace hF := vl_to e hF; clear e
  refine g_goto (Y := YX11_isOrderHeard) (pc := 152) (tgt := 110) dX11_isOrderHeard_152 rfl ?_
  refine g_loc [1, 2, 3, 4, 0] rfl ?_
  exact hK110 _ _ _ _ _ hF
def f_X11_isOrderHeard_110 (K49 : Int32 → Int32 → Int32 → Mem → Option (Int32 × Mem)) : Nat → Int32 → Int32 → Int32 → Int32 → Mem → Option (Int32 × Mem)
  | 0, _, _, _, _, _ => none
  | n + 1, x1, x2, x3, x4, M =>
    if x4 < (M 174 52) then
      gd (0 ≤ ((3 * x4) + 1) ∧ ((3 * x4) + 1).toNatClampNeg < 36) <|
      if (M 200 ((3 * x4) + 1).toNatClampNeg) = x3 then
        bd (f_X11_isHeard 191 x4 M) fun r15 M16 =>
        if r15 = 0 then
          some (0, M16)
        else
          f_X11_isOrderHeard_149 K49 (f_X11_isOrderHeard_110 K49 n) x1 x2 x3 x4 M16
      else
        f_X11_isOrderHeard_149 K49 (f_X11_isOrderHeard_110 K49 n) x1 x2 x3 x4 M
    else
      vl (x3 + 1) fun v11 =>
      K49 x1 x2 v11 M
set_option maxRecDepth 100000 in
theorem w_X11_isOrderHeard_110 {R : Int32} {M' : Mem} {K49 : Int32 → Int32 → Int32 → Mem → Option (Int32 × Mem)} (hK49 : ∀ (x1 x2 x3 : Int32) (M : Mem), K49 x1 x2 x3 M = some (R, M') → RunF l D cy ad none YX11_isOrderHeard 5 0 0 (some (.int R)) (lay X M') 0 0 49 [(0, .ref 174), (1, .int x1), (2, .int x2), (3, .int x3)] [] (lay X M)) : ∀ (n : Nat) (x1 x2 x3 x4 : Int32) (M : Mem), f_X11_isOrderHeard_110 K49 n x1 x2 x3 x4 M = some (R, M') → RunF l D cy ad none YX11_isOrderHeard 5 0 0 (some (.int R)) (lay X M') 0 0 110 [(0, .ref 174), (1, .int x1), (2, .int x2), (3, .int x3), (4, .int x4)] [] (lay X M) := by
  intro n
  induction n with
  | zero => intro x1 x2 x3 x4 M hF; exact absurd hF (by unfold f_X11_isOrderHeard_110; exact fun h => nomatch h)
  | succ n ih =>
    intro x1 x2 x3 x4 M hF
    unfold f_X11_isOrderHeard_110 at hF
    refine g_iload (Y := YX11_isOrderHeard) (pc := 110) 4 dX11_isOrderHeard_110 rfl ?_
    refine g_aload_n (Y := YX11_isOrderHeard) (pc := 112) 0 dX11_isOrderHeard_112 rfl ?_
    refine u_getI (Y := YX11_isOrderHeard) (pc := 113) dX11_isOrderHeard_113 fl_X11_150 k_174 ?_
    refine g_icmp_ge (Y := YX11_isOrderHeard) (pc := 116) (tgt := 155) dX11_isOrderHeard_116 rfl (fun c10 => ?_) (fun c10 => ?_)
    · replace hF := if_f c10 hF
      refine s_iinc (Y := YX11_isOrderHeard) (pc := 155) (j := 3) (L' := fun y => [(3, .int y), (0, .ref 174), (1, .int x1), (2, .int x2), (4, .int x4)]) dX11_isOrderHeard_155 kI_1 rfl (Nat.le_of_ble_eq_true rfl) (fun _ => rfl) (fun v11 e => ?_)
      replace hF := vl_to e hF; clear e
      refine g_goto (Y := YX11_isOrderHeard) (pc := 158) (tgt := 49) dX11_isOrderHeard_158 rfl ?_
      refine g_loc [1, 2, 3, 0] rfl ?_
      exact hK49 _ _ _ _ hF
    · replace hF := if_t c10 hF
      refine g_aload_n (Y := YX11_isOrderHeard) (pc := 119) 0 dX11_isOrderHeard_119 rfl ?_
      refine u_getR (Y := YX11_isOrderHeard) (pc := 120) (j := 200) dX11_isOrderHeard_120 fl_X11_87 k_174 rf_174_51 ?_
      refine g_iconst (Y := YX11_isOrderHeard) (pc := 123) dX11_isOrderHeard_123 kI_3 ?_
      refine g_iload (Y := YX11_isOrderHeard) (pc := 124) 4 dX11_isOrderHeard_124 rfl ?_
      refine g_imul (Y := YX11_isOrderHeard) (pc := 126) dX11_isOrderHeard_126 ?_
      refine g_iconst (Y := YX11_isOrderHeard) (pc := 127) dX11_isOrderHeard_127 kI_1 ?_
      refine g_iadd (Y := YX11_isOrderHeard) (pc := 128) dX11_isOrderHeard_128 ?_
      obtain ⟨g12, hF⟩ := gd_some hF
      refine s_iald (Y := YX11_isOrderHeard) (pc := 129) dX11_isOrderHeard_129 k_200 n_200 g12 ?_
      refine g_iload_n (Y := YX11_isOrderHeard) (pc := 130) 3 dX11_isOrderHeard_130 rfl ?_
      refine g_icmp_ne (Y := YX11_isOrderHeard) (pc := 131) (tgt := 149) dX11_isOrderHeard_131 rfl (fun c13 => ?_) (fun c13 => ?_)
      · replace hF := if_f c13 hF
        exact w_X11_isOrderHeard_149 hK49 ih _ _ _ _ _ hF
      · replace hF := if_t c13 hF
        refine g_aload_n (Y := YX11_isOrderHeard) (pc := 134) 0 dX11_isOrderHeard_134 rfl ?_
        refine g_iload (Y := YX11_isOrderHeard) (pc := 135) 4 dX11_isOrderHeard_135 rfl ?_
        refine g_aload_n (Y := YX11_isOrderHeard) (pc := 137) 0 dX11_isOrderHeard_137 rfl ?_
        refine u_getR (Y := YX11_isOrderHeard) (pc := 138) (j := 191) dX11_isOrderHeard_138 fl_X11_60 k_174 rf_174_35 ?_
        obtain ⟨r15, M16, e17, hF⟩ := bd_some hF
        refine s_callVi (Y := YX11_isOrderHeard) (pc := 141) (as := [.int x4, .ref 191]) (st := []) (r_X11_isHeard k_191 e17) miX11_isHeard lk_X11_398 dX11_isOrderHeard_141 k_174 rfl (Nat.le_of_ble_eq_true rfl) (Nat.le_of_ble_eq_true rfl) rfl ?_
        clear e17
        refine g_if_ne (Y := YX11_isOrderHeard) (pc := 144) (tgt := 149) dX11_isOrderHeard_144 rfl (fun c18 => ?_) (fun c18 => ?_)
        · replace hF := if_f c18 hF
          exact w_X11_isOrderHeard_149 hK49 ih _ _ _ _ _ hF
        · replace hF := if_t c18 hF
          refine g_iconst (Y := YX11_isOrderHeard) (pc := 147) dX11_isOrderHeard_147 kI_0 ?_
          exact s_zret (Y := YX11_isOrderHeard) (pc := 148) dX11_isOrderHeard_148 rfl (Or.inl rfl) hF
def f_X11_isOrderHeard_99 (K49 : Int32 → Int32 → Int32 → Mem → Option (Int32 × Mem)) (x1 : Int32) (x2 : Int32) (x3 : Int32) (M : Mem) : Option (Int32 × Mem) :=
  bd (f_X11_goMinute 191 M) fun _ M8 =>
  f_X11_isOrderHeard_110 K49 FU x1 x2 x3 0 M8
set_option maxRecDepth 100000 in
theorem w_X11_isOrderHeard_99 {R : Int32} {M' : Mem} {K49 : Int32 → Int32 → Int32 → Mem → Option (Int32 × Mem)} (hK49 : ∀ (x1 x2 x3 : Int32) (M : Mem), K49 x1 x2 x3 M = some (R, M') → RunF l D cy ad none YX11_isOrderHeard 5 0 0 (some (.int R)) (lay X M') 0 0 49 [(0, .ref 174), (1, .int x1), (2, .int x2), (3, .int x3)] [] (lay X M)) (x1 x2 x3 : Int32) (M : Mem) (hF : f_X11_isOrderHeard_99 K49 x1 x2 x3 M = some (R, M')) : RunF l D cy ad none YX11_isOrderHeard 5 0 0 (some (.int R)) (lay X M') 0 0 99 [(0, .ref 174), (1, .int x1), (2, .int x2), (3, .int x3)] [] (lay X M) := by
  unfold f_X11_isOrderHeard_99 at hF
  refine g_aload_n (Y := YX11_isOrderHeard) (pc := 99) 0 dX11_isOrderHeard_99 rfl ?_
  refine g_aload_n (Y := YX11_isOrderHeard) (pc := 100) 0 dX11_isOrderHeard_100 rfl ?_
  refine u_getR (Y := YX11_isOrderHeard) (pc := 101) (j := 191) dX11_isOrderHeard_101 fl_X11_60 k_174 rf_174_35 ?_
  obtain ⟨r7, M8, e9, hF⟩ := bd_some hF
  refine s_callVv (Y := YX11_isOrderHeard) (pc := 104) (as := [.ref 191]) (st := []) (r_X11_goMinute k_191 e9) miX11_goMinute lk_X11_297 dX11_isOrderHeard_104 k_174 rfl (Nat.le_of_ble_eq_true rfl) (Nat.le_of_ble_eq_true rfl) rfl ?_
  clear e9
  refine g_iconst (Y := YX11_isOrderHeard) (pc := 107) dX11_isOrderHeard_107 kI_0 ?_
  refine g_istore (Y := YX11_isOrderHeard) (pc := 108) (L' := [(4, .int 0), (0, .ref 174), (1, .int x1), (2, .int x2), (3, .int x3)]) dX11_isOrderHeard_108 (Nat.le_of_ble_eq_true rfl) rfl ?_
  refine g_loc [1, 2, 3, 4, 0] rfl ?_
  exact w_X11_isOrderHeard_110 hK49 _ _ _ _ _ _ hF
def f_X11_isOrderHeard_54 (K49 : Int32 → Int32 → Int32 → Mem → Option (Int32 × Mem)) : Nat → Int32 → Int32 → Int32 → Mem → Option (Int32 × Mem)
  | 0, _, _, _, _ => none
  | n + 1, x1, x2, x3, M =>
    if x2 < (M 174 37) then
      gd (0 ≤ x2 ∧ x2.toNatClampNeg < 6) <|
      bd (f_X11_refusesOff 191 (M 192 x2.toNatClampNeg) M) fun r20 M21 =>
      if r20 = 0 then
        vl (x2 + 1) fun v24 =>
        gd (0 ≤ x2 ∧ x2.toNatClampNeg < 6) <|
        bd (f_X11_goOff 191 (M21 192 x2.toNatClampNeg) M21) fun _ M27 =>
        f_X11_isOrderHeard_54 K49 n x1 v24 x3 M27
      else
        f_X11_isOrderHeard_99 K49 x1 x2 x3 M21
    else
      f_X11_isOrderHeard_99 K49 x1 x2 x3 M
set_option maxRecDepth 100000 in
theorem w_X11_isOrderHeard_54 {R : Int32} {M' : Mem} {K49 : Int32 → Int32 → Int32 → Mem → Option (Int32 × Mem)} (hK49 : ∀ (x1 x2 x3 : Int32) (M : Mem), K49 x1 x2 x3 M = some (R, M') → RunF l D cy ad none YX11_isOrderHeard 5 0 0 (some (.int R)) (lay X M') 0 0 49 [(0, .ref 174), (1, .int x1), (2, .int x2), (3, .int x3)] [] (lay X M)) : ∀ (n : Nat) (x1 x2 x3 : Int32) (M : Mem), f_X11_isOrderHeard_54 K49 n x1 x2 x3 M = some (R, M') → RunF l D cy ad none YX11_isOrderHeard 5 0 0 (some (.int R)) (lay X M') 0 0 54 [(0, .ref 174), (1, .int x1), (2, .int x2), (3, .int x3)] [] (lay X M) := by
  intro n
  induction n with
  | zero => intro x1 x2 x3 M hF; exact absurd hF (by unfold f_X11_isOrderHeard_54; exact fun h => nomatch h)
  | succ n ih =>
    intro x1 x2 x3 M hF
    unfold f_X11_isOrderHeard_54 at hF
    refine g_iload_n (Y := YX11_isOrderHeard) (pc := 54) 2 dX11_isOrderHeard_54 rfl ?_
    refine g_aload_n (Y := YX11_isOrderHeard) (pc := 55) 0 dX11_isOrderHeard_55 rfl ?_
    refine u_getI (Y := YX11_isOrderHeard) (pc := 56) dX11_isOrderHeard_56 fl_X11_315 k_174 ?_
    refine g_icmp_ge (Y := YX11_isOrderHeard) (pc := 59) (tgt := 99) dX11_isOrderHeard_59 rfl (fun c6 => ?_) (fun c6 => ?_)
    · replace hF := if_f c6 hF
      exact w_X11_isOrderHeard_99 hK49 _ _ _ _ hF
    · replace hF := if_t c6 hF
      refine g_aload_n (Y := YX11_isOrderHeard) (pc := 62) 0 dX11_isOrderHeard_62 rfl ?_
      refine g_aload_n (Y := YX11_isOrderHeard) (pc := 63) 0 dX11_isOrderHeard_63 rfl ?_
      refine u_getR (Y := YX11_isOrderHeard) (pc := 64) (j := 191) dX11_isOrderHeard_64 fl_X11_60 k_174 rf_174_35 ?_
      refine g_aload_n (Y := YX11_isOrderHeard) (pc := 67) 0 dX11_isOrderHeard_67 rfl ?_
      refine u_getR (Y := YX11_isOrderHeard) (pc := 68) (j := 192) dX11_isOrderHeard_68 fl_X11_63 k_174 rf_174_36 ?_
      refine g_iload_n (Y := YX11_isOrderHeard) (pc := 71) 2 dX11_isOrderHeard_71 rfl ?_
      obtain ⟨g19, hF⟩ := gd_some hF
      refine s_iald (Y := YX11_isOrderHeard) (pc := 72) dX11_isOrderHeard_72 k_192 n_192 g19 ?_
      obtain ⟨r20, M21, e22, hF⟩ := bd_some hF
      refine s_callVi (Y := YX11_isOrderHeard) (pc := 73) (as := [.ref 191, .int (M 192 x2.toNatClampNeg)]) (st := []) (r_X11_refusesOff k_191 e22) miX11_refusesOff lk_X11_268 dX11_isOrderHeard_73 k_174 rfl (Nat.le_of_ble_eq_true rfl) (Nat.le_of_ble_eq_true rfl) rfl ?_
      clear e22
      refine g_if_ne (Y := YX11_isOrderHeard) (pc := 76) (tgt := 99) dX11_isOrderHeard_76 rfl (fun c23 => ?_) (fun c23 => ?_)
      · replace hF := if_f c23 hF
        exact w_X11_isOrderHeard_99 hK49 _ _ _ _ hF
      · replace hF := if_t c23 hF
        refine g_aload_n (Y := YX11_isOrderHeard) (pc := 79) 0 dX11_isOrderHeard_79 rfl ?_
        refine g_aload_n (Y := YX11_isOrderHeard) (pc := 80) 0 dX11_isOrderHeard_80 rfl ?_
        refine u_getR (Y := YX11_isOrderHeard) (pc := 81) (j := 191) dX11_isOrderHeard_81 fl_X11_60 k_174 rf_174_35 ?_
        refine g_aload_n (Y := YX11_isOrderHeard) (pc := 84) 0 dX11_isOrderHeard_84 rfl ?_
        refine u_getR (Y := YX11_isOrderHeard) (pc := 85) (j := 192) dX11_isOrderHeard_85 fl_X11_63 k_174 rf_174_36 ?_
        refine g_iload_n (Y := YX11_isOrderHeard) (pc := 88) 2 dX11_isOrderHeard_88 rfl ?_
        refine s_iinc (Y := YX11_isOrderHeard) (pc := 89) (j := 2) (L' := fun y => [(2, .int y), (0, .ref 174), (1, .int x1), (3, .int x3)]) dX11_isOrderHeard_89 kI_1 rfl (Nat.le_of_ble_eq_true rfl) (fun _ => rfl) (fun v24 e => ?_)
        replace hF := vl_to e hF; clear e
        obtain ⟨g25, hF⟩ := gd_some hF
        refine s_iald (Y := YX11_isOrderHeard) (pc := 92) dX11_isOrderHeard_92 k_192 n_192 g25 ?_
        obtain ⟨r26, M27, e28, hF⟩ := bd_some hF
        refine s_callVv (Y := YX11_isOrderHeard) (pc := 93) (as := [.ref 191, .int (M21 192 x2.toNatClampNeg)]) (st := []) (r_X11_goOff k_191 e28) miX11_goOff lk_X11_278 dX11_isOrderHeard_93 k_174 rfl (Nat.le_of_ble_eq_true rfl) (Nat.le_of_ble_eq_true rfl) rfl ?_
        clear e28
        refine g_goto (Y := YX11_isOrderHeard) (pc := 96) (tgt := 54) dX11_isOrderHeard_96 rfl ?_
        refine g_loc [1, 2, 0, 3] rfl ?_
        exact ih _ _ _ _ hF
def f_X11_isOrderHeard_49  : Nat → Int32 → Int32 → Int32 → Mem → Option (Int32 × Mem)
  | 0, _, _, _, _ => none
  | n + 1, x1, x2, x3, M =>
    if x1 < x3 then
      some (1, M)
    else
      f_X11_isOrderHeard_54 (f_X11_isOrderHeard_49 n) FU x1 x2 x3 M
set_option maxRecDepth 100000 in
theorem w_X11_isOrderHeard_49 {R : Int32} {M' : Mem}  : ∀ (n : Nat) (x1 x2 x3 : Int32) (M : Mem), f_X11_isOrderHeard_49 n x1 x2 x3 M = some (R, M') → RunF l D cy ad none YX11_isOrderHeard 5 0 0 (some (.int R)) (lay X M') 0 0 49 [(0, .ref 174), (1, .int x1), (2, .int x2), (3, .int x3)] [] (lay X M) := by
  intro n
  induction n with
  | zero => intro x1 x2 x3 M hF; exact absurd hF (by unfold f_X11_isOrderHeard_49; exact fun h => nomatch h)
  | succ n ih =>
    intro x1 x2 x3 M hF
    unfold f_X11_isOrderHeard_49 at hF
    refine g_iload_n (Y := YX11_isOrderHeard) (pc := 49) 3 dX11_isOrderHeard_49 rfl ?_
    refine g_iload_n (Y := YX11_isOrderHeard) (pc := 50) 1 dX11_isOrderHeard_50 rfl ?_
    refine g_icmp_gt (Y := YX11_isOrderHeard) (pc := 51) (tgt := 161) dX11_isOrderHeard_51 rfl (fun c5 => ?_) (fun c5 => ?_)
    · replace hF := if_t c5 hF
      refine g_iconst (Y := YX11_isOrderHeard) (pc := 161) dX11_isOrderHeard_161 kI_1 ?_
      exact s_zret (Y := YX11_isOrderHeard) (pc := 162) dX11_isOrderHeard_162 rfl (Or.inr rfl) hF
    · replace hF := if_f c5 hF
      exact w_X11_isOrderHeard_54 ih _ _ _ _ _ hF
def f_X11_isOrderHeard_4  : Nat → Int32 → Int32 → Mem → Option (Int32 × Mem)
  | 0, _, _, _ => none
  | n + 1, x1, x2, M =>
    if x2 < (M 174 52) then
      gd (0 ≤ ((3 * x2) + 1) ∧ ((3 * x2) + 1).toNatClampNeg < 36) <|
      vl ((if x1 < (M 200 ((3 * x2) + 1).toNatClampNeg) then (M 200 ((3 * x2) + 1).toNatClampNeg) else x1)) fun v30 =>
      vl (x2 + 1) fun v31 =>
      f_X11_isOrderHeard_4 n v30 v31 M
    else
      bd (f_X11_lay 175 191 0 M) fun _ M3 =>
      f_X11_isOrderHeard_49 FU x1 0 1 M3
set_option maxRecDepth 100000 in
theorem w_X11_isOrderHeard_4 {R : Int32} {M' : Mem}  : ∀ (n : Nat) (x1 x2 : Int32) (M : Mem), f_X11_isOrderHeard_4 n x1 x2 M = some (R, M') → RunF l D cy ad none YX11_isOrderHeard 5 0 0 (some (.int R)) (lay X M') 0 0 4 [(0, .ref 174), (1, .int x1), (2, .int x2)] [] (lay X M) := by
  intro n
  induction n with
  | zero => intro x1 x2 M hF; exact absurd hF (by unfold f_X11_isOrderHeard_4; exact fun h => nomatch h)
  | succ n ih =>
    intro x1 x2 M hF
    unfold f_X11_isOrderHeard_4 at hF
    refine g_iload_n (Y := YX11_isOrderHeard) (pc := 4) 2 dX11_isOrderHeard_4 rfl ?_
    refine g_aload_n (Y := YX11_isOrderHeard) (pc := 5) 0 dX11_isOrderHeard_5 rfl ?_
    refine u_getI (Y := YX11_isOrderHeard) (pc := 6) dX11_isOrderHeard_6 fl_X11_150 k_174 ?_
    refine g_icmp_ge (Y := YX11_isOrderHeard) (pc := 9) (tgt := 33) dX11_isOrderHeard_9 rfl (fun c1 => ?_) (fun c1 => ?_)
    · replace hF := if_f c1 hF
      refine g_aload_n (Y := YX11_isOrderHeard) (pc := 33) 0 dX11_isOrderHeard_33 rfl ?_
      refine u_getR (Y := YX11_isOrderHeard) (pc := 34) (j := 175) dX11_isOrderHeard_34 fl_X11_9 k_174 rf_174_0 ?_
      refine g_aload_n (Y := YX11_isOrderHeard) (pc := 37) 0 dX11_isOrderHeard_37 rfl ?_
      refine u_getR (Y := YX11_isOrderHeard) (pc := 38) (j := 191) dX11_isOrderHeard_38 fl_X11_60 k_174 rf_174_35 ?_
      refine g_iconst (Y := YX11_isOrderHeard) (pc := 41) dX11_isOrderHeard_41 kI_0 ?_
      obtain ⟨r2, M3, e4, hF⟩ := bd_some hF
      refine s_callSv (Y := YX11_isOrderHeard) (pc := 42) (as := [.ref 175, .ref 191, .int 0]) (st := []) (r_X11_lay k_175 k_191 e4) msX11_lay lk_X11_242 dX11_isOrderHeard_42 rfl (Nat.le_of_ble_eq_true rfl) (Nat.le_of_ble_eq_true rfl) rfl ?_
      clear e4
      refine g_iconst (Y := YX11_isOrderHeard) (pc := 45) dX11_isOrderHeard_45 kI_0 ?_
      refine g_istore_n (Y := YX11_isOrderHeard) (pc := 46) (L' := [(2, .int 0), (0, .ref 174), (1, .int x1)]) dX11_isOrderHeard_46 (Nat.le_of_ble_eq_true rfl) rfl ?_
      refine g_iconst (Y := YX11_isOrderHeard) (pc := 47) dX11_isOrderHeard_47 kI_1 ?_
      refine g_istore_n (Y := YX11_isOrderHeard) (pc := 48) (L' := [(3, .int 1), (2, .int 0), (0, .ref 174), (1, .int x1)]) dX11_isOrderHeard_48 (Nat.le_of_ble_eq_true rfl) rfl ?_
      refine g_loc [2, 3, 1, 0] rfl ?_
      exact w_X11_isOrderHeard_49  _ _ _ _ _ hF
    · replace hF := if_t c1 hF
      refine g_iload_n (Y := YX11_isOrderHeard) (pc := 12) 1 dX11_isOrderHeard_12 rfl ?_
      refine g_aload_n (Y := YX11_isOrderHeard) (pc := 13) 0 dX11_isOrderHeard_13 rfl ?_
      refine u_getR (Y := YX11_isOrderHeard) (pc := 14) (j := 200) dX11_isOrderHeard_14 fl_X11_87 k_174 rf_174_51 ?_
      refine g_iconst (Y := YX11_isOrderHeard) (pc := 17) dX11_isOrderHeard_17 kI_3 ?_
      refine g_iload_n (Y := YX11_isOrderHeard) (pc := 18) 2 dX11_isOrderHeard_18 rfl ?_
      refine g_imul (Y := YX11_isOrderHeard) (pc := 19) dX11_isOrderHeard_19 ?_
      refine g_iconst (Y := YX11_isOrderHeard) (pc := 20) dX11_isOrderHeard_20 kI_1 ?_
      refine g_iadd (Y := YX11_isOrderHeard) (pc := 21) dX11_isOrderHeard_21 ?_
      obtain ⟨g29, hF⟩ := gd_some hF
      refine s_iald (Y := YX11_isOrderHeard) (pc := 22) dX11_isOrderHeard_22 k_200 n_200 g29 ?_
      refine s_max (Y := YX11_isOrderHeard) (pc := 23) dX11_isOrderHeard_23 lk_X11_218 w_max (Nat.le_of_ble_eq_true rfl) (Nat.le_of_ble_eq_true rfl) ?_
      refine g_nm (fun v30 e => ?_)
      replace hF := vl_to e hF; clear e
      refine g_istore_n (Y := YX11_isOrderHeard) (pc := 26) (L' := [(1, .int v30), (0, .ref 174), (2, .int x2)]) dX11_isOrderHeard_26 (Nat.le_of_ble_eq_true rfl) rfl ?_
      refine s_iinc (Y := YX11_isOrderHeard) (pc := 27) (j := 2) (L' := fun y => [(2, .int y), (1, .int v30), (0, .ref 174)]) dX11_isOrderHeard_27 kI_1 rfl (Nat.le_of_ble_eq_true rfl) (fun _ => rfl) (fun v31 e => ?_)
      replace hF := vl_to e hF; clear e
      refine g_goto (Y := YX11_isOrderHeard) (pc := 30) (tgt := 4) dX11_isOrderHeard_30 rfl ?_
      refine g_loc [2, 1, 0] rfl ?_
      exact ih _ _ _ hF
def f_X11_isOrderHeard_0  (M : Mem) : Option (Int32 × Mem) :=
  f_X11_isOrderHeard_4 FU 0 0 M
set_option maxRecDepth 100000 in
theorem w_X11_isOrderHeard_0 {R : Int32} {M' : Mem}  (M : Mem) (hF : f_X11_isOrderHeard_0  M = some (R, M')) : RunF l D cy ad none YX11_isOrderHeard 5 0 0 (some (.int R)) (lay X M') 0 0 0 [(0, .ref 174)] [] (lay X M) := by
  unfold f_X11_isOrderHeard_0 at hF
  refine g_iconst (Y := YX11_isOrderHeard) (pc := 0) dX11_isOrderHeard_0 kI_0 ?_
  refine g_istore_n (Y := YX11_isOrderHeard) (pc := 1) (L' := [(1, .int 0), (0, .ref 174)]) dX11_isOrderHeard_1 (Nat.le_of_ble_eq_true rfl) rfl ?_
  refine g_iconst (Y := YX11_isOrderHeard) (pc := 2) dX11_isOrderHeard_2 kI_0 ?_
  refine g_istore_n (Y := YX11_isOrderHeard) (pc := 3) (L' := [(2, .int 0), (1, .int 0), (0, .ref 174)]) dX11_isOrderHeard_3 (Nat.le_of_ble_eq_true rfl) rfl ?_
  refine g_loc [2, 1, 0] rfl ?_
  exact w_X11_isOrderHeard_4  _ _ _ _ hF
def f_X11_isOrderHeard (M : Mem) : Option (Int32 × Mem) := f_X11_isOrderHeard_0 M
theorem r_X11_isOrderHeard {R : Int32} {M M' : Mem}  (hF : f_X11_isOrderHeard  M = some (R, M')) : RunS l D cy ad YX11_isOrderHeard 5 [.ref 174] X M (some (.int R)) M' := Run.of 0 (miX11_isOrderHeard).1 (Nat.le_of_ble_eq_true rfl) (w_X11_isOrderHeard_0  _ hF)
def f_X11_findFits_117 (K22 : Int32 → Mem → Option (Int32 × Mem)) (M : Mem) : Option (Int32 × Mem) :=
  bd (f_X11_nextOrder M) fun r12 M13 =>
  K22 r12 M13
set_option maxRecDepth 100000 in
theorem w_X11_findFits_117 {R : Int32} {M' : Mem} {K22 : Int32 → Mem → Option (Int32 × Mem)} (hK22 : ∀ (x2 : Int32) (M : Mem), K22 x2 M = some (R, M') → RunF l D cy ad none YX11_findFits 6 0 0 none (lay X M') 0 0 22 [(0, .ref 174), (2, .int x2)] [] (lay X M)) (M : Mem) (hF : f_X11_findFits_117 K22  M = some (R, M')) : RunF l D cy ad none YX11_findFits 6 0 0 none (lay X M') 0 0 117 [(0, .ref 174)] [] (lay X M) := by
  unfold f_X11_findFits_117 at hF
  refine g_aload_n (Y := YX11_findFits) (pc := 117) 0 dX11_findFits_117 rfl ?_
  obtain ⟨r12, M13, e14, hF⟩ := bd_some hF
  refine s_callVi (Y := YX11_findFits) (pc := 118) (as := []) (st := []) (r_X11_nextOrder  e14) miX11_nextOrder lk_X11_347 dX11_findFits_118 k_174 rfl (Nat.le_of_ble_eq_true rfl) (Nat.le_of_ble_eq_true rfl) rfl ?_
  clear e14
  refine g_istore_n (Y := YX11_findFits) (pc := 121) (L' := [(2, .int r12), (0, .ref 174)]) dX11_findFits_121 (Nat.le_of_ble_eq_true rfl) rfl ?_
  refine g_goto (Y := YX11_findFits) (pc := 122) (tgt := 22) dX11_findFits_122 rfl ?_
  refine g_loc [1, 0] rfl ?_
  exact hK22 _ _ hF
def f_X11_findFits_68 (K22 : Int32 → Mem → Option (Int32 × Mem)) (M : Mem) : Option (Int32 × Mem) :=
  ml (up M 174 53 ((M 174 53) + 1)) fun M16 =>
  gd (0 ≤ (0 : Int32) ∧ (0 : Int32).toNatClampNeg < 6) <|
  vl ((1 <<< ((M16 192 (0 : Int32).toNatClampNeg) &&& 31))) fun v18 =>
  ml (up M16 174 54 ((M16 174 54) ||| v18)) fun M19 =>
  gd (0 ≤ ((M19 174 37) - 1) ∧ ((M19 174 37) - 1).toNatClampNeg < 6) <|
  vl ((1 <<< ((M19 192 ((M19 174 37) - 1).toNatClampNeg) &&& 31))) fun v21 =>
  ml (up M19 174 55 ((M19 174 55) ||| v21)) fun M22 =>
  f_X11_findFits_117 K22 M22
set_option maxRecDepth 100000 in
theorem w_X11_findFits_68 {R : Int32} {M' : Mem} {K22 : Int32 → Mem → Option (Int32 × Mem)} (hK22 : ∀ (x2 : Int32) (M : Mem), K22 x2 M = some (R, M') → RunF l D cy ad none YX11_findFits 6 0 0 none (lay X M') 0 0 22 [(0, .ref 174), (2, .int x2)] [] (lay X M)) (M : Mem) (hF : f_X11_findFits_68 K22  M = some (R, M')) : RunF l D cy ad none YX11_findFits 6 0 0 none (lay X M') 0 0 68 [(0, .ref 174)] [] (lay X M) := by
  unfold f_X11_findFits_68 at hF
  refine g_aload_n (Y := YX11_findFits) (pc := 68) 0 dX11_findFits_68 rfl ?_
  refine g_dup (Y := YX11_findFits) (pc := 69) dX11_findFits_69 rfl ?_
  refine u_getI (Y := YX11_findFits) (pc := 70) dX11_findFits_70 fl_X11_402 k_174 ?_
  refine g_iconst (Y := YX11_findFits) (pc := 73) dX11_findFits_73 kI_1 ?_
  refine g_iadd (Y := YX11_findFits) (pc := 74) dX11_findFits_74 ?_
  refine u_putI (Y := YX11_findFits) (pc := 75) dX11_findFits_75 fl_X11_402  k_174 ?_
  refine g_nmM (fun M16 e => ?_)
  replace hF := ml_to e hF; clear e
  refine g_aload_n (Y := YX11_findFits) (pc := 78) 0 dX11_findFits_78 rfl ?_
  refine g_dup (Y := YX11_findFits) (pc := 79) dX11_findFits_79 rfl ?_
  refine u_getI (Y := YX11_findFits) (pc := 80) dX11_findFits_80 fl_X11_405 k_174 ?_
  refine g_iconst (Y := YX11_findFits) (pc := 83) dX11_findFits_83 kI_1 ?_
  refine g_aload_n (Y := YX11_findFits) (pc := 84) 0 dX11_findFits_84 rfl ?_
  refine u_getR (Y := YX11_findFits) (pc := 85) (j := 192) dX11_findFits_85 fl_X11_63 k_174 rf_174_36 ?_
  refine g_iconst (Y := YX11_findFits) (pc := 88) dX11_findFits_88 kI_0 ?_
  obtain ⟨g17, hF⟩ := gd_some hF
  refine s_iald (Y := YX11_findFits) (pc := 89) dX11_findFits_89 k_192 n_192 g17 ?_
  refine g_ishl (Y := YX11_findFits) (pc := 90) dX11_findFits_90 ?_
  refine g_nm (fun v18 e => ?_)
  replace hF := vl_to e hF; clear e
  refine g_ior (Y := YX11_findFits) (pc := 91) dX11_findFits_91 ?_
  refine u_putI (Y := YX11_findFits) (pc := 92) dX11_findFits_92 fl_X11_405  k_174 ?_
  refine g_nmM (fun M19 e => ?_)
  replace hF := ml_to e hF; clear e
  refine g_aload_n (Y := YX11_findFits) (pc := 95) 0 dX11_findFits_95 rfl ?_
  refine g_dup (Y := YX11_findFits) (pc := 96) dX11_findFits_96 rfl ?_
  refine u_getI (Y := YX11_findFits) (pc := 97) dX11_findFits_97 fl_X11_408 k_174 ?_
  refine g_iconst (Y := YX11_findFits) (pc := 100) dX11_findFits_100 kI_1 ?_
  refine g_aload_n (Y := YX11_findFits) (pc := 101) 0 dX11_findFits_101 rfl ?_
  refine u_getR (Y := YX11_findFits) (pc := 102) (j := 192) dX11_findFits_102 fl_X11_63 k_174 rf_174_36 ?_
  refine g_aload_n (Y := YX11_findFits) (pc := 105) 0 dX11_findFits_105 rfl ?_
  refine u_getI (Y := YX11_findFits) (pc := 106) dX11_findFits_106 fl_X11_315 k_174 ?_
  refine g_iconst (Y := YX11_findFits) (pc := 109) dX11_findFits_109 kI_1 ?_
  refine g_isub (Y := YX11_findFits) (pc := 110) dX11_findFits_110 ?_
  obtain ⟨g20, hF⟩ := gd_some hF
  refine s_iald (Y := YX11_findFits) (pc := 111) dX11_findFits_111 k_192 n_192 g20 ?_
  refine g_ishl (Y := YX11_findFits) (pc := 112) dX11_findFits_112 ?_
  refine g_nm (fun v21 e => ?_)
  replace hF := vl_to e hF; clear e
  refine g_ior (Y := YX11_findFits) (pc := 113) dX11_findFits_113 ?_
  refine u_putI (Y := YX11_findFits) (pc := 114) dX11_findFits_114 fl_X11_408  k_174 ?_
  refine g_nmM (fun M22 e => ?_)
  replace hF := ml_to e hF; clear e
  exact w_X11_findFits_117 hK22 _ hF
def f_X11_findFits_42 (K22 : Int32 → Mem → Option (Int32 × Mem)) : Nat → Int32 → Mem → Option (Int32 × Mem)
  | 0, _, _ => none
  | n + 1, x3, M =>
    if x3 < (M 174 37) then
      gd (0 ≤ x3 ∧ x3.toNatClampNeg < 6) <|
      gd (0 ≤ x3 ∧ x3.toNatClampNeg < 6) <|
      ml (up M 193 x3.toNatClampNeg (M 192 x3.toNatClampNeg)) fun M26 =>
      vl (x3 + 1) fun v27 =>
      f_X11_findFits_42 K22 n v27 M26
    else
      f_X11_findFits_68 K22 M
set_option maxRecDepth 100000 in
theorem w_X11_findFits_42 {R : Int32} {M' : Mem} {K22 : Int32 → Mem → Option (Int32 × Mem)} (hK22 : ∀ (x2 : Int32) (M : Mem), K22 x2 M = some (R, M') → RunF l D cy ad none YX11_findFits 6 0 0 none (lay X M') 0 0 22 [(0, .ref 174), (2, .int x2)] [] (lay X M)) : ∀ (n : Nat) (x3 : Int32) (M : Mem), f_X11_findFits_42 K22 n x3 M = some (R, M') → RunF l D cy ad none YX11_findFits 6 0 0 none (lay X M') 0 0 42 [(0, .ref 174), (3, .int x3)] [] (lay X M) := by
  intro n
  induction n with
  | zero => intro x3 M hF; exact absurd hF (by unfold f_X11_findFits_42; exact fun h => nomatch h)
  | succ n ih =>
    intro x3 M hF
    unfold f_X11_findFits_42 at hF
    refine g_iload_n (Y := YX11_findFits) (pc := 42) 1 dX11_findFits_42 rfl ?_
    refine g_aload_n (Y := YX11_findFits) (pc := 43) 0 dX11_findFits_43 rfl ?_
    refine u_getI (Y := YX11_findFits) (pc := 44) dX11_findFits_44 fl_X11_315 k_174 ?_
    refine g_icmp_ge (Y := YX11_findFits) (pc := 47) (tgt := 68) dX11_findFits_47 rfl (fun c23 => ?_) (fun c23 => ?_)
    · replace hF := if_f c23 hF
      refine g_loc [0] rfl ?_
      exact w_X11_findFits_68 hK22 _ hF
    · replace hF := if_t c23 hF
      refine g_aload_n (Y := YX11_findFits) (pc := 50) 0 dX11_findFits_50 rfl ?_
      refine u_getR (Y := YX11_findFits) (pc := 51) (j := 193) dX11_findFits_51 fl_X11_66 k_174 rf_174_38 ?_
      refine g_iload_n (Y := YX11_findFits) (pc := 54) 1 dX11_findFits_54 rfl ?_
      refine g_aload_n (Y := YX11_findFits) (pc := 55) 0 dX11_findFits_55 rfl ?_
      refine u_getR (Y := YX11_findFits) (pc := 56) (j := 192) dX11_findFits_56 fl_X11_63 k_174 rf_174_36 ?_
      refine g_iload_n (Y := YX11_findFits) (pc := 59) 1 dX11_findFits_59 rfl ?_
      obtain ⟨g24, hF⟩ := gd_some hF
      refine s_iald (Y := YX11_findFits) (pc := 60) dX11_findFits_60 k_192 n_192 g24 ?_
      obtain ⟨g25, hF⟩ := gd_some hF
      refine s_iast (Y := YX11_findFits) (pc := 61) dX11_findFits_61 k_193 n_193 g25 ?_
      refine g_nmM (fun M26 e => ?_)
      replace hF := ml_to e hF; clear e
      refine s_iinc (Y := YX11_findFits) (pc := 62) (j := 1) (L' := fun y => [(3, .int y), (0, .ref 174)]) dX11_findFits_62 kI_1 rfl (Nat.le_of_ble_eq_true rfl) (fun _ => rfl) (fun v27 e => ?_)
      replace hF := vl_to e hF; clear e
      refine g_goto (Y := YX11_findFits) (pc := 65) (tgt := 42) dX11_findFits_65 rfl ?_
      refine g_loc [1, 0] rfl ?_
      exact ih _ _ hF
def f_X11_findFits_22  : Nat → Int32 → Mem → Option (Int32 × Mem)
  | 0, _, _ => none
  | n + 1, x2, M =>
    if x2 = 0 then
      some (0, M)
    else
      bd (f_X11_isOrderHeard M) fun r8 M9 =>
      if r8 = 0 then
        f_X11_findFits_117 (f_X11_findFits_22 n) M9
      else
        if (M9 174 53) = 0 then
          f_X11_findFits_42 (f_X11_findFits_22 n) FU 0 M9
        else
          f_X11_findFits_68 (f_X11_findFits_22 n) M9
set_option maxRecDepth 100000 in
theorem w_X11_findFits_22 {R : Int32} {M' : Mem}  : ∀ (n : Nat) (x2 : Int32) (M : Mem), f_X11_findFits_22 n x2 M = some (R, M') → RunF l D cy ad none YX11_findFits 6 0 0 none (lay X M') 0 0 22 [(0, .ref 174), (2, .int x2)] [] (lay X M) := by
  intro n
  induction n with
  | zero => intro x2 M hF; exact absurd hF (by unfold f_X11_findFits_22; exact fun h => nomatch h)
  | succ n ih =>
    intro x2 M hF
    unfold f_X11_findFits_22 at hF
    refine g_iload_n (Y := YX11_findFits) (pc := 22) 1 dX11_findFits_22 rfl ?_
    refine g_if_eq (Y := YX11_findFits) (pc := 23) (tgt := 125) dX11_findFits_23 rfl (fun c7 => ?_) (fun c7 => ?_)
    · replace hF := if_t c7 hF
      exact s_vret (Y := YX11_findFits) (pc := 125) dX11_findFits_125 rfl hF
    · replace hF := if_f c7 hF
      refine g_aload_n (Y := YX11_findFits) (pc := 26) 0 dX11_findFits_26 rfl ?_
      obtain ⟨r8, M9, e10, hF⟩ := bd_some hF
      refine s_callVi (Y := YX11_findFits) (pc := 27) (as := []) (st := []) (r_X11_isOrderHeard  e10) miX11_isOrderHeard lk_X11_411 dX11_findFits_27 k_174 rfl (Nat.le_of_ble_eq_true rfl) (Nat.le_of_ble_eq_true rfl) rfl ?_
      clear e10
      refine g_if_eq (Y := YX11_findFits) (pc := 30) (tgt := 117) dX11_findFits_30 rfl (fun c11 => ?_) (fun c11 => ?_)
      · replace hF := if_t c11 hF
        refine g_loc [0] rfl ?_
        exact w_X11_findFits_117 ih _ hF
      · replace hF := if_f c11 hF
        refine g_aload_n (Y := YX11_findFits) (pc := 33) 0 dX11_findFits_33 rfl ?_
        refine u_getI (Y := YX11_findFits) (pc := 34) dX11_findFits_34 fl_X11_402 k_174 ?_
        refine g_if_ne (Y := YX11_findFits) (pc := 37) (tgt := 68) dX11_findFits_37 rfl (fun c15 => ?_) (fun c15 => ?_)
        · replace hF := if_f c15 hF
          refine g_loc [0] rfl ?_
          exact w_X11_findFits_68 ih _ hF
        · replace hF := if_t c15 hF
          refine g_iconst (Y := YX11_findFits) (pc := 40) dX11_findFits_40 kI_0 ?_
          refine g_istore_n (Y := YX11_findFits) (pc := 41) (L' := [(3, .int 0), (0, .ref 174), (2, .int x2)]) dX11_findFits_41 (Nat.le_of_ble_eq_true rfl) rfl ?_
          refine g_loc [1, 0] rfl ?_
          exact w_X11_findFits_42 ih _ _ _ hF
def f_X11_findFits_0  (x1 : Int32) (M : Mem) : Option (Int32 × Mem) :=
  ml (up M 174 53 0) fun M1 =>
  ml (up M1 174 54 0) fun M2 =>
  ml (up M2 174 55 0) fun M3 =>
  bd (f_X11_firstOrder x1 M3) fun _ M5 =>
  f_X11_findFits_22 FU 1 M5
set_option maxRecDepth 100000 in
theorem w_X11_findFits_0 {R : Int32} {M' : Mem}  (x1 : Int32) (M : Mem) (hF : f_X11_findFits_0 x1 M = some (R, M')) : RunF l D cy ad none YX11_findFits 6 0 0 none (lay X M') 0 0 0 [(0, .ref 174), (1, .int x1)] [] (lay X M) := by
  unfold f_X11_findFits_0 at hF
  refine g_aload_n (Y := YX11_findFits) (pc := 0) 0 dX11_findFits_0 rfl ?_
  refine g_iconst (Y := YX11_findFits) (pc := 1) dX11_findFits_1 kI_0 ?_
  refine u_putI (Y := YX11_findFits) (pc := 2) dX11_findFits_2 fl_X11_402  k_174 ?_
  refine g_nmM (fun M1 e => ?_)
  replace hF := ml_to e hF; clear e
  refine g_aload_n (Y := YX11_findFits) (pc := 5) 0 dX11_findFits_5 rfl ?_
  refine g_iconst (Y := YX11_findFits) (pc := 6) dX11_findFits_6 kI_0 ?_
  refine u_putI (Y := YX11_findFits) (pc := 7) dX11_findFits_7 fl_X11_405  k_174 ?_
  refine g_nmM (fun M2 e => ?_)
  replace hF := ml_to e hF; clear e
  refine g_aload_n (Y := YX11_findFits) (pc := 10) 0 dX11_findFits_10 rfl ?_
  refine g_iconst (Y := YX11_findFits) (pc := 11) dX11_findFits_11 kI_0 ?_
  refine u_putI (Y := YX11_findFits) (pc := 12) dX11_findFits_12 fl_X11_408  k_174 ?_
  refine g_nmM (fun M3 e => ?_)
  replace hF := ml_to e hF; clear e
  refine g_aload_n (Y := YX11_findFits) (pc := 15) 0 dX11_findFits_15 rfl ?_
  refine g_iload_n (Y := YX11_findFits) (pc := 16) 1 dX11_findFits_16 rfl ?_
  obtain ⟨r4, M5, e6, hF⟩ := bd_some hF
  refine s_callVv (Y := YX11_findFits) (pc := 17) (as := [.int x1]) (st := []) (r_X11_firstOrder  e6) miX11_firstOrder lk_X11_344 dX11_findFits_17 k_174 rfl (Nat.le_of_ble_eq_true rfl) (Nat.le_of_ble_eq_true rfl) rfl ?_
  clear e6
  refine g_iconst (Y := YX11_findFits) (pc := 20) dX11_findFits_20 kI_1 ?_
  refine g_istore_n (Y := YX11_findFits) (pc := 21) (L' := [(2, .int 1), (0, .ref 174), (1, .int x1)]) dX11_findFits_21 (Nat.le_of_ble_eq_true rfl) rfl ?_
  refine g_loc [1, 0] rfl ?_
  exact w_X11_findFits_22  _ _ _ hF
def f_X11_findFits (x1 : Int32) (M : Mem) : Option (Int32 × Mem) := f_X11_findFits_0 x1 M
theorem r_X11_findFits {x1 R : Int32} {M M' : Mem}  (hF : f_X11_findFits x1 M = some (R, M')) : RunS l D cy ad YX11_findFits 6 [.ref 174, .int x1] X M none M' := Run.of 1 (miX11_findFits).1 (Nat.le_of_ble_eq_true rfl) (w_X11_findFits_0  _ _ hF)
def f_X11_fits_62  (M : Mem) : Option (Int32 × Mem) :=
  some ((M 174 53), M)
set_option maxRecDepth 100000 in
theorem w_X11_fits_62 {R : Int32} {M' : Mem}  (M : Mem) (hF : f_X11_fits_62  M = some (R, M')) : RunF l D cy ad none YX11_fits 406 0 0 (some (.int R)) (lay X M') 0 0 62 [(0, .ref 174)] [] (lay X M) := by
  unfold f_X11_fits_62 at hF
  refine g_aload_n (Y := YX11_fits) (pc := 62) 0 dX11_fits_62 rfl ?_
  refine u_getI (Y := YX11_fits) (pc := 63) dX11_fits_63 fl_X11_402 k_174 ?_
  exact s_iret (Y := YX11_fits) (pc := 66) dX11_fits_66 rfl hF
def f_X11_fits_31  : Nat → Int32 → Mem → Option (Int32 × Mem)
  | 0, _, _ => none
  | n + 1, x2, M =>
    if x2 < (M 174 37) then
      if 0 < (M 174 53) then
        gd (0 ≤ x2 ∧ x2.toNatClampNeg < 6) <|
        bd (f_X11_tell (M 193 x2.toNatClampNeg) M) fun _ M17 =>
        vl (x2 + 1) fun v19 =>
        f_X11_fits_31 n v19 M17
      else
        f_X11_fits_62 M
    else
      f_X11_fits_62 M
set_option maxRecDepth 100000 in
theorem w_X11_fits_31 {R : Int32} {M' : Mem}  : ∀ (n : Nat) (x2 : Int32) (M : Mem), f_X11_fits_31 n x2 M = some (R, M') → RunF l D cy ad none YX11_fits 406 0 0 (some (.int R)) (lay X M') 0 0 31 [(0, .ref 174), (2, .int x2)] [] (lay X M) := by
  intro n
  induction n with
  | zero => intro x2 M hF; exact absurd hF (by unfold f_X11_fits_31; exact fun h => nomatch h)
  | succ n ih =>
    intro x2 M hF
    unfold f_X11_fits_31 at hF
    refine g_iload_n (Y := YX11_fits) (pc := 31) 1 dX11_fits_31 rfl ?_
    refine g_aload_n (Y := YX11_fits) (pc := 32) 0 dX11_fits_32 rfl ?_
    refine u_getI (Y := YX11_fits) (pc := 33) dX11_fits_33 fl_X11_315 k_174 ?_
    refine g_icmp_ge (Y := YX11_fits) (pc := 36) (tgt := 62) dX11_fits_36 rfl (fun c13 => ?_) (fun c13 => ?_)
    · replace hF := if_f c13 hF
      refine g_loc [0] rfl ?_
      exact w_X11_fits_62  _ hF
    · replace hF := if_t c13 hF
      refine g_aload_n (Y := YX11_fits) (pc := 39) 0 dX11_fits_39 rfl ?_
      refine u_getI (Y := YX11_fits) (pc := 40) dX11_fits_40 fl_X11_402 k_174 ?_
      refine g_if_le (Y := YX11_fits) (pc := 43) (tgt := 62) dX11_fits_43 rfl (fun c14 => ?_) (fun c14 => ?_)
      · replace hF := if_f c14 hF
        refine g_loc [0] rfl ?_
        exact w_X11_fits_62  _ hF
      · replace hF := if_t c14 hF
        refine g_aload_n (Y := YX11_fits) (pc := 46) 0 dX11_fits_46 rfl ?_
        refine g_aload_n (Y := YX11_fits) (pc := 47) 0 dX11_fits_47 rfl ?_
        refine u_getR (Y := YX11_fits) (pc := 48) (j := 193) dX11_fits_48 fl_X11_66 k_174 rf_174_38 ?_
        refine g_iload_n (Y := YX11_fits) (pc := 51) 1 dX11_fits_51 rfl ?_
        obtain ⟨g15, hF⟩ := gd_some hF
        refine s_iald (Y := YX11_fits) (pc := 52) dX11_fits_52 k_193 n_193 g15 ?_
        obtain ⟨r16, M17, e18, hF⟩ := bd_some hF
        refine s_callVv (Y := YX11_fits) (pc := 53) (as := [.int (M 193 x2.toNatClampNeg)]) (st := []) (r_X11_tell  e18) miX11_tell lk_X11_300 dX11_fits_53 k_174 rfl (Nat.le_of_ble_eq_true rfl) (Nat.le_of_ble_eq_true rfl) rfl ?_
        clear e18
        refine s_iinc (Y := YX11_fits) (pc := 56) (j := 1) (L' := fun y => [(2, .int y), (0, .ref 174)]) dX11_fits_56 kI_1 rfl (Nat.le_of_ble_eq_true rfl) (fun _ => rfl) (fun v19 e => ?_)
        replace hF := vl_to e hF; clear e
        refine g_goto (Y := YX11_fits) (pc := 59) (tgt := 31) dX11_fits_59 rfl ?_
        refine g_loc [1, 0] rfl ?_
        exact ih _ _ hF
def f_X11_fits_0  (x1 : Int32) (M : Mem) : Option (Int32 × Mem) :=
  ml (up M 174 14 0) fun M1 =>
  bd (f_X11_canOrder x1 M1) fun r2 M3 =>
  if r2 = 0 then
    some ((-1), M3)
  else
    bd (f_X11_layStays M3) fun _ M7 =>
    bd (f_X11_findFits x1 M7) fun _ M10 =>
    ml (up M10 174 13 0) fun M12 =>
    f_X11_fits_31 FU 0 M12
set_option maxRecDepth 100000 in
theorem w_X11_fits_0 {R : Int32} {M' : Mem}  (x1 : Int32) (M : Mem) (hF : f_X11_fits_0 x1 M = some (R, M')) : RunF l D cy ad none YX11_fits 406 0 0 (some (.int R)) (lay X M') 0 0 0 [(0, .ref 174), (1, .int x1)] [] (lay X M) := by
  unfold f_X11_fits_0 at hF
  refine g_aload_n (Y := YX11_fits) (pc := 0) 0 dX11_fits_0 rfl ?_
  refine g_iconst (Y := YX11_fits) (pc := 1) dX11_fits_1 kI_0 ?_
  refine u_putI (Y := YX11_fits) (pc := 2) dX11_fits_2 fl_X11_99  k_174 ?_
  refine g_nmM (fun M1 e => ?_)
  replace hF := ml_to e hF; clear e
  refine g_aload_n (Y := YX11_fits) (pc := 5) 0 dX11_fits_5 rfl ?_
  refine g_iload_n (Y := YX11_fits) (pc := 6) 1 dX11_fits_6 rfl ?_
  obtain ⟨r2, M3, e4, hF⟩ := bd_some hF
  refine s_callVi (Y := YX11_fits) (pc := 7) (as := [.int x1]) (st := []) (r_X11_canOrder  e4) miX11_canOrder lk_X11_350 dX11_fits_7 k_174 rfl (Nat.le_of_ble_eq_true rfl) (Nat.le_of_ble_eq_true rfl) rfl ?_
  clear e4
  refine g_if_ne (Y := YX11_fits) (pc := 10) (tgt := 15) dX11_fits_10 rfl (fun c5 => ?_) (fun c5 => ?_)
  · replace hF := if_f c5 hF
    refine g_aload_n (Y := YX11_fits) (pc := 15) 0 dX11_fits_15 rfl ?_
    obtain ⟨r6, M7, e8, hF⟩ := bd_some hF
    refine s_callVv (Y := YX11_fits) (pc := 16) (as := []) (st := []) (r_X11_layStays  e8) miX11_layStays lk_X11_271 dX11_fits_16 k_174 rfl (Nat.le_of_ble_eq_true rfl) (Nat.le_of_ble_eq_true rfl) rfl ?_
    clear e8
    refine g_aload_n (Y := YX11_fits) (pc := 19) 0 dX11_fits_19 rfl ?_
    refine g_iload_n (Y := YX11_fits) (pc := 20) 1 dX11_fits_20 rfl ?_
    obtain ⟨r9, M10, e11, hF⟩ := bd_some hF
    refine s_callVv (Y := YX11_fits) (pc := 21) (as := [.int x1]) (st := []) (r_X11_findFits  e11) miX11_findFits lk_X11_414 dX11_fits_21 k_174 rfl (Nat.le_of_ble_eq_true rfl) (Nat.le_of_ble_eq_true rfl) rfl ?_
    clear e11
    refine g_aload_n (Y := YX11_fits) (pc := 24) 0 dX11_fits_24 rfl ?_
    refine g_iconst (Y := YX11_fits) (pc := 25) dX11_fits_25 kI_0 ?_
    refine u_putI (Y := YX11_fits) (pc := 26) dX11_fits_26 fl_X11_103  k_174 ?_
    refine g_nmM (fun M12 e => ?_)
    replace hF := ml_to e hF; clear e
    refine g_iconst (Y := YX11_fits) (pc := 29) dX11_fits_29 kI_0 ?_
    refine g_istore_n (Y := YX11_fits) (pc := 30) (L' := [(2, .int 0), (0, .ref 174), (1, .int x1)]) dX11_fits_30 (Nat.le_of_ble_eq_true rfl) rfl ?_
    refine g_loc [1, 0] rfl ?_
    exact w_X11_fits_31  _ _ _ hF
  · replace hF := if_t c5 hF
    refine g_iconst (Y := YX11_fits) (pc := 13) dX11_fits_13 kI_m1 ?_
    exact s_iret (Y := YX11_fits) (pc := 14) dX11_fits_14 rfl hF
def f_X11_fits (x1 : Int32) (M : Mem) : Option (Int32 × Mem) := f_X11_fits_0 x1 M
theorem r_X11_fits {x1 R : Int32} {M M' : Mem}  (hF : f_X11_fits x1 M = some (R, M')) : RunS l D cy ad YX11_fits 406 [.ref 174, .int x1] X M (some (.int R)) M' := Run.of 1 (miX11_fits).1 (Nat.le_of_ble_eq_true rfl) (w_X11_fits_0  _ _ hF)
def f_X11_began_0  (x1 : Int32) (M : Mem) : Option (Int32 × Mem) :=
  ml (up M 174 14 0) fun M1 =>
  bd (f_X11_canOrder x1 M1) fun r2 M3 =>
  if r2 = 0 then
    some ((-1), M3)
  else
    bd (f_X11_layStays M3) fun _ M7 =>
    bd (f_X11_findFits x1 M7) fun _ M10 =>
    ml (up M10 174 13 0) fun M12 =>
    bd (f_X11_tell (M12 174 55) M12) fun _ M14 =>
    some ((M14 174 54), M14)
set_option maxRecDepth 100000 in
theorem w_X11_began_0 {R : Int32} {M' : Mem}  (x1 : Int32) (M : Mem) (hF : f_X11_began_0 x1 M = some (R, M')) : RunF l D cy ad none YX11_began 406 0 0 (some (.int R)) (lay X M') 0 0 0 [(0, .ref 174), (1, .int x1)] [] (lay X M) := by
  unfold f_X11_began_0 at hF
  refine g_aload_n (Y := YX11_began) (pc := 0) 0 dX11_began_0 rfl ?_
  refine g_iconst (Y := YX11_began) (pc := 1) dX11_began_1 kI_0 ?_
  refine u_putI (Y := YX11_began) (pc := 2) dX11_began_2 fl_X11_99  k_174 ?_
  refine g_nmM (fun M1 e => ?_)
  replace hF := ml_to e hF; clear e
  refine g_aload_n (Y := YX11_began) (pc := 5) 0 dX11_began_5 rfl ?_
  refine g_iload_n (Y := YX11_began) (pc := 6) 1 dX11_began_6 rfl ?_
  obtain ⟨r2, M3, e4, hF⟩ := bd_some hF
  refine s_callVi (Y := YX11_began) (pc := 7) (as := [.int x1]) (st := []) (r_X11_canOrder  e4) miX11_canOrder lk_X11_350 dX11_began_7 k_174 rfl (Nat.le_of_ble_eq_true rfl) (Nat.le_of_ble_eq_true rfl) rfl ?_
  clear e4
  refine g_if_ne (Y := YX11_began) (pc := 10) (tgt := 15) dX11_began_10 rfl (fun c5 => ?_) (fun c5 => ?_)
  · replace hF := if_f c5 hF
    refine g_aload_n (Y := YX11_began) (pc := 15) 0 dX11_began_15 rfl ?_
    obtain ⟨r6, M7, e8, hF⟩ := bd_some hF
    refine s_callVv (Y := YX11_began) (pc := 16) (as := []) (st := []) (r_X11_layStays  e8) miX11_layStays lk_X11_271 dX11_began_16 k_174 rfl (Nat.le_of_ble_eq_true rfl) (Nat.le_of_ble_eq_true rfl) rfl ?_
    clear e8
    refine g_aload_n (Y := YX11_began) (pc := 19) 0 dX11_began_19 rfl ?_
    refine g_iload_n (Y := YX11_began) (pc := 20) 1 dX11_began_20 rfl ?_
    obtain ⟨r9, M10, e11, hF⟩ := bd_some hF
    refine s_callVv (Y := YX11_began) (pc := 21) (as := [.int x1]) (st := []) (r_X11_findFits  e11) miX11_findFits lk_X11_414 dX11_began_21 k_174 rfl (Nat.le_of_ble_eq_true rfl) (Nat.le_of_ble_eq_true rfl) rfl ?_
    clear e11
    refine g_aload_n (Y := YX11_began) (pc := 24) 0 dX11_began_24 rfl ?_
    refine g_iconst (Y := YX11_began) (pc := 25) dX11_began_25 kI_0 ?_
    refine u_putI (Y := YX11_began) (pc := 26) dX11_began_26 fl_X11_103  k_174 ?_
    refine g_nmM (fun M12 e => ?_)
    replace hF := ml_to e hF; clear e
    refine g_aload_n (Y := YX11_began) (pc := 29) 0 dX11_began_29 rfl ?_
    refine g_aload_n (Y := YX11_began) (pc := 30) 0 dX11_began_30 rfl ?_
    refine u_getI (Y := YX11_began) (pc := 31) dX11_began_31 fl_X11_408 k_174 ?_
    obtain ⟨r13, M14, e15, hF⟩ := bd_some hF
    refine s_callVv (Y := YX11_began) (pc := 34) (as := [.int (M12 174 55)]) (st := []) (r_X11_tell  e15) miX11_tell lk_X11_300 dX11_began_34 k_174 rfl (Nat.le_of_ble_eq_true rfl) (Nat.le_of_ble_eq_true rfl) rfl ?_
    clear e15
    refine g_aload_n (Y := YX11_began) (pc := 37) 0 dX11_began_37 rfl ?_
    refine u_getI (Y := YX11_began) (pc := 38) dX11_began_38 fl_X11_405 k_174 ?_
    exact s_iret (Y := YX11_began) (pc := 41) dX11_began_41 rfl hF
  · replace hF := if_t c5 hF
    refine g_iconst (Y := YX11_began) (pc := 13) dX11_began_13 kI_m1 ?_
    exact s_iret (Y := YX11_began) (pc := 14) dX11_began_14 rfl hF
def f_X11_began (x1 : Int32) (M : Mem) : Option (Int32 × Mem) := f_X11_began_0 x1 M
theorem r_X11_began {x1 R : Int32} {M M' : Mem}  (hF : f_X11_began x1 M = some (R, M')) : RunS l D cy ad YX11_began 406 [.ref 174, .int x1] X M (some (.int R)) M' := Run.of 1 (miX11_began).1 (Nat.le_of_ble_eq_true rfl) (w_X11_began_0  _ _ hF)
def f_X11_draw_0  (x1 : Int32) (M : Mem) : Option (Int32 × Mem) :=
  ml (up M 174 56 (((M 174 56) * 1103515245) + 12345)) fun M1 =>
  vl ((((M1 174 56).toUInt32 >>> ((16 : Int32).toUInt32 &&& Int32.toUInt32 31)).toInt32)) fun v2 =>
  gd (¬ x1 = 0) <|
  some ((v2 - v2 / x1 * x1), M1)
set_option maxRecDepth 100000 in
theorem w_X11_draw_0 {R : Int32} {M' : Mem}  (x1 : Int32) (M : Mem) (hF : f_X11_draw_0 x1 M = some (R, M')) : RunF l D cy ad none YX11_draw 0 0 0 (some (.int R)) (lay X M') 0 0 0 [(0, .ref 174), (1, .int x1)] [] (lay X M) := by
  unfold f_X11_draw_0 at hF
  refine g_aload_n (Y := YX11_draw) (pc := 0) 0 dX11_draw_0 rfl ?_
  refine g_aload_n (Y := YX11_draw) (pc := 1) 0 dX11_draw_1 rfl ?_
  refine u_getI (Y := YX11_draw) (pc := 2) dX11_draw_2 fl_X11_417 k_174 ?_
  refine g_ldcw (Y := YX11_draw) (pc := 5) dX11_draw_5 cw_X11_420 ?_
  refine g_imul (Y := YX11_draw) (pc := 8) dX11_draw_8 ?_
  refine g_sipush (Y := YX11_draw) (pc := 9) dX11_draw_9 kS_12345 ?_
  refine g_iadd (Y := YX11_draw) (pc := 12) dX11_draw_12 ?_
  refine u_putI (Y := YX11_draw) (pc := 13) dX11_draw_13 fl_X11_417  k_174 ?_
  refine g_nmM (fun M1 e => ?_)
  replace hF := ml_to e hF; clear e
  refine g_aload_n (Y := YX11_draw) (pc := 16) 0 dX11_draw_16 rfl ?_
  refine u_getI (Y := YX11_draw) (pc := 17) dX11_draw_17 fl_X11_417 k_174 ?_
  refine g_bipush (Y := YX11_draw) (pc := 20) dX11_draw_20 kB_16 ?_
  refine g_iushr (Y := YX11_draw) (pc := 22) dX11_draw_22 ?_
  refine g_nm (fun v2 e => ?_)
  replace hF := vl_to e hF; clear e
  refine g_iload_n (Y := YX11_draw) (pc := 23) 1 dX11_draw_23 rfl ?_
  obtain ⟨g3, hF⟩ := gd_some hF
  refine g_irem (Y := YX11_draw) (pc := 24) dX11_draw_24 g3 ?_
  exact s_iret (Y := YX11_draw) (pc := 25) dX11_draw_25 rfl hF
def f_X11_draw (x1 : Int32) (M : Mem) : Option (Int32 × Mem) := f_X11_draw_0 x1 M
theorem r_X11_draw {x1 R : Int32} {M M' : Mem}  (hF : f_X11_draw x1 M = some (R, M')) : RunS l D cy ad YX11_draw 0 [.ref 174, .int x1] X M (some (.int R)) M' := Run.of 1 (miX11_draw).1 (Nat.le_of_ble_eq_true rfl) (w_X11_draw_0  _ _ hF)
def f_J6_numberOfTrailingZeros_0f7a4_74  (x0 : Int32) (x1 : Int32) (M : Mem) : Option (Int32 × Mem) :=
  vl (((x0.toUInt32 >>> ((1 : Int32).toUInt32 &&& Int32.toUInt32 31)).toInt32)) fun v7 =>
  some ((x1 + v7), M)
set_option maxRecDepth 100000 in
theorem w_J6_numberOfTrailingZeros_0f7a4_74 {R : Int32} {M' : Mem}  (x0 x1 : Int32) (M : Mem) (hF : f_J6_numberOfTrailingZeros_0f7a4_74 x0 x1 M = some (R, M')) : RunF l D cy ad none YJ6_numberOfTrailingZeros_0f7a4 0 0 0 (some (.int R)) (lay X M') 0 0 74 [(0, .int x0), (1, .int x1)] [] (lay X M) := by
  unfold f_J6_numberOfTrailingZeros_0f7a4_74 at hF
  refine g_iload_n (Y := YJ6_numberOfTrailingZeros_0f7a4) (pc := 74) 1 dJ6_numberOfTrailingZeros_0f7a4_74 rfl ?_
  refine g_iload_n (Y := YJ6_numberOfTrailingZeros_0f7a4) (pc := 75) 0 dJ6_numberOfTrailingZeros_0f7a4_75 rfl ?_
  refine g_iconst (Y := YJ6_numberOfTrailingZeros_0f7a4) (pc := 76) dJ6_numberOfTrailingZeros_0f7a4_76 kI_1 ?_
  refine g_iushr (Y := YJ6_numberOfTrailingZeros_0f7a4) (pc := 77) dJ6_numberOfTrailingZeros_0f7a4_77 ?_
  refine g_nm (fun v7 e => ?_)
  replace hF := vl_to e hF; clear e
  refine g_iadd (Y := YJ6_numberOfTrailingZeros_0f7a4) (pc := 78) dJ6_numberOfTrailingZeros_0f7a4_78 ?_
  exact s_iret (Y := YJ6_numberOfTrailingZeros_0f7a4) (pc := 79) dJ6_numberOfTrailingZeros_0f7a4_79 rfl hF
def f_J6_numberOfTrailingZeros_0f7a4_62  (x0 : Int32) (x1 : Int32) (M : Mem) : Option (Int32 × Mem) :=
  if 4 < x0 then
    vl (x1 + 2) fun v8 =>
    vl (((x0.toUInt32 >>> ((2 : Int32).toUInt32 &&& Int32.toUInt32 31)).toInt32)) fun v9 =>
    f_J6_numberOfTrailingZeros_0f7a4_74 v9 v8 M
  else
    f_J6_numberOfTrailingZeros_0f7a4_74 x0 x1 M
set_option maxRecDepth 100000 in
theorem w_J6_numberOfTrailingZeros_0f7a4_62 {R : Int32} {M' : Mem}  (x0 x1 : Int32) (M : Mem) (hF : f_J6_numberOfTrailingZeros_0f7a4_62 x0 x1 M = some (R, M')) : RunF l D cy ad none YJ6_numberOfTrailingZeros_0f7a4 0 0 0 (some (.int R)) (lay X M') 0 0 62 [(0, .int x0), (1, .int x1)] [] (lay X M) := by
  unfold f_J6_numberOfTrailingZeros_0f7a4_62 at hF
  refine g_iload_n (Y := YJ6_numberOfTrailingZeros_0f7a4) (pc := 62) 0 dJ6_numberOfTrailingZeros_0f7a4_62 rfl ?_
  refine g_iconst (Y := YJ6_numberOfTrailingZeros_0f7a4) (pc := 63) dJ6_numberOfTrailingZeros_0f7a4_63 kI_4 ?_
  refine g_icmp_le (Y := YJ6_numberOfTrailingZeros_0f7a4) (pc := 64) (tgt := 74) dJ6_numberOfTrailingZeros_0f7a4_64 rfl (fun c6 => ?_) (fun c6 => ?_)
  · replace hF := if_f c6 hF
    exact w_J6_numberOfTrailingZeros_0f7a4_74  _ _ _ hF
  · replace hF := if_t c6 hF
    refine s_iinc (Y := YJ6_numberOfTrailingZeros_0f7a4) (pc := 67) (j := 1) (L' := fun y => [(1, .int y), (0, .int x0)]) dJ6_numberOfTrailingZeros_0f7a4_67 kI_2 rfl (Nat.le_of_ble_eq_true rfl) (fun _ => rfl) (fun v8 e => ?_)
    replace hF := vl_to e hF; clear e
    refine g_iload_n (Y := YJ6_numberOfTrailingZeros_0f7a4) (pc := 70) 1 dJ6_numberOfTrailingZeros_0f7a4_70 rfl ?_
    refine g_iconst (Y := YJ6_numberOfTrailingZeros_0f7a4) (pc := 71) dJ6_numberOfTrailingZeros_0f7a4_71 kI_2 ?_
    refine g_iushr (Y := YJ6_numberOfTrailingZeros_0f7a4) (pc := 72) dJ6_numberOfTrailingZeros_0f7a4_72 ?_
    refine g_nm (fun v9 e => ?_)
    replace hF := vl_to e hF; clear e
    refine g_istore_n (Y := YJ6_numberOfTrailingZeros_0f7a4) (pc := 73) (L' := [(0, .int v9), (1, .int v8)]) dJ6_numberOfTrailingZeros_0f7a4_73 (Nat.le_of_ble_eq_true rfl) rfl ?_
    exact w_J6_numberOfTrailingZeros_0f7a4_74  _ _ _ hF
def f_J6_numberOfTrailingZeros_0f7a4_49  (x0 : Int32) (x1 : Int32) (M : Mem) : Option (Int32 × Mem) :=
  if 16 < x0 then
    vl (x1 + 4) fun v10 =>
    vl (((x0.toUInt32 >>> ((4 : Int32).toUInt32 &&& Int32.toUInt32 31)).toInt32)) fun v11 =>
    f_J6_numberOfTrailingZeros_0f7a4_62 v11 v10 M
  else
    f_J6_numberOfTrailingZeros_0f7a4_62 x0 x1 M
set_option maxRecDepth 100000 in
theorem w_J6_numberOfTrailingZeros_0f7a4_49 {R : Int32} {M' : Mem}  (x0 x1 : Int32) (M : Mem) (hF : f_J6_numberOfTrailingZeros_0f7a4_49 x0 x1 M = some (R, M')) : RunF l D cy ad none YJ6_numberOfTrailingZeros_0f7a4 0 0 0 (some (.int R)) (lay X M') 0 0 49 [(0, .int x0), (1, .int x1)] [] (lay X M) := by
  unfold f_J6_numberOfTrailingZeros_0f7a4_49 at hF
  refine g_iload_n (Y := YJ6_numberOfTrailingZeros_0f7a4) (pc := 49) 0 dJ6_numberOfTrailingZeros_0f7a4_49 rfl ?_
  refine g_bipush (Y := YJ6_numberOfTrailingZeros_0f7a4) (pc := 50) dJ6_numberOfTrailingZeros_0f7a4_50 kB_16 ?_
  refine g_icmp_le (Y := YJ6_numberOfTrailingZeros_0f7a4) (pc := 52) (tgt := 62) dJ6_numberOfTrailingZeros_0f7a4_52 rfl (fun c5 => ?_) (fun c5 => ?_)
  · replace hF := if_f c5 hF
    exact w_J6_numberOfTrailingZeros_0f7a4_62  _ _ _ hF
  · replace hF := if_t c5 hF
    refine s_iinc (Y := YJ6_numberOfTrailingZeros_0f7a4) (pc := 55) (j := 1) (L' := fun y => [(1, .int y), (0, .int x0)]) dJ6_numberOfTrailingZeros_0f7a4_55 kI_4 rfl (Nat.le_of_ble_eq_true rfl) (fun _ => rfl) (fun v10 e => ?_)
    replace hF := vl_to e hF; clear e
    refine g_iload_n (Y := YJ6_numberOfTrailingZeros_0f7a4) (pc := 58) 1 dJ6_numberOfTrailingZeros_0f7a4_58 rfl ?_
    refine g_iconst (Y := YJ6_numberOfTrailingZeros_0f7a4) (pc := 59) dJ6_numberOfTrailingZeros_0f7a4_59 kI_4 ?_
    refine g_iushr (Y := YJ6_numberOfTrailingZeros_0f7a4) (pc := 60) dJ6_numberOfTrailingZeros_0f7a4_60 ?_
    refine g_nm (fun v11 e => ?_)
    replace hF := vl_to e hF; clear e
    refine g_istore_n (Y := YJ6_numberOfTrailingZeros_0f7a4) (pc := 61) (L' := [(0, .int v11), (1, .int v10)]) dJ6_numberOfTrailingZeros_0f7a4_61 (Nat.le_of_ble_eq_true rfl) rfl ?_
    exact w_J6_numberOfTrailingZeros_0f7a4_62  _ _ _ hF
def f_J6_numberOfTrailingZeros_0f7a4_34  (x0 : Int32) (x1 : Int32) (M : Mem) : Option (Int32 × Mem) :=
  if 256 < x0 then
    vl (x1 + 8) fun v12 =>
    vl (((x0.toUInt32 >>> ((8 : Int32).toUInt32 &&& Int32.toUInt32 31)).toInt32)) fun v13 =>
    f_J6_numberOfTrailingZeros_0f7a4_49 v13 v12 M
  else
    f_J6_numberOfTrailingZeros_0f7a4_49 x0 x1 M
set_option maxRecDepth 100000 in
theorem w_J6_numberOfTrailingZeros_0f7a4_34 {R : Int32} {M' : Mem}  (x0 x1 : Int32) (M : Mem) (hF : f_J6_numberOfTrailingZeros_0f7a4_34 x0 x1 M = some (R, M')) : RunF l D cy ad none YJ6_numberOfTrailingZeros_0f7a4 0 0 0 (some (.int R)) (lay X M') 0 0 34 [(0, .int x0), (1, .int x1)] [] (lay X M) := by
  unfold f_J6_numberOfTrailingZeros_0f7a4_34 at hF
  refine g_iload_n (Y := YJ6_numberOfTrailingZeros_0f7a4) (pc := 34) 0 dJ6_numberOfTrailingZeros_0f7a4_34 rfl ?_
  refine g_sipush (Y := YJ6_numberOfTrailingZeros_0f7a4) (pc := 35) dJ6_numberOfTrailingZeros_0f7a4_35 kS_256 ?_
  refine g_icmp_le (Y := YJ6_numberOfTrailingZeros_0f7a4) (pc := 38) (tgt := 49) dJ6_numberOfTrailingZeros_0f7a4_38 rfl (fun c4 => ?_) (fun c4 => ?_)
  · replace hF := if_f c4 hF
    exact w_J6_numberOfTrailingZeros_0f7a4_49  _ _ _ hF
  · replace hF := if_t c4 hF
    refine s_iinc (Y := YJ6_numberOfTrailingZeros_0f7a4) (pc := 41) (j := 1) (L' := fun y => [(1, .int y), (0, .int x0)]) dJ6_numberOfTrailingZeros_0f7a4_41 kI_8 rfl (Nat.le_of_ble_eq_true rfl) (fun _ => rfl) (fun v12 e => ?_)
    replace hF := vl_to e hF; clear e
    refine g_iload_n (Y := YJ6_numberOfTrailingZeros_0f7a4) (pc := 44) 1 dJ6_numberOfTrailingZeros_0f7a4_44 rfl ?_
    refine g_bipush (Y := YJ6_numberOfTrailingZeros_0f7a4) (pc := 45) dJ6_numberOfTrailingZeros_0f7a4_45 kB_8 ?_
    refine g_iushr (Y := YJ6_numberOfTrailingZeros_0f7a4) (pc := 47) dJ6_numberOfTrailingZeros_0f7a4_47 ?_
    refine g_nm (fun v13 e => ?_)
    replace hF := vl_to e hF; clear e
    refine g_istore_n (Y := YJ6_numberOfTrailingZeros_0f7a4) (pc := 48) (L' := [(0, .int v13), (1, .int v12)]) dJ6_numberOfTrailingZeros_0f7a4_48 (Nat.le_of_ble_eq_true rfl) rfl ?_
    exact w_J6_numberOfTrailingZeros_0f7a4_49  _ _ _ hF
def f_J6_numberOfTrailingZeros_0f7a4_0  (x0 : Int32) (M : Mem) : Option (Int32 × Mem) :=
  vl (((x0 ^^^ (-1)) &&& (x0 - 1))) fun v1 =>
  if 0 < v1 then
    if 65536 < v1 then
      vl (1 + 16) fun v14 =>
      vl (((v1.toUInt32 >>> ((16 : Int32).toUInt32 &&& Int32.toUInt32 31)).toInt32)) fun v15 =>
      f_J6_numberOfTrailingZeros_0f7a4_34 v15 v14 M
    else
      f_J6_numberOfTrailingZeros_0f7a4_34 v1 1 M
  else
    some ((v1 &&& 32), M)
set_option maxRecDepth 100000 in
theorem w_J6_numberOfTrailingZeros_0f7a4_0 {R : Int32} {M' : Mem}  (x0 : Int32) (M : Mem) (hF : f_J6_numberOfTrailingZeros_0f7a4_0 x0 M = some (R, M')) : RunF l D cy ad none YJ6_numberOfTrailingZeros_0f7a4 0 0 0 (some (.int R)) (lay X M') 0 0 0 [(0, .int x0)] [] (lay X M) := by
  unfold f_J6_numberOfTrailingZeros_0f7a4_0 at hF
  refine g_iload_n (Y := YJ6_numberOfTrailingZeros_0f7a4) (pc := 0) 0 dJ6_numberOfTrailingZeros_0f7a4_0 rfl ?_
  refine g_iconst (Y := YJ6_numberOfTrailingZeros_0f7a4) (pc := 1) dJ6_numberOfTrailingZeros_0f7a4_1 kI_m1 ?_
  refine g_ixor (Y := YJ6_numberOfTrailingZeros_0f7a4) (pc := 2) dJ6_numberOfTrailingZeros_0f7a4_2 ?_
  refine g_iload_n (Y := YJ6_numberOfTrailingZeros_0f7a4) (pc := 3) 0 dJ6_numberOfTrailingZeros_0f7a4_3 rfl ?_
  refine g_iconst (Y := YJ6_numberOfTrailingZeros_0f7a4) (pc := 4) dJ6_numberOfTrailingZeros_0f7a4_4 kI_1 ?_
  refine g_isub (Y := YJ6_numberOfTrailingZeros_0f7a4) (pc := 5) dJ6_numberOfTrailingZeros_0f7a4_5 ?_
  refine g_iand (Y := YJ6_numberOfTrailingZeros_0f7a4) (pc := 6) dJ6_numberOfTrailingZeros_0f7a4_6 ?_
  refine g_nm (fun v1 e => ?_)
  replace hF := vl_to e hF; clear e
  refine g_istore_n (Y := YJ6_numberOfTrailingZeros_0f7a4) (pc := 7) (L' := [(0, .int v1)]) dJ6_numberOfTrailingZeros_0f7a4_7 (Nat.le_of_ble_eq_true rfl) rfl ?_
  refine g_iload_n (Y := YJ6_numberOfTrailingZeros_0f7a4) (pc := 8) 0 dJ6_numberOfTrailingZeros_0f7a4_8 rfl ?_
  refine g_if_gt (Y := YJ6_numberOfTrailingZeros_0f7a4) (pc := 9) (tgt := 17) dJ6_numberOfTrailingZeros_0f7a4_9 rfl (fun c2 => ?_) (fun c2 => ?_)
  · replace hF := if_t c2 hF
    refine g_iconst (Y := YJ6_numberOfTrailingZeros_0f7a4) (pc := 17) dJ6_numberOfTrailingZeros_0f7a4_17 kI_1 ?_
    refine g_istore_n (Y := YJ6_numberOfTrailingZeros_0f7a4) (pc := 18) (L' := [(1, .int 1), (0, .int v1)]) dJ6_numberOfTrailingZeros_0f7a4_18 (Nat.le_of_ble_eq_true rfl) rfl ?_
    refine g_iload_n (Y := YJ6_numberOfTrailingZeros_0f7a4) (pc := 19) 1 dJ6_numberOfTrailingZeros_0f7a4_19 rfl ?_
    refine g_ldcw (Y := YJ6_numberOfTrailingZeros_0f7a4) (pc := 20) dJ6_numberOfTrailingZeros_0f7a4_20 cw_J6_264 ?_
    refine g_icmp_le (Y := YJ6_numberOfTrailingZeros_0f7a4) (pc := 23) (tgt := 34) dJ6_numberOfTrailingZeros_0f7a4_23 rfl (fun c3 => ?_) (fun c3 => ?_)
    · replace hF := if_f c3 hF
      refine g_loc [1, 0] rfl ?_
      exact w_J6_numberOfTrailingZeros_0f7a4_34  _ _ _ hF
    · replace hF := if_t c3 hF
      refine s_iinc (Y := YJ6_numberOfTrailingZeros_0f7a4) (pc := 26) (j := 0) (L' := fun y => [(1, .int y), (0, .int v1)]) dJ6_numberOfTrailingZeros_0f7a4_26 kI_16 rfl (Nat.le_of_ble_eq_true rfl) (fun _ => rfl) (fun v14 e => ?_)
      replace hF := vl_to e hF; clear e
      refine g_iload_n (Y := YJ6_numberOfTrailingZeros_0f7a4) (pc := 29) 1 dJ6_numberOfTrailingZeros_0f7a4_29 rfl ?_
      refine g_bipush (Y := YJ6_numberOfTrailingZeros_0f7a4) (pc := 30) dJ6_numberOfTrailingZeros_0f7a4_30 kB_16 ?_
      refine g_iushr (Y := YJ6_numberOfTrailingZeros_0f7a4) (pc := 32) dJ6_numberOfTrailingZeros_0f7a4_32 ?_
      refine g_nm (fun v15 e => ?_)
      replace hF := vl_to e hF; clear e
      refine g_istore_n (Y := YJ6_numberOfTrailingZeros_0f7a4) (pc := 33) (L' := [(0, .int v15), (1, .int v14)]) dJ6_numberOfTrailingZeros_0f7a4_33 (Nat.le_of_ble_eq_true rfl) rfl ?_
      exact w_J6_numberOfTrailingZeros_0f7a4_34  _ _ _ hF
  · replace hF := if_f c2 hF
    refine g_iload_n (Y := YJ6_numberOfTrailingZeros_0f7a4) (pc := 12) 0 dJ6_numberOfTrailingZeros_0f7a4_12 rfl ?_
    refine g_bipush (Y := YJ6_numberOfTrailingZeros_0f7a4) (pc := 13) dJ6_numberOfTrailingZeros_0f7a4_13 kB_32 ?_
    refine g_iand (Y := YJ6_numberOfTrailingZeros_0f7a4) (pc := 15) dJ6_numberOfTrailingZeros_0f7a4_15 ?_
    exact s_iret (Y := YJ6_numberOfTrailingZeros_0f7a4) (pc := 16) dJ6_numberOfTrailingZeros_0f7a4_16 rfl hF
def f_J6_numberOfTrailingZeros_0f7a4 (x0 : Int32) (M : Mem) : Option (Int32 × Mem) := f_J6_numberOfTrailingZeros_0f7a4_0 x0 M
theorem r_J6_numberOfTrailingZeros_0f7a4 {x0 R : Int32} {M M' : Mem}  (hF : f_J6_numberOfTrailingZeros_0f7a4 x0 M = some (R, M')) : RunS l D cy ad YJ6_numberOfTrailingZeros_0f7a4 0 [.int x0] X M (some (.int R)) M' := Run.of 1 (msJ6_numberOfTrailingZeros_0f7a4).1 (Nat.le_of_ble_eq_true rfl) (w_J6_numberOfTrailingZeros_0f7a4_0  _ _ hF)
def f_X11_drawOrder_26 (K7 : Int32 → Mem → Option (Int32 × Mem)) : Nat → Int32 → Int32 → Int32 → Int32 → Mem → Option (Int32 × Mem)
  | 0, _, _, _, _, _ => none
  | n + 1, x2, x3, x4, x5, M =>
    if x5 < x3 then
      vl ((x4 &&& (x4 - 1))) fun v17 =>
      vl (x5 + 1) fun v18 =>
      f_X11_drawOrder_26 K7 n x2 x3 v17 v18 M
    else
      bd (f_J6_numberOfTrailingZeros_0f7a4 x4 M) fun r10 M11 =>
      gd (0 ≤ (M11 174 37) ∧ (M11 174 37).toNatClampNeg < 6) <|
      ml (up M11 192 (M11 174 37).toNatClampNeg r10) fun M14 =>
      ml (up M14 174 37 ((M14 174 37) + 1)) fun M15 =>
      vl ((x2 &&& ((1 <<< (r10 &&& 31)) ^^^ (-1)))) fun v16 =>
      K7 v16 M15
set_option maxRecDepth 100000 in
theorem w_X11_drawOrder_26 {R : Int32} {M' : Mem} {K7 : Int32 → Mem → Option (Int32 × Mem)} (hK7 : ∀ (x2 : Int32) (M : Mem), K7 x2 M = some (R, M') → RunF l D cy ad none YX11_drawOrder 1 0 0 none (lay X M') 0 0 7 [(0, .ref 174), (2, .int x2)] [] (lay X M)) : ∀ (n : Nat) (x2 x3 x4 x5 : Int32) (M : Mem), f_X11_drawOrder_26 K7 n x2 x3 x4 x5 M = some (R, M') → RunF l D cy ad none YX11_drawOrder 1 0 0 none (lay X M') 0 0 26 [(0, .ref 174), (2, .int x2), (3, .int x3), (4, .int x4), (5, .int x5)] [] (lay X M) := by
  intro n
  induction n with
  | zero => intro x2 x3 x4 x5 M hF; exact absurd hF (by unfold f_X11_drawOrder_26; exact fun h => nomatch h)
  | succ n ih =>
    intro x2 x3 x4 x5 M hF
    unfold f_X11_drawOrder_26 at hF
    refine g_iload (Y := YX11_drawOrder) (pc := 26) 4 dX11_drawOrder_26 rfl ?_
    refine g_iload_n (Y := YX11_drawOrder) (pc := 28) 2 dX11_drawOrder_28 rfl ?_
    refine g_icmp_ge (Y := YX11_drawOrder) (pc := 29) (tgt := 47) dX11_drawOrder_29 rfl (fun c9 => ?_) (fun c9 => ?_)
    · replace hF := if_f c9 hF
      refine g_iload (Y := YX11_drawOrder) (pc := 47) 3 dX11_drawOrder_47 rfl ?_
      obtain ⟨r10, M11, e12, hF⟩ := bd_some hF
      refine s_callSi (Y := YX11_drawOrder) (pc := 49) (as := [.int x4]) (st := []) (r_J6_numberOfTrailingZeros_0f7a4  e12) msJ6_numberOfTrailingZeros_0f7a4 lk_X11_424 dX11_drawOrder_49 rfl (Nat.le_of_ble_eq_true rfl) (Nat.le_of_ble_eq_true rfl) rfl ?_
      clear e12
      refine g_istore (Y := YX11_drawOrder) (pc := 52) (L' := [(5, .int r10), (0, .ref 174), (2, .int x2), (3, .int x3), (4, .int x4)]) dX11_drawOrder_52 (Nat.le_of_ble_eq_true rfl) rfl ?_
      refine g_aload_n (Y := YX11_drawOrder) (pc := 54) 1 dX11_drawOrder_54 rfl ?_
      refine u_getR (Y := YX11_drawOrder) (pc := 55) (j := 192) dX11_drawOrder_55 fl_X11_63 k_174 rf_174_36 ?_
      refine g_aload_n (Y := YX11_drawOrder) (pc := 58) 1 dX11_drawOrder_58 rfl ?_
      refine u_getI (Y := YX11_drawOrder) (pc := 59) dX11_drawOrder_59 fl_X11_315 k_174 ?_
      refine g_iload (Y := YX11_drawOrder) (pc := 62) 0 dX11_drawOrder_62 rfl ?_
      obtain ⟨g13, hF⟩ := gd_some hF
      refine s_iast (Y := YX11_drawOrder) (pc := 64) dX11_drawOrder_64 k_192 n_192 g13 ?_
      refine g_nmM (fun M14 e => ?_)
      replace hF := ml_to e hF; clear e
      refine g_aload_n (Y := YX11_drawOrder) (pc := 65) 1 dX11_drawOrder_65 rfl ?_
      refine g_dup (Y := YX11_drawOrder) (pc := 66) dX11_drawOrder_66 rfl ?_
      refine u_getI (Y := YX11_drawOrder) (pc := 67) dX11_drawOrder_67 fl_X11_315 k_174 ?_
      refine g_iconst (Y := YX11_drawOrder) (pc := 70) dX11_drawOrder_70 kI_1 ?_
      refine g_iadd (Y := YX11_drawOrder) (pc := 71) dX11_drawOrder_71 ?_
      refine u_putI (Y := YX11_drawOrder) (pc := 72) dX11_drawOrder_72 fl_X11_315  k_174 ?_
      refine g_nmM (fun M15 e => ?_)
      replace hF := ml_to e hF; clear e
      refine g_iload_n (Y := YX11_drawOrder) (pc := 75) 2 dX11_drawOrder_75 rfl ?_
      refine g_iconst (Y := YX11_drawOrder) (pc := 76) dX11_drawOrder_76 kI_1 ?_
      refine g_iload (Y := YX11_drawOrder) (pc := 77) 0 dX11_drawOrder_77 rfl ?_
      refine g_ishl (Y := YX11_drawOrder) (pc := 79) dX11_drawOrder_79 ?_
      refine g_iconst (Y := YX11_drawOrder) (pc := 80) dX11_drawOrder_80 kI_m1 ?_
      refine g_ixor (Y := YX11_drawOrder) (pc := 81) dX11_drawOrder_81 ?_
      refine g_iand (Y := YX11_drawOrder) (pc := 82) dX11_drawOrder_82 ?_
      refine g_nm (fun v16 e => ?_)
      replace hF := vl_to e hF; clear e
      refine g_istore_n (Y := YX11_drawOrder) (pc := 83) (L' := [(2, .int v16), (5, .int r10), (0, .ref 174), (3, .int x3), (4, .int x4)]) dX11_drawOrder_83 (Nat.le_of_ble_eq_true rfl) rfl ?_
      refine g_goto (Y := YX11_drawOrder) (pc := 84) (tgt := 7) dX11_drawOrder_84 rfl ?_
      refine g_loc [2, 0] rfl ?_
      exact hK7 _ _ hF
    · replace hF := if_t c9 hF
      refine g_iload (Y := YX11_drawOrder) (pc := 32) 3 dX11_drawOrder_32 rfl ?_
      refine g_iload (Y := YX11_drawOrder) (pc := 34) 3 dX11_drawOrder_34 rfl ?_
      refine g_iconst (Y := YX11_drawOrder) (pc := 36) dX11_drawOrder_36 kI_1 ?_
      refine g_isub (Y := YX11_drawOrder) (pc := 37) dX11_drawOrder_37 ?_
      refine g_iand (Y := YX11_drawOrder) (pc := 38) dX11_drawOrder_38 ?_
      refine g_nm (fun v17 e => ?_)
      replace hF := vl_to e hF; clear e
      refine g_istore (Y := YX11_drawOrder) (pc := 39) (L' := [(4, .int v17), (0, .ref 174), (2, .int x2), (3, .int x3), (5, .int x5)]) dX11_drawOrder_39 (Nat.le_of_ble_eq_true rfl) rfl ?_
      refine s_iinc (Y := YX11_drawOrder) (pc := 41) (j := 4) (L' := fun y => [(5, .int y), (4, .int v17), (0, .ref 174), (2, .int x2), (3, .int x3)]) dX11_drawOrder_41 kI_1 rfl (Nat.le_of_ble_eq_true rfl) (fun _ => rfl) (fun v18 e => ?_)
      replace hF := vl_to e hF; clear e
      refine g_goto (Y := YX11_drawOrder) (pc := 44) (tgt := 26) dX11_drawOrder_44 rfl ?_
      refine g_loc [2, 3, 4, 1, 0] rfl ?_
      exact ih _ _ _ _ _ hF
def f_X11_drawOrder_7  : Nat → Int32 → Mem → Option (Int32 × Mem)
  | 0, _, _ => none
  | n + 1, x2, M =>
    if x2 = 0 then
      some (0, M)
    else
      bd (f_J6_bitCount_0f7a4 x2 M) fun r3 M4 =>
      bd (f_X11_draw r3 M4) fun r6 M7 =>
      f_X11_drawOrder_26 (f_X11_drawOrder_7 n) FU x2 r6 x2 0 M7
set_option maxRecDepth 100000 in
theorem w_X11_drawOrder_7 {R : Int32} {M' : Mem}  : ∀ (n : Nat) (x2 : Int32) (M : Mem), f_X11_drawOrder_7 n x2 M = some (R, M') → RunF l D cy ad none YX11_drawOrder 1 0 0 none (lay X M') 0 0 7 [(0, .ref 174), (2, .int x2)] [] (lay X M) := by
  intro n
  induction n with
  | zero => intro x2 M hF; exact absurd hF (by unfold f_X11_drawOrder_7; exact fun h => nomatch h)
  | succ n ih =>
    intro x2 M hF
    unfold f_X11_drawOrder_7 at hF
    refine g_iload_n (Y := YX11_drawOrder) (pc := 7) 1 dX11_drawOrder_7 rfl ?_
    refine g_if_eq (Y := YX11_drawOrder) (pc := 8) (tgt := 87) dX11_drawOrder_8 rfl (fun c2 => ?_) (fun c2 => ?_)
    · replace hF := if_t c2 hF
      exact s_vret (Y := YX11_drawOrder) (pc := 87) dX11_drawOrder_87 rfl hF
    · replace hF := if_f c2 hF
      refine g_aload_n (Y := YX11_drawOrder) (pc := 11) 0 dX11_drawOrder_11 rfl ?_
      refine g_iload_n (Y := YX11_drawOrder) (pc := 12) 1 dX11_drawOrder_12 rfl ?_
      obtain ⟨r3, M4, e5, hF⟩ := bd_some hF
      refine s_callSi (Y := YX11_drawOrder) (pc := 13) (as := [.int x2]) (st := [.ref 174]) (r_J6_bitCount_0f7a4  e5) msJ6_bitCount_0f7a4 lk_X11_285 dX11_drawOrder_13 rfl (Nat.le_of_ble_eq_true rfl) (Nat.le_of_ble_eq_true rfl) rfl ?_
      clear e5
      obtain ⟨r6, M7, e8, hF⟩ := bd_some hF
      refine s_callVi (Y := YX11_drawOrder) (pc := 16) (as := [.int r3]) (st := []) (r_X11_draw  e8) miX11_draw lk_X11_421 dX11_drawOrder_16 k_174 rfl (Nat.le_of_ble_eq_true rfl) (Nat.le_of_ble_eq_true rfl) rfl ?_
      clear e8
      refine g_istore_n (Y := YX11_drawOrder) (pc := 19) (L' := [(3, .int r6), (0, .ref 174), (2, .int x2)]) dX11_drawOrder_19 (Nat.le_of_ble_eq_true rfl) rfl ?_
      refine g_iload_n (Y := YX11_drawOrder) (pc := 20) 2 dX11_drawOrder_20 rfl ?_
      refine g_istore (Y := YX11_drawOrder) (pc := 21) (L' := [(4, .int x2), (3, .int r6), (0, .ref 174), (2, .int x2)]) dX11_drawOrder_21 (Nat.le_of_ble_eq_true rfl) rfl ?_
      refine g_iconst (Y := YX11_drawOrder) (pc := 23) dX11_drawOrder_23 kI_0 ?_
      refine g_istore (Y := YX11_drawOrder) (pc := 24) (L' := [(5, .int 0), (4, .int x2), (3, .int r6), (0, .ref 174), (2, .int x2)]) dX11_drawOrder_24 (Nat.le_of_ble_eq_true rfl) rfl ?_
      refine g_loc [3, 4, 2, 1, 0] rfl ?_
      exact w_X11_drawOrder_26 ih _ _ _ _ _ _ hF
def f_X11_drawOrder_0  (x1 : Int32) (M : Mem) : Option (Int32 × Mem) :=
  ml (up M 174 37 0) fun M1 =>
  f_X11_drawOrder_7 FU x1 M1
set_option maxRecDepth 100000 in
theorem w_X11_drawOrder_0 {R : Int32} {M' : Mem}  (x1 : Int32) (M : Mem) (hF : f_X11_drawOrder_0 x1 M = some (R, M')) : RunF l D cy ad none YX11_drawOrder 1 0 0 none (lay X M') 0 0 0 [(0, .ref 174), (1, .int x1)] [] (lay X M) := by
  unfold f_X11_drawOrder_0 at hF
  refine g_iload_n (Y := YX11_drawOrder) (pc := 0) 1 dX11_drawOrder_0 rfl ?_
  refine g_istore_n (Y := YX11_drawOrder) (pc := 1) (L' := [(2, .int x1), (0, .ref 174), (1, .int x1)]) dX11_drawOrder_1 (Nat.le_of_ble_eq_true rfl) rfl ?_
  refine g_aload_n (Y := YX11_drawOrder) (pc := 2) 1 dX11_drawOrder_2 rfl ?_
  refine g_iconst (Y := YX11_drawOrder) (pc := 3) dX11_drawOrder_3 kI_0 ?_
  refine u_putI (Y := YX11_drawOrder) (pc := 4) dX11_drawOrder_4 fl_X11_315  k_174 ?_
  refine g_nmM (fun M1 e => ?_)
  replace hF := ml_to e hF; clear e
  refine g_loc [1, 0] rfl ?_
  exact w_X11_drawOrder_7  _ _ _ hF
def f_X11_drawOrder (x1 : Int32) (M : Mem) : Option (Int32 × Mem) := f_X11_drawOrder_0 x1 M
theorem r_X11_drawOrder {x1 R : Int32} {M M' : Mem}  (hF : f_X11_drawOrder x1 M = some (R, M')) : RunS l D cy ad YX11_drawOrder 1 [.ref 174, .int x1] X M none M' := Run.of 1 (miX11_drawOrder).1 (Nat.le_of_ble_eq_true rfl) (w_X11_drawOrder_0  _ _ hF)
def f_X11_season_23  (M : Mem) : Option (Int32 × Mem) :=
  some ((-1), M)
set_option maxRecDepth 100000 in
theorem w_X11_season_23 {R : Int32} {M' : Mem}  (M : Mem) (hF : f_X11_season_23  M = some (R, M')) : RunF l D cy ad none YX11_season 406 0 0 (some (.int R)) (lay X M') 0 0 23 [] [] (lay X M) := by
  unfold f_X11_season_23 at hF
  refine g_iconst (Y := YX11_season) (pc := 23) dX11_season_23 kI_m1 ?_
  exact s_iret (Y := YX11_season) (pc := 24) dX11_season_24 rfl hF
def f_X11_season_113 (K49 : Int32 → Int32 → Int32 → Int32 → Int32 → Int32 → Int32 → Mem → Option (Int32 × Mem)) (x1 : Int32) (x3 : Int32) (x4 : Int32) (x5 : Int32) (x6 : Int32) (x7 : Int32) (x8 : Int32) (M : Mem) : Option (Int32 × Mem) :=
  vl (x8 + 1) fun v35 =>
  K49 x1 x3 x4 x5 x6 x7 v35 M
set_option maxRecDepth 100000 in
theorem w_X11_season_113 {R : Int32} {M' : Mem} {K49 : Int32 → Int32 → Int32 → Int32 → Int32 → Int32 → Int32 → Mem → Option (Int32 × Mem)} (hK49 : ∀ (x1 x3 x4 x5 x6 x7 x8 : Int32) (M : Mem), K49 x1 x3 x4 x5 x6 x7 x8 M = some (R, M') → RunF l D cy ad none YX11_season 406 0 0 (some (.int R)) (lay X M') 0 0 49 [(0, .ref 174), (1, .int x1), (3, .int x3), (4, .int x4), (5, .int x5), (6, .int x6), (7, .int x7), (8, .int x8)] [] (lay X M)) (x1 x3 x4 x5 x6 x7 x8 : Int32) (M : Mem) (hF : f_X11_season_113 K49 x1 x3 x4 x5 x6 x7 x8 M = some (R, M')) : RunF l D cy ad none YX11_season 406 0 0 (some (.int R)) (lay X M') 0 0 113 [(0, .ref 174), (1, .int x1), (3, .int x3), (4, .int x4), (5, .int x5), (6, .int x6), (7, .int x7), (8, .int x8)] [] (lay X M) := by
  unfold f_X11_season_113 at hF
  refine s_iinc (Y := YX11_season) (pc := 113) (j := 7) (L' := fun y => [(8, .int y), (0, .ref 174), (1, .int x1), (3, .int x3), (4, .int x4), (5, .int x5), (6, .int x6), (7, .int x7)]) dX11_season_113 kI_1 rfl (Nat.le_of_ble_eq_true rfl) (fun _ => rfl) (fun v35 e => ?_)
  replace hF := vl_to e hF; clear e
  refine g_goto (Y := YX11_season) (pc := 116) (tgt := 49) dX11_season_116 rfl ?_
  refine g_loc [1, 2, 3, 4, 5, 6, 7, 0] rfl ?_
  exact hK49 _ _ _ _ _ _ _ _ hF
def f_X11_season_105 (K49 : Int32 → Int32 → Int32 → Int32 → Int32 → Int32 → Int32 → Mem → Option (Int32 × Mem)) (x1 : Int32) (x3 : Int32) (x4 : Int32) (x6 : Int32) (x8 : Int32) (x9 : Int32) (M : Mem) : Option (Int32 × Mem) :=
  f_X11_season_113 K49 x1 x3 x4 x9 x6 x8 x8 M
set_option maxRecDepth 100000 in
theorem w_X11_season_105 {R : Int32} {M' : Mem} {K49 : Int32 → Int32 → Int32 → Int32 → Int32 → Int32 → Int32 → Mem → Option (Int32 × Mem)} (hK49 : ∀ (x1 x3 x4 x5 x6 x7 x8 : Int32) (M : Mem), K49 x1 x3 x4 x5 x6 x7 x8 M = some (R, M') → RunF l D cy ad none YX11_season 406 0 0 (some (.int R)) (lay X M') 0 0 49 [(0, .ref 174), (1, .int x1), (3, .int x3), (4, .int x4), (5, .int x5), (6, .int x6), (7, .int x7), (8, .int x8)] [] (lay X M)) (x1 x3 x4 x6 x8 x9 : Int32) (M : Mem) (hF : f_X11_season_105 K49 x1 x3 x4 x6 x8 x9 M = some (R, M')) : RunF l D cy ad none YX11_season 406 0 0 (some (.int R)) (lay X M') 0 0 105 [(0, .ref 174), (1, .int x1), (3, .int x3), (4, .int x4), (6, .int x6), (8, .int x8), (9, .int x9)] [] (lay X M) := by
  unfold f_X11_season_105 at hF
  refine g_iload (Y := YX11_season) (pc := 105) 6 dX11_season_105 rfl ?_
  refine g_istore (Y := YX11_season) (pc := 107) (L' := [(5, .int x9), (0, .ref 174), (1, .int x1), (3, .int x3), (4, .int x4), (6, .int x6), (8, .int x8), (9, .int x9)]) dX11_season_107 (Nat.le_of_ble_eq_true rfl) rfl ?_
  refine g_iload (Y := YX11_season) (pc := 109) 6 dX11_season_109 rfl ?_
  refine g_istore (Y := YX11_season) (pc := 111) (L' := [(7, .int x8), (5, .int x9), (0, .ref 174), (1, .int x1), (3, .int x3), (4, .int x4), (6, .int x6), (8, .int x8), (9, .int x9)]) dX11_season_111 (Nat.le_of_ble_eq_true rfl) rfl ?_
  refine g_loc [2, 3, 4, 5, 1, 6, 0, 7] rfl ?_
  exact w_X11_season_113 hK49 _ _ _ _ _ _ _ _ hF
def f_X11_season_49  : Nat → Int32 → Int32 → Int32 → Int32 → Int32 → Int32 → Int32 → Mem → Option (Int32 × Mem)
  | 0, _, _, _, _, _, _, _, _ => none
  | n + 1, x1, x3, x4, x5, x6, x7, x8, M =>
    if x8 < x3 then
      bd (f_X11_drawOrder x1 M) fun _ M26 =>
      bd (f_X11_goDay M26) fun r28 M29 =>
      if r28 = 1000000 then
        f_X11_season_113 (f_X11_season_49 n) x1 x3 x4 x5 x6 x7 x8 M29
      else
        vl (x4 + 1) fun v32 =>
        vl ((if x6 < r28 then r28 else x6)) fun v33 =>
        if x5 = (-1) then
          f_X11_season_105 (f_X11_season_49 n) x1 x3 v32 v33 x8 r28 M29
        else
          if r28 < x5 then
            f_X11_season_105 (f_X11_season_49 n) x1 x3 v32 v33 x8 r28 M29
          else
            f_X11_season_113 (f_X11_season_49 n) x1 x3 v32 x5 v33 x7 x8 M29
    else
      ml (up M 174 13 0) fun M15 =>
      bd (f_X11_tell x5 M15) fun _ M17 =>
      bd (f_X11_tell x6 M17) fun _ M20 =>
      bd (f_X11_tell x7 M20) fun _ M23 =>
      some (x4, M23)
set_option maxRecDepth 100000 in
theorem w_X11_season_49 {R : Int32} {M' : Mem}  : ∀ (n : Nat) (x1 x3 x4 x5 x6 x7 x8 : Int32) (M : Mem), f_X11_season_49 n x1 x3 x4 x5 x6 x7 x8 M = some (R, M') → RunF l D cy ad none YX11_season 406 0 0 (some (.int R)) (lay X M') 0 0 49 [(0, .ref 174), (1, .int x1), (3, .int x3), (4, .int x4), (5, .int x5), (6, .int x6), (7, .int x7), (8, .int x8)] [] (lay X M) := by
  intro n
  induction n with
  | zero => intro x1 x3 x4 x5 x6 x7 x8 M hF; exact absurd hF (by unfold f_X11_season_49; exact fun h => nomatch h)
  | succ n ih =>
    intro x1 x3 x4 x5 x6 x7 x8 M hF
    unfold f_X11_season_49 at hF
    refine g_iload (Y := YX11_season) (pc := 49) 7 dX11_season_49 rfl ?_
    refine g_iload_n (Y := YX11_season) (pc := 51) 2 dX11_season_51 rfl ?_
    refine g_icmp_ge (Y := YX11_season) (pc := 52) (tgt := 119) dX11_season_52 rfl (fun c14 => ?_) (fun c14 => ?_)
    · replace hF := if_f c14 hF
      refine g_aload_n (Y := YX11_season) (pc := 119) 0 dX11_season_119 rfl ?_
      refine g_iconst (Y := YX11_season) (pc := 120) dX11_season_120 kI_0 ?_
      refine u_putI (Y := YX11_season) (pc := 121) dX11_season_121 fl_X11_103  k_174 ?_
      refine g_nmM (fun M15 e => ?_)
      replace hF := ml_to e hF; clear e
      refine g_aload_n (Y := YX11_season) (pc := 124) 0 dX11_season_124 rfl ?_
      refine g_iload (Y := YX11_season) (pc := 125) 4 dX11_season_125 rfl ?_
      obtain ⟨r16, M17, e18, hF⟩ := bd_some hF
      refine s_callVv (Y := YX11_season) (pc := 127) (as := [.int x5]) (st := []) (r_X11_tell  e18) miX11_tell lk_X11_300 dX11_season_127 k_174 rfl (Nat.le_of_ble_eq_true rfl) (Nat.le_of_ble_eq_true rfl) rfl ?_
      clear e18
      refine g_aload_n (Y := YX11_season) (pc := 130) 0 dX11_season_130 rfl ?_
      refine g_iload (Y := YX11_season) (pc := 131) 5 dX11_season_131 rfl ?_
      obtain ⟨r19, M20, e21, hF⟩ := bd_some hF
      refine s_callVv (Y := YX11_season) (pc := 133) (as := [.int x6]) (st := []) (r_X11_tell  e21) miX11_tell lk_X11_300 dX11_season_133 k_174 rfl (Nat.le_of_ble_eq_true rfl) (Nat.le_of_ble_eq_true rfl) rfl ?_
      clear e21
      refine g_aload_n (Y := YX11_season) (pc := 136) 0 dX11_season_136 rfl ?_
      refine g_iload (Y := YX11_season) (pc := 137) 6 dX11_season_137 rfl ?_
      obtain ⟨r22, M23, e24, hF⟩ := bd_some hF
      refine s_callVv (Y := YX11_season) (pc := 139) (as := [.int x7]) (st := []) (r_X11_tell  e24) miX11_tell lk_X11_300 dX11_season_139 k_174 rfl (Nat.le_of_ble_eq_true rfl) (Nat.le_of_ble_eq_true rfl) rfl ?_
      clear e24
      refine g_iload (Y := YX11_season) (pc := 142) 3 dX11_season_142 rfl ?_
      exact s_iret (Y := YX11_season) (pc := 144) dX11_season_144 rfl hF
    · replace hF := if_t c14 hF
      refine g_aload_n (Y := YX11_season) (pc := 55) 0 dX11_season_55 rfl ?_
      refine g_iload_n (Y := YX11_season) (pc := 56) 1 dX11_season_56 rfl ?_
      obtain ⟨r25, M26, e27, hF⟩ := bd_some hF
      refine s_callVv (Y := YX11_season) (pc := 57) (as := [.int x1]) (st := []) (r_X11_drawOrder  e27) miX11_drawOrder lk_X11_427 dX11_season_57 k_174 rfl (Nat.le_of_ble_eq_true rfl) (Nat.le_of_ble_eq_true rfl) rfl ?_
      clear e27
      refine g_aload_n (Y := YX11_season) (pc := 60) 0 dX11_season_60 rfl ?_
      obtain ⟨r28, M29, e30, hF⟩ := bd_some hF
      refine s_callVi (Y := YX11_season) (pc := 61) (as := []) (st := []) (r_X11_goDay  e30) miX11_goDay lk_X11_325 dX11_season_61 k_174 rfl (Nat.le_of_ble_eq_true rfl) (Nat.le_of_ble_eq_true rfl) rfl ?_
      clear e30
      refine g_istore (Y := YX11_season) (pc := 64) (L' := [(9, .int r28), (0, .ref 174), (1, .int x1), (3, .int x3), (4, .int x4), (5, .int x5), (6, .int x6), (7, .int x7), (8, .int x8)]) dX11_season_64 (Nat.le_of_ble_eq_true rfl) rfl ?_
      refine g_iload (Y := YX11_season) (pc := 66) 0 dX11_season_66 rfl ?_
      refine g_ldcw (Y := YX11_season) (pc := 68) dX11_season_68 cw_X11_321 ?_
      refine g_icmp_ne (Y := YX11_season) (pc := 71) (tgt := 77) dX11_season_71 rfl (fun c31 => ?_) (fun c31 => ?_)
      · replace hF := if_f c31 hF
        refine s_iinc (Y := YX11_season) (pc := 77) (j := 4) (L' := fun y => [(4, .int y), (9, .int r28), (0, .ref 174), (1, .int x1), (3, .int x3), (5, .int x5), (6, .int x6), (7, .int x7), (8, .int x8)]) dX11_season_77 kI_1 rfl (Nat.le_of_ble_eq_true rfl) (fun _ => rfl) (fun v32 e => ?_)
        replace hF := vl_to e hF; clear e
        refine g_iload (Y := YX11_season) (pc := 80) 6 dX11_season_80 rfl ?_
        refine g_iload (Y := YX11_season) (pc := 82) 1 dX11_season_82 rfl ?_
        refine s_max (Y := YX11_season) (pc := 84) dX11_season_84 lk_X11_218 w_max (Nat.le_of_ble_eq_true rfl) (Nat.le_of_ble_eq_true rfl) ?_
        refine g_nm (fun v33 e => ?_)
        replace hF := vl_to e hF; clear e
        refine g_istore (Y := YX11_season) (pc := 87) (L' := [(6, .int v33), (4, .int v32), (9, .int r28), (0, .ref 174), (1, .int x1), (3, .int x3), (5, .int x5), (7, .int x7), (8, .int x8)]) dX11_season_87 (Nat.le_of_ble_eq_true rfl) rfl ?_
        refine g_iload (Y := YX11_season) (pc := 89) 6 dX11_season_89 rfl ?_
        refine g_iconst (Y := YX11_season) (pc := 91) dX11_season_91 kI_m1 ?_
        refine g_icmp_eq (Y := YX11_season) (pc := 92) (tgt := 105) dX11_season_92 rfl (fun c34 => ?_) (fun c34 => ?_)
        · replace hF := if_t c34 hF
          refine g_loc [3, 4, 5, 1, 0, 8, 2] rfl ?_
          exact w_X11_season_105 ih _ _ _ _ _ _ _ hF
        · replace hF := if_f c34 hF
          refine g_iload (Y := YX11_season) (pc := 95) 2 dX11_season_95 rfl ?_
          refine g_iload (Y := YX11_season) (pc := 97) 6 dX11_season_97 rfl ?_
          refine g_icmp_lt (Y := YX11_season) (pc := 99) (tgt := 105) dX11_season_99 rfl (fun c36 => ?_) (fun c36 => ?_)
          · replace hF := if_t c36 hF
            refine g_loc [3, 4, 5, 1, 0, 8, 2] rfl ?_
            exact w_X11_season_105 ih _ _ _ _ _ _ _ hF
          · replace hF := if_f c36 hF
            refine g_goto (Y := YX11_season) (pc := 102) (tgt := 113) dX11_season_102 rfl ?_
            refine g_loc [3, 4, 5, 1, 6, 0, 7, 8] rfl ?_
            exact w_X11_season_113 ih _ _ _ _ _ _ _ _ hF
      · replace hF := if_t c31 hF
        refine g_goto (Y := YX11_season) (pc := 74) (tgt := 113) dX11_season_74 rfl ?_
        refine g_loc [1, 2, 3, 4, 5, 6, 7, 8] rfl ?_
        exact w_X11_season_113 ih _ _ _ _ _ _ _ _ hF
def f_X11_season_0  (x1 : Int32) (x2 : Int32) (x3 : Int32) (M : Mem) : Option (Int32 × Mem) :=
  ml (up M 174 14 0) fun M1 =>
  bd (f_X11_canOrder x1 M1) fun r2 M3 =>
  if r2 = 0 then
    f_X11_season_23 M3
  else
    bd (f_X11_in x3 1 20 M3) fun r6 M7 =>
    if r6 = 0 then
      f_X11_season_23 M7
    else
      bd (f_X11_layStays M7) fun _ M11 =>
      ml (up M11 174 56 x2) fun M13 =>
      f_X11_season_49 FU x1 x3 0 (-1) (-1) (-1) 0 M13
set_option maxRecDepth 100000 in
theorem w_X11_season_0 {R : Int32} {M' : Mem}  (x1 x2 x3 : Int32) (M : Mem) (hF : f_X11_season_0 x1 x2 x3 M = some (R, M')) : RunF l D cy ad none YX11_season 406 0 0 (some (.int R)) (lay X M') 0 0 0 [(0, .ref 174), (1, .int x1), (2, .int x2), (3, .int x3)] [] (lay X M) := by
  unfold f_X11_season_0 at hF
  refine g_aload_n (Y := YX11_season) (pc := 0) 0 dX11_season_0 rfl ?_
  refine g_iconst (Y := YX11_season) (pc := 1) dX11_season_1 kI_0 ?_
  refine u_putI (Y := YX11_season) (pc := 2) dX11_season_2 fl_X11_99  k_174 ?_
  refine g_nmM (fun M1 e => ?_)
  replace hF := ml_to e hF; clear e
  refine g_aload_n (Y := YX11_season) (pc := 5) 0 dX11_season_5 rfl ?_
  refine g_iload_n (Y := YX11_season) (pc := 6) 1 dX11_season_6 rfl ?_
  obtain ⟨r2, M3, e4, hF⟩ := bd_some hF
  refine s_callVi (Y := YX11_season) (pc := 7) (as := [.int x1]) (st := []) (r_X11_canOrder  e4) miX11_canOrder lk_X11_350 dX11_season_7 k_174 rfl (Nat.le_of_ble_eq_true rfl) (Nat.le_of_ble_eq_true rfl) rfl ?_
  clear e4
  refine g_if_eq (Y := YX11_season) (pc := 10) (tgt := 23) dX11_season_10 rfl (fun c5 => ?_) (fun c5 => ?_)
  · replace hF := if_t c5 hF
    refine g_loc [] rfl ?_
    exact w_X11_season_23  _ hF
  · replace hF := if_f c5 hF
    refine g_iload_n (Y := YX11_season) (pc := 13) 3 dX11_season_13 rfl ?_
    refine g_iconst (Y := YX11_season) (pc := 14) dX11_season_14 kI_1 ?_
    refine g_bipush (Y := YX11_season) (pc := 15) dX11_season_15 kB_20 ?_
    obtain ⟨r6, M7, e8, hF⟩ := bd_some hF
    refine s_callSi (Y := YX11_season) (pc := 17) (as := [.int x3, .int 1, .int 20]) (st := []) (r_X11_in  e8) msX11_in lk_X11_109 dX11_season_17 rfl (Nat.le_of_ble_eq_true rfl) (Nat.le_of_ble_eq_true rfl) rfl ?_
    clear e8
    refine g_if_ne (Y := YX11_season) (pc := 20) (tgt := 25) dX11_season_20 rfl (fun c9 => ?_) (fun c9 => ?_)
    · replace hF := if_f c9 hF
      refine g_aload_n (Y := YX11_season) (pc := 25) 0 dX11_season_25 rfl ?_
      obtain ⟨r10, M11, e12, hF⟩ := bd_some hF
      refine s_callVv (Y := YX11_season) (pc := 26) (as := []) (st := []) (r_X11_layStays  e12) miX11_layStays lk_X11_271 dX11_season_26 k_174 rfl (Nat.le_of_ble_eq_true rfl) (Nat.le_of_ble_eq_true rfl) rfl ?_
      clear e12
      refine g_aload_n (Y := YX11_season) (pc := 29) 0 dX11_season_29 rfl ?_
      refine g_iload_n (Y := YX11_season) (pc := 30) 2 dX11_season_30 rfl ?_
      refine u_putI (Y := YX11_season) (pc := 31) dX11_season_31 fl_X11_417  k_174 ?_
      refine g_nmM (fun M13 e => ?_)
      replace hF := ml_to e hF; clear e
      refine g_iconst (Y := YX11_season) (pc := 34) dX11_season_34 kI_0 ?_
      refine g_istore (Y := YX11_season) (pc := 35) (L' := [(4, .int 0), (0, .ref 174), (1, .int x1), (2, .int x2), (3, .int x3)]) dX11_season_35 (Nat.le_of_ble_eq_true rfl) rfl ?_
      refine g_iconst (Y := YX11_season) (pc := 37) dX11_season_37 kI_m1 ?_
      refine g_istore (Y := YX11_season) (pc := 38) (L' := [(5, .int (-1)), (4, .int 0), (0, .ref 174), (1, .int x1), (2, .int x2), (3, .int x3)]) dX11_season_38 (Nat.le_of_ble_eq_true rfl) rfl ?_
      refine g_iconst (Y := YX11_season) (pc := 40) dX11_season_40 kI_m1 ?_
      refine g_istore (Y := YX11_season) (pc := 41) (L' := [(6, .int (-1)), (5, .int (-1)), (4, .int 0), (0, .ref 174), (1, .int x1), (2, .int x2), (3, .int x3)]) dX11_season_41 (Nat.le_of_ble_eq_true rfl) rfl ?_
      refine g_iconst (Y := YX11_season) (pc := 43) dX11_season_43 kI_m1 ?_
      refine g_istore (Y := YX11_season) (pc := 44) (L' := [(7, .int (-1)), (6, .int (-1)), (5, .int (-1)), (4, .int 0), (0, .ref 174), (1, .int x1), (2, .int x2), (3, .int x3)]) dX11_season_44 (Nat.le_of_ble_eq_true rfl) rfl ?_
      refine g_iconst (Y := YX11_season) (pc := 46) dX11_season_46 kI_0 ?_
      refine g_istore (Y := YX11_season) (pc := 47) (L' := [(8, .int 0), (7, .int (-1)), (6, .int (-1)), (5, .int (-1)), (4, .int 0), (0, .ref 174), (1, .int x1), (2, .int x2), (3, .int x3)]) dX11_season_47 (Nat.le_of_ble_eq_true rfl) rfl ?_
      refine g_loc [5, 6, 8, 4, 3, 2, 1, 0] rfl ?_
      exact w_X11_season_49  _ _ _ _ _ _ _ _ _ hF
    · replace hF := if_t c9 hF
      refine g_loc [] rfl ?_
      exact w_X11_season_23  _ hF
def f_X11_season (x1 : Int32) (x2 : Int32) (x3 : Int32) (M : Mem) : Option (Int32 × Mem) := f_X11_season_0 x1 x2 x3 M
theorem r_X11_season {x1 x2 x3 R : Int32} {M M' : Mem}  (hF : f_X11_season x1 x2 x3 M = some (R, M')) : RunS l D cy ad YX11_season 406 [.ref 174, .int x1, .int x2, .int x3] X M (some (.int R)) M' := Run.of 3 (miX11_season).1 (Nat.le_of_ble_eq_true rfl) (w_X11_season_0  _ _ _ _ hF)
def f_X11_keep_0  (x1 : Int32) (M : Mem) : Option (Int32 × Mem) :=
  ml (up M 174 14 0) fun M1 =>
  bd (f_X11_in x1 0 1 M1) fun r2 M3 =>
  if r2 = 0 then
    some (0, M3)
  else
    gd (0 ≤ x1 ∧ x1.toNatClampNeg < 2) <|
    ml (up M3 202 x1.toNatClampNeg (vp_nar .boolean 1)) fun M7 =>
    gd (0 ≤ x1 ∧ x1.toNatClampNeg < 2) <|
    ml (up M7 203 x1.toNatClampNeg (M7 174 57)) fun M9 =>
    bd (f_X11_lay 175 201 (25 * x1) M9) fun _ M11 =>
    some (1, M11)
set_option maxRecDepth 100000 in
theorem w_X11_keep_0 {R : Int32} {M' : Mem}  (x1 : Int32) (M : Mem) (hF : f_X11_keep_0 x1 M = some (R, M')) : RunF l D cy ad none YX11_keep 1 0 0 (some (.int R)) (lay X M') 0 0 0 [(0, .ref 174), (1, .int x1)] [] (lay X M) := by
  unfold f_X11_keep_0 at hF
  refine g_aload_n (Y := YX11_keep) (pc := 0) 0 dX11_keep_0 rfl ?_
  refine g_iconst (Y := YX11_keep) (pc := 1) dX11_keep_1 kI_0 ?_
  refine u_putI (Y := YX11_keep) (pc := 2) dX11_keep_2 fl_X11_99  k_174 ?_
  refine g_nmM (fun M1 e => ?_)
  replace hF := ml_to e hF; clear e
  refine g_iload_n (Y := YX11_keep) (pc := 5) 1 dX11_keep_5 rfl ?_
  refine g_iconst (Y := YX11_keep) (pc := 6) dX11_keep_6 kI_0 ?_
  refine g_iconst (Y := YX11_keep) (pc := 7) dX11_keep_7 kI_1 ?_
  obtain ⟨r2, M3, e4, hF⟩ := bd_some hF
  refine s_callSi (Y := YX11_keep) (pc := 8) (as := [.int x1, .int 0, .int 1]) (st := []) (r_X11_in  e4) msX11_in lk_X11_109 dX11_keep_8 rfl (Nat.le_of_ble_eq_true rfl) (Nat.le_of_ble_eq_true rfl) rfl ?_
  clear e4
  refine g_if_ne (Y := YX11_keep) (pc := 11) (tgt := 16) dX11_keep_11 rfl (fun c5 => ?_) (fun c5 => ?_)
  · replace hF := if_f c5 hF
    refine g_aload_n (Y := YX11_keep) (pc := 16) 0 dX11_keep_16 rfl ?_
    refine u_getR (Y := YX11_keep) (pc := 17) (j := 202) dX11_keep_17 fl_X11_93 k_174 rf_174_59 ?_
    refine g_iload_n (Y := YX11_keep) (pc := 20) 1 dX11_keep_20 rfl ?_
    refine g_iconst (Y := YX11_keep) (pc := 21) dX11_keep_21 kI_1 ?_
    obtain ⟨g6, hF⟩ := gd_some hF
    refine s_zast (Y := YX11_keep) (pc := 22) dX11_keep_22 k_202 n_202 g6 ?_
    refine g_nmM (fun M7 e => ?_)
    replace hF := ml_to e hF; clear e
    refine g_aload_n (Y := YX11_keep) (pc := 23) 0 dX11_keep_23 rfl ?_
    refine u_getR (Y := YX11_keep) (pc := 24) (j := 203) dX11_keep_24 fl_X11_96 k_174 rf_174_60 ?_
    refine g_iload_n (Y := YX11_keep) (pc := 27) 1 dX11_keep_27 rfl ?_
    refine g_aload_n (Y := YX11_keep) (pc := 28) 0 dX11_keep_28 rfl ?_
    refine u_getI (Y := YX11_keep) (pc := 29) dX11_keep_29 fl_X11_178 k_174 ?_
    obtain ⟨g8, hF⟩ := gd_some hF
    refine s_iast (Y := YX11_keep) (pc := 32) dX11_keep_32 k_203 n_203 g8 ?_
    refine g_nmM (fun M9 e => ?_)
    replace hF := ml_to e hF; clear e
    refine g_aload_n (Y := YX11_keep) (pc := 33) 0 dX11_keep_33 rfl ?_
    refine u_getR (Y := YX11_keep) (pc := 34) (j := 175) dX11_keep_34 fl_X11_9 k_174 rf_174_0 ?_
    refine g_aload_n (Y := YX11_keep) (pc := 37) 0 dX11_keep_37 rfl ?_
    refine u_getR (Y := YX11_keep) (pc := 38) (j := 201) dX11_keep_38 fl_X11_90 k_174 rf_174_58 ?_
    refine g_bipush (Y := YX11_keep) (pc := 41) dX11_keep_41 kB_25 ?_
    refine g_iload_n (Y := YX11_keep) (pc := 43) 1 dX11_keep_43 rfl ?_
    refine g_imul (Y := YX11_keep) (pc := 44) dX11_keep_44 ?_
    obtain ⟨r10, M11, e12, hF⟩ := bd_some hF
    refine s_callSv (Y := YX11_keep) (pc := 45) (as := [.ref 175, .ref 201, .int (25 * x1)]) (st := []) (r_X11_lay k_175 k_201 e12) msX11_lay lk_X11_242 dX11_keep_45 rfl (Nat.le_of_ble_eq_true rfl) (Nat.le_of_ble_eq_true rfl) rfl ?_
    clear e12
    refine g_iconst (Y := YX11_keep) (pc := 48) dX11_keep_48 kI_1 ?_
    exact s_zret (Y := YX11_keep) (pc := 49) dX11_keep_49 rfl (Or.inr rfl) hF
  · replace hF := if_t c5 hF
    refine g_iconst (Y := YX11_keep) (pc := 14) dX11_keep_14 kI_0 ?_
    exact s_zret (Y := YX11_keep) (pc := 15) dX11_keep_15 rfl (Or.inl rfl) hF
def f_X11_keep (x1 : Int32) (M : Mem) : Option (Int32 × Mem) := f_X11_keep_0 x1 M
theorem r_X11_keep {x1 R : Int32} {M M' : Mem}  (hF : f_X11_keep x1 M = some (R, M')) : RunS l D cy ad YX11_keep 1 [.ref 174, .int x1] X M (some (.int R)) M' := Run.of 1 (miX11_keep).1 (Nat.le_of_ble_eq_true rfl) (w_X11_keep_0  _ _ hF)
def f_X11_again_36  (M : Mem) : Option (Int32 × Mem) :=
  some (0, M)
set_option maxRecDepth 100000 in
theorem w_X11_again_36 {R : Int32} {M' : Mem}  (M : Mem) (hF : f_X11_again_36  M = some (R, M')) : RunF l D cy ad none YX11_again 1 0 0 (some (.int R)) (lay X M') 0 0 36 [] [] (lay X M) := by
  unfold f_X11_again_36 at hF
  refine g_iconst (Y := YX11_again) (pc := 36) dX11_again_36 kI_0 ?_
  exact s_zret (Y := YX11_again) (pc := 37) dX11_again_37 rfl (Or.inl rfl) hF
def f_X11_again_40  : Nat → Int32 → Int32 → Mem → Option (Int32 × Mem)
  | 0, _, _, _ => none
  | n + 1, x1, x2, M =>
    if x2 < 25 then
      gd (0 ≤ ((25 * x1) + x2) ∧ ((25 * x1) + x2).toNatClampNeg < 50) <|
      gd (0 ≤ x2 ∧ x2.toNatClampNeg < 25) <|
      ml (up M 175 x2.toNatClampNeg (M 201 ((25 * x1) + x2).toNatClampNeg)) fun M14 =>
      vl (x2 + 1) fun v15 =>
      f_X11_again_40 n x1 v15 M14
    else
      ml (up M 174 28 0) fun M11 =>
      some (1, M11)
set_option maxRecDepth 100000 in
theorem w_X11_again_40 {R : Int32} {M' : Mem}  : ∀ (n : Nat) (x1 x2 : Int32) (M : Mem), f_X11_again_40 n x1 x2 M = some (R, M') → RunF l D cy ad none YX11_again 1 0 0 (some (.int R)) (lay X M') 0 0 40 [(0, .ref 174), (1, .int x1), (2, .int x2)] [] (lay X M) := by
  intro n
  induction n with
  | zero => intro x1 x2 M hF; exact absurd hF (by unfold f_X11_again_40; exact fun h => nomatch h)
  | succ n ih =>
    intro x1 x2 M hF
    unfold f_X11_again_40 at hF
    refine g_iload_n (Y := YX11_again) (pc := 40) 2 dX11_again_40 rfl ?_
    refine g_bipush (Y := YX11_again) (pc := 41) dX11_again_41 kB_25 ?_
    refine g_icmp_ge (Y := YX11_again) (pc := 43) (tgt := 69) dX11_again_43 rfl (fun c10 => ?_) (fun c10 => ?_)
    · replace hF := if_f c10 hF
      refine g_aload_n (Y := YX11_again) (pc := 69) 0 dX11_again_69 rfl ?_
      refine g_iconst (Y := YX11_again) (pc := 70) dX11_again_70 kI_0 ?_
      refine u_putI (Y := YX11_again) (pc := 71) dX11_again_71 fl_X11_153  k_174 ?_
      refine g_nmM (fun M11 e => ?_)
      replace hF := ml_to e hF; clear e
      refine g_iconst (Y := YX11_again) (pc := 74) dX11_again_74 kI_1 ?_
      exact s_zret (Y := YX11_again) (pc := 75) dX11_again_75 rfl (Or.inr rfl) hF
    · replace hF := if_t c10 hF
      refine g_aload_n (Y := YX11_again) (pc := 46) 0 dX11_again_46 rfl ?_
      refine u_getR (Y := YX11_again) (pc := 47) (j := 175) dX11_again_47 fl_X11_9 k_174 rf_174_0 ?_
      refine g_iload_n (Y := YX11_again) (pc := 50) 2 dX11_again_50 rfl ?_
      refine g_aload_n (Y := YX11_again) (pc := 51) 0 dX11_again_51 rfl ?_
      refine u_getR (Y := YX11_again) (pc := 52) (j := 201) dX11_again_52 fl_X11_90 k_174 rf_174_58 ?_
      refine g_bipush (Y := YX11_again) (pc := 55) dX11_again_55 kB_25 ?_
      refine g_iload_n (Y := YX11_again) (pc := 57) 1 dX11_again_57 rfl ?_
      refine g_imul (Y := YX11_again) (pc := 58) dX11_again_58 ?_
      refine g_iload_n (Y := YX11_again) (pc := 59) 2 dX11_again_59 rfl ?_
      refine g_iadd (Y := YX11_again) (pc := 60) dX11_again_60 ?_
      obtain ⟨g12, hF⟩ := gd_some hF
      refine s_iald (Y := YX11_again) (pc := 61) dX11_again_61 k_201 n_201 g12 ?_
      obtain ⟨g13, hF⟩ := gd_some hF
      refine s_iast (Y := YX11_again) (pc := 62) dX11_again_62 k_175 n_175 g13 ?_
      refine g_nmM (fun M14 e => ?_)
      replace hF := ml_to e hF; clear e
      refine s_iinc (Y := YX11_again) (pc := 63) (j := 2) (L' := fun y => [(2, .int y), (0, .ref 174), (1, .int x1)]) dX11_again_63 kI_1 rfl (Nat.le_of_ble_eq_true rfl) (fun _ => rfl) (fun v15 e => ?_)
      replace hF := vl_to e hF; clear e
      refine g_goto (Y := YX11_again) (pc := 66) (tgt := 40) dX11_again_66 rfl ?_
      refine g_loc [1, 2, 0] rfl ?_
      exact ih _ _ _ hF
def f_X11_again_0  (x1 : Int32) (M : Mem) : Option (Int32 × Mem) :=
  ml (up M 174 14 0) fun M1 =>
  bd (f_X11_in x1 0 1 M1) fun r2 M3 =>
  if r2 = 0 then
    f_X11_again_36 M3
  else
    gd (0 ≤ x1 ∧ x1.toNatClampNeg < 2) <|
    if (M3 202 x1.toNatClampNeg) = 0 then
      f_X11_again_36 M3
    else
      gd (0 ≤ x1 ∧ x1.toNatClampNeg < 2) <|
      if (M3 203 x1.toNatClampNeg) = (M3 174 57) then
        f_X11_again_40 FU x1 0 M3
      else
        f_X11_again_36 M3
set_option maxRecDepth 100000 in
theorem w_X11_again_0 {R : Int32} {M' : Mem}  (x1 : Int32) (M : Mem) (hF : f_X11_again_0 x1 M = some (R, M')) : RunF l D cy ad none YX11_again 1 0 0 (some (.int R)) (lay X M') 0 0 0 [(0, .ref 174), (1, .int x1)] [] (lay X M) := by
  unfold f_X11_again_0 at hF
  refine g_aload_n (Y := YX11_again) (pc := 0) 0 dX11_again_0 rfl ?_
  refine g_iconst (Y := YX11_again) (pc := 1) dX11_again_1 kI_0 ?_
  refine u_putI (Y := YX11_again) (pc := 2) dX11_again_2 fl_X11_99  k_174 ?_
  refine g_nmM (fun M1 e => ?_)
  replace hF := ml_to e hF; clear e
  refine g_iload_n (Y := YX11_again) (pc := 5) 1 dX11_again_5 rfl ?_
  refine g_iconst (Y := YX11_again) (pc := 6) dX11_again_6 kI_0 ?_
  refine g_iconst (Y := YX11_again) (pc := 7) dX11_again_7 kI_1 ?_
  obtain ⟨r2, M3, e4, hF⟩ := bd_some hF
  refine s_callSi (Y := YX11_again) (pc := 8) (as := [.int x1, .int 0, .int 1]) (st := []) (r_X11_in  e4) msX11_in lk_X11_109 dX11_again_8 rfl (Nat.le_of_ble_eq_true rfl) (Nat.le_of_ble_eq_true rfl) rfl ?_
  clear e4
  refine g_if_eq (Y := YX11_again) (pc := 11) (tgt := 36) dX11_again_11 rfl (fun c5 => ?_) (fun c5 => ?_)
  · replace hF := if_t c5 hF
    refine g_loc [] rfl ?_
    exact w_X11_again_36  _ hF
  · replace hF := if_f c5 hF
    refine g_aload_n (Y := YX11_again) (pc := 14) 0 dX11_again_14 rfl ?_
    refine u_getR (Y := YX11_again) (pc := 15) (j := 202) dX11_again_15 fl_X11_93 k_174 rf_174_59 ?_
    refine g_iload_n (Y := YX11_again) (pc := 18) 1 dX11_again_18 rfl ?_
    obtain ⟨g6, hF⟩ := gd_some hF
    refine s_zald (Y := YX11_again) (pc := 19) dX11_again_19 k_202 n_202 g6 ?_
    refine g_if_eq (Y := YX11_again) (pc := 20) (tgt := 36) dX11_again_20 rfl (fun c7 => ?_) (fun c7 => ?_)
    · replace hF := if_t c7 hF
      refine g_loc [] rfl ?_
      exact w_X11_again_36  _ hF
    · replace hF := if_f c7 hF
      refine g_aload_n (Y := YX11_again) (pc := 23) 0 dX11_again_23 rfl ?_
      refine u_getR (Y := YX11_again) (pc := 24) (j := 203) dX11_again_24 fl_X11_96 k_174 rf_174_60 ?_
      refine g_iload_n (Y := YX11_again) (pc := 27) 1 dX11_again_27 rfl ?_
      obtain ⟨g8, hF⟩ := gd_some hF
      refine s_iald (Y := YX11_again) (pc := 28) dX11_again_28 k_203 n_203 g8 ?_
      refine g_aload_n (Y := YX11_again) (pc := 29) 0 dX11_again_29 rfl ?_
      refine u_getI (Y := YX11_again) (pc := 30) dX11_again_30 fl_X11_178 k_174 ?_
      refine g_icmp_eq (Y := YX11_again) (pc := 33) (tgt := 38) dX11_again_33 rfl (fun c9 => ?_) (fun c9 => ?_)
      · replace hF := if_t c9 hF
        refine g_iconst (Y := YX11_again) (pc := 38) dX11_again_38 kI_0 ?_
        refine g_istore_n (Y := YX11_again) (pc := 39) (L' := [(2, .int 0), (0, .ref 174), (1, .int x1)]) dX11_again_39 (Nat.le_of_ble_eq_true rfl) rfl ?_
        refine g_loc [1, 2, 0] rfl ?_
        exact w_X11_again_40  _ _ _ _ hF
      · replace hF := if_f c9 hF
        refine g_loc [] rfl ?_
        exact w_X11_again_36  _ hF
def f_X11_again (x1 : Int32) (M : Mem) : Option (Int32 × Mem) := f_X11_again_0 x1 M
theorem r_X11_again {x1 R : Int32} {M M' : Mem}  (hF : f_X11_again x1 M = some (R, M')) : RunS l D cy ad YX11_again 1 [.ref 174, .int x1] X M (some (.int R)) M' := Run.of 1 (miX11_again).1 (Nat.le_of_ble_eq_true rfl) (w_X11_again_0  _ _ hF)
def f_X11_count_123  : Nat → Int32 → Int32 → Mem → Option (Int32 × Mem)
  | 0, _, _, _ => none
  | n + 1, x2, x3, M =>
    if x3 < (M 174 3) then
      gd (0 ≤ (12 + x3) ∧ (12 + x3).toNatClampNeg < 25) <|
      vl ((x2 + (M 175 (12 + x3).toNatClampNeg))) fun v24 =>
      vl (x3 + 1) fun v25 =>
      f_X11_count_123 n v24 v25 M
    else
      some (x2, M)
set_option maxRecDepth 100000 in
theorem w_X11_count_123 {R : Int32} {M' : Mem}  : ∀ (n : Nat) (x2 x3 : Int32) (M : Mem), f_X11_count_123 n x2 x3 M = some (R, M') → RunF l D cy ad none YX11_count 2 0 0 (some (.int R)) (lay X M') 0 0 123 [(0, .ref 174), (2, .int x2), (3, .int x3)] [] (lay X M) := by
  intro n
  induction n with
  | zero => intro x2 x3 M hF; exact absurd hF (by unfold f_X11_count_123; exact fun h => nomatch h)
  | succ n ih =>
    intro x2 x3 M hF
    unfold f_X11_count_123 at hF
    refine g_iload_n (Y := YX11_count) (pc := 123) 2 dX11_count_123 rfl ?_
    refine g_aload_n (Y := YX11_count) (pc := 124) 0 dX11_count_124 rfl ?_
    refine u_getI (Y := YX11_count) (pc := 125) dX11_count_125 fl_X11_113 k_174 ?_
    refine g_icmp_ge (Y := YX11_count) (pc := 128) (tgt := 149) dX11_count_128 rfl (fun c22 => ?_) (fun c22 => ?_)
    · replace hF := if_f c22 hF
      refine g_iload_n (Y := YX11_count) (pc := 149) 1 dX11_count_149 rfl ?_
      exact s_iret (Y := YX11_count) (pc := 150) dX11_count_150 rfl hF
    · replace hF := if_t c22 hF
      refine g_iload_n (Y := YX11_count) (pc := 131) 1 dX11_count_131 rfl ?_
      refine g_aload_n (Y := YX11_count) (pc := 132) 0 dX11_count_132 rfl ?_
      refine u_getR (Y := YX11_count) (pc := 133) (j := 175) dX11_count_133 fl_X11_9 k_174 rf_174_0 ?_
      refine g_bipush (Y := YX11_count) (pc := 136) dX11_count_136 kB_12 ?_
      refine g_iload_n (Y := YX11_count) (pc := 138) 2 dX11_count_138 rfl ?_
      refine g_iadd (Y := YX11_count) (pc := 139) dX11_count_139 ?_
      obtain ⟨g23, hF⟩ := gd_some hF
      refine s_iald (Y := YX11_count) (pc := 140) dX11_count_140 k_175 n_175 g23 ?_
      refine g_iadd (Y := YX11_count) (pc := 141) dX11_count_141 ?_
      refine g_nm (fun v24 e => ?_)
      replace hF := vl_to e hF; clear e
      refine g_istore_n (Y := YX11_count) (pc := 142) (L' := [(2, .int v24), (0, .ref 174), (3, .int x3)]) dX11_count_142 (Nat.le_of_ble_eq_true rfl) rfl ?_
      refine s_iinc (Y := YX11_count) (pc := 143) (j := 2) (L' := fun y => [(3, .int y), (2, .int v24), (0, .ref 174)]) dX11_count_143 kI_1 rfl (Nat.le_of_ble_eq_true rfl) (fun _ => rfl) (fun v25 e => ?_)
      replace hF := vl_to e hF; clear e
      refine g_goto (Y := YX11_count) (pc := 146) (tgt := 123) dX11_count_146 rfl ?_
      refine g_loc [2, 1, 0] rfl ?_
      exact ih _ _ _ hF
def f_X11_count_0  (x1 : Int32) (M : Mem) : Option (Int32 × Mem) :=
  ml (up M 174 14 0) fun M1 =>
  if x1 = 0 then
    some ((M1 174 1), M1)
  else
    if x1 = 1 then
      some ((M1 174 3), M1)
    else
      if x1 = 2 then
        gd (0 ≤ (24 : Int32) ∧ (24 : Int32).toNatClampNeg < 25) <|
        some ((M1 175 (24 : Int32).toNatClampNeg), M1)
      else
        if x1 = 3 then
          bd (f_X11_everybody M1) fun r7 M8 =>
          bd (f_X11_inRoom 175 (-1) M8) fun r10 M11 =>
          some ((r7 &&& r10), M11)
        else
          if x1 = 4 then
            bd (f_X11_inside 175 M1) fun r14 M15 =>
            some (r14, M15)
          else
            if x1 = 5 then
              bd (f_X11_inRoom 175 9 M1) fun r18 M19 =>
              some (r18, M19)
            else
              if x1 = 6 then
                f_X11_count_123 FU 0 0 M1
              else
                if x1 = 7 then
                  some ((M1 174 52), M1)
                else
                  if x1 = 8 then
                    some ((M1 174 28), M1)
                  else
                    if x1 = 9 then
                      some ((M1 174 13), M1)
                    else
                      if x1 = 10 then
                        some ((M1 174 11), M1)
                      else
                        some ((-1), M1)
set_option maxRecDepth 100000 in
theorem w_X11_count_0 {R : Int32} {M' : Mem}  (x1 : Int32) (M : Mem) (hF : f_X11_count_0 x1 M = some (R, M')) : RunF l D cy ad none YX11_count 2 0 0 (some (.int R)) (lay X M') 0 0 0 [(0, .ref 174), (1, .int x1)] [] (lay X M) := by
  unfold f_X11_count_0 at hF
  refine g_aload_n (Y := YX11_count) (pc := 0) 0 dX11_count_0 rfl ?_
  refine g_iconst (Y := YX11_count) (pc := 1) dX11_count_1 kI_0 ?_
  refine u_putI (Y := YX11_count) (pc := 2) dX11_count_2 fl_X11_99  k_174 ?_
  refine g_nmM (fun M1 e => ?_)
  replace hF := ml_to e hF; clear e
  refine g_iconst (Y := YX11_count) (pc := 5) dX11_count_5 kI_0 ?_
  refine g_istore_n (Y := YX11_count) (pc := 6) (L' := [(2, .int 0), (0, .ref 174), (1, .int x1)]) dX11_count_6 (Nat.le_of_ble_eq_true rfl) rfl ?_
  refine g_iload_n (Y := YX11_count) (pc := 7) 2 dX11_count_7 rfl ?_
  by_cases c2 : x1 = 0
  · replace hF := if_t c2 hF
    refine g_tableIn (Y := YX11_count) (pc := 8) (tgt := 68) dX11_count_8 (by rw [c2]; decide) (by rw [c2]; decide) (off := 60) (by rw [c2]; decide) (by decide) ?_
    refine g_aload_n (Y := YX11_count) (pc := 68) 1 dX11_count_68 rfl ?_
    refine u_getI (Y := YX11_count) (pc := 69) dX11_count_69 fl_X11_106 k_174 ?_
    exact s_iret (Y := YX11_count) (pc := 72) dX11_count_72 rfl hF
  replace hF := if_f c2 hF
  by_cases c3 : x1 = 1
  · replace hF := if_t c3 hF
    refine g_tableIn (Y := YX11_count) (pc := 8) (tgt := 73) dX11_count_8 (by rw [c3]; decide) (by rw [c3]; decide) (off := 65) (by rw [c3]; decide) (by decide) ?_
    refine g_aload_n (Y := YX11_count) (pc := 73) 1 dX11_count_73 rfl ?_
    refine u_getI (Y := YX11_count) (pc := 74) dX11_count_74 fl_X11_113 k_174 ?_
    exact s_iret (Y := YX11_count) (pc := 77) dX11_count_77 rfl hF
  replace hF := if_f c3 hF
  by_cases c4 : x1 = 2
  · replace hF := if_t c4 hF
    refine g_tableIn (Y := YX11_count) (pc := 8) (tgt := 78) dX11_count_8 (by rw [c4]; decide) (by rw [c4]; decide) (off := 70) (by rw [c4]; decide) (by decide) ?_
    refine g_aload_n (Y := YX11_count) (pc := 78) 1 dX11_count_78 rfl ?_
    refine u_getR (Y := YX11_count) (pc := 79) (j := 175) dX11_count_79 fl_X11_9 k_174 rf_174_0 ?_
    refine g_bipush (Y := YX11_count) (pc := 82) dX11_count_82 kB_24 ?_
    obtain ⟨g5, hF⟩ := gd_some hF
    refine s_iald (Y := YX11_count) (pc := 84) dX11_count_84 k_175 n_175 g5 ?_
    exact s_iret (Y := YX11_count) (pc := 85) dX11_count_85 rfl hF
  replace hF := if_f c4 hF
  by_cases c6 : x1 = 3
  · replace hF := if_t c6 hF
    refine g_tableIn (Y := YX11_count) (pc := 8) (tgt := 86) dX11_count_8 (by rw [c6]; decide) (by rw [c6]; decide) (off := 78) (by rw [c6]; decide) (by decide) ?_
    refine g_aload_n (Y := YX11_count) (pc := 86) 1 dX11_count_86 rfl ?_
    obtain ⟨r7, M8, e9, hF⟩ := bd_some hF
    refine s_callVi (Y := YX11_count) (pc := 87) (as := []) (st := []) (r_X11_everybody  e9) miX11_everybody lk_X11_331 dX11_count_87 k_174 rfl (Nat.le_of_ble_eq_true rfl) (Nat.le_of_ble_eq_true rfl) rfl ?_
    clear e9
    refine g_aload_n (Y := YX11_count) (pc := 90) 1 dX11_count_90 rfl ?_
    refine g_aload_n (Y := YX11_count) (pc := 91) 1 dX11_count_91 rfl ?_
    refine u_getR (Y := YX11_count) (pc := 92) (j := 175) dX11_count_92 fl_X11_9 k_174 rf_174_0 ?_
    refine g_iconst (Y := YX11_count) (pc := 95) dX11_count_95 kI_m1 ?_
    obtain ⟨r10, M11, e12, hF⟩ := bd_some hF
    refine s_callVi (Y := YX11_count) (pc := 96) (as := [.ref 175, .int (-1)]) (st := [.int r7]) (r_X11_inRoom k_175 e12) miX11_inRoom lk_X11_238 dX11_count_96 k_174 rfl (Nat.le_of_ble_eq_true rfl) (Nat.le_of_ble_eq_true rfl) rfl ?_
    clear e12
    refine g_iand (Y := YX11_count) (pc := 99) dX11_count_99 ?_
    exact s_iret (Y := YX11_count) (pc := 100) dX11_count_100 rfl hF
  replace hF := if_f c6 hF
  by_cases c13 : x1 = 4
  · replace hF := if_t c13 hF
    refine g_tableIn (Y := YX11_count) (pc := 8) (tgt := 101) dX11_count_8 (by rw [c13]; decide) (by rw [c13]; decide) (off := 93) (by rw [c13]; decide) (by decide) ?_
    refine g_aload_n (Y := YX11_count) (pc := 101) 1 dX11_count_101 rfl ?_
    refine g_aload_n (Y := YX11_count) (pc := 102) 1 dX11_count_102 rfl ?_
    refine u_getR (Y := YX11_count) (pc := 103) (j := 175) dX11_count_103 fl_X11_9 k_174 rf_174_0 ?_
    obtain ⟨r14, M15, e16, hF⟩ := bd_some hF
    refine s_callVi (Y := YX11_count) (pc := 106) (as := [.ref 175]) (st := []) (r_X11_inside k_175 e16) miX11_inside lk_X11_282 dX11_count_106 k_174 rfl (Nat.le_of_ble_eq_true rfl) (Nat.le_of_ble_eq_true rfl) rfl ?_
    clear e16
    exact s_iret (Y := YX11_count) (pc := 109) dX11_count_109 rfl hF
  replace hF := if_f c13 hF
  by_cases c17 : x1 = 5
  · replace hF := if_t c17 hF
    refine g_tableIn (Y := YX11_count) (pc := 8) (tgt := 110) dX11_count_8 (by rw [c17]; decide) (by rw [c17]; decide) (off := 102) (by rw [c17]; decide) (by decide) ?_
    refine g_aload_n (Y := YX11_count) (pc := 110) 1 dX11_count_110 rfl ?_
    refine g_aload_n (Y := YX11_count) (pc := 111) 1 dX11_count_111 rfl ?_
    refine u_getR (Y := YX11_count) (pc := 112) (j := 175) dX11_count_112 fl_X11_9 k_174 rf_174_0 ?_
    refine g_bipush (Y := YX11_count) (pc := 115) dX11_count_115 kB_9 ?_
    obtain ⟨r18, M19, e20, hF⟩ := bd_some hF
    refine s_callVi (Y := YX11_count) (pc := 117) (as := [.ref 175, .int 9]) (st := []) (r_X11_inRoom k_175 e20) miX11_inRoom lk_X11_238 dX11_count_117 k_174 rfl (Nat.le_of_ble_eq_true rfl) (Nat.le_of_ble_eq_true rfl) rfl ?_
    clear e20
    exact s_iret (Y := YX11_count) (pc := 120) dX11_count_120 rfl hF
  replace hF := if_f c17 hF
  by_cases c21 : x1 = 6
  · replace hF := if_t c21 hF
    refine g_tableIn (Y := YX11_count) (pc := 8) (tgt := 121) dX11_count_8 (by rw [c21]; decide) (by rw [c21]; decide) (off := 113) (by rw [c21]; decide) (by decide) ?_
    refine g_iconst (Y := YX11_count) (pc := 121) dX11_count_121 kI_0 ?_
    refine g_istore_n (Y := YX11_count) (pc := 122) (L' := [(3, .int 0), (2, .int 0), (0, .ref 174), (1, .int x1)]) dX11_count_122 (Nat.le_of_ble_eq_true rfl) rfl ?_
    refine g_loc [2, 1, 0] rfl ?_
    exact w_X11_count_123  _ _ _ _ hF
  replace hF := if_f c21 hF
  by_cases c26 : x1 = 7
  · replace hF := if_t c26 hF
    refine g_tableIn (Y := YX11_count) (pc := 8) (tgt := 151) dX11_count_8 (by rw [c26]; decide) (by rw [c26]; decide) (off := 143) (by rw [c26]; decide) (by decide) ?_
    refine g_aload_n (Y := YX11_count) (pc := 151) 1 dX11_count_151 rfl ?_
    refine u_getI (Y := YX11_count) (pc := 152) dX11_count_152 fl_X11_150 k_174 ?_
    exact s_iret (Y := YX11_count) (pc := 155) dX11_count_155 rfl hF
  replace hF := if_f c26 hF
  by_cases c27 : x1 = 8
  · replace hF := if_t c27 hF
    refine g_tableIn (Y := YX11_count) (pc := 8) (tgt := 156) dX11_count_8 (by rw [c27]; decide) (by rw [c27]; decide) (off := 148) (by rw [c27]; decide) (by decide) ?_
    refine g_aload_n (Y := YX11_count) (pc := 156) 1 dX11_count_156 rfl ?_
    refine u_getI (Y := YX11_count) (pc := 157) dX11_count_157 fl_X11_153 k_174 ?_
    exact s_iret (Y := YX11_count) (pc := 160) dX11_count_160 rfl hF
  replace hF := if_f c27 hF
  by_cases c28 : x1 = 9
  · replace hF := if_t c28 hF
    refine g_tableIn (Y := YX11_count) (pc := 8) (tgt := 161) dX11_count_8 (by rw [c28]; decide) (by rw [c28]; decide) (off := 153) (by rw [c28]; decide) (by decide) ?_
    refine g_aload_n (Y := YX11_count) (pc := 161) 1 dX11_count_161 rfl ?_
    refine u_getI (Y := YX11_count) (pc := 162) dX11_count_162 fl_X11_103 k_174 ?_
    exact s_iret (Y := YX11_count) (pc := 165) dX11_count_165 rfl hF
  replace hF := if_f c28 hF
  by_cases c29 : x1 = 10
  · replace hF := if_t c29 hF
    refine g_tableIn (Y := YX11_count) (pc := 8) (tgt := 166) dX11_count_8 (by rw [c29]; decide) (by rw [c29]; decide) (off := 158) (by rw [c29]; decide) (by decide) ?_
    refine g_aload_n (Y := YX11_count) (pc := 166) 1 dX11_count_166 rfl ?_
    refine u_getI (Y := YX11_count) (pc := 167) dX11_count_167 fl_X11_116 k_174 ?_
    exact s_iret (Y := YX11_count) (pc := 170) dX11_count_170 rfl hF
  replace hF := if_f c29 hF
  refine g_tableOut (Y := YX11_count) (pc := 8) (tgt := 171) dX11_count_8 (tb_out (lo := 0) (hi := 10) (by decide) (fun k h8 hk => by match k, h8, hk with | 0, _, _ => exact c2 | 1, _, _ => exact c3 | 2, _, _ => exact c4 | 3, _, _ => exact c6 | 4, _, _ => exact c13 | 5, _, _ => exact c17 | 6, _, _ => exact c21 | 7, _, _ => exact c26 | 8, _, _ => exact c27 | 9, _, _ => exact c28 | 10, _, _ => exact c29 | k + 11, _, h9 => exact absurd h9 (by omega))) (by decide) ?_
  refine g_iconst (Y := YX11_count) (pc := 171) dX11_count_171 kI_m1 ?_
  exact s_iret (Y := YX11_count) (pc := 172) dX11_count_172 rfl hF
def f_X11_count (x1 : Int32) (M : Mem) : Option (Int32 × Mem) := f_X11_count_0 x1 M
theorem r_X11_count {x1 R : Int32} {M M' : Mem}  (hF : f_X11_count x1 M = some (R, M')) : RunS l D cy ad YX11_count 2 [.ref 174, .int x1] X M (some (.int R)) M' := Run.of 1 (miX11_count).1 (Nat.le_of_ble_eq_true rfl) (w_X11_count_0  _ _ hF)
def f_X11_row_32  (t0 : Int32) (M : Mem) : Option (Int32 × Mem) :=
  some (t0, M)
set_option maxRecDepth 100000 in
theorem w_X11_row_32 {R : Int32} {M' : Mem}  (t0 : Int32) (M : Mem) (hF : f_X11_row_32 t0 M = some (R, M')) : RunF l D cy ad none YX11_row 1 0 0 (some (.int R)) (lay X M') 0 0 32 [] [.int t0] (lay X M) := by
  unfold f_X11_row_32 at hF
  exact s_iret (Y := YX11_row) (pc := 32) dX11_row_32 rfl hF
def f_X11_row_0  (x1 : Int32) (M : Mem) : Option (Int32 × Mem) :=
  ml (up M 174 14 0) fun M1 =>
  bd (f_X11_in x1 0 ((M1 174 13) - 1) M1) fun r2 M3 =>
  if r2 = 0 then
    bd (f_X11_lost M3) fun r6 M7 =>
    f_X11_row_32 r6 M7
  else
    gd (0 ≤ x1 ∧ x1.toNatClampNeg < 16) <|
    f_X11_row_32 (M3 184 x1.toNatClampNeg) M3
set_option maxRecDepth 100000 in
theorem w_X11_row_0 {R : Int32} {M' : Mem}  (x1 : Int32) (M : Mem) (hF : f_X11_row_0 x1 M = some (R, M')) : RunF l D cy ad none YX11_row 1 0 0 (some (.int R)) (lay X M') 0 0 0 [(0, .ref 174), (1, .int x1)] [] (lay X M) := by
  unfold f_X11_row_0 at hF
  refine g_aload_n (Y := YX11_row) (pc := 0) 0 dX11_row_0 rfl ?_
  refine g_iconst (Y := YX11_row) (pc := 1) dX11_row_1 kI_0 ?_
  refine u_putI (Y := YX11_row) (pc := 2) dX11_row_2 fl_X11_99  k_174 ?_
  refine g_nmM (fun M1 e => ?_)
  replace hF := ml_to e hF; clear e
  refine g_iload_n (Y := YX11_row) (pc := 5) 1 dX11_row_5 rfl ?_
  refine g_iconst (Y := YX11_row) (pc := 6) dX11_row_6 kI_0 ?_
  refine g_aload_n (Y := YX11_row) (pc := 7) 0 dX11_row_7 rfl ?_
  refine u_getI (Y := YX11_row) (pc := 8) dX11_row_8 fl_X11_103 k_174 ?_
  refine g_iconst (Y := YX11_row) (pc := 11) dX11_row_11 kI_1 ?_
  refine g_isub (Y := YX11_row) (pc := 12) dX11_row_12 ?_
  obtain ⟨r2, M3, e4, hF⟩ := bd_some hF
  refine s_callSi (Y := YX11_row) (pc := 13) (as := [.int x1, .int 0, .int ((M1 174 13) - 1)]) (st := []) (r_X11_in  e4) msX11_in lk_X11_109 dX11_row_13 rfl (Nat.le_of_ble_eq_true rfl) (Nat.le_of_ble_eq_true rfl) rfl ?_
  clear e4
  refine g_if_eq (Y := YX11_row) (pc := 16) (tgt := 28) dX11_row_16 rfl (fun c5 => ?_) (fun c5 => ?_)
  · replace hF := if_t c5 hF
    refine g_aload_n (Y := YX11_row) (pc := 28) 0 dX11_row_28 rfl ?_
    obtain ⟨r6, M7, e8, hF⟩ := bd_some hF
    refine s_callVi (Y := YX11_row) (pc := 29) (as := []) (st := []) (r_X11_lost  e8) miX11_lost lk_X11_232 dX11_row_29 k_174 rfl (Nat.le_of_ble_eq_true rfl) (Nat.le_of_ble_eq_true rfl) rfl ?_
    clear e8
    refine g_loc [] rfl ?_
    exact w_X11_row_32  _ _ hF
  · replace hF := if_f c5 hF
    refine g_aload_n (Y := YX11_row) (pc := 19) 0 dX11_row_19 rfl ?_
    refine u_getR (Y := YX11_row) (pc := 20) (j := 184) dX11_row_20 fl_X11_39 k_174 rf_174_12 ?_
    refine g_iload_n (Y := YX11_row) (pc := 23) 1 dX11_row_23 rfl ?_
    obtain ⟨g9, hF⟩ := gd_some hF
    refine s_iald (Y := YX11_row) (pc := 24) dX11_row_24 k_184 n_184 g9 ?_
    refine g_goto (Y := YX11_row) (pc := 25) (tgt := 32) dX11_row_25 rfl ?_
    refine g_loc [] rfl ?_
    exact w_X11_row_32  _ _ hF
def f_X11_row (x1 : Int32) (M : Mem) : Option (Int32 × Mem) := f_X11_row_0 x1 M
theorem r_X11_row {x1 R : Int32} {M M' : Mem}  (hF : f_X11_row x1 M = some (R, M')) : RunS l D cy ad YX11_row 1 [.ref 174, .int x1] X M (some (.int R)) M' := Run.of 1 (miX11_row).1 (Nat.le_of_ble_eq_true rfl) (w_X11_row_0  _ _ hF)
end NXG
