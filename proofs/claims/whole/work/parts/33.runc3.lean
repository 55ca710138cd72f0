theorem dX10_order_0 : decode cX10_order 0 = .ok (.aload_n 0, 1) := by decide +kernel
theorem dX10_order_1 : decode cX10_order 1 = .ok (.invokevirtual 285, 3) := by decide +kernel
theorem dX10_order_4 : decode cX10_order 4 = .ok (.istore_n 1, 1) := by decide +kernel
theorem dX10_order_5 : decode cX10_order 5 = .ok (.iload_n 1, 1) := by decide +kernel
theorem dX10_order_6 : decode cX10_order 6 = .ok (.iconst (-1), 1) := by decide +kernel
theorem dX10_order_7 : decode cX10_order 7 = .ok (.if_icmp .ne 14, 3) := by decide +kernel
theorem dX10_order_10 : decode cX10_order 10 = .ok (.aload_n 0, 1) := by decide +kernel
theorem dX10_order_11 : decode cX10_order 11 = .ok (.getfield 73, 3) := by decide +kernel
theorem dX10_order_14 : decode cX10_order 14 = .ok (.aload_n 0, 1) := by decide +kernel
theorem dX10_order_15 : decode cX10_order 15 = .ok (.getfield 10, 3) := by decide +kernel
theorem dX10_order_18 : decode cX10_order 18 = .ok (.invokevirtual 288, 3) := by decide +kernel
theorem dX10_order_21 : decode cX10_order 21 = .ok (.aload_n 0, 1) := by decide +kernel
theorem dX10_order_22 : decode cX10_order 22 = .ok (.getfield 10, 3) := by decide +kernel
theorem dX10_order_25 : decode cX10_order 25 = .ok (.iconst 0, 1) := by decide +kernel
theorem dX10_order_26 : decode cX10_order 26 = .ok (.putfield 120, 3) := by decide +kernel
theorem dX10_order_29 : decode cX10_order 29 = .ok (.iload_n 1, 1) := by decide +kernel
theorem dX10_order_30 : decode cX10_order 30 = .ok (.iconst (-1), 1) := by decide +kernel
theorem dX10_order_31 : decode cX10_order 31 = .ok (.if_icmp .eq 7, 3) := by decide +kernel
theorem dX10_order_34 : decode cX10_order 34 = .ok (.iconst (-1), 1) := by decide +kernel
theorem dX10_order_35 : decode cX10_order 35 = .ok (.iload_n 1, 1) := by decide +kernel
theorem dX10_order_36 : decode cX10_order 36 = .ok (.isub, 1) := by decide +kernel
theorem dX10_order_37 : decode cX10_order 37 = .ok (.ireturn, 1) := by decide +kernel
theorem dX10_order_38 : decode cX10_order 38 = .ok (.aload_n 0, 1) := by decide +kernel
theorem dX10_order_39 : decode cX10_order 39 = .ok (.getfield 73, 3) := by decide +kernel
theorem dX10_order_42 : decode cX10_order 42 = .ok (.invokevirtual 289, 3) := by decide +kernel
theorem dX10_order_45 : decode cX10_order 45 = .ok (.istore_n 2, 1) := by decide +kernel
theorem dX10_order_46 : decode cX10_order 46 = .ok (.aload_n 0, 1) := by decide +kernel
theorem dX10_order_47 : decode cX10_order 47 = .ok (.iload_n 2, 1) := by decide +kernel
theorem dX10_order_48 : decode cX10_order 48 = .ok (.invokevirtual 292, 3) := by decide +kernel
theorem dX10_order_51 : decode cX10_order 51 = .ok (.ifCond .ne 6, 3) := by decide +kernel
theorem dX10_order_54 : decode cX10_order 54 = .ok (.bipush (-100), 2) := by decide +kernel
theorem dX10_order_56 : decode cX10_order 56 = .ok (.ireturn, 1) := by decide +kernel
theorem dX10_order_57 : decode cX10_order 57 = .ok (.aload_n 0, 1) := by decide +kernel
theorem dX10_order_58 : decode cX10_order 58 = .ok (.getfield 85, 3) := by decide +kernel
theorem dX10_order_61 : decode cX10_order 61 = .ok (.aload_n 0, 1) := by decide +kernel
theorem dX10_order_62 : decode cX10_order 62 = .ok (.getfield 35, 3) := by decide +kernel
theorem dX10_order_65 : decode cX10_order 65 = .ok (.iconst 0, 1) := by decide +kernel
theorem dX10_order_66 : decode cX10_order 66 = .ok (.invokevirtual 295, 3) := by decide +kernel
theorem dX10_order_69 : decode cX10_order 69 = .ok (.aload_n 0, 1) := by decide +kernel
theorem dX10_order_70 : decode cX10_order 70 = .ok (.getfield 85, 3) := by decide +kernel
theorem dX10_order_73 : decode cX10_order 73 = .ok (.aload_n 0, 1) := by decide +kernel
theorem dX10_order_74 : decode cX10_order 74 = .ok (.getfield 73, 3) := by decide +kernel
theorem dX10_order_77 : decode cX10_order 77 = .ok (.iconst 0, 1) := by decide +kernel
theorem dX10_order_78 : decode cX10_order 78 = .ok (.sipush 400, 3) := by decide +kernel
theorem dX10_order_81 : decode cX10_order 81 = .ok (.invokevirtual 299, 3) := by decide +kernel
theorem dX10_order_84 : decode cX10_order 84 = .ok (.ifCond .ne 7, 3) := by decide +kernel
theorem dX10_order_87 : decode cX10_order 87 = .ok (.sipush (-200), 3) := by decide +kernel
theorem dX10_order_90 : decode cX10_order 90 = .ok (.ireturn, 1) := by decide +kernel
theorem dX10_order_91 : decode cX10_order 91 = .ok (.aload_n 0, 1) := by decide +kernel
theorem dX10_order_92 : decode cX10_order 92 = .ok (.invokevirtual 246, 3) := by decide +kernel
theorem dX10_order_95 : decode cX10_order 95 = .ok (.iconst 0, 1) := by decide +kernel
theorem dX10_order_96 : decode cX10_order 96 = .ok (.istore_n 3, 1) := by decide +kernel
theorem dX10_order_97 : decode cX10_order 97 = .ok (.iload_n 3, 1) := by decide +kernel
theorem dX10_order_98 : decode cX10_order 98 = .ok (.aload_n 0, 1) := by decide +kernel
theorem dX10_order_99 : decode cX10_order 99 = .ok (.getfield 73, 3) := by decide +kernel
theorem dX10_order_102 : decode cX10_order 102 = .ok (.getfield 303, 3) := by decide +kernel
theorem dX10_order_105 : decode cX10_order 105 = .ok (.if_icmp .ge 43, 3) := by decide +kernel
theorem dX10_order_108 : decode cX10_order 108 = .ok (.aload_n 0, 1) := by decide +kernel
theorem dX10_order_109 : decode cX10_order 109 = .ok (.aload_n 0, 1) := by decide +kernel
theorem dX10_order_110 : decode cX10_order 110 = .ok (.getfield 85, 3) := by decide +kernel
theorem dX10_order_113 : decode cX10_order 113 = .ok (.getfield 304, 3) := by decide +kernel
theorem dX10_order_116 : decode cX10_order 116 = .ok (.getfield 179, 3) := by decide +kernel
theorem dX10_order_119 : decode cX10_order 119 = .ok (.aload_n 0, 1) := by decide +kernel
theorem dX10_order_120 : decode cX10_order 120 = .ok (.getfield 73, 3) := by decide +kernel
theorem dX10_order_123 : decode cX10_order 123 = .ok (.getfield 307, 3) := by decide +kernel
theorem dX10_order_126 : decode cX10_order 126 = .ok (.iload_n 3, 1) := by decide +kernel
theorem dX10_order_127 : decode cX10_order 127 = .ok (.iaload, 1) := by decide +kernel
theorem dX10_order_128 : decode cX10_order 128 = .ok (.iaload, 1) := by decide +kernel
theorem dX10_order_129 : decode cX10_order 129 = .ok (.iconst 1, 1) := by decide +kernel
theorem dX10_order_130 : decode cX10_order 130 = .ok (.iadd, 1) := by decide +kernel
theorem dX10_order_131 : decode cX10_order 131 = .ok (.aload_n 0, 1) := by decide +kernel
theorem dX10_order_132 : decode cX10_order 132 = .ok (.getfield 35, 3) := by decide +kernel
theorem dX10_order_135 : decode cX10_order 135 = .ok (.getfield 237, 3) := by decide +kernel
theorem dX10_order_138 : decode cX10_order 138 = .ok (.isub, 1) := by decide +kernel
theorem dX10_order_139 : decode cX10_order 139 = .ok (.invokevirtual 252, 3) := by decide +kernel
theorem dX10_order_142 : decode cX10_order 142 = .ok (.iinc 3 1, 3) := by decide +kernel
theorem dX10_order_145 : decode cX10_order 145 = .ok (.goto (-48), 3) := by decide +kernel
theorem dX10_order_148 : decode cX10_order 148 = .ok (.aload_n 0, 1) := by decide +kernel
theorem dX10_order_149 : decode cX10_order 149 = .ok (.aload_n 0, 1) := by decide +kernel
theorem dX10_order_150 : decode cX10_order 150 = .ok (.getfield 85, 3) := by decide +kernel
theorem dX10_order_153 : decode cX10_order 153 = .ok (.getfield 304, 3) := by decide +kernel
theorem dX10_order_156 : decode cX10_order 156 = .ok (.iload_n 2, 1) := by decide +kernel
theorem dX10_order_157 : decode cX10_order 157 = .ok (.invokevirtual 259, 3) := by decide +kernel
theorem dX10_order_160 : decode cX10_order 160 = .ok (.invokevirtual 252, 3) := by decide +kernel
theorem dX10_order_163 : decode cX10_order 163 = .ok (.aload_n 0, 1) := by decide +kernel
theorem dX10_order_164 : decode cX10_order 164 = .ok (.getfield 85, 3) := by decide +kernel
theorem dX10_order_167 : decode cX10_order 167 = .ok (.invokevirtual 310, 3) := by decide +kernel
theorem dX10_order_170 : decode cX10_order 170 = .ok (.ireturn, 1) := by decide +kernel
theorem dX5_begin_0 : decode cX5_begin 0 = .ok (.aload_n 0, 1) := by decide +kernel
theorem dX5_begin_1 : decode cX5_begin 1 = .ok (.iconst 0, 1) := by decide +kernel
theorem dX5_begin_2 : decode cX5_begin 2 = .ok (.putfield 15, 3) := by decide +kernel
theorem dX5_begin_5 : decode cX5_begin 5 = .ok (.iconst 0, 1) := by decide +kernel
theorem dX5_begin_6 : decode cX5_begin 6 = .ok (.istore_n 2, 1) := by decide +kernel
theorem dX5_begin_7 : decode cX5_begin 7 = .ok (.iload_n 2, 1) := by decide +kernel
theorem dX5_begin_8 : decode cX5_begin 8 = .ok (.bipush 6, 2) := by decide +kernel
theorem dX5_begin_10 : decode cX5_begin 10 = .ok (.if_icmp .ge 37, 3) := by decide +kernel
theorem dX5_begin_13 : decode cX5_begin 13 = .ok (.iload_n 1, 1) := by decide +kernel
theorem dX5_begin_14 : decode cX5_begin 14 = .ok (.iload_n 2, 1) := by decide +kernel
theorem dX5_begin_15 : decode cX5_begin 15 = .ok (.invokestatic 25, 3) := by decide +kernel
theorem dX5_begin_18 : decode cX5_begin 18 = .ok (.ifCond .eq 23, 3) := by decide +kernel
theorem dX5_begin_21 : decode cX5_begin 21 = .ok (.aload_n 0, 1) := by decide +kernel
theorem dX5_begin_22 : decode cX5_begin 22 = .ok (.getfield 9, 3) := by decide +kernel
theorem dX5_begin_25 : decode cX5_begin 25 = .ok (.aload_n 0, 1) := by decide +kernel
theorem dX5_begin_26 : decode cX5_begin 26 = .ok (.getfield 15, 3) := by decide +kernel
theorem dX5_begin_29 : decode cX5_begin 29 = .ok (.iload_n 2, 1) := by decide +kernel
theorem dX5_begin_30 : decode cX5_begin 30 = .ok (.iastore, 1) := by decide +kernel
theorem dX5_begin_31 : decode cX5_begin 31 = .ok (.aload_n 0, 1) := by decide +kernel
theorem dX5_begin_32 : decode cX5_begin 32 = .ok (.dup, 1) := by decide +kernel
theorem dX5_begin_33 : decode cX5_begin 33 = .ok (.getfield 15, 3) := by decide +kernel
theorem dX5_begin_36 : decode cX5_begin 36 = .ok (.iconst 1, 1) := by decide +kernel
theorem dX5_begin_37 : decode cX5_begin 37 = .ok (.iadd, 1) := by decide +kernel
theorem dX5_begin_38 : decode cX5_begin 38 = .ok (.putfield 15, 3) := by decide +kernel
theorem dX5_begin_41 : decode cX5_begin 41 = .ok (.iinc 2 1, 3) := by decide +kernel
theorem dX5_begin_44 : decode cX5_begin 44 = .ok (.goto (-37), 3) := by decide +kernel
theorem dX5_begin_47 : decode cX5_begin 47 = .ok (.return_, 1) := by decide +kernel
theorem dX10_beginOrders_0 : decode cX10_beginOrders 0 = .ok (.aload_n 0, 1) := by decide +kernel
theorem dX10_beginOrders_1 : decode cX10_beginOrders 1 = .ok (.getfield 85, 3) := by decide +kernel
theorem dX10_beginOrders_4 : decode cX10_beginOrders 4 = .ok (.aload_n 0, 1) := by decide +kernel
theorem dX10_beginOrders_5 : decode cX10_beginOrders 5 = .ok (.getfield 35, 3) := by decide +kernel
theorem dX10_beginOrders_8 : decode cX10_beginOrders 8 = .ok (.iload_n 2, 1) := by decide +kernel
theorem dX10_beginOrders_9 : decode cX10_beginOrders 9 = .ok (.invokevirtual 295, 3) := by decide +kernel
theorem dX10_beginOrders_12 : decode cX10_beginOrders 12 = .ok (.aload_n 0, 1) := by decide +kernel
theorem dX10_beginOrders_13 : decode cX10_beginOrders 13 = .ok (.getfield 73, 3) := by decide +kernel
theorem dX10_beginOrders_16 : decode cX10_beginOrders 16 = .ok (.iload_n 1, 1) := by decide +kernel
theorem dX10_beginOrders_17 : decode cX10_beginOrders 17 = .ok (.invokevirtual 342, 3) := by decide +kernel
theorem dX10_beginOrders_20 : decode cX10_beginOrders 20 = .ok (.iconst 0, 1) := by decide +kernel
theorem dX10_beginOrders_21 : decode cX10_beginOrders 21 = .ok (.ireturn, 1) := by decide +kernel
theorem dX5_copy_0 : decode cX5_copy 0 = .ok (.aload_n 0, 1) := by decide +kernel
theorem dX5_copy_1 : decode cX5_copy 1 = .ok (.aload_n 1, 1) := by decide +kernel
theorem dX5_copy_2 : decode cX5_copy 2 = .ok (.getfield 15, 3) := by decide +kernel
theorem dX5_copy_5 : decode cX5_copy 5 = .ok (.putfield 15, 3) := by decide +kernel
theorem dX5_copy_8 : decode cX5_copy 8 = .ok (.aload_n 1, 1) := by decide +kernel
theorem dX5_copy_9 : decode cX5_copy 9 = .ok (.getfield 9, 3) := by decide +kernel
theorem dX5_copy_12 : decode cX5_copy 12 = .ok (.iconst 0, 1) := by decide +kernel
theorem dX5_copy_13 : decode cX5_copy 13 = .ok (.aload_n 0, 1) := by decide +kernel
theorem dX5_copy_14 : decode cX5_copy 14 = .ok (.getfield 9, 3) := by decide +kernel
theorem dX5_copy_17 : decode cX5_copy 17 = .ok (.iconst 0, 1) := by decide +kernel
theorem dX5_copy_18 : decode cX5_copy 18 = .ok (.bipush 6, 2) := by decide +kernel
theorem dX5_copy_20 : decode cX5_copy 20 = .ok (.invokestatic 19, 3) := by decide +kernel
theorem dX5_copy_23 : decode cX5_copy 23 = .ok (.return_, 1) := by decide +kernel
theorem dX5_swap_0 : decode cX5_swap 0 = .ok (.aload_n 0, 1) := by decide +kernel
theorem dX5_swap_1 : decode cX5_swap 1 = .ok (.getfield 9, 3) := by decide +kernel
theorem dX5_swap_4 : decode cX5_swap 4 = .ok (.iload_n 1, 1) := by decide +kernel
theorem dX5_swap_5 : decode cX5_swap 5 = .ok (.iaload, 1) := by decide +kernel
theorem dX5_swap_6 : decode cX5_swap 6 = .ok (.istore_n 3, 1) := by decide +kernel
theorem dX5_swap_7 : decode cX5_swap 7 = .ok (.aload_n 0, 1) := by decide +kernel
theorem dX5_swap_8 : decode cX5_swap 8 = .ok (.getfield 9, 3) := by decide +kernel
theorem dX5_swap_11 : decode cX5_swap 11 = .ok (.iload_n 1, 1) := by decide +kernel
theorem dX5_swap_12 : decode cX5_swap 12 = .ok (.aload_n 0, 1) := by decide +kernel
theorem dX5_swap_13 : decode cX5_swap 13 = .ok (.getfield 9, 3) := by decide +kernel
theorem dX5_swap_16 : decode cX5_swap 16 = .ok (.iload_n 2, 1) := by decide +kernel
theorem dX5_swap_17 : decode cX5_swap 17 = .ok (.iaload, 1) := by decide +kernel
theorem dX5_swap_18 : decode cX5_swap 18 = .ok (.iastore, 1) := by decide +kernel
theorem dX5_swap_19 : decode cX5_swap 19 = .ok (.aload_n 0, 1) := by decide +kernel
theorem dX5_swap_20 : decode cX5_swap 20 = .ok (.getfield 9, 3) := by decide +kernel
theorem dX5_swap_23 : decode cX5_swap 23 = .ok (.iload_n 2, 1) := by decide +kernel
theorem dX5_swap_24 : decode cX5_swap 24 = .ok (.iload_n 3, 1) := by decide +kernel
theorem dX5_swap_25 : decode cX5_swap 25 = .ok (.iastore, 1) := by decide +kernel
theorem dX5_swap_26 : decode cX5_swap 26 = .ok (.return_, 1) := by decide +kernel
theorem dX5_turnToNext_0 : decode cX5_turnToNext 0 = .ok (.aload_n 0, 1) := by decide +kernel
theorem dX5_turnToNext_1 : decode cX5_turnToNext 1 = .ok (.getfield 15, 3) := by decide +kernel
theorem dX5_turnToNext_4 : decode cX5_turnToNext 4 = .ok (.iconst 2, 1) := by decide +kernel
theorem dX5_turnToNext_5 : decode cX5_turnToNext 5 = .ok (.isub, 1) := by decide +kernel
theorem dX5_turnToNext_6 : decode cX5_turnToNext 6 = .ok (.istore_n 1, 1) := by decide +kernel
theorem dX5_turnToNext_7 : decode cX5_turnToNext 7 = .ok (.iload_n 1, 1) := by decide +kernel
theorem dX5_turnToNext_8 : decode cX5_turnToNext 8 = .ok (.ifCond .lt 26, 3) := by decide +kernel
theorem dX5_turnToNext_11 : decode cX5_turnToNext 11 = .ok (.aload_n 0, 1) := by decide +kernel
theorem dX5_turnToNext_12 : decode cX5_turnToNext 12 = .ok (.getfield 9, 3) := by decide +kernel
theorem dX5_turnToNext_15 : decode cX5_turnToNext 15 = .ok (.iload_n 1, 1) := by decide +kernel
theorem dX5_turnToNext_16 : decode cX5_turnToNext 16 = .ok (.iaload, 1) := by decide +kernel
theorem dX5_turnToNext_17 : decode cX5_turnToNext 17 = .ok (.aload_n 0, 1) := by decide +kernel
theorem dX5_turnToNext_18 : decode cX5_turnToNext 18 = .ok (.getfield 9, 3) := by decide +kernel
theorem dX5_turnToNext_21 : decode cX5_turnToNext 21 = .ok (.iload_n 1, 1) := by decide +kernel
theorem dX5_turnToNext_22 : decode cX5_turnToNext 22 = .ok (.iconst 1, 1) := by decide +kernel
theorem dX5_turnToNext_23 : decode cX5_turnToNext 23 = .ok (.iadd, 1) := by decide +kernel
theorem dX5_turnToNext_24 : decode cX5_turnToNext 24 = .ok (.iaload, 1) := by decide +kernel
theorem dX5_turnToNext_25 : decode cX5_turnToNext 25 = .ok (.if_icmp .le 9, 3) := by decide +kernel
theorem dX5_turnToNext_28 : decode cX5_turnToNext 28 = .ok (.iinc 1 (-1), 3) := by decide +kernel
theorem dX5_turnToNext_31 : decode cX5_turnToNext 31 = .ok (.goto (-24), 3) := by decide +kernel
theorem dX5_turnToNext_34 : decode cX5_turnToNext 34 = .ok (.iload_n 1, 1) := by decide +kernel
theorem dX5_turnToNext_35 : decode cX5_turnToNext 35 = .ok (.ifCond .ge 5, 3) := by decide +kernel
theorem dX5_turnToNext_38 : decode cX5_turnToNext 38 = .ok (.iconst (-1), 1) := by decide +kernel
theorem dX5_turnToNext_39 : decode cX5_turnToNext 39 = .ok (.ireturn, 1) := by decide +kernel
theorem dX5_turnToNext_40 : decode cX5_turnToNext 40 = .ok (.aload_n 0, 1) := by decide +kernel
theorem dX5_turnToNext_41 : decode cX5_turnToNext 41 = .ok (.getfield 15, 3) := by decide +kernel
theorem dX5_turnToNext_44 : decode cX5_turnToNext 44 = .ok (.iconst 1, 1) := by decide +kernel
theorem dX5_turnToNext_45 : decode cX5_turnToNext 45 = .ok (.isub, 1) := by decide +kernel
theorem dX5_turnToNext_46 : decode cX5_turnToNext 46 = .ok (.istore_n 2, 1) := by decide +kernel
theorem dX5_turnToNext_47 : decode cX5_turnToNext 47 = .ok (.iload_n 2, 1) := by decide +kernel
theorem dX5_turnToNext_48 : decode cX5_turnToNext 48 = .ok (.iload_n 1, 1) := by decide +kernel
theorem dX5_turnToNext_49 : decode cX5_turnToNext 49 = .ok (.iconst 1, 1) := by decide +kernel
theorem dX5_turnToNext_50 : decode cX5_turnToNext 50 = .ok (.iadd, 1) := by decide +kernel
theorem dX5_turnToNext_51 : decode cX5_turnToNext 51 = .ok (.if_icmp .le 24, 3) := by decide +kernel
theorem dX5_turnToNext_54 : decode cX5_turnToNext 54 = .ok (.aload_n 0, 1) := by decide +kernel
theorem dX5_turnToNext_55 : decode cX5_turnToNext 55 = .ok (.getfield 9, 3) := by decide +kernel
theorem dX5_turnToNext_58 : decode cX5_turnToNext 58 = .ok (.iload_n 2, 1) := by decide +kernel
theorem dX5_turnToNext_59 : decode cX5_turnToNext 59 = .ok (.iaload, 1) := by decide +kernel
theorem dX5_turnToNext_60 : decode cX5_turnToNext 60 = .ok (.aload_n 0, 1) := by decide +kernel
theorem dX5_turnToNext_61 : decode cX5_turnToNext 61 = .ok (.getfield 9, 3) := by decide +kernel
theorem dX5_turnToNext_64 : decode cX5_turnToNext 64 = .ok (.iload_n 1, 1) := by decide +kernel
theorem dX5_turnToNext_65 : decode cX5_turnToNext 65 = .ok (.iaload, 1) := by decide +kernel
theorem dX5_turnToNext_66 : decode cX5_turnToNext 66 = .ok (.if_icmp .ge 9, 3) := by decide +kernel
theorem dX5_turnToNext_69 : decode cX5_turnToNext 69 = .ok (.iinc 2 (-1), 3) := by decide +kernel
theorem dX5_turnToNext_72 : decode cX5_turnToNext 72 = .ok (.goto (-25), 3) := by decide +kernel
theorem dX5_turnToNext_75 : decode cX5_turnToNext 75 = .ok (.aload_n 0, 1) := by decide +kernel
theorem dX5_turnToNext_76 : decode cX5_turnToNext 76 = .ok (.iload_n 1, 1) := by decide +kernel
theorem dX5_turnToNext_77 : decode cX5_turnToNext 77 = .ok (.iload_n 2, 1) := by decide +kernel
theorem dX5_turnToNext_78 : decode cX5_turnToNext 78 = .ok (.invokevirtual 47, 3) := by decide +kernel
theorem dX5_turnToNext_81 : decode cX5_turnToNext 81 = .ok (.iload_n 1, 1) := by decide +kernel
theorem dX5_turnToNext_82 : decode cX5_turnToNext 82 = .ok (.iconst 1, 1) := by decide +kernel
theorem dX5_turnToNext_83 : decode cX5_turnToNext 83 = .ok (.iadd, 1) := by decide +kernel
theorem dX5_turnToNext_84 : decode cX5_turnToNext 84 = .ok (.istore_n 3, 1) := by decide +kernel
theorem dX5_turnToNext_85 : decode cX5_turnToNext 85 = .ok (.aload_n 0, 1) := by decide +kernel
theorem dX5_turnToNext_86 : decode cX5_turnToNext 86 = .ok (.getfield 15, 3) := by decide +kernel
theorem dX5_turnToNext_89 : decode cX5_turnToNext 89 = .ok (.iconst 1, 1) := by decide +kernel
theorem dX5_turnToNext_90 : decode cX5_turnToNext 90 = .ok (.isub, 1) := by decide +kernel
theorem dX5_turnToNext_91 : decode cX5_turnToNext 91 = .ok (.istore 4, 2) := by decide +kernel
theorem dX5_turnToNext_93 : decode cX5_turnToNext 93 = .ok (.iload_n 3, 1) := by decide +kernel
theorem dX5_turnToNext_94 : decode cX5_turnToNext 94 = .ok (.iload 4, 2) := by decide +kernel
theorem dX5_turnToNext_96 : decode cX5_turnToNext 96 = .ok (.if_icmp .ge 19, 3) := by decide +kernel
theorem dX5_turnToNext_99 : decode cX5_turnToNext 99 = .ok (.aload_n 0, 1) := by decide +kernel
theorem dX5_turnToNext_100 : decode cX5_turnToNext 100 = .ok (.iload_n 3, 1) := by decide +kernel
theorem dX5_turnToNext_101 : decode cX5_turnToNext 101 = .ok (.iload 4, 2) := by decide +kernel
theorem dX5_turnToNext_103 : decode cX5_turnToNext 103 = .ok (.invokevirtual 47, 3) := by decide +kernel
theorem dX5_turnToNext_106 : decode cX5_turnToNext 106 = .ok (.iinc 3 1, 3) := by decide +kernel
theorem dX5_turnToNext_109 : decode cX5_turnToNext 109 = .ok (.iinc 4 (-1), 3) := by decide +kernel
theorem dX5_turnToNext_112 : decode cX5_turnToNext 112 = .ok (.goto (-19), 3) := by decide +kernel
theorem dX5_turnToNext_115 : decode cX5_turnToNext 115 = .ok (.iload_n 1, 1) := by decide +kernel
theorem dX5_turnToNext_116 : decode cX5_turnToNext 116 = .ok (.ireturn, 1) := by decide +kernel
theorem dX10_findSoonest_0 : decode cX10_findSoonest 0 = .ok (.iconst (-1), 1) := by decide +kernel
theorem dX10_findSoonest_1 : decode cX10_findSoonest 1 = .ok (.istore_n 3, 1) := by decide +kernel
theorem dX10_findSoonest_2 : decode cX10_findSoonest 2 = .ok (.iconst 0, 1) := by decide +kernel
theorem dX10_findSoonest_3 : decode cX10_findSoonest 3 = .ok (.istore 4, 2) := by decide +kernel
theorem dX10_findSoonest_5 : decode cX10_findSoonest 5 = .ok (.aload_n 0, 1) := by decide +kernel
theorem dX10_findSoonest_6 : decode cX10_findSoonest 6 = .ok (.iload_n 1, 1) := by decide +kernel
theorem dX10_findSoonest_7 : decode cX10_findSoonest 7 = .ok (.iconst 0, 1) := by decide +kernel
theorem dX10_findSoonest_8 : decode cX10_findSoonest 8 = .ok (.invokevirtual 319, 3) := by decide +kernel
theorem dX10_findSoonest_11 : decode cX10_findSoonest 11 = .ok (.istore 5, 2) := by decide +kernel
theorem dX10_findSoonest_13 : decode cX10_findSoonest 13 = .ok (.iconst 0, 1) := by decide +kernel
theorem dX10_findSoonest_14 : decode cX10_findSoonest 14 = .ok (.istore 6, 2) := by decide +kernel
theorem dX10_findSoonest_16 : decode cX10_findSoonest 16 = .ok (.iload 6, 2) := by decide +kernel
theorem dX10_findSoonest_18 : decode cX10_findSoonest 18 = .ok (.sipush 720, 3) := by decide +kernel
theorem dX10_findSoonest_21 : decode cX10_findSoonest 21 = .ok (.if_icmp .ge 108, 3) := by decide +kernel
theorem dX10_findSoonest_24 : decode cX10_findSoonest 24 = .ok (.iload 5, 2) := by decide +kernel
theorem dX10_findSoonest_26 : decode cX10_findSoonest 26 = .ok (.iconst (-1), 1) := by decide +kernel
theorem dX10_findSoonest_27 : decode cX10_findSoonest 27 = .ok (.if_icmp .eq 102, 3) := by decide +kernel
theorem dX10_findSoonest_30 : decode cX10_findSoonest 30 = .ok (.aload_n 0, 1) := by decide +kernel
theorem dX10_findSoonest_31 : decode cX10_findSoonest 31 = .ok (.getfield 85, 3) := by decide +kernel
theorem dX10_findSoonest_34 : decode cX10_findSoonest 34 = .ok (.aload_n 0, 1) := by decide +kernel
theorem dX10_findSoonest_35 : decode cX10_findSoonest 35 = .ok (.getfield 73, 3) := by decide +kernel
theorem dX10_findSoonest_38 : decode cX10_findSoonest 38 = .ok (.iload 5, 2) := by decide +kernel
theorem dX10_findSoonest_40 : decode cX10_findSoonest 40 = .ok (.iload_n 3, 1) := by decide +kernel
theorem dX10_findSoonest_41 : decode cX10_findSoonest 41 = .ok (.iconst (-1), 1) := by decide +kernel
theorem dX10_findSoonest_42 : decode cX10_findSoonest 42 = .ok (.if_icmp .ne 7, 3) := by decide +kernel
theorem dX10_findSoonest_45 : decode cX10_findSoonest 45 = .ok (.iload_n 2, 1) := by decide +kernel
theorem dX10_findSoonest_46 : decode cX10_findSoonest 46 = .ok (.goto 4, 3) := by decide +kernel
theorem dX10_findSoonest_49 : decode cX10_findSoonest 49 = .ok (.iload_n 3, 1) := by decide +kernel
theorem dX10_findSoonest_50 : decode cX10_findSoonest 50 = .ok (.invokevirtual 299, 3) := by decide +kernel
theorem dX10_findSoonest_53 : decode cX10_findSoonest 53 = .ok (.ifCond .eq 61, 3) := by decide +kernel
theorem dX10_findSoonest_56 : decode cX10_findSoonest 56 = .ok (.aload_n 0, 1) := by decide +kernel
theorem dX10_findSoonest_57 : decode cX10_findSoonest 57 = .ok (.getfield 85, 3) := by decide +kernel
theorem dX10_findSoonest_60 : decode cX10_findSoonest 60 = .ok (.invokevirtual 310, 3) := by decide +kernel
theorem dX10_findSoonest_63 : decode cX10_findSoonest 63 = .ok (.istore 7, 2) := by decide +kernel
theorem dX10_findSoonest_65 : decode cX10_findSoonest 65 = .ok (.aload_n 0, 1) := by decide +kernel
theorem dX10_findSoonest_66 : decode cX10_findSoonest 66 = .ok (.getfield 85, 3) := by decide +kernel
theorem dX10_findSoonest_69 : decode cX10_findSoonest 69 = .ok (.getfield 304, 3) := by decide +kernel
theorem dX10_findSoonest_72 : decode cX10_findSoonest 72 = .ok (.iload_n 1, 1) := by decide +kernel
theorem dX10_findSoonest_73 : decode cX10_findSoonest 73 = .ok (.invokevirtual 259, 3) := by decide +kernel
theorem dX10_findSoonest_76 : decode cX10_findSoonest 76 = .ok (.istore 8, 2) := by decide +kernel
theorem dX10_findSoonest_78 : decode cX10_findSoonest 78 = .ok (.iload_n 3, 1) := by decide +kernel
theorem dX10_findSoonest_79 : decode cX10_findSoonest 79 = .ok (.iconst (-1), 1) := by decide +kernel
theorem dX10_findSoonest_80 : decode cX10_findSoonest 80 = .ok (.if_icmp .eq 16, 3) := by decide +kernel
theorem dX10_findSoonest_83 : decode cX10_findSoonest 83 = .ok (.iload 7, 2) := by decide +kernel
theorem dX10_findSoonest_85 : decode cX10_findSoonest 85 = .ok (.iload_n 3, 1) := by decide +kernel
theorem dX10_findSoonest_86 : decode cX10_findSoonest 86 = .ok (.if_icmp .lt 10, 3) := by decide +kernel
theorem dX10_findSoonest_89 : decode cX10_findSoonest 89 = .ok (.iload 8, 2) := by decide +kernel
theorem dX10_findSoonest_91 : decode cX10_findSoonest 91 = .ok (.iload 4, 2) := by decide +kernel
theorem dX10_findSoonest_93 : decode cX10_findSoonest 93 = .ok (.if_icmp .ge 21, 3) := by decide +kernel
theorem dX10_findSoonest_96 : decode cX10_findSoonest 96 = .ok (.iload 7, 2) := by decide +kernel
theorem dX10_findSoonest_98 : decode cX10_findSoonest 98 = .ok (.istore_n 3, 1) := by decide +kernel
theorem dX10_findSoonest_99 : decode cX10_findSoonest 99 = .ok (.iload 8, 2) := by decide +kernel
theorem dX10_findSoonest_101 : decode cX10_findSoonest 101 = .ok (.istore 4, 2) := by decide +kernel
theorem dX10_findSoonest_103 : decode cX10_findSoonest 103 = .ok (.aload_n 0, 1) := by decide +kernel
theorem dX10_findSoonest_104 : decode cX10_findSoonest 104 = .ok (.getfield 77, 3) := by decide +kernel
theorem dX10_findSoonest_107 : decode cX10_findSoonest 107 = .ok (.aload_n 0, 1) := by decide +kernel
theorem dX10_findSoonest_108 : decode cX10_findSoonest 108 = .ok (.getfield 73, 3) := by decide +kernel
theorem dX10_findSoonest_111 : decode cX10_findSoonest 111 = .ok (.invokevirtual 323, 3) := by decide +kernel
theorem dX10_findSoonest_114 : decode cX10_findSoonest 114 = .ok (.aload_n 0, 1) := by decide +kernel
theorem dX10_findSoonest_115 : decode cX10_findSoonest 115 = .ok (.getfield 73, 3) := by decide +kernel
theorem dX10_findSoonest_118 : decode cX10_findSoonest 118 = .ok (.invokevirtual 326, 3) := by decide +kernel
theorem dX10_findSoonest_121 : decode cX10_findSoonest 121 = .ok (.istore 5, 2) := by decide +kernel
theorem dX10_findSoonest_123 : decode cX10_findSoonest 123 = .ok (.iinc 6 1, 3) := by decide +kernel
theorem dX10_findSoonest_126 : decode cX10_findSoonest 126 = .ok (.goto (-110), 3) := by decide +kernel
theorem dX10_findSoonest_129 : decode cX10_findSoonest 129 = .ok (.iload_n 3, 1) := by decide +kernel
theorem dX10_findSoonest_130 : decode cX10_findSoonest 130 = .ok (.ireturn, 1) := by decide +kernel
theorem dX10_tellFound_0 : decode cX10_tellFound 0 = .ok (.iconst 0, 1) := by decide +kernel
theorem dX10_tellFound_1 : decode cX10_tellFound 1 = .ok (.istore_n 1, 1) := by decide +kernel
theorem dX10_tellFound_2 : decode cX10_tellFound 2 = .ok (.iload_n 1, 1) := by decide +kernel
theorem dX10_tellFound_3 : decode cX10_tellFound 3 = .ok (.aload_n 0, 1) := by decide +kernel
theorem dX10_tellFound_4 : decode cX10_tellFound 4 = .ok (.getfield 77, 3) := by decide +kernel
theorem dX10_tellFound_7 : decode cX10_tellFound 7 = .ok (.getfield 303, 3) := by decide +kernel
theorem dX10_tellFound_10 : decode cX10_tellFound 10 = .ok (.if_icmp .ge 22, 3) := by decide +kernel
theorem dX10_tellFound_13 : decode cX10_tellFound 13 = .ok (.aload_n 0, 1) := by decide +kernel
theorem dX10_tellFound_14 : decode cX10_tellFound 14 = .ok (.aload_n 0, 1) := by decide +kernel
theorem dX10_tellFound_15 : decode cX10_tellFound 15 = .ok (.getfield 77, 3) := by decide +kernel
theorem dX10_tellFound_18 : decode cX10_tellFound 18 = .ok (.getfield 307, 3) := by decide +kernel
theorem dX10_tellFound_21 : decode cX10_tellFound 21 = .ok (.iload_n 1, 1) := by decide +kernel
theorem dX10_tellFound_22 : decode cX10_tellFound 22 = .ok (.iaload, 1) := by decide +kernel
theorem dX10_tellFound_23 : decode cX10_tellFound 23 = .ok (.invokevirtual 252, 3) := by decide +kernel
theorem dX10_tellFound_26 : decode cX10_tellFound 26 = .ok (.iinc 1 1, 3) := by decide +kernel
theorem dX10_tellFound_29 : decode cX10_tellFound 29 = .ok (.goto (-27), 3) := by decide +kernel
theorem dX10_tellFound_32 : decode cX10_tellFound 32 = .ok (.return_, 1) := by decide +kernel
theorem dX10_best_0 : decode cX10_best 0 = .ok (.aload_n 0, 1) := by decide +kernel
theorem dX10_best_1 : decode cX10_best 1 = .ok (.iload_n 1, 1) := by decide +kernel
theorem dX10_best_2 : decode cX10_best 2 = .ok (.invokevirtual 292, 3) := by decide +kernel
theorem dX10_best_5 : decode cX10_best 5 = .ok (.ifCond .ne 5, 3) := by decide +kernel
theorem dX10_best_8 : decode cX10_best 8 = .ok (.iconst (-1), 1) := by decide +kernel
theorem dX10_best_9 : decode cX10_best 9 = .ok (.ireturn, 1) := by decide +kernel
theorem dX10_best_10 : decode cX10_best 10 = .ok (.aload_n 0, 1) := by decide +kernel
theorem dX10_best_11 : decode cX10_best 11 = .ok (.iload_n 1, 1) := by decide +kernel
theorem dX10_best_12 : decode cX10_best 12 = .ok (.sipush 400, 3) := by decide +kernel
theorem dX10_best_15 : decode cX10_best 15 = .ok (.invokevirtual 313, 3) := by decide +kernel
theorem dX10_best_18 : decode cX10_best 18 = .ok (.istore_n 2, 1) := by decide +kernel
theorem dX10_best_19 : decode cX10_best 19 = .ok (.iload_n 2, 1) := by decide +kernel
theorem dX10_best_20 : decode cX10_best 20 = .ok (.iconst (-1), 1) := by decide +kernel
theorem dX10_best_21 : decode cX10_best 21 = .ok (.if_icmp .ne 6, 3) := by decide +kernel
theorem dX10_best_24 : decode cX10_best 24 = .ok (.bipush (-2), 2) := by decide +kernel
theorem dX10_best_26 : decode cX10_best 26 = .ok (.ireturn, 1) := by decide +kernel
theorem dX10_best_27 : decode cX10_best 27 = .ok (.aload_n 0, 1) := by decide +kernel
theorem dX10_best_28 : decode cX10_best 28 = .ok (.invokevirtual 246, 3) := by decide +kernel
theorem dX10_best_31 : decode cX10_best 31 = .ok (.aload_n 0, 1) := by decide +kernel
theorem dX10_best_32 : decode cX10_best 32 = .ok (.invokevirtual 316, 3) := by decide +kernel
theorem dX10_best_35 : decode cX10_best 35 = .ok (.iload_n 2, 1) := by decide +kernel
theorem dX10_best_36 : decode cX10_best 36 = .ok (.ireturn, 1) := by decide +kernel
theorem dX10_calm_0 : decode cX10_calm 0 = .ok (.aload_n 0, 1) := by decide +kernel
theorem dX10_calm_1 : decode cX10_calm 1 = .ok (.iload_n 1, 1) := by decide +kernel
theorem dX10_calm_2 : decode cX10_calm 2 = .ok (.invokevirtual 292, 3) := by decide +kernel
theorem dX10_calm_5 : decode cX10_calm 5 = .ok (.ifCond .ne 5, 3) := by decide +kernel
theorem dX10_calm_8 : decode cX10_calm 8 = .ok (.iconst (-1), 1) := by decide +kernel
theorem dX10_calm_9 : decode cX10_calm 9 = .ok (.ireturn, 1) := by decide +kernel
theorem dX10_calm_10 : decode cX10_calm 10 = .ok (.iconst (-1), 1) := by decide +kernel
theorem dX10_calm_11 : decode cX10_calm 11 = .ok (.istore_n 2, 1) := by decide +kernel
theorem dX10_calm_12 : decode cX10_calm 12 = .ok (.iconst (-1), 1) := by decide +kernel
theorem dX10_calm_13 : decode cX10_calm 13 = .ok (.istore_n 3, 1) := by decide +kernel
theorem dX10_calm_14 : decode cX10_calm 14 = .ok (.aload_n 0, 1) := by decide +kernel
theorem dX10_calm_15 : decode cX10_calm 15 = .ok (.iload_n 1, 1) := by decide +kernel
theorem dX10_calm_16 : decode cX10_calm 16 = .ok (.iconst 0, 1) := by decide +kernel
theorem dX10_calm_17 : decode cX10_calm 17 = .ok (.invokevirtual 319, 3) := by decide +kernel
theorem dX10_calm_20 : decode cX10_calm 20 = .ok (.istore 4, 2) := by decide +kernel
theorem dX10_calm_22 : decode cX10_calm 22 = .ok (.iconst 0, 1) := by decide +kernel
theorem dX10_calm_23 : decode cX10_calm 23 = .ok (.istore 5, 2) := by decide +kernel
theorem dX10_calm_25 : decode cX10_calm 25 = .ok (.iload 5, 2) := by decide +kernel
theorem dX10_calm_27 : decode cX10_calm 27 = .ok (.sipush 720, 3) := by decide +kernel
theorem dX10_calm_30 : decode cX10_calm 30 = .ok (.if_icmp .ge 105, 3) := by decide +kernel
theorem dX10_calm_33 : decode cX10_calm 33 = .ok (.iload 4, 2) := by decide +kernel
theorem dX10_calm_35 : decode cX10_calm 35 = .ok (.iconst (-1), 1) := by decide +kernel
theorem dX10_calm_36 : decode cX10_calm 36 = .ok (.if_icmp .eq 99, 3) := by decide +kernel
theorem dX10_calm_39 : decode cX10_calm 39 = .ok (.aload_n 0, 1) := by decide +kernel
theorem dX10_calm_40 : decode cX10_calm 40 = .ok (.getfield 85, 3) := by decide +kernel
theorem dX10_calm_43 : decode cX10_calm 43 = .ok (.aload_n 0, 1) := by decide +kernel
theorem dX10_calm_44 : decode cX10_calm 44 = .ok (.getfield 73, 3) := by decide +kernel
theorem dX10_calm_47 : decode cX10_calm 47 = .ok (.iload 4, 2) := by decide +kernel
theorem dX10_calm_49 : decode cX10_calm 49 = .ok (.sipush 400, 3) := by decide +kernel
theorem dX10_calm_52 : decode cX10_calm 52 = .ok (.invokevirtual 299, 3) := by decide +kernel
theorem dX10_calm_55 : decode cX10_calm 55 = .ok (.ifCond .eq 65, 3) := by decide +kernel
theorem dX10_calm_58 : decode cX10_calm 58 = .ok (.aload_n 0, 1) := by decide +kernel
theorem dX10_calm_59 : decode cX10_calm 59 = .ok (.getfield 85, 3) := by decide +kernel
theorem dX10_calm_62 : decode cX10_calm 62 = .ok (.getfield 304, 3) := by decide +kernel
theorem dX10_calm_65 : decode cX10_calm 65 = .ok (.iload_n 1, 1) := by decide +kernel
theorem dX10_calm_66 : decode cX10_calm 66 = .ok (.invokevirtual 259, 3) := by decide +kernel
theorem dX10_calm_69 : decode cX10_calm 69 = .ok (.istore 6, 2) := by decide +kernel
theorem dX10_calm_71 : decode cX10_calm 71 = .ok (.aload_n 0, 1) := by decide +kernel
theorem dX10_calm_72 : decode cX10_calm 72 = .ok (.getfield 85, 3) := by decide +kernel
theorem dX10_calm_75 : decode cX10_calm 75 = .ok (.invokevirtual 310, 3) := by decide +kernel
theorem dX10_calm_78 : decode cX10_calm 78 = .ok (.istore 7, 2) := by decide +kernel
theorem dX10_calm_80 : decode cX10_calm 80 = .ok (.iload_n 2, 1) := by decide +kernel
theorem dX10_calm_81 : decode cX10_calm 81 = .ok (.iconst (-1), 1) := by decide +kernel
theorem dX10_calm_82 : decode cX10_calm 82 = .ok (.if_icmp .eq 21, 3) := by decide +kernel
theorem dX10_calm_85 : decode cX10_calm 85 = .ok (.iload 6, 2) := by decide +kernel
theorem dX10_calm_87 : decode cX10_calm 87 = .ok (.iload_n 2, 1) := by decide +kernel
theorem dX10_calm_88 : decode cX10_calm 88 = .ok (.if_icmp .lt 15, 3) := by decide +kernel
theorem dX10_calm_91 : decode cX10_calm 91 = .ok (.iload 6, 2) := by decide +kernel
theorem dX10_calm_93 : decode cX10_calm 93 = .ok (.iload_n 2, 1) := by decide +kernel
theorem dX10_calm_94 : decode cX10_calm 94 = .ok (.if_icmp .ne 26, 3) := by decide +kernel
theorem dX10_calm_97 : decode cX10_calm 97 = .ok (.iload 7, 2) := by decide +kernel
theorem dX10_calm_99 : decode cX10_calm 99 = .ok (.iload_n 3, 1) := by decide +kernel
theorem dX10_calm_100 : decode cX10_calm 100 = .ok (.if_icmp .ge 20, 3) := by decide +kernel
theorem dX10_calm_103 : decode cX10_calm 103 = .ok (.iload 6, 2) := by decide +kernel
theorem dX10_calm_105 : decode cX10_calm 105 = .ok (.istore_n 2, 1) := by decide +kernel
theorem dX10_calm_106 : decode cX10_calm 106 = .ok (.iload 7, 2) := by decide +kernel
theorem dX10_calm_108 : decode cX10_calm 108 = .ok (.istore_n 3, 1) := by decide +kernel
theorem dX10_calm_109 : decode cX10_calm 109 = .ok (.aload_n 0, 1) := by decide +kernel
theorem dX10_calm_110 : decode cX10_calm 110 = .ok (.getfield 77, 3) := by decide +kernel
theorem dX10_calm_113 : decode cX10_calm 113 = .ok (.aload_n 0, 1) := by decide +kernel
theorem dX10_calm_114 : decode cX10_calm 114 = .ok (.getfield 73, 3) := by decide +kernel
theorem dX10_calm_117 : decode cX10_calm 117 = .ok (.invokevirtual 323, 3) := by decide +kernel
theorem dX10_calm_120 : decode cX10_calm 120 = .ok (.aload_n 0, 1) := by decide +kernel
theorem dX10_calm_121 : decode cX10_calm 121 = .ok (.getfield 73, 3) := by decide +kernel
theorem dX10_calm_124 : decode cX10_calm 124 = .ok (.invokevirtual 326, 3) := by decide +kernel
theorem dX10_calm_127 : decode cX10_calm 127 = .ok (.istore 4, 2) := by decide +kernel
theorem dX10_calm_129 : decode cX10_calm 129 = .ok (.iinc 5 1, 3) := by decide +kernel
theorem dX10_calm_132 : decode cX10_calm 132 = .ok (.goto (-107), 3) := by decide +kernel
theorem dX10_calm_135 : decode cX10_calm 135 = .ok (.iload_n 2, 1) := by decide +kernel
theorem dX10_calm_136 : decode cX10_calm 136 = .ok (.iconst (-1), 1) := by decide +kernel
theorem dX10_calm_137 : decode cX10_calm 137 = .ok (.if_icmp .ne 6, 3) := by decide +kernel
theorem dX10_calm_140 : decode cX10_calm 140 = .ok (.bipush (-2), 2) := by decide +kernel
theorem dX10_calm_142 : decode cX10_calm 142 = .ok (.ireturn, 1) := by decide +kernel
theorem dX10_calm_143 : decode cX10_calm 143 = .ok (.aload_n 0, 1) := by decide +kernel
theorem dX10_calm_144 : decode cX10_calm 144 = .ok (.invokevirtual 246, 3) := by decide +kernel
theorem dX10_calm_147 : decode cX10_calm 147 = .ok (.aload_n 0, 1) := by decide +kernel
theorem dX10_calm_148 : decode cX10_calm 148 = .ok (.iload_n 3, 1) := by decide +kernel
theorem dX10_calm_149 : decode cX10_calm 149 = .ok (.invokevirtual 252, 3) := by decide +kernel
theorem dX10_calm_152 : decode cX10_calm 152 = .ok (.aload_n 0, 1) := by decide +kernel
theorem dX10_calm_153 : decode cX10_calm 153 = .ok (.invokevirtual 316, 3) := by decide +kernel
theorem dX10_calm_156 : decode cX10_calm 156 = .ok (.iload_n 2, 1) := by decide +kernel
theorem dX10_calm_157 : decode cX10_calm 157 = .ok (.ireturn, 1) := by decide +kernel
theorem dX10_many_0 : decode cX10_many 0 = .ok (.iload_n 2, 1) := by decide +kernel
theorem dX10_many_1 : decode cX10_many 1 = .ok (.iconst 1, 1) := by decide +kernel
theorem dX10_many_2 : decode cX10_many 2 = .ok (.if_icmp .lt 18, 3) := by decide +kernel
theorem dX10_many_5 : decode cX10_many 5 = .ok (.iload_n 2, 1) := by decide +kernel
theorem dX10_many_6 : decode cX10_many 6 = .ok (.sipush 400, 3) := by decide +kernel
theorem dX10_many_9 : decode cX10_many 9 = .ok (.if_icmp .gt 11, 3) := by decide +kernel
theorem dX10_many_12 : decode cX10_many 12 = .ok (.aload_n 0, 1) := by decide +kernel
theorem dX10_many_13 : decode cX10_many 13 = .ok (.iload_n 1, 1) := by decide +kernel
theorem dX10_many_14 : decode cX10_many 14 = .ok (.invokevirtual 292, 3) := by decide +kernel
theorem dX10_many_17 : decode cX10_many 17 = .ok (.ifCond .ne 5, 3) := by decide +kernel
theorem dX10_many_20 : decode cX10_many 20 = .ok (.iconst (-1), 1) := by decide +kernel
theorem dX10_many_21 : decode cX10_many 21 = .ok (.ireturn, 1) := by decide +kernel
theorem dX10_many_22 : decode cX10_many 22 = .ok (.iconst 0, 1) := by decide +kernel
theorem dX10_many_23 : decode cX10_many 23 = .ok (.istore_n 3, 1) := by decide +kernel
theorem dX10_many_24 : decode cX10_many 24 = .ok (.iconst 0, 1) := by decide +kernel
theorem dX10_many_25 : decode cX10_many 25 = .ok (.istore 4, 2) := by decide +kernel
theorem dX10_many_27 : decode cX10_many 27 = .ok (.aload_n 0, 1) := by decide +kernel
theorem dX10_many_28 : decode cX10_many 28 = .ok (.iload_n 1, 1) := by decide +kernel
theorem dX10_many_29 : decode cX10_many 29 = .ok (.iconst 0, 1) := by decide +kernel
theorem dX10_many_30 : decode cX10_many 30 = .ok (.invokevirtual 319, 3) := by decide +kernel
theorem dX10_many_33 : decode cX10_many 33 = .ok (.istore 5, 2) := by decide +kernel
theorem dX10_many_35 : decode cX10_many 35 = .ok (.iconst 0, 1) := by decide +kernel
theorem dX10_many_36 : decode cX10_many 36 = .ok (.istore 6, 2) := by decide +kernel
theorem dX10_many_38 : decode cX10_many 38 = .ok (.iload 6, 2) := by decide +kernel
theorem dX10_many_40 : decode cX10_many 40 = .ok (.sipush 720, 3) := by decide +kernel
theorem dX10_many_43 : decode cX10_many 43 = .ok (.if_icmp .ge 63, 3) := by decide +kernel
theorem dX10_many_46 : decode cX10_many 46 = .ok (.iload 5, 2) := by decide +kernel
theorem dX10_many_48 : decode cX10_many 48 = .ok (.iconst (-1), 1) := by decide +kernel
theorem dX10_many_49 : decode cX10_many 49 = .ok (.if_icmp .eq 57, 3) := by decide +kernel
theorem dX10_many_52 : decode cX10_many 52 = .ok (.aload_n 0, 1) := by decide +kernel
theorem dX10_many_53 : decode cX10_many 53 = .ok (.getfield 85, 3) := by decide +kernel
theorem dX10_many_56 : decode cX10_many 56 = .ok (.aload_n 0, 1) := by decide +kernel
theorem dX10_many_57 : decode cX10_many 57 = .ok (.getfield 73, 3) := by decide +kernel
theorem dX10_many_60 : decode cX10_many 60 = .ok (.iload 5, 2) := by decide +kernel
theorem dX10_many_62 : decode cX10_many 62 = .ok (.sipush 400, 3) := by decide +kernel
theorem dX10_many_65 : decode cX10_many 65 = .ok (.invokevirtual 299, 3) := by decide +kernel
theorem dX10_many_68 : decode cX10_many 68 = .ok (.ifCond .ne 9, 3) := by decide +kernel
theorem dX10_many_71 : decode cX10_many 71 = .ok (.iinc 4 1, 3) := by decide +kernel
theorem dX10_many_74 : decode cX10_many 74 = .ok (.goto 17, 3) := by decide +kernel
theorem dX10_many_77 : decode cX10_many 77 = .ok (.aload_n 0, 1) := by decide +kernel
theorem dX10_many_78 : decode cX10_many 78 = .ok (.getfield 85, 3) := by decide +kernel
theorem dX10_many_81 : decode cX10_many 81 = .ok (.invokevirtual 310, 3) := by decide +kernel
theorem dX10_many_84 : decode cX10_many 84 = .ok (.iload_n 2, 1) := by decide +kernel
theorem dX10_many_85 : decode cX10_many 85 = .ok (.if_icmp .gt 6, 3) := by decide +kernel
theorem dX10_many_88 : decode cX10_many 88 = .ok (.iinc 3 1, 3) := by decide +kernel
theorem dX10_many_91 : decode cX10_many 91 = .ok (.aload_n 0, 1) := by decide +kernel
theorem dX10_many_92 : decode cX10_many 92 = .ok (.getfield 73, 3) := by decide +kernel
theorem dX10_many_95 : decode cX10_many 95 = .ok (.invokevirtual 326, 3) := by decide +kernel
theorem dX10_many_98 : decode cX10_many 98 = .ok (.istore 5, 2) := by decide +kernel
theorem dX10_many_100 : decode cX10_many 100 = .ok (.iinc 6 1, 3) := by decide +kernel
theorem dX10_many_103 : decode cX10_many 103 = .ok (.goto (-65), 3) := by decide +kernel
theorem dX10_many_106 : decode cX10_many 106 = .ok (.aload_n 0, 1) := by decide +kernel
theorem dX10_many_107 : decode cX10_many 107 = .ok (.invokevirtual 246, 3) := by decide +kernel
theorem dX10_many_110 : decode cX10_many 110 = .ok (.aload_n 0, 1) := by decide +kernel
theorem dX10_many_111 : decode cX10_many 111 = .ok (.iload 4, 2) := by decide +kernel
theorem dX10_many_113 : decode cX10_many 113 = .ok (.invokevirtual 252, 3) := by decide +kernel
theorem dX10_many_116 : decode cX10_many 116 = .ok (.iload_n 3, 1) := by decide +kernel
theorem dX10_many_117 : decode cX10_many 117 = .ok (.ireturn, 1) := by decide +kernel
theorem dX1_gapOf_0 : decode cX1_gapOf 0 = .ok (.iconst 0, 1) := by decide +kernel
theorem dX1_gapOf_1 : decode cX1_gapOf 1 = .ok (.istore_n 3, 1) := by decide +kernel
theorem dX1_gapOf_2 : decode cX1_gapOf 2 = .ok (.iconst 0, 1) := by decide +kernel
theorem dX1_gapOf_3 : decode cX1_gapOf 3 = .ok (.istore 4, 2) := by decide +kernel
theorem dX1_gapOf_5 : decode cX1_gapOf 5 = .ok (.iconst 0, 1) := by decide +kernel
theorem dX1_gapOf_6 : decode cX1_gapOf 6 = .ok (.istore 5, 2) := by decide +kernel
theorem dX1_gapOf_8 : decode cX1_gapOf 8 = .ok (.iconst 0, 1) := by decide +kernel
theorem dX1_gapOf_9 : decode cX1_gapOf 9 = .ok (.istore 6, 2) := by decide +kernel
theorem dX1_gapOf_11 : decode cX1_gapOf 11 = .ok (.iload 6, 2) := by decide +kernel
theorem dX1_gapOf_13 : decode cX1_gapOf 13 = .ok (.aload_n 0, 1) := by decide +kernel
theorem dX1_gapOf_14 : decode cX1_gapOf 14 = .ok (.getfield 9, 3) := by decide +kernel
theorem dX1_gapOf_17 : decode cX1_gapOf 17 = .ok (.if_icmp .ge 65, 3) := by decide +kernel
theorem dX1_gapOf_20 : decode cX1_gapOf 20 = .ok (.aload_n 0, 1) := by decide +kernel
theorem dX1_gapOf_21 : decode cX1_gapOf 21 = .ok (.iload_n 1, 1) := by decide +kernel
theorem dX1_gapOf_22 : decode cX1_gapOf 22 = .ok (.iload 6, 2) := by decide +kernel
theorem dX1_gapOf_24 : decode cX1_gapOf 24 = .ok (.invokevirtual 73, 3) := by decide +kernel
theorem dX1_gapOf_27 : decode cX1_gapOf 27 = .ok (.istore 7, 2) := by decide +kernel
theorem dX1_gapOf_29 : decode cX1_gapOf 29 = .ok (.iload 5, 2) := by decide +kernel
theorem dX1_gapOf_31 : decode cX1_gapOf 31 = .ok (.aload_n 0, 1) := by decide +kernel
theorem dX1_gapOf_32 : decode cX1_gapOf 32 = .ok (.getfield 42, 3) := by decide +kernel
theorem dX1_gapOf_35 : decode cX1_gapOf 35 = .ok (.iload_n 1, 1) := by decide +kernel
theorem dX1_gapOf_36 : decode cX1_gapOf 36 = .ok (.aaload, 1) := by decide +kernel
theorem dX1_gapOf_37 : decode cX1_gapOf 37 = .ok (.iload 7, 2) := by decide +kernel
theorem dX1_gapOf_39 : decode cX1_gapOf 39 = .ok (.iaload, 1) := by decide +kernel
theorem dX1_gapOf_40 : decode cX1_gapOf 40 = .ok (.iadd, 1) := by decide +kernel
theorem dX1_gapOf_41 : decode cX1_gapOf 41 = .ok (.istore 5, 2) := by decide +kernel
theorem dX1_gapOf_43 : decode cX1_gapOf 43 = .ok (.aload_n 0, 1) := by decide +kernel
theorem dX1_gapOf_44 : decode cX1_gapOf 44 = .ok (.iload 7, 2) := by decide +kernel
theorem dX1_gapOf_46 : decode cX1_gapOf 46 = .ok (.invokevirtual 69, 3) := by decide +kernel
theorem dX1_gapOf_49 : decode cX1_gapOf 49 = .ok (.ifCond .ne 13, 3) := by decide +kernel
theorem dX1_gapOf_52 : decode cX1_gapOf 52 = .ok (.iload_n 3, 1) := by decide +kernel
theorem dX1_gapOf_53 : decode cX1_gapOf 53 = .ok (.iload 5, 2) := by decide +kernel
theorem dX1_gapOf_55 : decode cX1_gapOf 55 = .ok (.iload 4, 2) := by decide +kernel
theorem dX1_gapOf_57 : decode cX1_gapOf 57 = .ok (.isub, 1) := by decide +kernel
theorem dX1_gapOf_58 : decode cX1_gapOf 58 = .ok (.invokestatic 62, 3) := by decide +kernel
theorem dX1_gapOf_61 : decode cX1_gapOf 61 = .ok (.istore_n 3, 1) := by decide +kernel
theorem dX1_gapOf_62 : decode cX1_gapOf 62 = .ok (.iload 4, 2) := by decide +kernel
theorem dX1_gapOf_64 : decode cX1_gapOf 64 = .ok (.aload_n 0, 1) := by decide +kernel
theorem dX1_gapOf_65 : decode cX1_gapOf 65 = .ok (.getfield 42, 3) := by decide +kernel
theorem dX1_gapOf_68 : decode cX1_gapOf 68 = .ok (.iload_n 2, 1) := by decide +kernel
theorem dX1_gapOf_69 : decode cX1_gapOf 69 = .ok (.aaload, 1) := by decide +kernel
theorem dX1_gapOf_70 : decode cX1_gapOf 70 = .ok (.iload 7, 2) := by decide +kernel
theorem dX1_gapOf_72 : decode cX1_gapOf 72 = .ok (.iaload, 1) := by decide +kernel
theorem dX1_gapOf_73 : decode cX1_gapOf 73 = .ok (.iadd, 1) := by decide +kernel
theorem dX1_gapOf_74 : decode cX1_gapOf 74 = .ok (.istore 4, 2) := by decide +kernel
theorem dX1_gapOf_76 : decode cX1_gapOf 76 = .ok (.iinc 6 1, 3) := by decide +kernel
theorem dX1_gapOf_79 : decode cX1_gapOf 79 = .ok (.goto (-68), 3) := by decide +kernel
theorem dX1_gapOf_82 : decode cX1_gapOf 82 = .ok (.iload_n 3, 1) := by decide +kernel
theorem dX1_gapOf_83 : decode cX1_gapOf 83 = .ok (.ireturn, 1) := by decide +kernel
theorem dX1_placeOfGap_0 : decode cX1_placeOfGap 0 = .ok (.iconst 0, 1) := by decide +kernel
theorem dX1_placeOfGap_1 : decode cX1_placeOfGap 1 = .ok (.istore 4, 2) := by decide +kernel
theorem dX1_placeOfGap_3 : decode cX1_placeOfGap 3 = .ok (.iconst 0, 1) := by decide +kernel
theorem dX1_placeOfGap_4 : decode cX1_placeOfGap 4 = .ok (.istore 5, 2) := by decide +kernel
theorem dX1_placeOfGap_6 : decode cX1_placeOfGap 6 = .ok (.iconst 0, 1) := by decide +kernel
theorem dX1_placeOfGap_7 : decode cX1_placeOfGap 7 = .ok (.istore 6, 2) := by decide +kernel
theorem dX1_placeOfGap_9 : decode cX1_placeOfGap 9 = .ok (.iload 6, 2) := by decide +kernel
theorem dX1_placeOfGap_11 : decode cX1_placeOfGap 11 = .ok (.aload_n 0, 1) := by decide +kernel
theorem dX1_placeOfGap_12 : decode cX1_placeOfGap 12 = .ok (.getfield 9, 3) := by decide +kernel
theorem dX1_placeOfGap_15 : decode cX1_placeOfGap 15 = .ok (.if_icmp .ge 67, 3) := by decide +kernel
theorem dX1_placeOfGap_18 : decode cX1_placeOfGap 18 = .ok (.aload_n 0, 1) := by decide +kernel
theorem dX1_placeOfGap_19 : decode cX1_placeOfGap 19 = .ok (.iload_n 1, 1) := by decide +kernel
theorem dX1_placeOfGap_20 : decode cX1_placeOfGap 20 = .ok (.iload 6, 2) := by decide +kernel
theorem dX1_placeOfGap_22 : decode cX1_placeOfGap 22 = .ok (.invokevirtual 73, 3) := by decide +kernel
theorem dX1_placeOfGap_25 : decode cX1_placeOfGap 25 = .ok (.istore 7, 2) := by decide +kernel
theorem dX1_placeOfGap_27 : decode cX1_placeOfGap 27 = .ok (.iload 5, 2) := by decide +kernel
theorem dX1_placeOfGap_29 : decode cX1_placeOfGap 29 = .ok (.aload_n 0, 1) := by decide +kernel
theorem dX1_placeOfGap_30 : decode cX1_placeOfGap 30 = .ok (.getfield 42, 3) := by decide +kernel
theorem dX1_placeOfGap_33 : decode cX1_placeOfGap 33 = .ok (.iload_n 1, 1) := by decide +kernel
theorem dX1_placeOfGap_34 : decode cX1_placeOfGap 34 = .ok (.aaload, 1) := by decide +kernel
theorem dX1_placeOfGap_35 : decode cX1_placeOfGap 35 = .ok (.iload 7, 2) := by decide +kernel
theorem dX1_placeOfGap_37 : decode cX1_placeOfGap 37 = .ok (.iaload, 1) := by decide +kernel
theorem dX1_placeOfGap_38 : decode cX1_placeOfGap 38 = .ok (.iadd, 1) := by decide +kernel
theorem dX1_placeOfGap_39 : decode cX1_placeOfGap 39 = .ok (.istore 5, 2) := by decide +kernel
theorem dX1_placeOfGap_41 : decode cX1_placeOfGap 41 = .ok (.aload_n 0, 1) := by decide +kernel
theorem dX1_placeOfGap_42 : decode cX1_placeOfGap 42 = .ok (.iload 7, 2) := by decide +kernel
theorem dX1_placeOfGap_44 : decode cX1_placeOfGap 44 = .ok (.invokevirtual 69, 3) := by decide +kernel
theorem dX1_placeOfGap_47 : decode cX1_placeOfGap 47 = .ok (.ifCond .ne 15, 3) := by decide +kernel
theorem dX1_placeOfGap_50 : decode cX1_placeOfGap 50 = .ok (.iload 5, 2) := by decide +kernel
theorem dX1_placeOfGap_52 : decode cX1_placeOfGap 52 = .ok (.iload 4, 2) := by decide +kernel
theorem dX1_placeOfGap_54 : decode cX1_placeOfGap 54 = .ok (.isub, 1) := by decide +kernel
theorem dX1_placeOfGap_55 : decode cX1_placeOfGap 55 = .ok (.iload_n 3, 1) := by decide +kernel
theorem dX1_placeOfGap_56 : decode cX1_placeOfGap 56 = .ok (.if_icmp .ne 6, 3) := by decide +kernel
theorem dX1_placeOfGap_59 : decode cX1_placeOfGap 59 = .ok (.iload 7, 2) := by decide +kernel
theorem dX1_placeOfGap_61 : decode cX1_placeOfGap 61 = .ok (.ireturn, 1) := by decide +kernel
theorem dX1_placeOfGap_62 : decode cX1_placeOfGap 62 = .ok (.iload 4, 2) := by decide +kernel
theorem dX1_placeOfGap_64 : decode cX1_placeOfGap 64 = .ok (.aload_n 0, 1) := by decide +kernel
theorem dX1_placeOfGap_65 : decode cX1_placeOfGap 65 = .ok (.getfield 42, 3) := by decide +kernel
theorem dX1_placeOfGap_68 : decode cX1_placeOfGap 68 = .ok (.iload_n 2, 1) := by decide +kernel
theorem dX1_placeOfGap_69 : decode cX1_placeOfGap 69 = .ok (.aaload, 1) := by decide +kernel
theorem dX1_placeOfGap_70 : decode cX1_placeOfGap 70 = .ok (.iload 7, 2) := by decide +kernel
theorem dX1_placeOfGap_72 : decode cX1_placeOfGap 72 = .ok (.iaload, 1) := by decide +kernel
theorem dX1_placeOfGap_73 : decode cX1_placeOfGap 73 = .ok (.iadd, 1) := by decide +kernel
theorem dX1_placeOfGap_74 : decode cX1_placeOfGap 74 = .ok (.istore 4, 2) := by decide +kernel
theorem dX1_placeOfGap_76 : decode cX1_placeOfGap 76 = .ok (.iinc 6 1, 3) := by decide +kernel
theorem dX1_placeOfGap_79 : decode cX1_placeOfGap 79 = .ok (.goto (-70), 3) := by decide +kernel
theorem dX1_placeOfGap_82 : decode cX1_placeOfGap 82 = .ok (.iconst (-1), 1) := by decide +kernel
theorem dX1_placeOfGap_83 : decode cX1_placeOfGap 83 = .ok (.ireturn, 1) := by decide +kernel
theorem dX10_gap_0 : decode cX10_gap 0 = .ok (.aload_n 0, 1) := by decide +kernel
theorem dX10_gap_1 : decode cX10_gap 1 = .ok (.getfield 19, 3) := by decide +kernel
theorem dX10_gap_4 : decode cX10_gap 4 = .ok (.iload_n 1, 1) := by decide +kernel
theorem dX10_gap_5 : decode cX10_gap 5 = .ok (.invokevirtual 152, 3) := by decide +kernel
theorem dX10_gap_8 : decode cX10_gap 8 = .ok (.ifCond .eq 19, 3) := by decide +kernel
theorem dX10_gap_11 : decode cX10_gap 11 = .ok (.aload_n 0, 1) := by decide +kernel
theorem dX10_gap_12 : decode cX10_gap 12 = .ok (.getfield 19, 3) := by decide +kernel
theorem dX10_gap_15 : decode cX10_gap 15 = .ok (.iload_n 2, 1) := by decide +kernel
theorem dX10_gap_16 : decode cX10_gap 16 = .ok (.invokevirtual 152, 3) := by decide +kernel
theorem dX10_gap_19 : decode cX10_gap 19 = .ok (.ifCond .eq 8, 3) := by decide +kernel
theorem dX10_gap_22 : decode cX10_gap 22 = .ok (.iload_n 1, 1) := by decide +kernel
theorem dX10_gap_23 : decode cX10_gap 23 = .ok (.iload_n 2, 1) := by decide +kernel
theorem dX10_gap_24 : decode cX10_gap 24 = .ok (.if_icmp .ne 5, 3) := by decide +kernel
theorem dX10_gap_27 : decode cX10_gap 27 = .ok (.iconst (-1), 1) := by decide +kernel
theorem dX10_gap_28 : decode cX10_gap 28 = .ok (.ireturn, 1) := by decide +kernel
theorem dX10_gap_29 : decode cX10_gap 29 = .ok (.aload_n 0, 1) := by decide +kernel
theorem dX10_gap_30 : decode cX10_gap 30 = .ok (.getfield 19, 3) := by decide +kernel
theorem dX10_gap_33 : decode cX10_gap 33 = .ok (.getfield 167, 3) := by decide +kernel
theorem dX10_gap_36 : decode cX10_gap 36 = .ok (.iload_n 1, 1) := by decide +kernel
theorem dX10_gap_37 : decode cX10_gap 37 = .ok (.iaload, 1) := by decide +kernel
theorem dX10_gap_38 : decode cX10_gap 38 = .ok (.aload_n 0, 1) := by decide +kernel
theorem dX10_gap_39 : decode cX10_gap 39 = .ok (.getfield 19, 3) := by decide +kernel
theorem dX10_gap_42 : decode cX10_gap 42 = .ok (.getfield 167, 3) := by decide +kernel
theorem dX10_gap_45 : decode cX10_gap 45 = .ok (.iload_n 2, 1) := by decide +kernel
theorem dX10_gap_46 : decode cX10_gap 46 = .ok (.iaload, 1) := by decide +kernel
theorem dX10_gap_47 : decode cX10_gap 47 = .ok (.if_icmp .eq 6, 3) := by decide +kernel
theorem dX10_gap_50 : decode cX10_gap 50 = .ok (.bipush (-2), 2) := by decide +kernel
theorem dX10_gap_52 : decode cX10_gap 52 = .ok (.ireturn, 1) := by decide +kernel
theorem dX10_gap_53 : decode cX10_gap 53 = .ok (.aload_n 0, 1) := by decide +kernel
theorem dX10_gap_54 : decode cX10_gap 54 = .ok (.getfield 19, 3) := by decide +kernel
theorem dX10_gap_57 : decode cX10_gap 57 = .ok (.iload_n 1, 1) := by decide +kernel
theorem dX10_gap_58 : decode cX10_gap 58 = .ok (.iload_n 2, 1) := by decide +kernel
theorem dX10_gap_59 : decode cX10_gap 59 = .ok (.invokevirtual 329, 3) := by decide +kernel
theorem dX10_gap_62 : decode cX10_gap 62 = .ok (.istore_n 3, 1) := by decide +kernel
theorem dX10_gap_63 : decode cX10_gap 63 = .ok (.aload_n 0, 1) := by decide +kernel
theorem dX10_gap_64 : decode cX10_gap 64 = .ok (.invokevirtual 246, 3) := by decide +kernel
theorem dX10_gap_67 : decode cX10_gap 67 = .ok (.aload_n 0, 1) := by decide +kernel
theorem dX10_gap_68 : decode cX10_gap 68 = .ok (.aload_n 0, 1) := by decide +kernel
theorem dX10_gap_69 : decode cX10_gap 69 = .ok (.getfield 19, 3) := by decide +kernel
theorem dX10_gap_72 : decode cX10_gap 72 = .ok (.iload_n 1, 1) := by decide +kernel
theorem dX10_gap_73 : decode cX10_gap 73 = .ok (.iload_n 2, 1) := by decide +kernel
theorem dX10_gap_74 : decode cX10_gap 74 = .ok (.iload_n 3, 1) := by decide +kernel
theorem dX10_gap_75 : decode cX10_gap 75 = .ok (.invokevirtual 332, 3) := by decide +kernel
theorem dX10_gap_78 : decode cX10_gap 78 = .ok (.invokevirtual 252, 3) := by decide +kernel
theorem dX10_gap_81 : decode cX10_gap 81 = .ok (.iload_n 3, 1) := by decide +kernel
theorem dX10_gap_82 : decode cX10_gap 82 = .ok (.ireturn, 1) := by decide +kernel
theorem dX10_goOneWay_0 : decode cX10_goOneWay 0 = .ok (.iconst 0, 1) := by decide +kernel
theorem dX10_goOneWay_1 : decode cX10_goOneWay 1 = .ok (.istore_n 2, 1) := by decide +kernel
theorem dX10_goOneWay_2 : decode cX10_goOneWay 2 = .ok (.iconst 0, 1) := by decide +kernel
theorem dX10_goOneWay_3 : decode cX10_goOneWay 3 = .ok (.istore_n 3, 1) := by decide +kernel
theorem dX10_goOneWay_4 : decode cX10_goOneWay 4 = .ok (.iload_n 3, 1) := by decide +kernel
theorem dX10_goOneWay_5 : decode cX10_goOneWay 5 = .ok (.aload_n 0, 1) := by decide +kernel
theorem dX10_goOneWay_6 : decode cX10_goOneWay 6 = .ok (.getfield 19, 3) := by decide +kernel
theorem dX10_goOneWay_9 : decode cX10_goOneWay 9 = .ok (.getfield 129, 3) := by decide +kernel
theorem dX10_goOneWay_12 : decode cX10_goOneWay 12 = .ok (.if_icmp .ge 31, 3) := by decide +kernel
theorem dX10_goOneWay_15 : decode cX10_goOneWay 15 = .ok (.iload_n 1, 1) := by decide +kernel
theorem dX10_goOneWay_16 : decode cX10_goOneWay 16 = .ok (.iload_n 3, 1) := by decide +kernel
theorem dX10_goOneWay_17 : decode cX10_goOneWay 17 = .ok (.invokestatic 362, 3) := by decide +kernel
theorem dX10_goOneWay_20 : decode cX10_goOneWay 20 = .ok (.ifCond .eq 17, 3) := by decide +kernel
theorem dX10_goOneWay_23 : decode cX10_goOneWay 23 = .ok (.iload_n 2, 1) := by decide +kernel
theorem dX10_goOneWay_24 : decode cX10_goOneWay 24 = .ok (.iconst 1, 1) := by decide +kernel
theorem dX10_goOneWay_25 : decode cX10_goOneWay 25 = .ok (.aload_n 0, 1) := by decide +kernel
theorem dX10_goOneWay_26 : decode cX10_goOneWay 26 = .ok (.getfield 19, 3) := by decide +kernel
theorem dX10_goOneWay_29 : decode cX10_goOneWay 29 = .ok (.getfield 167, 3) := by decide +kernel
theorem dX10_goOneWay_32 : decode cX10_goOneWay 32 = .ok (.iload_n 3, 1) := by decide +kernel
theorem dX10_goOneWay_33 : decode cX10_goOneWay 33 = .ok (.iaload, 1) := by decide +kernel
theorem dX10_goOneWay_34 : decode cX10_goOneWay 34 = .ok (.ishl, 1) := by decide +kernel
theorem dX10_goOneWay_35 : decode cX10_goOneWay 35 = .ok (.ior, 1) := by decide +kernel
theorem dX10_goOneWay_36 : decode cX10_goOneWay 36 = .ok (.istore_n 2, 1) := by decide +kernel
theorem dX10_goOneWay_37 : decode cX10_goOneWay 37 = .ok (.iinc 3 1, 3) := by decide +kernel
theorem dX10_goOneWay_40 : decode cX10_goOneWay 40 = .ok (.goto (-36), 3) := by decide +kernel
theorem dX10_goOneWay_43 : decode cX10_goOneWay 43 = .ok (.iload_n 2, 1) := by decide +kernel
theorem dX10_goOneWay_44 : decode cX10_goOneWay 44 = .ok (.invokestatic 225, 3) := by decide +kernel
theorem dX10_goOneWay_47 : decode cX10_goOneWay 47 = .ok (.iconst 1, 1) := by decide +kernel
theorem dX10_goOneWay_48 : decode cX10_goOneWay 48 = .ok (.if_icmp .ne 7, 3) := by decide +kernel
theorem dX10_goOneWay_51 : decode cX10_goOneWay 51 = .ok (.iconst 1, 1) := by decide +kernel
theorem dX10_goOneWay_52 : decode cX10_goOneWay 52 = .ok (.goto 4, 3) := by decide +kernel
theorem dX10_goOneWay_55 : decode cX10_goOneWay 55 = .ok (.iconst 0, 1) := by decide +kernel
theorem dX10_goOneWay_56 : decode cX10_goOneWay 56 = .ok (.ireturn, 1) := by decide +kernel
theorem dX10_smoothMinutes_0 : decode cX10_smoothMinutes 0 = .ok (.iconst 0, 1) := by decide +kernel
theorem dX10_smoothMinutes_1 : decode cX10_smoothMinutes 1 = .ok (.istore_n 2, 1) := by decide +kernel
theorem dX10_smoothMinutes_2 : decode cX10_smoothMinutes 2 = .ok (.iconst 0, 1) := by decide +kernel
theorem dX10_smoothMinutes_3 : decode cX10_smoothMinutes 3 = .ok (.istore_n 3, 1) := by decide +kernel
theorem dX10_smoothMinutes_4 : decode cX10_smoothMinutes 4 = .ok (.iconst 0, 1) := by decide +kernel
theorem dX10_smoothMinutes_5 : decode cX10_smoothMinutes 5 = .ok (.istore 4, 2) := by decide +kernel
theorem dX10_smoothMinutes_7 : decode cX10_smoothMinutes 7 = .ok (.iload 4, 2) := by decide +kernel
theorem dX10_smoothMinutes_9 : decode cX10_smoothMinutes 9 = .ok (.aload_n 1, 1) := by decide +kernel
theorem dX10_smoothMinutes_10 : decode cX10_smoothMinutes 10 = .ok (.getfield 303, 3) := by decide +kernel
theorem dX10_smoothMinutes_13 : decode cX10_smoothMinutes 13 = .ok (.if_icmp .ge 61, 3) := by decide +kernel
theorem dX10_smoothMinutes_16 : decode cX10_smoothMinutes 16 = .ok (.iload 4, 2) := by decide +kernel
theorem dX10_smoothMinutes_18 : decode cX10_smoothMinutes 18 = .ok (.ifCond .le 29, 3) := by decide +kernel
theorem dX10_smoothMinutes_21 : decode cX10_smoothMinutes 21 = .ok (.iload_n 2, 1) := by decide +kernel
theorem dX10_smoothMinutes_22 : decode cX10_smoothMinutes 22 = .ok (.aload_n 0, 1) := by decide +kernel
theorem dX10_smoothMinutes_23 : decode cX10_smoothMinutes 23 = .ok (.getfield 19, 3) := by decide +kernel
theorem dX10_smoothMinutes_26 : decode cX10_smoothMinutes 26 = .ok (.aload_n 1, 1) := by decide +kernel
theorem dX10_smoothMinutes_27 : decode cX10_smoothMinutes 27 = .ok (.getfield 307, 3) := by decide +kernel
theorem dX10_smoothMinutes_30 : decode cX10_smoothMinutes 30 = .ok (.iload 4, 2) := by decide +kernel
theorem dX10_smoothMinutes_32 : decode cX10_smoothMinutes 32 = .ok (.iconst 1, 1) := by decide +kernel
theorem dX10_smoothMinutes_33 : decode cX10_smoothMinutes 33 = .ok (.isub, 1) := by decide +kernel
theorem dX10_smoothMinutes_34 : decode cX10_smoothMinutes 34 = .ok (.iaload, 1) := by decide +kernel
theorem dX10_smoothMinutes_35 : decode cX10_smoothMinutes 35 = .ok (.aload_n 1, 1) := by decide +kernel
theorem dX10_smoothMinutes_36 : decode cX10_smoothMinutes 36 = .ok (.getfield 307, 3) := by decide +kernel
theorem dX10_smoothMinutes_39 : decode cX10_smoothMinutes 39 = .ok (.iload 4, 2) := by decide +kernel
theorem dX10_smoothMinutes_41 : decode cX10_smoothMinutes 41 = .ok (.iaload, 1) := by decide +kernel
theorem dX10_smoothMinutes_42 : decode cX10_smoothMinutes 42 = .ok (.invokevirtual 329, 3) := by decide +kernel
theorem dX10_smoothMinutes_45 : decode cX10_smoothMinutes 45 = .ok (.iadd, 1) := by decide +kernel
theorem dX10_smoothMinutes_46 : decode cX10_smoothMinutes 46 = .ok (.istore_n 2, 1) := by decide +kernel
theorem dX10_smoothMinutes_47 : decode cX10_smoothMinutes 47 = .ok (.iload_n 3, 1) := by decide +kernel
theorem dX10_smoothMinutes_48 : decode cX10_smoothMinutes 48 = .ok (.iload_n 2, 1) := by decide +kernel
theorem dX10_smoothMinutes_49 : decode cX10_smoothMinutes 49 = .ok (.aload_n 0, 1) := by decide +kernel
theorem dX10_smoothMinutes_50 : decode cX10_smoothMinutes 50 = .ok (.getfield 19, 3) := by decide +kernel
theorem dX10_smoothMinutes_53 : decode cX10_smoothMinutes 53 = .ok (.aload_n 1, 1) := by decide +kernel
theorem dX10_smoothMinutes_54 : decode cX10_smoothMinutes 54 = .ok (.getfield 307, 3) := by decide +kernel
theorem dX10_smoothMinutes_57 : decode cX10_smoothMinutes 57 = .ok (.iload 4, 2) := by decide +kernel
theorem dX10_smoothMinutes_59 : decode cX10_smoothMinutes 59 = .ok (.iaload, 1) := by decide +kernel
theorem dX10_smoothMinutes_60 : decode cX10_smoothMinutes 60 = .ok (.invokevirtual 354, 3) := by decide +kernel
theorem dX10_smoothMinutes_63 : decode cX10_smoothMinutes 63 = .ok (.iadd, 1) := by decide +kernel
theorem dX10_smoothMinutes_64 : decode cX10_smoothMinutes 64 = .ok (.invokestatic 357, 3) := by decide +kernel
theorem dX10_smoothMinutes_67 : decode cX10_smoothMinutes 67 = .ok (.istore_n 3, 1) := by decide +kernel
theorem dX10_smoothMinutes_68 : decode cX10_smoothMinutes 68 = .ok (.iinc 4 1, 3) := by decide +kernel
theorem dX10_smoothMinutes_71 : decode cX10_smoothMinutes 71 = .ok (.goto (-64), 3) := by decide +kernel
theorem dX10_smoothMinutes_74 : decode cX10_smoothMinutes 74 = .ok (.iload_n 3, 1) := by decide +kernel
theorem dX10_smoothMinutes_75 : decode cX10_smoothMinutes 75 = .ok (.ireturn, 1) := by decide +kernel
theorem dX10_tellSettingOff_0 : decode cX10_tellSettingOff 0 = .ok (.iconst 0, 1) := by decide +kernel
theorem dX10_tellSettingOff_1 : decode cX10_tellSettingOff 1 = .ok (.istore_n 2, 1) := by decide +kernel
theorem dX10_tellSettingOff_2 : decode cX10_tellSettingOff 2 = .ok (.iconst 0, 1) := by decide +kernel
theorem dX10_tellSettingOff_3 : decode cX10_tellSettingOff 3 = .ok (.istore_n 3, 1) := by decide +kernel
theorem dX10_tellSettingOff_4 : decode cX10_tellSettingOff 4 = .ok (.iload_n 3, 1) := by decide +kernel
theorem dX10_tellSettingOff_5 : decode cX10_tellSettingOff 5 = .ok (.aload_n 1, 1) := by decide +kernel
theorem dX10_tellSettingOff_6 : decode cX10_tellSettingOff 6 = .ok (.getfield 303, 3) := by decide +kernel
theorem dX10_tellSettingOff_9 : decode cX10_tellSettingOff 9 = .ok (.if_icmp .ge 42, 3) := by decide +kernel
theorem dX10_tellSettingOff_12 : decode cX10_tellSettingOff 12 = .ok (.iload_n 3, 1) := by decide +kernel
theorem dX10_tellSettingOff_13 : decode cX10_tellSettingOff 13 = .ok (.ifCond .le 27, 3) := by decide +kernel
theorem dX10_tellSettingOff_16 : decode cX10_tellSettingOff 16 = .ok (.iload_n 2, 1) := by decide +kernel
theorem dX10_tellSettingOff_17 : decode cX10_tellSettingOff 17 = .ok (.aload_n 0, 1) := by decide +kernel
theorem dX10_tellSettingOff_18 : decode cX10_tellSettingOff 18 = .ok (.getfield 19, 3) := by decide +kernel
theorem dX10_tellSettingOff_21 : decode cX10_tellSettingOff 21 = .ok (.aload_n 1, 1) := by decide +kernel
theorem dX10_tellSettingOff_22 : decode cX10_tellSettingOff 22 = .ok (.getfield 307, 3) := by decide +kernel
theorem dX10_tellSettingOff_25 : decode cX10_tellSettingOff 25 = .ok (.iload_n 3, 1) := by decide +kernel
theorem dX10_tellSettingOff_26 : decode cX10_tellSettingOff 26 = .ok (.iconst 1, 1) := by decide +kernel
theorem dX10_tellSettingOff_27 : decode cX10_tellSettingOff 27 = .ok (.isub, 1) := by decide +kernel
theorem dX10_tellSettingOff_28 : decode cX10_tellSettingOff 28 = .ok (.iaload, 1) := by decide +kernel
theorem dX10_tellSettingOff_29 : decode cX10_tellSettingOff 29 = .ok (.aload_n 1, 1) := by decide +kernel
theorem dX10_tellSettingOff_30 : decode cX10_tellSettingOff 30 = .ok (.getfield 307, 3) := by decide +kernel
theorem dX10_tellSettingOff_33 : decode cX10_tellSettingOff 33 = .ok (.iload_n 3, 1) := by decide +kernel
theorem dX10_tellSettingOff_34 : decode cX10_tellSettingOff 34 = .ok (.iaload, 1) := by decide +kernel
theorem dX10_tellSettingOff_35 : decode cX10_tellSettingOff 35 = .ok (.invokevirtual 329, 3) := by decide +kernel
theorem dX10_tellSettingOff_38 : decode cX10_tellSettingOff 38 = .ok (.iadd, 1) := by decide +kernel
theorem dX10_tellSettingOff_39 : decode cX10_tellSettingOff 39 = .ok (.istore_n 2, 1) := by decide +kernel
theorem dX10_tellSettingOff_40 : decode cX10_tellSettingOff 40 = .ok (.aload_n 0, 1) := by decide +kernel
theorem dX10_tellSettingOff_41 : decode cX10_tellSettingOff 41 = .ok (.iload_n 2, 1) := by decide +kernel
theorem dX10_tellSettingOff_42 : decode cX10_tellSettingOff 42 = .ok (.invokevirtual 252, 3) := by decide +kernel
theorem dX10_tellSettingOff_45 : decode cX10_tellSettingOff 45 = .ok (.iinc 3 1, 3) := by decide +kernel
theorem dX10_tellSettingOff_48 : decode cX10_tellSettingOff 48 = .ok (.goto (-44), 3) := by decide +kernel
theorem dX10_tellSettingOff_51 : decode cX10_tellSettingOff 51 = .ok (.return_, 1) := by decide +kernel
theorem dX10_smooth_0 : decode cX10_smooth 0 = .ok (.aload_n 0, 1) := by decide +kernel
theorem dX10_smooth_1 : decode cX10_smooth 1 = .ok (.iload_n 1, 1) := by decide +kernel
theorem dX10_smooth_2 : decode cX10_smooth 2 = .ok (.invokevirtual 336, 3) := by decide +kernel
theorem dX10_smooth_5 : decode cX10_smooth 5 = .ok (.ifCond .eq 7, 3) := by decide +kernel
theorem dX10_smooth_8 : decode cX10_smooth 8 = .ok (.iload_n 1, 1) := by decide +kernel
theorem dX10_smooth_9 : decode cX10_smooth 9 = .ok (.ifCond .ne 5, 3) := by decide +kernel
theorem dX10_smooth_12 : decode cX10_smooth 12 = .ok (.iconst (-1), 1) := by decide +kernel
theorem dX10_smooth_13 : decode cX10_smooth 13 = .ok (.ireturn, 1) := by decide +kernel
theorem dX10_smooth_14 : decode cX10_smooth 14 = .ok (.aload_n 0, 1) := by decide +kernel
theorem dX10_smooth_15 : decode cX10_smooth 15 = .ok (.iload_n 1, 1) := by decide +kernel
theorem dX10_smooth_16 : decode cX10_smooth 16 = .ok (.invokevirtual 339, 3) := by decide +kernel
theorem dX10_smooth_19 : decode cX10_smooth 19 = .ok (.ifCond .ne 6, 3) := by decide +kernel
theorem dX10_smooth_22 : decode cX10_smooth 22 = .ok (.bipush (-2), 2) := by decide +kernel
theorem dX10_smooth_24 : decode cX10_smooth 24 = .ok (.ireturn, 1) := by decide +kernel
theorem dX10_smooth_25 : decode cX10_smooth 25 = .ok (.iconst (-1), 1) := by decide +kernel
theorem dX10_smooth_26 : decode cX10_smooth 26 = .ok (.istore_n 2, 1) := by decide +kernel
theorem dX10_smooth_27 : decode cX10_smooth 27 = .ok (.iconst 0, 1) := by decide +kernel
theorem dX10_smooth_28 : decode cX10_smooth 28 = .ok (.istore_n 3, 1) := by decide +kernel
theorem dX10_smooth_29 : decode cX10_smooth 29 = .ok (.aload_n 0, 1) := by decide +kernel
theorem dX10_smooth_30 : decode cX10_smooth 30 = .ok (.getfield 73, 3) := by decide +kernel
theorem dX10_smooth_33 : decode cX10_smooth 33 = .ok (.iload_n 1, 1) := by decide +kernel
theorem dX10_smooth_34 : decode cX10_smooth 34 = .ok (.invokevirtual 342, 3) := by decide +kernel
theorem dX10_smooth_37 : decode cX10_smooth 37 = .ok (.iconst 0, 1) := by decide +kernel
theorem dX10_smooth_38 : decode cX10_smooth 38 = .ok (.istore 4, 2) := by decide +kernel
theorem dX10_smooth_40 : decode cX10_smooth 40 = .ok (.iload 4, 2) := by decide +kernel
theorem dX10_smooth_42 : decode cX10_smooth 42 = .ok (.sipush 720, 3) := by decide +kernel
theorem dX10_smooth_45 : decode cX10_smooth 45 = .ok (.if_icmp .ge 57, 3) := by decide +kernel
theorem dX10_smooth_48 : decode cX10_smooth 48 = .ok (.iload_n 3, 1) := by decide +kernel
theorem dX10_smooth_49 : decode cX10_smooth 49 = .ok (.iconst (-1), 1) := by decide +kernel
theorem dX10_smooth_50 : decode cX10_smooth 50 = .ok (.if_icmp .eq 52, 3) := by decide +kernel
theorem dX10_smooth_53 : decode cX10_smooth 53 = .ok (.aload_n 0, 1) := by decide +kernel
theorem dX10_smooth_54 : decode cX10_smooth 54 = .ok (.aload_n 0, 1) := by decide +kernel
theorem dX10_smooth_55 : decode cX10_smooth 55 = .ok (.getfield 73, 3) := by decide +kernel
theorem dX10_smooth_58 : decode cX10_smooth 58 = .ok (.invokevirtual 344, 3) := by decide +kernel
theorem dX10_smooth_61 : decode cX10_smooth 61 = .ok (.istore 5, 2) := by decide +kernel
theorem dX10_smooth_63 : decode cX10_smooth 63 = .ok (.iload_n 2, 1) := by decide +kernel
theorem dX10_smooth_64 : decode cX10_smooth 64 = .ok (.iconst (-1), 1) := by decide +kernel
theorem dX10_smooth_65 : decode cX10_smooth 65 = .ok (.if_icmp .eq 9, 3) := by decide +kernel
theorem dX10_smooth_68 : decode cX10_smooth 68 = .ok (.iload 5, 2) := by decide +kernel
theorem dX10_smooth_70 : decode cX10_smooth 70 = .ok (.iload_n 2, 1) := by decide +kernel
theorem dX10_smooth_71 : decode cX10_smooth 71 = .ok (.if_icmp .ge 17, 3) := by decide +kernel
theorem dX10_smooth_74 : decode cX10_smooth 74 = .ok (.iload 5, 2) := by decide +kernel
theorem dX10_smooth_76 : decode cX10_smooth 76 = .ok (.istore_n 2, 1) := by decide +kernel
theorem dX10_smooth_77 : decode cX10_smooth 77 = .ok (.aload_n 0, 1) := by decide +kernel
theorem dX10_smooth_78 : decode cX10_smooth 78 = .ok (.getfield 77, 3) := by decide +kernel
theorem dX10_smooth_81 : decode cX10_smooth 81 = .ok (.aload_n 0, 1) := by decide +kernel
theorem dX10_smooth_82 : decode cX10_smooth 82 = .ok (.getfield 73, 3) := by decide +kernel
theorem dX10_smooth_85 : decode cX10_smooth 85 = .ok (.invokevirtual 323, 3) := by decide +kernel
theorem dX10_smooth_88 : decode cX10_smooth 88 = .ok (.aload_n 0, 1) := by decide +kernel
theorem dX10_smooth_89 : decode cX10_smooth 89 = .ok (.getfield 73, 3) := by decide +kernel
theorem dX10_smooth_92 : decode cX10_smooth 92 = .ok (.invokevirtual 326, 3) := by decide +kernel
theorem dX10_smooth_95 : decode cX10_smooth 95 = .ok (.istore_n 3, 1) := by decide +kernel
theorem dX10_smooth_96 : decode cX10_smooth 96 = .ok (.iinc 4 1, 3) := by decide +kernel
theorem dX10_smooth_99 : decode cX10_smooth 99 = .ok (.goto (-59), 3) := by decide +kernel
theorem dX10_smooth_102 : decode cX10_smooth 102 = .ok (.aload_n 0, 1) := by decide +kernel
theorem dX10_smooth_103 : decode cX10_smooth 103 = .ok (.invokevirtual 246, 3) := by decide +kernel
theorem dX10_smooth_106 : decode cX10_smooth 106 = .ok (.aload_n 0, 1) := by decide +kernel
theorem dX10_smooth_107 : decode cX10_smooth 107 = .ok (.invokevirtual 316, 3) := by decide +kernel
theorem dX10_smooth_110 : decode cX10_smooth 110 = .ok (.aload_n 0, 1) := by decide +kernel
theorem dX10_smooth_111 : decode cX10_smooth 111 = .ok (.aload_n 0, 1) := by decide +kernel
theorem dX10_smooth_112 : decode cX10_smooth 112 = .ok (.getfield 77, 3) := by decide +kernel
theorem dX10_smooth_115 : decode cX10_smooth 115 = .ok (.invokevirtual 348, 3) := by decide +kernel
theorem dX10_smooth_118 : decode cX10_smooth 118 = .ok (.iload_n 2, 1) := by decide +kernel
theorem dX10_smooth_119 : decode cX10_smooth 119 = .ok (.ireturn, 1) := by decide +kernel
theorem dX1_longestPlace_0 : decode cX1_longestPlace 0 = .ok (.iconst (-1), 1) := by decide +kernel
theorem dX1_longestPlace_1 : decode cX1_longestPlace 1 = .ok (.istore_n 2, 1) := by decide +kernel
theorem dX1_longestPlace_2 : decode cX1_longestPlace 2 = .ok (.iconst 0, 1) := by decide +kernel
theorem dX1_longestPlace_3 : decode cX1_longestPlace 3 = .ok (.istore_n 3, 1) := by decide +kernel
theorem dX1_longestPlace_4 : decode cX1_longestPlace 4 = .ok (.iload_n 3, 1) := by decide +kernel
theorem dX1_longestPlace_5 : decode cX1_longestPlace 5 = .ok (.aload_n 0, 1) := by decide +kernel
theorem dX1_longestPlace_6 : decode cX1_longestPlace 6 = .ok (.getfield 9, 3) := by decide +kernel
theorem dX1_longestPlace_9 : decode cX1_longestPlace 9 = .ok (.if_icmp .ge 43, 3) := by decide +kernel
theorem dX1_longestPlace_12 : decode cX1_longestPlace 12 = .ok (.aload_n 0, 1) := by decide +kernel
theorem dX1_longestPlace_13 : decode cX1_longestPlace 13 = .ok (.iload_n 3, 1) := by decide +kernel
theorem dX1_longestPlace_14 : decode cX1_longestPlace 14 = .ok (.invokevirtual 69, 3) := by decide +kernel
theorem dX1_longestPlace_17 : decode cX1_longestPlace 17 = .ok (.ifCond .ne 29, 3) := by decide +kernel
theorem dX1_longestPlace_20 : decode cX1_longestPlace 20 = .ok (.iload_n 2, 1) := by decide +kernel
theorem dX1_longestPlace_21 : decode cX1_longestPlace 21 = .ok (.iconst (-1), 1) := by decide +kernel
theorem dX1_longestPlace_22 : decode cX1_longestPlace 22 = .ok (.if_icmp .eq 22, 3) := by decide +kernel
theorem dX1_longestPlace_25 : decode cX1_longestPlace 25 = .ok (.aload_n 0, 1) := by decide +kernel
theorem dX1_longestPlace_26 : decode cX1_longestPlace 26 = .ok (.getfield 42, 3) := by decide +kernel
theorem dX1_longestPlace_29 : decode cX1_longestPlace 29 = .ok (.iload_n 1, 1) := by decide +kernel
theorem dX1_longestPlace_30 : decode cX1_longestPlace 30 = .ok (.aaload, 1) := by decide +kernel
theorem dX1_longestPlace_31 : decode cX1_longestPlace 31 = .ok (.iload_n 3, 1) := by decide +kernel
theorem dX1_longestPlace_32 : decode cX1_longestPlace 32 = .ok (.iaload, 1) := by decide +kernel
theorem dX1_longestPlace_33 : decode cX1_longestPlace 33 = .ok (.aload_n 0, 1) := by decide +kernel
theorem dX1_longestPlace_34 : decode cX1_longestPlace 34 = .ok (.getfield 42, 3) := by decide +kernel
theorem dX1_longestPlace_37 : decode cX1_longestPlace 37 = .ok (.iload_n 1, 1) := by decide +kernel
theorem dX1_longestPlace_38 : decode cX1_longestPlace 38 = .ok (.aaload, 1) := by decide +kernel
theorem dX1_longestPlace_39 : decode cX1_longestPlace 39 = .ok (.iload_n 2, 1) := by decide +kernel
theorem dX1_longestPlace_40 : decode cX1_longestPlace 40 = .ok (.iaload, 1) := by decide +kernel
theorem dX1_longestPlace_41 : decode cX1_longestPlace 41 = .ok (.if_icmp .le 5, 3) := by decide +kernel
theorem dX1_longestPlace_44 : decode cX1_longestPlace 44 = .ok (.iload_n 3, 1) := by decide +kernel
theorem dX1_longestPlace_45 : decode cX1_longestPlace 45 = .ok (.istore_n 2, 1) := by decide +kernel
theorem dX1_longestPlace_46 : decode cX1_longestPlace 46 = .ok (.iinc 3 1, 3) := by decide +kernel
theorem dX1_longestPlace_49 : decode cX1_longestPlace 49 = .ok (.goto (-45), 3) := by decide +kernel
theorem dX1_longestPlace_52 : decode cX1_longestPlace 52 = .ok (.iload_n 2, 1) := by decide +kernel
theorem dX1_longestPlace_53 : decode cX1_longestPlace 53 = .ok (.ireturn, 1) := by decide +kernel
theorem dX10_every_0 : decode cX10_every 0 = .ok (.aload_n 0, 1) := by decide +kernel
theorem dX10_every_1 : decode cX10_every 1 = .ok (.getfield 19, 3) := by decide +kernel
theorem dX10_every_4 : decode cX10_every 4 = .ok (.iload_n 1, 1) := by decide +kernel
theorem dX10_every_5 : decode cX10_every 5 = .ok (.invokevirtual 152, 3) := by decide +kernel
theorem dX10_every_8 : decode cX10_every 8 = .ok (.ifCond .ne 5, 3) := by decide +kernel
theorem dX10_every_11 : decode cX10_every 11 = .ok (.iconst (-1), 1) := by decide +kernel
theorem dX10_every_12 : decode cX10_every 12 = .ok (.ireturn, 1) := by decide +kernel
theorem dX10_every_13 : decode cX10_every 13 = .ok (.aload_n 0, 1) := by decide +kernel
theorem dX10_every_14 : decode cX10_every 14 = .ok (.getfield 19, 3) := by decide +kernel
theorem dX10_every_17 : decode cX10_every 17 = .ok (.iload_n 1, 1) := by decide +kernel
theorem dX10_every_18 : decode cX10_every 18 = .ok (.invokevirtual 351, 3) := by decide +kernel
theorem dX10_every_21 : decode cX10_every 21 = .ok (.istore_n 2, 1) := by decide +kernel
theorem dX10_every_22 : decode cX10_every 22 = .ok (.iload_n 2, 1) := by decide +kernel
theorem dX10_every_23 : decode cX10_every 23 = .ok (.iconst (-1), 1) := by decide +kernel
theorem dX10_every_24 : decode cX10_every 24 = .ok (.if_icmp .ne 7, 3) := by decide +kernel
theorem dX10_every_27 : decode cX10_every 27 = .ok (.iconst 0, 1) := by decide +kernel
theorem dX10_every_28 : decode cX10_every 28 = .ok (.goto 14, 3) := by decide +kernel
theorem dX10_every_31 : decode cX10_every 31 = .ok (.aload_n 0, 1) := by decide +kernel
theorem dX10_every_32 : decode cX10_every 32 = .ok (.getfield 19, 3) := by decide +kernel
theorem dX10_every_35 : decode cX10_every 35 = .ok (.getfield 201, 3) := by decide +kernel
theorem dX10_every_38 : decode cX10_every 38 = .ok (.iload_n 1, 1) := by decide +kernel
theorem dX10_every_39 : decode cX10_every 39 = .ok (.aaload, 1) := by decide +kernel
theorem dX10_every_40 : decode cX10_every 40 = .ok (.iload_n 2, 1) := by decide +kernel
theorem dX10_every_41 : decode cX10_every 41 = .ok (.iaload, 1) := by decide +kernel
theorem dX10_every_42 : decode cX10_every 42 = .ok (.istore_n 3, 1) := by decide +kernel
theorem dX10_every_43 : decode cX10_every 43 = .ok (.aload_n 0, 1) := by decide +kernel
theorem dX10_every_44 : decode cX10_every 44 = .ok (.invokevirtual 246, 3) := by decide +kernel
theorem dX10_every_47 : decode cX10_every 47 = .ok (.aload_n 0, 1) := by decide +kernel
theorem dX10_every_48 : decode cX10_every 48 = .ok (.iload_n 2, 1) := by decide +kernel
theorem dX10_every_49 : decode cX10_every 49 = .ok (.invokevirtual 252, 3) := by decide +kernel
theorem dX10_every_52 : decode cX10_every 52 = .ok (.aload_n 0, 1) := by decide +kernel
theorem dX10_every_53 : decode cX10_every 53 = .ok (.iload_n 3, 1) := by decide +kernel
theorem dX10_every_54 : decode cX10_every 54 = .ok (.ifCond .ne 7, 3) := by decide +kernel
theorem dX10_every_57 : decode cX10_every 57 = .ok (.iconst (-1), 1) := by decide +kernel
theorem dX10_every_58 : decode cX10_every 58 = .ok (.goto 19, 3) := by decide +kernel
theorem dX10_every_61 : decode cX10_every 61 = .ok (.sipush 300, 3) := by decide +kernel
theorem dX10_every_64 : decode cX10_every 64 = .ok (.aload_n 0, 1) := by decide +kernel
theorem dX10_every_65 : decode cX10_every 65 = .ok (.getfield 19, 3) := by decide +kernel
theorem dX10_every_68 : decode cX10_every 68 = .ok (.iload_n 1, 1) := by decide +kernel
theorem dX10_every_69 : decode cX10_every 69 = .ok (.invokevirtual 354, 3) := by decide +kernel
theorem dX10_every_72 : decode cX10_every 72 = .ok (.isub, 1) := by decide +kernel
theorem dX10_every_73 : decode cX10_every 73 = .ok (.iload_n 3, 1) := by decide +kernel
theorem dX10_every_74 : decode cX10_every 74 = .ok (.idiv, 1) := by decide +kernel
theorem dX10_every_75 : decode cX10_every 75 = .ok (.iconst 1, 1) := by decide +kernel
theorem dX10_every_76 : decode cX10_every 76 = .ok (.iadd, 1) := by decide +kernel
theorem dX10_every_77 : decode cX10_every 77 = .ok (.invokevirtual 252, 3) := by decide +kernel
theorem dX10_every_80 : decode cX10_every 80 = .ok (.iload_n 3, 1) := by decide +kernel
theorem dX10_every_81 : decode cX10_every 81 = .ok (.ireturn, 1) := by decide +kernel
theorem dX10_firstWithTogether_0 : decode cX10_firstWithTogether 0 = .ok (.iconst 0, 1) := by decide +kernel
theorem dX10_firstWithTogether_1 : decode cX10_firstWithTogether 1 = .ok (.istore_n 3, 1) := by decide +kernel
theorem dX10_firstWithTogether_2 : decode cX10_firstWithTogether 2 = .ok (.iload_n 3, 1) := by decide +kernel
theorem dX10_firstWithTogether_3 : decode cX10_firstWithTogether 3 = .ok (.aload_n 0, 1) := by decide +kernel
theorem dX10_firstWithTogether_4 : decode cX10_firstWithTogether 4 = .ok (.getfield 19, 3) := by decide +kernel
theorem dX10_firstWithTogether_7 : decode cX10_firstWithTogether 7 = .ok (.getfield 123, 3) := by decide +kernel
theorem dX10_firstWithTogether_10 : decode cX10_firstWithTogether 10 = .ok (.if_icmp .ge 35, 3) := by decide +kernel
theorem dX10_firstWithTogether_13 : decode cX10_firstWithTogether 13 = .ok (.aload_n 0, 1) := by decide +kernel
theorem dX10_firstWithTogether_14 : decode cX10_firstWithTogether 14 = .ok (.getfield 19, 3) := by decide +kernel
theorem dX10_firstWithTogether_17 : decode cX10_firstWithTogether 17 = .ok (.iload_n 3, 1) := by decide +kernel
theorem dX10_firstWithTogether_18 : decode cX10_firstWithTogether 18 = .ok (.invokevirtual 188, 3) := by decide +kernel
theorem dX10_firstWithTogether_21 : decode cX10_firstWithTogether 21 = .ok (.ifCond .ne 18, 3) := by decide +kernel
theorem dX10_firstWithTogether_24 : decode cX10_firstWithTogether 24 = .ok (.aload_n 0, 1) := by decide +kernel
theorem dX10_firstWithTogether_25 : decode cX10_firstWithTogether 25 = .ok (.getfield 19, 3) := by decide +kernel
theorem dX10_firstWithTogether_28 : decode cX10_firstWithTogether 28 = .ok (.iload_n 3, 1) := by decide +kernel
theorem dX10_firstWithTogether_29 : decode cX10_firstWithTogether 29 = .ok (.iload_n 1, 1) := by decide +kernel
theorem dX10_firstWithTogether_30 : decode cX10_firstWithTogether 30 = .ok (.invokevirtual 197, 3) := by decide +kernel
theorem dX10_firstWithTogether_33 : decode cX10_firstWithTogether 33 = .ok (.iload_n 2, 1) := by decide +kernel
theorem dX10_firstWithTogether_34 : decode cX10_firstWithTogether 34 = .ok (.if_icmp .ne 5, 3) := by decide +kernel
theorem dX10_firstWithTogether_37 : decode cX10_firstWithTogether 37 = .ok (.iload_n 3, 1) := by decide +kernel
theorem dX10_firstWithTogether_38 : decode cX10_firstWithTogether 38 = .ok (.ireturn, 1) := by decide +kernel
theorem dX10_firstWithTogether_39 : decode cX10_firstWithTogether 39 = .ok (.iinc 3 1, 3) := by decide +kernel
theorem dX10_firstWithTogether_42 : decode cX10_firstWithTogether 42 = .ok (.goto (-40), 3) := by decide +kernel
theorem dX10_firstWithTogether_45 : decode cX10_firstWithTogether 45 = .ok (.iconst (-1), 1) := by decide +kernel
theorem dX10_firstWithTogether_46 : decode cX10_firstWithTogether 46 = .ok (.ireturn, 1) := by decide +kernel
theorem dX10_bitsWithWhole_0 : decode cX10_bitsWithWhole 0 = .ok (.iconst 0, 1) := by decide +kernel
theorem dX10_bitsWithWhole_1 : decode cX10_bitsWithWhole 1 = .ok (.istore_n 3, 1) := by decide +kernel
theorem dX10_bitsWithWhole_2 : decode cX10_bitsWithWhole 2 = .ok (.iconst 0, 1) := by decide +kernel
theorem dX10_bitsWithWhole_3 : decode cX10_bitsWithWhole 3 = .ok (.istore 4, 2) := by decide +kernel
theorem dX10_bitsWithWhole_5 : decode cX10_bitsWithWhole 5 = .ok (.iload 4, 2) := by decide +kernel
theorem dX10_bitsWithWhole_7 : decode cX10_bitsWithWhole 7 = .ok (.aload_n 0, 1) := by decide +kernel
theorem dX10_bitsWithWhole_8 : decode cX10_bitsWithWhole 8 = .ok (.getfield 19, 3) := by decide +kernel
theorem dX10_bitsWithWhole_11 : decode cX10_bitsWithWhole 11 = .ok (.getfield 129, 3) := by decide +kernel
theorem dX10_bitsWithWhole_14 : decode cX10_bitsWithWhole 14 = .ok (.if_icmp .ge 38, 3) := by decide +kernel
theorem dX10_bitsWithWhole_17 : decode cX10_bitsWithWhole 17 = .ok (.iload_n 1, 1) := by decide +kernel
theorem dX10_bitsWithWhole_18 : decode cX10_bitsWithWhole 18 = .ok (.iload 4, 2) := by decide +kernel
theorem dX10_bitsWithWhole_20 : decode cX10_bitsWithWhole 20 = .ok (.invokestatic 362, 3) := by decide +kernel
theorem dX10_bitsWithWhole_23 : decode cX10_bitsWithWhole 23 = .ok (.ifCond .eq 23, 3) := by decide +kernel
theorem dX10_bitsWithWhole_26 : decode cX10_bitsWithWhole 26 = .ok (.aload_n 0, 1) := by decide +kernel
theorem dX10_bitsWithWhole_27 : decode cX10_bitsWithWhole 27 = .ok (.getfield 19, 3) := by decide +kernel
theorem dX10_bitsWithWhole_30 : decode cX10_bitsWithWhole 30 = .ok (.iload 4, 2) := by decide +kernel
theorem dX10_bitsWithWhole_32 : decode cX10_bitsWithWhole 32 = .ok (.invokevirtual 354, 3) := by decide +kernel
theorem dX10_bitsWithWhole_35 : decode cX10_bitsWithWhole 35 = .ok (.iload_n 2, 1) := by decide +kernel
theorem dX10_bitsWithWhole_36 : decode cX10_bitsWithWhole 36 = .ok (.if_icmp .ne 10, 3) := by decide +kernel
theorem dX10_bitsWithWhole_39 : decode cX10_bitsWithWhole 39 = .ok (.iload_n 3, 1) := by decide +kernel
theorem dX10_bitsWithWhole_40 : decode cX10_bitsWithWhole 40 = .ok (.iconst 1, 1) := by decide +kernel
theorem dX10_bitsWithWhole_41 : decode cX10_bitsWithWhole 41 = .ok (.iload 4, 2) := by decide +kernel
theorem dX10_bitsWithWhole_43 : decode cX10_bitsWithWhole 43 = .ok (.ishl, 1) := by decide +kernel
theorem dX10_bitsWithWhole_44 : decode cX10_bitsWithWhole 44 = .ok (.ior, 1) := by decide +kernel
theorem dX10_bitsWithWhole_45 : decode cX10_bitsWithWhole 45 = .ok (.istore_n 3, 1) := by decide +kernel
theorem dX10_bitsWithWhole_46 : decode cX10_bitsWithWhole 46 = .ok (.iinc 4 1, 3) := by decide +kernel
theorem dX10_bitsWithWhole_49 : decode cX10_bitsWithWhole 49 = .ok (.goto (-44), 3) := by decide +kernel
theorem dX10_bitsWithWhole_52 : decode cX10_bitsWithWhole 52 = .ok (.iload_n 3, 1) := by decide +kernel
theorem dX10_bitsWithWhole_53 : decode cX10_bitsWithWhole 53 = .ok (.ireturn, 1) := by decide +kernel
theorem dX10_least_0 : decode cX10_least 0 = .ok (.aload_n 0, 1) := by decide +kernel
theorem dX10_least_1 : decode cX10_least 1 = .ok (.iload_n 1, 1) := by decide +kernel
theorem dX10_least_2 : decode cX10_least 2 = .ok (.invokevirtual 336, 3) := by decide +kernel
theorem dX10_least_5 : decode cX10_least 5 = .ok (.ifCond .ne 5, 3) := by decide +kernel
theorem dX10_least_8 : decode cX10_least 8 = .ok (.iconst (-1), 1) := by decide +kernel
theorem dX10_least_9 : decode cX10_least 9 = .ok (.ireturn, 1) := by decide +kernel
theorem dX10_least_10 : decode cX10_least 10 = .ok (.iconst 0, 1) := by decide +kernel
theorem dX10_least_11 : decode cX10_least 11 = .ok (.istore_n 2, 1) := by decide +kernel
theorem dX10_least_12 : decode cX10_least 12 = .ok (.iconst 0, 1) := by decide +kernel
theorem dX10_least_13 : decode cX10_least 13 = .ok (.istore_n 3, 1) := by decide +kernel
theorem dX10_least_14 : decode cX10_least 14 = .ok (.iload_n 3, 1) := by decide +kernel
theorem dX10_least_15 : decode cX10_least 15 = .ok (.aload_n 0, 1) := by decide +kernel
theorem dX10_least_16 : decode cX10_least 16 = .ok (.getfield 19, 3) := by decide +kernel
theorem dX10_least_19 : decode cX10_least 19 = .ok (.getfield 123, 3) := by decide +kernel
theorem dX10_least_22 : decode cX10_least 22 = .ok (.if_icmp .ge 34, 3) := by decide +kernel
theorem dX10_least_25 : decode cX10_least 25 = .ok (.aload_n 0, 1) := by decide +kernel
theorem dX10_least_26 : decode cX10_least 26 = .ok (.getfield 19, 3) := by decide +kernel
theorem dX10_least_29 : decode cX10_least 29 = .ok (.iload_n 3, 1) := by decide +kernel
theorem dX10_least_30 : decode cX10_least 30 = .ok (.invokevirtual 188, 3) := by decide +kernel
theorem dX10_least_33 : decode cX10_least 33 = .ok (.ifCond .ne 17, 3) := by decide +kernel
theorem dX10_least_36 : decode cX10_least 36 = .ok (.iload_n 2, 1) := by decide +kernel
theorem dX10_least_37 : decode cX10_least 37 = .ok (.aload_n 0, 1) := by decide +kernel
theorem dX10_least_38 : decode cX10_least 38 = .ok (.getfield 19, 3) := by decide +kernel
theorem dX10_least_41 : decode cX10_least 41 = .ok (.iload_n 3, 1) := by decide +kernel
theorem dX10_least_42 : decode cX10_least 42 = .ok (.iload_n 1, 1) := by decide +kernel
theorem dX10_least_43 : decode cX10_least 43 = .ok (.invokevirtual 197, 3) := by decide +kernel
theorem dX10_least_46 : decode cX10_least 46 = .ok (.invokestatic 357, 3) := by decide +kernel
theorem dX10_least_49 : decode cX10_least 49 = .ok (.istore_n 2, 1) := by decide +kernel
theorem dX10_least_50 : decode cX10_least 50 = .ok (.iinc 3 1, 3) := by decide +kernel
theorem dX10_least_53 : decode cX10_least 53 = .ok (.goto (-39), 3) := by decide +kernel
theorem dX10_least_56 : decode cX10_least 56 = .ok (.iconst 0, 1) := by decide +kernel
theorem dX10_least_57 : decode cX10_least 57 = .ok (.istore_n 3, 1) := by decide +kernel
theorem dX10_least_58 : decode cX10_least 58 = .ok (.iload_n 3, 1) := by decide +kernel
theorem dX10_least_59 : decode cX10_least 59 = .ok (.aload_n 0, 1) := by decide +kernel
theorem dX10_least_60 : decode cX10_least 60 = .ok (.getfield 19, 3) := by decide +kernel
theorem dX10_least_63 : decode cX10_least 63 = .ok (.getfield 129, 3) := by decide +kernel
theorem dX10_least_66 : decode cX10_least 66 = .ok (.if_icmp .ge 30, 3) := by decide +kernel
theorem dX10_least_69 : decode cX10_least 69 = .ok (.iload_n 1, 1) := by decide +kernel
theorem dX10_least_70 : decode cX10_least 70 = .ok (.iload_n 3, 1) := by decide +kernel
theorem dX10_least_71 : decode cX10_least 71 = .ok (.invokestatic 362, 3) := by decide +kernel
theorem dX10_least_74 : decode cX10_least 74 = .ok (.ifCond .eq 16, 3) := by decide +kernel
theorem dX10_least_77 : decode cX10_least 77 = .ok (.iload_n 2, 1) := by decide +kernel
theorem dX10_least_78 : decode cX10_least 78 = .ok (.aload_n 0, 1) := by decide +kernel
theorem dX10_least_79 : decode cX10_least 79 = .ok (.getfield 19, 3) := by decide +kernel
theorem dX10_least_82 : decode cX10_least 82 = .ok (.iload_n 3, 1) := by decide +kernel
theorem dX10_least_83 : decode cX10_least 83 = .ok (.invokevirtual 354, 3) := by decide +kernel
theorem dX10_least_86 : decode cX10_least 86 = .ok (.invokestatic 357, 3) := by decide +kernel
theorem dX10_least_89 : decode cX10_least 89 = .ok (.istore_n 2, 1) := by decide +kernel
theorem dX10_least_90 : decode cX10_least 90 = .ok (.iinc 3 1, 3) := by decide +kernel
theorem dX10_least_93 : decode cX10_least 93 = .ok (.goto (-35), 3) := by decide +kernel
theorem dX10_least_96 : decode cX10_least 96 = .ok (.aload_n 0, 1) := by decide +kernel
theorem dX10_least_97 : decode cX10_least 97 = .ok (.invokevirtual 246, 3) := by decide +kernel
theorem dX10_least_100 : decode cX10_least 100 = .ok (.aload_n 0, 1) := by decide +kernel
theorem dX10_least_101 : decode cX10_least 101 = .ok (.aload_n 0, 1) := by decide +kernel
theorem dX10_least_102 : decode cX10_least 102 = .ok (.iload_n 1, 1) := by decide +kernel
theorem dX10_least_103 : decode cX10_least 103 = .ok (.iload_n 2, 1) := by decide +kernel
theorem dX10_least_104 : decode cX10_least 104 = .ok (.invokevirtual 366, 3) := by decide +kernel
theorem dX10_least_107 : decode cX10_least 107 = .ok (.invokevirtual 252, 3) := by decide +kernel
theorem dX10_least_110 : decode cX10_least 110 = .ok (.aload_n 0, 1) := by decide +kernel
theorem dX10_least_111 : decode cX10_least 111 = .ok (.aload_n 0, 1) := by decide +kernel
theorem dX10_least_112 : decode cX10_least 112 = .ok (.iload_n 1, 1) := by decide +kernel
theorem dX10_least_113 : decode cX10_least 113 = .ok (.iload_n 2, 1) := by decide +kernel
theorem dX10_least_114 : decode cX10_least 114 = .ok (.invokevirtual 369, 3) := by decide +kernel
theorem dX10_least_117 : decode cX10_least 117 = .ok (.invokevirtual 252, 3) := by decide +kernel
theorem dX10_least_120 : decode cX10_least 120 = .ok (.iload_n 2, 1) := by decide +kernel
theorem dX10_least_121 : decode cX10_least 121 = .ok (.ireturn, 1) := by decide +kernel
theorem dX10_foresee_0 : decode cX10_foresee 0 = .ok (.aload_n 1, 1) := by decide +kernel
theorem dX10_foresee_1 : decode cX10_foresee 1 = .ok (.aload_n 0, 1) := by decide +kernel
theorem dX10_foresee_2 : decode cX10_foresee 2 = .ok (.getfield 35, 3) := by decide +kernel
theorem dX10_foresee_5 : decode cX10_foresee 5 = .ok (.invokevirtual 268, 3) := by decide +kernel
theorem dX10_foresee_8 : decode cX10_foresee 8 = .ok (.aload_n 1, 1) := by decide +kernel
theorem dX10_foresee_9 : decode cX10_foresee 9 = .ok (.iload_n 2, 1) := by decide +kernel
theorem dX10_foresee_10 : decode cX10_foresee 10 = .ok (.iload_n 3, 1) := by decide +kernel
theorem dX10_foresee_11 : decode cX10_foresee 11 = .ok (.invokevirtual 233, 3) := by decide +kernel
theorem dX10_foresee_14 : decode cX10_foresee 14 = .ok (.aload_n 0, 1) := by decide +kernel
theorem dX10_foresee_15 : decode cX10_foresee 15 = .ok (.getfield 19, 3) := by decide +kernel
theorem dX10_foresee_18 : decode cX10_foresee 18 = .ok (.aload_n 1, 1) := by decide +kernel
theorem dX10_foresee_19 : decode cX10_foresee 19 = .ok (.sipush 400, 3) := by decide +kernel
theorem dX10_foresee_22 : decode cX10_foresee 22 = .ok (.invokevirtual 262, 3) := by decide +kernel
theorem dX10_foresee_25 : decode cX10_foresee 25 = .ok (.return_, 1) := by decide +kernel
section NXG
variable {l : Launch} {D : va_G} {cy : Nat → ClassId} {ad : Nat → Nat} {dT : Nat} {X : Mm}
def f_X10_order_97  : Nat → Int32 → Int32 → Mem → Option (Int32 × Mem)
  | 0, _, _, _ => none
  | n + 1, x2, x3, M =>
    if x3 < (M 124 1) then
      gd (0 ≤ x3 ∧ x3.toNatClampNeg < 6) <|
      gd (0 ≤ (M 125 x3.toNatClampNeg) ∧ (M 125 x3.toNatClampNeg).toNatClampNeg < 6) <|
      vl ((M 169 (M 125 x3.toNatClampNeg).toNatClampNeg)) fun v36 =>
      bd (f_X10_tell ((v36 + 1) - (M 26 0)) M) fun _ M38 =>
      vl (x3 + 1) fun v40 =>
      f_X10_order_97 n x2 v40 M38
    else
      bd (f_X7_waitedBy 165 x2 M) fun r25 M26 =>
      bd (f_X10_tell r25 M26) fun _ M29 =>
      bd (f_X9_minutesGone M29) fun r31 M32 =>
      some (r31, M32)
set_option maxRecDepth 100000 in
theorem w_X10_order_97 {R : Int32} {M' : Mem}  : ∀ (n : Nat) (x2 x3 : Int32) (M : Mem), f_X10_order_97 n x2 x3 M = some (R, M') → RunF l D cy ad none YX10_order 6 0 0 (some (.int R)) (lay X M') 0 0 97 [(0, .ref 0), (2, .int x2), (3, .int x3)] [] (lay X M) := by
  intro n
  induction n with
  | zero => intro x2 x3 M hF; exact absurd hF (by unfold f_X10_order_97; exact fun h => nomatch h)
  | succ n ih =>
    intro x2 x3 M hF
    unfold f_X10_order_97 at hF
    refine g_iload_n (Y := YX10_order) (pc := 97) 2 dX10_order_97 rfl ?_
    refine g_aload_n (Y := YX10_order) (pc := 98) 0 dX10_order_98 rfl ?_
    refine u_getR (Y := YX10_order) (pc := 99) (j := 124) dX10_order_99 fl_X10_73 k_0 rf_0_11 ?_
    refine u_getI (Y := YX10_order) (pc := 102) dX10_order_102 fl_X10_303 k_124 ?_
    refine g_icmp_ge (Y := YX10_order) (pc := 105) (tgt := 148) dX10_order_105 rfl (fun c24 => ?_) (fun c24 => ?_)
    · replace hF := if_f c24 hF
      refine g_aload_n (Y := YX10_order) (pc := 148) 0 dX10_order_148 rfl ?_
      refine g_aload_n (Y := YX10_order) (pc := 149) 0 dX10_order_149 rfl ?_
      refine u_getR (Y := YX10_order) (pc := 150) (j := 128) dX10_order_150 fl_X10_85 k_0 rf_0_13 ?_
      refine u_getR (Y := YX10_order) (pc := 153) (j := 165) dX10_order_153 fl_X10_304 k_128 rf_128_6 ?_
      refine g_iload_n (Y := YX10_order) (pc := 156) 1 dX10_order_156 rfl ?_
      obtain ⟨r25, M26, e27, hF⟩ := bd_some hF
      refine s_callVi (Y := YX10_order) (pc := 157) (as := [.int x2]) (st := [.ref 0]) (r_X7_waitedBy isSt_165 e27) miX7_waitedBy lk_X10_259 dX10_order_157 k_165 rfl (Nat.le_of_ble_eq_true rfl) (Nat.le_of_ble_eq_true rfl) rfl ?_
      clear e27
      obtain ⟨r28, M29, e30, hF⟩ := bd_some hF
      refine s_callVv (Y := YX10_order) (pc := 160) (as := [.int r25]) (st := []) (r_X10_tell  e30) miX10_tell lk_X10_252 dX10_order_160 k_0 rfl (Nat.le_of_ble_eq_true rfl) (Nat.le_of_ble_eq_true rfl) rfl ?_
      clear e30
      refine g_aload_n (Y := YX10_order) (pc := 163) 0 dX10_order_163 rfl ?_
      refine u_getR (Y := YX10_order) (pc := 164) (j := 128) dX10_order_164 fl_X10_85 k_0 rf_0_13 ?_
      obtain ⟨r31, M32, e33, hF⟩ := bd_some hF
      refine s_callVi (Y := YX10_order) (pc := 167) (as := []) (st := []) (r_X9_minutesGone  e33) miX9_minutesGone lk_X10_310 dX10_order_167 k_128 rfl (Nat.le_of_ble_eq_true rfl) (Nat.le_of_ble_eq_true rfl) rfl ?_
      clear e33
      exact s_iret (Y := YX10_order) (pc := 170) dX10_order_170 rfl hF
    · replace hF := if_t c24 hF
      refine g_aload_n (Y := YX10_order) (pc := 108) 0 dX10_order_108 rfl ?_
      refine g_aload_n (Y := YX10_order) (pc := 109) 0 dX10_order_109 rfl ?_
      refine u_getR (Y := YX10_order) (pc := 110) (j := 128) dX10_order_110 fl_X10_85 k_0 rf_0_13 ?_
      refine u_getR (Y := YX10_order) (pc := 113) (j := 165) dX10_order_113 fl_X10_304 k_128 rf_128_6 ?_
      refine u_getR (Y := YX10_order) (pc := 116) (j := 169) dX10_order_116 fl_X10_179 k_165 (st_r7 isSt_165) ?_
      refine g_aload_n (Y := YX10_order) (pc := 119) 0 dX10_order_119 rfl ?_
      refine u_getR (Y := YX10_order) (pc := 120) (j := 124) dX10_order_120 fl_X10_73 k_0 rf_0_11 ?_
      refine u_getR (Y := YX10_order) (pc := 123) (j := 125) dX10_order_123 fl_X10_307 k_124 rf_124_0 ?_
      refine g_iload_n (Y := YX10_order) (pc := 126) 2 dX10_order_126 rfl ?_
      obtain ⟨g34, hF⟩ := gd_some hF
      refine s_iald (Y := YX10_order) (pc := 127) dX10_order_127 k_125 n_125 g34 ?_
      obtain ⟨g35, hF⟩ := gd_some hF
      refine s_iald (Y := YX10_order) (pc := 128) dX10_order_128 k_169 n_169 g35 ?_
      refine g_nm (fun v36 e => ?_)
      replace hF := vl_to e hF; clear e
      refine g_iconst (Y := YX10_order) (pc := 129) dX10_order_129 kI_1 ?_
      refine g_iadd (Y := YX10_order) (pc := 130) dX10_order_130 ?_
      refine g_aload_n (Y := YX10_order) (pc := 131) 0 dX10_order_131 rfl ?_
      refine u_getR (Y := YX10_order) (pc := 132) (j := 26) dX10_order_132 fl_X10_35 k_0 rf_0_3 ?_
      refine u_getI (Y := YX10_order) (pc := 135) dX10_order_135 fl_X10_237 k_26 ?_
      refine g_isub (Y := YX10_order) (pc := 138) dX10_order_138 ?_
      obtain ⟨r37, M38, e39, hF⟩ := bd_some hF
      refine s_callVv (Y := YX10_order) (pc := 139) (as := [.int ((v36 + 1) - (M 26 0))]) (st := []) (r_X10_tell  e39) miX10_tell lk_X10_252 dX10_order_139 k_0 rfl (Nat.le_of_ble_eq_true rfl) (Nat.le_of_ble_eq_true rfl) rfl ?_
      clear e39
      refine s_iinc (Y := YX10_order) (pc := 142) (j := 2) (L' := fun y => [(3, .int y), (0, .ref 0), (2, .int x2)]) dX10_order_142 kI_1 rfl (Nat.le_of_ble_eq_true rfl) (fun _ => rfl) (fun v40 e => ?_)
      replace hF := vl_to e hF; clear e
      refine g_goto (Y := YX10_order) (pc := 145) (tgt := 97) dX10_order_145 rfl ?_
      refine g_loc [1, 2, 0] rfl ?_
      exact ih _ _ _ hF
def f_X10_order_21  (x1 : Int32) (M : Mem) : Option (Int32 × Mem) :=
  ml (up M 1 1 0) fun M5 =>
  if x1 = (-1) then
    bd (f_X5_bits 124 M5) fun r7 M8 =>
    bd (f_X10_areOutside r7 M8) fun r10 M11 =>
    if r10 = 0 then
      some ((-100), M11)
    else
      bd (f_X9_begin 26 0 M11) fun _ M15 =>
      bd (f_X9_walk 124 0 400 M15) fun r17 M18 =>
      if r17 = 0 then
        some ((-200), M18)
      else
        bd (f_X10_clearRow M18) fun _ M22 =>
        f_X10_order_97 FU r7 0 M22
  else
    some (((-1) - x1), M5)
set_option maxRecDepth 100000 in
theorem w_X10_order_21 {R : Int32} {M' : Mem}  (x1 : Int32) (M : Mem) (hF : f_X10_order_21 x1 M = some (R, M')) : RunF l D cy ad none YX10_order 6 0 0 (some (.int R)) (lay X M') 0 0 21 [(0, .ref 0), (1, .int x1)] [] (lay X M) := by
  unfold f_X10_order_21 at hF
  refine g_aload_n (Y := YX10_order) (pc := 21) 0 dX10_order_21 rfl ?_
  refine u_getR (Y := YX10_order) (pc := 22) (j := 1) dX10_order_22 fl_X10_10 k_0 rf_0_0 ?_
  refine g_iconst (Y := YX10_order) (pc := 25) dX10_order_25 kI_0 ?_
  refine u_putI (Y := YX10_order) (pc := 26) dX10_order_26 fl_X10_120  k_1 ?_
  refine g_nmM (fun M5 e => ?_)
  replace hF := ml_to e hF; clear e
  refine g_iload_n (Y := YX10_order) (pc := 29) 1 dX10_order_29 rfl ?_
  refine g_iconst (Y := YX10_order) (pc := 30) dX10_order_30 kI_m1 ?_
  refine g_icmp_eq (Y := YX10_order) (pc := 31) (tgt := 38) dX10_order_31 rfl (fun c6 => ?_) (fun c6 => ?_)
  · replace hF := if_t c6 hF
    refine g_aload_n (Y := YX10_order) (pc := 38) 0 dX10_order_38 rfl ?_
    refine u_getR (Y := YX10_order) (pc := 39) (j := 124) dX10_order_39 fl_X10_73 k_0 rf_0_11 ?_
    obtain ⟨r7, M8, e9, hF⟩ := bd_some hF
    refine s_callVi (Y := YX10_order) (pc := 42) (as := []) (st := []) (r_X5_bits (Or.inl rfl) e9) miX5_bits lk_X10_289 dX10_order_42 k_124 rfl (Nat.le_of_ble_eq_true rfl) (Nat.le_of_ble_eq_true rfl) rfl ?_
    clear e9
    refine g_istore_n (Y := YX10_order) (pc := 45) (L' := [(2, .int r7), (0, .ref 0), (1, .int x1)]) dX10_order_45 (Nat.le_of_ble_eq_true rfl) rfl ?_
    refine g_aload_n (Y := YX10_order) (pc := 46) 1 dX10_order_46 rfl ?_
    refine g_iload_n (Y := YX10_order) (pc := 47) 0 dX10_order_47 rfl ?_
    obtain ⟨r10, M11, e12, hF⟩ := bd_some hF
    refine s_callVi (Y := YX10_order) (pc := 48) (as := [.int r7]) (st := []) (r_X10_areOutside  e12) miX10_areOutside lk_X10_292 dX10_order_48 k_0 rfl (Nat.le_of_ble_eq_true rfl) (Nat.le_of_ble_eq_true rfl) rfl ?_
    clear e12
    refine g_if_ne (Y := YX10_order) (pc := 51) (tgt := 57) dX10_order_51 rfl (fun c13 => ?_) (fun c13 => ?_)
    · replace hF := if_f c13 hF
      refine g_aload_n (Y := YX10_order) (pc := 57) 1 dX10_order_57 rfl ?_
      refine u_getR (Y := YX10_order) (pc := 58) (j := 128) dX10_order_58 fl_X10_85 k_0 rf_0_13 ?_
      refine g_aload_n (Y := YX10_order) (pc := 61) 1 dX10_order_61 rfl ?_
      refine u_getR (Y := YX10_order) (pc := 62) (j := 26) dX10_order_62 fl_X10_35 k_0 rf_0_3 ?_
      refine g_iconst (Y := YX10_order) (pc := 65) dX10_order_65 kI_0 ?_
      obtain ⟨r14, M15, e16, hF⟩ := bd_some hF
      refine s_callVv (Y := YX10_order) (pc := 66) (as := [.ref 26, .int 0]) (st := []) (r_X9_begin isSt_26 e16) miX9_begin lk_X10_295 dX10_order_66 k_128 rfl (Nat.le_of_ble_eq_true rfl) (Nat.le_of_ble_eq_true rfl) rfl ?_
      clear e16
      refine g_aload_n (Y := YX10_order) (pc := 69) 1 dX10_order_69 rfl ?_
      refine u_getR (Y := YX10_order) (pc := 70) (j := 128) dX10_order_70 fl_X10_85 k_0 rf_0_13 ?_
      refine g_aload_n (Y := YX10_order) (pc := 73) 1 dX10_order_73 rfl ?_
      refine u_getR (Y := YX10_order) (pc := 74) (j := 124) dX10_order_74 fl_X10_73 k_0 rf_0_11 ?_
      refine g_iconst (Y := YX10_order) (pc := 77) dX10_order_77 kI_0 ?_
      refine g_sipush (Y := YX10_order) (pc := 78) dX10_order_78 kS_400 ?_
      obtain ⟨r17, M18, e19, hF⟩ := bd_some hF
      refine s_callVi (Y := YX10_order) (pc := 81) (as := [.ref 124, .int 0, .int 400]) (st := []) (r_X9_walk (Or.inl rfl) e19) miX9_walk lk_X10_299 dX10_order_81 k_128 rfl (Nat.le_of_ble_eq_true rfl) (Nat.le_of_ble_eq_true rfl) rfl ?_
      clear e19
      refine g_if_ne (Y := YX10_order) (pc := 84) (tgt := 91) dX10_order_84 rfl (fun c20 => ?_) (fun c20 => ?_)
      · replace hF := if_f c20 hF
        refine g_aload_n (Y := YX10_order) (pc := 91) 1 dX10_order_91 rfl ?_
        obtain ⟨r21, M22, e23, hF⟩ := bd_some hF
        refine s_callVv (Y := YX10_order) (pc := 92) (as := []) (st := []) (r_X10_clearRow  e23) miX10_clearRow lk_X10_246 dX10_order_92 k_0 rfl (Nat.le_of_ble_eq_true rfl) (Nat.le_of_ble_eq_true rfl) rfl ?_
        clear e23
        refine g_iconst (Y := YX10_order) (pc := 95) dX10_order_95 kI_0 ?_
        refine g_istore_n (Y := YX10_order) (pc := 96) (L' := [(3, .int 0), (2, .int r7), (0, .ref 0), (1, .int x1)]) dX10_order_96 (Nat.le_of_ble_eq_true rfl) rfl ?_
        refine g_loc [2, 1, 0] rfl ?_
        exact w_X10_order_97  _ _ _ _ hF
      · replace hF := if_t c20 hF
        refine g_sipush (Y := YX10_order) (pc := 87) dX10_order_87 kS_m200 ?_
        exact s_iret (Y := YX10_order) (pc := 90) dX10_order_90 rfl hF
    · replace hF := if_t c13 hF
      refine g_bipush (Y := YX10_order) (pc := 54) dX10_order_54 kB_m100 ?_
      exact s_iret (Y := YX10_order) (pc := 56) dX10_order_56 rfl hF
  · replace hF := if_f c6 hF
    refine g_iconst (Y := YX10_order) (pc := 34) dX10_order_34 kI_m1 ?_
    refine g_iload_n (Y := YX10_order) (pc := 35) 1 dX10_order_35 rfl ?_
    refine g_isub (Y := YX10_order) (pc := 36) dX10_order_36 ?_
    exact s_iret (Y := YX10_order) (pc := 37) dX10_order_37 rfl hF
def f_X10_order_0  (M : Mem) : Option (Int32 × Mem) :=
  bd (f_X10_faultOfOrder M) fun r1 M2 =>
  if r1 = (-1) then
    bd (f_X5_take 124 M2) fun _ M42 =>
    f_X10_order_21 r1 M42
  else
    f_X10_order_21 r1 M2
set_option maxRecDepth 100000 in
theorem w_X10_order_0 {R : Int32} {M' : Mem}  (M : Mem) (hF : f_X10_order_0  M = some (R, M')) : RunF l D cy ad none YX10_order 6 0 0 (some (.int R)) (lay X M') 0 0 0 [(0, .ref 0)] [] (lay X M) := by
  unfold f_X10_order_0 at hF
  refine g_aload_n (Y := YX10_order) (pc := 0) 0 dX10_order_0 rfl ?_
  obtain ⟨r1, M2, e3, hF⟩ := bd_some hF
  refine s_callVi (Y := YX10_order) (pc := 1) (as := []) (st := []) (r_X10_faultOfOrder  e3) miX10_faultOfOrder lk_X10_285 dX10_order_1 k_0 rfl (Nat.le_of_ble_eq_true rfl) (Nat.le_of_ble_eq_true rfl) rfl ?_
  clear e3
  refine g_istore_n (Y := YX10_order) (pc := 4) (L' := [(1, .int r1), (0, .ref 0)]) dX10_order_4 (Nat.le_of_ble_eq_true rfl) rfl ?_
  refine g_iload_n (Y := YX10_order) (pc := 5) 0 dX10_order_5 rfl ?_
  refine g_iconst (Y := YX10_order) (pc := 6) dX10_order_6 kI_m1 ?_
  refine g_icmp_ne (Y := YX10_order) (pc := 7) (tgt := 21) dX10_order_7 rfl (fun c4 => ?_) (fun c4 => ?_)
  · replace hF := if_f c4 hF
    refine g_loc [1, 0] rfl ?_
    exact w_X10_order_21  _ _ hF
  · replace hF := if_t c4 hF
    refine g_aload_n (Y := YX10_order) (pc := 10) 1 dX10_order_10 rfl ?_
    refine u_getR (Y := YX10_order) (pc := 11) (j := 124) dX10_order_11 fl_X10_73 k_0 rf_0_11 ?_
    refine g_aload_n (Y := YX10_order) (pc := 14) 1 dX10_order_14 rfl ?_
    refine u_getR (Y := YX10_order) (pc := 15) (j := 1) dX10_order_15 fl_X10_10 k_0 rf_0_0 ?_
    obtain ⟨r41, M42, e43, hF⟩ := bd_some hF
    refine s_callVv (Y := YX10_order) (pc := 18) (as := [.ref 1]) (st := []) (r_X5_take (Or.inl rfl) e43) miX5_take lk_X10_288 dX10_order_18 k_124 rfl (Nat.le_of_ble_eq_true rfl) (Nat.le_of_ble_eq_true rfl) rfl ?_
    clear e43
    refine g_loc [1, 0] rfl ?_
    exact w_X10_order_21  _ _ hF
def f_X10_order (M : Mem) : Option (Int32 × Mem) := f_X10_order_0 M
theorem r_X10_order {R : Int32} {M M' : Mem}  (hF : f_X10_order  M = some (R, M')) : RunS l D cy ad YX10_order 6 [.ref 0] X M (some (.int R)) M' := Run.of 0 (miX10_order).1 (Nat.le_of_ble_eq_true rfl) (w_X10_order_0  _ hF)
def f_X5_begin_41 (K7 : Int32 → Int32 → Mem → Option (Int32 × Mem)) (q : Nat) (x1 : Int32) (x2 : Int32) (M : Mem) : Option (Int32 × Mem) :=
  vl (x2 + 1) fun v7 =>
  K7 x1 v7 M
set_option maxRecDepth 100000 in
theorem w_X5_begin_41 {R : Int32} {M' : Mem} {q : Nat} {K7 : Int32 → Int32 → Mem → Option (Int32 × Mem)} (hq : isOr q) (hK7 : ∀ (x1 x2 : Int32) (M : Mem), K7 x1 x2 M = some (R, M') → RunF l D cy ad none YX5_begin 1 0 0 none (lay X M') 0 0 7 [(0, .ref q), (1, .int x1), (2, .int x2)] [] (lay X M)) (x1 x2 : Int32) (M : Mem) (hF : f_X5_begin_41 K7 q x1 x2 M = some (R, M')) : RunF l D cy ad none YX5_begin 1 0 0 none (lay X M') 0 0 41 [(0, .ref q), (1, .int x1), (2, .int x2)] [] (lay X M) := by
  unfold f_X5_begin_41 at hF
  refine s_iinc (Y := YX5_begin) (pc := 41) (j := 2) (L' := fun y => [(2, .int y), (0, .ref q), (1, .int x1)]) dX5_begin_41 kI_1 rfl (Nat.le_of_ble_eq_true rfl) (fun _ => rfl) (fun v7 e => ?_)
  replace hF := vl_to e hF; clear e
  refine g_goto (Y := YX5_begin) (pc := 44) (tgt := 7) dX5_begin_44 rfl ?_
  refine g_loc [1, 2, 0] rfl ?_
  exact hK7 _ _ _ hF
def f_X5_begin_7 (q : Nat) : Nat → Int32 → Int32 → Mem → Option (Int32 × Mem)
  | 0, _, _, _ => none
  | n + 1, x1, x2, M =>
    if x2 < 6 then
      bd (f_X10_has x1 x2 M) fun r3 M4 =>
      if r3 = 0 then
        f_X5_begin_41 (f_X5_begin_7 q n) q x1 x2 M4
      else
        gd (0 ≤ (M4 q 1) ∧ (M4 q 1).toNatClampNeg < 6) <|
        ml (up M4 (q + 1) (M4 q 1).toNatClampNeg x2) fun M9 =>
        ml (up M9 q 1 ((M9 q 1) + 1)) fun M10 =>
        f_X5_begin_41 (f_X5_begin_7 q n) q x1 x2 M10
    else
      some (0, M)
set_option maxRecDepth 100000 in
theorem w_X5_begin_7 {R : Int32} {M' : Mem} {q : Nat} (hq : isOr q) : ∀ (n : Nat) (x1 x2 : Int32) (M : Mem), f_X5_begin_7 q n x1 x2 M = some (R, M') → RunF l D cy ad none YX5_begin 1 0 0 none (lay X M') 0 0 7 [(0, .ref q), (1, .int x1), (2, .int x2)] [] (lay X M) := by
  intro n
  induction n with
  | zero => intro x1 x2 M hF; exact absurd hF (by unfold f_X5_begin_7; exact fun h => nomatch h)
  | succ n ih =>
    intro x1 x2 M hF
    unfold f_X5_begin_7 at hF
    refine g_iload_n (Y := YX5_begin) (pc := 7) 2 dX5_begin_7 rfl ?_
    refine g_bipush (Y := YX5_begin) (pc := 8) dX5_begin_8 kB_6 ?_
    refine g_icmp_ge (Y := YX5_begin) (pc := 10) (tgt := 47) dX5_begin_10 rfl (fun c2 => ?_) (fun c2 => ?_)
    · replace hF := if_f c2 hF
      exact s_vret (Y := YX5_begin) (pc := 47) dX5_begin_47 rfl hF
    · replace hF := if_t c2 hF
      refine g_iload_n (Y := YX5_begin) (pc := 13) 1 dX5_begin_13 rfl ?_
      refine g_iload_n (Y := YX5_begin) (pc := 14) 2 dX5_begin_14 rfl ?_
      obtain ⟨r3, M4, e5, hF⟩ := bd_some hF
      refine s_callNi (Y := YX5_begin) (pc := 15) (as := [.int x1, .int x2]) (st := []) (r_X10_has  e5) msX10_has nw_X5 dX5_begin_15 rfl (Nat.le_of_ble_eq_true rfl) (Nat.le_of_ble_eq_true rfl) rfl ?_
      clear e5
      refine g_if_eq (Y := YX5_begin) (pc := 18) (tgt := 41) dX5_begin_18 rfl (fun c6 => ?_) (fun c6 => ?_)
      · replace hF := if_t c6 hF
        exact w_X5_begin_41 hq ih _ _ _ hF
      · replace hF := if_f c6 hF
        refine g_aload_n (Y := YX5_begin) (pc := 21) 0 dX5_begin_21 rfl ?_
        refine u_getR (Y := YX5_begin) (pc := 22) (j := (q + 1)) dX5_begin_22 fl_X5_9 (or_k hq) (or_r0 hq) ?_
        refine g_aload_n (Y := YX5_begin) (pc := 25) 0 dX5_begin_25 rfl ?_
        refine u_getI (Y := YX5_begin) (pc := 26) dX5_begin_26 fl_X5_15 (or_k hq) ?_
        refine g_iload_n (Y := YX5_begin) (pc := 29) 2 dX5_begin_29 rfl ?_
        obtain ⟨g8, hF⟩ := gd_some hF
        refine s_iast (Y := YX5_begin) (pc := 30) dX5_begin_30 (or_k1 hq) (or_n1 hq) g8 ?_
        refine g_nmM (fun M9 e => ?_)
        replace hF := ml_to e hF; clear e
        refine g_aload_n (Y := YX5_begin) (pc := 31) 0 dX5_begin_31 rfl ?_
        refine g_dup (Y := YX5_begin) (pc := 32) dX5_begin_32 rfl ?_
        refine u_getI (Y := YX5_begin) (pc := 33) dX5_begin_33 fl_X5_15 (or_k hq) ?_
        refine g_iconst (Y := YX5_begin) (pc := 36) dX5_begin_36 kI_1 ?_
        refine g_iadd (Y := YX5_begin) (pc := 37) dX5_begin_37 ?_
        refine u_putI (Y := YX5_begin) (pc := 38) dX5_begin_38 fl_X5_15  (or_k hq) ?_
        refine g_nmM (fun M10 e => ?_)
        replace hF := ml_to e hF; clear e
        exact w_X5_begin_41 hq ih _ _ _ hF
def f_X5_begin_0 (q : Nat) (x1 : Int32) (M : Mem) : Option (Int32 × Mem) :=
  ml (up M q 1 0) fun M1 =>
  f_X5_begin_7 q FU x1 0 M1
set_option maxRecDepth 100000 in
theorem w_X5_begin_0 {R : Int32} {M' : Mem} {q : Nat} (hq : isOr q) (x1 : Int32) (M : Mem) (hF : f_X5_begin_0 q x1 M = some (R, M')) : RunF l D cy ad none YX5_begin 1 0 0 none (lay X M') 0 0 0 [(0, .ref q), (1, .int x1)] [] (lay X M) := by
  unfold f_X5_begin_0 at hF
  refine g_aload_n (Y := YX5_begin) (pc := 0) 0 dX5_begin_0 rfl ?_
  refine g_iconst (Y := YX5_begin) (pc := 1) dX5_begin_1 kI_0 ?_
  refine u_putI (Y := YX5_begin) (pc := 2) dX5_begin_2 fl_X5_15  (or_k hq) ?_
  refine g_nmM (fun M1 e => ?_)
  replace hF := ml_to e hF; clear e
  refine g_iconst (Y := YX5_begin) (pc := 5) dX5_begin_5 kI_0 ?_
  refine g_istore_n (Y := YX5_begin) (pc := 6) (L' := [(2, .int 0), (0, .ref q), (1, .int x1)]) dX5_begin_6 (Nat.le_of_ble_eq_true rfl) rfl ?_
  refine g_loc [1, 2, 0] rfl ?_
  exact w_X5_begin_7 hq _ _ _ _ hF
def f_X5_begin (q : Nat) (x1 : Int32) (M : Mem) : Option (Int32 × Mem) := f_X5_begin_0 q x1 M
theorem r_X5_begin {q : Nat} {x1 R : Int32} {M M' : Mem} (hq : isOr q) (hF : f_X5_begin q x1 M = some (R, M')) : RunS l D cy ad YX5_begin 1 [.ref q, .int x1] X M none M' := Run.of 1 (miX5_begin).1 (Nat.le_of_ble_eq_true rfl) (w_X5_begin_0 hq _ _ hF)
def f_X10_beginOrders_0  (x1 : Int32) (x2 : Int32) (M : Mem) : Option (Int32 × Mem) :=
  bd (f_X9_begin 26 x2 M) fun _ M2 =>
  bd (f_X5_begin 124 x1 M2) fun _ M5 =>
  some (0, M5)
set_option maxRecDepth 100000 in
theorem w_X10_beginOrders_0 {R : Int32} {M' : Mem}  (x1 x2 : Int32) (M : Mem) (hF : f_X10_beginOrders_0 x1 x2 M = some (R, M')) : RunF l D cy ad none YX10_beginOrders 3 0 0 (some (.int R)) (lay X M') 0 0 0 [(0, .ref 0), (1, .int x1), (2, .int x2)] [] (lay X M) := by
  unfold f_X10_beginOrders_0 at hF
  refine g_aload_n (Y := YX10_beginOrders) (pc := 0) 0 dX10_beginOrders_0 rfl ?_
  refine u_getR (Y := YX10_beginOrders) (pc := 1) (j := 128) dX10_beginOrders_1 fl_X10_85 k_0 rf_0_13 ?_
  refine g_aload_n (Y := YX10_beginOrders) (pc := 4) 0 dX10_beginOrders_4 rfl ?_
  refine u_getR (Y := YX10_beginOrders) (pc := 5) (j := 26) dX10_beginOrders_5 fl_X10_35 k_0 rf_0_3 ?_
  refine g_iload_n (Y := YX10_beginOrders) (pc := 8) 2 dX10_beginOrders_8 rfl ?_
  obtain ⟨r1, M2, e3, hF⟩ := bd_some hF
  refine s_callVv (Y := YX10_beginOrders) (pc := 9) (as := [.ref 26, .int x2]) (st := []) (r_X9_begin isSt_26 e3) miX9_begin lk_X10_295 dX10_beginOrders_9 k_128 rfl (Nat.le_of_ble_eq_true rfl) (Nat.le_of_ble_eq_true rfl) rfl ?_
  clear e3
  refine g_aload_n (Y := YX10_beginOrders) (pc := 12) 0 dX10_beginOrders_12 rfl ?_
  refine u_getR (Y := YX10_beginOrders) (pc := 13) (j := 124) dX10_beginOrders_13 fl_X10_73 k_0 rf_0_11 ?_
  refine g_iload_n (Y := YX10_beginOrders) (pc := 16) 1 dX10_beginOrders_16 rfl ?_
  obtain ⟨r4, M5, e6, hF⟩ := bd_some hF
  refine s_callVv (Y := YX10_beginOrders) (pc := 17) (as := [.int x1]) (st := []) (r_X5_begin (Or.inl rfl) e6) miX5_begin lk_X10_342 dX10_beginOrders_17 k_124 rfl (Nat.le_of_ble_eq_true rfl) (Nat.le_of_ble_eq_true rfl) rfl ?_
  clear e6
  refine g_iconst (Y := YX10_beginOrders) (pc := 20) dX10_beginOrders_20 kI_0 ?_
  exact s_iret (Y := YX10_beginOrders) (pc := 21) dX10_beginOrders_21 rfl hF
def f_X10_beginOrders (x1 : Int32) (x2 : Int32) (M : Mem) : Option (Int32 × Mem) := f_X10_beginOrders_0 x1 x2 M
theorem r_X10_beginOrders {x1 x2 R : Int32} {M M' : Mem}  (hF : f_X10_beginOrders x1 x2 M = some (R, M')) : RunS l D cy ad YX10_beginOrders 3 [.ref 0, .int x1, .int x2] X M (some (.int R)) M' := Run.of 2 (miX10_beginOrders).1 (Nat.le_of_ble_eq_true rfl) (w_X10_beginOrders_0  _ _ _ hF)
def f_X5_copy_0 (q : Nat) (q1 : Nat) (M : Mem) : Option (Int32 × Mem) :=
  ml (up M q 1 (M q1 1)) fun M1 =>
  gd (cpOk M1 (q1 + 1) 0 0 6 6 6) <|
  ml (cpM M1 (q1 + 1) (q + 1) 0 0 6) fun M3 =>
  some (0, M3)
set_option maxRecDepth 100000 in
theorem w_X5_copy_0 {R : Int32} {M' : Mem} {q : Nat} {q1 : Nat} (hq : isOr q) (hq1 : isOr q1) (M : Mem) (hF : f_X5_copy_0 q q1  M = some (R, M')) : RunF l D cy ad none YX5_copy 1 0 0 none (lay X M') 0 0 0 [(0, .ref q), (1, .ref q1)] [] (lay X M) := by
  unfold f_X5_copy_0 at hF
  refine g_aload_n (Y := YX5_copy) (pc := 0) 0 dX5_copy_0 rfl ?_
  refine g_aload_n (Y := YX5_copy) (pc := 1) 1 dX5_copy_1 rfl ?_
  refine u_getI (Y := YX5_copy) (pc := 2) dX5_copy_2 fl_X5_15 (or_k hq1) ?_
  refine u_putI (Y := YX5_copy) (pc := 5) dX5_copy_5 fl_X5_15  (or_k hq) ?_
  refine g_nmM (fun M1 e => ?_)
  replace hF := ml_to e hF; clear e
  refine g_aload_n (Y := YX5_copy) (pc := 8) 1 dX5_copy_8 rfl ?_
  refine u_getR (Y := YX5_copy) (pc := 9) (j := (q1 + 1)) dX5_copy_9 fl_X5_9 (or_k hq1) (or_r0 hq1) ?_
  refine g_iconst (Y := YX5_copy) (pc := 12) dX5_copy_12 kI_0 ?_
  refine g_aload_n (Y := YX5_copy) (pc := 13) 0 dX5_copy_13 rfl ?_
  refine u_getR (Y := YX5_copy) (pc := 14) (j := (q + 1)) dX5_copy_14 fl_X5_9 (or_k hq) (or_r0 hq) ?_
  refine g_iconst (Y := YX5_copy) (pc := 17) dX5_copy_17 kI_0 ?_
  refine g_bipush (Y := YX5_copy) (pc := 18) dX5_copy_18 kB_6 ?_
  obtain ⟨g2, hF⟩ := gd_some hF
  refine s_copy (Y := YX5_copy) (pc := 20) dX5_copy_20 lk_X5_19 w_copy (or_k1 hq1) (or_k1 hq) (or_n1 hq1) (or_n1 hq) g2 (Nat.le_of_ble_eq_true rfl) (Nat.le_of_ble_eq_true rfl) (Nat.le_of_ble_eq_true rfl) ?_
  refine g_nmM (fun M3 e => ?_)
  replace hF := ml_to e hF; clear e
  exact s_vret (Y := YX5_copy) (pc := 23) dX5_copy_23 rfl hF
def f_X5_copy (q : Nat) (q1 : Nat) (M : Mem) : Option (Int32 × Mem) := f_X5_copy_0 q q1 M
theorem r_X5_copy {q : Nat} {q1 : Nat} {R : Int32} {M M' : Mem} (hq : isOr q) (hq1 : isOr q1) (hF : f_X5_copy q q1 M = some (R, M')) : RunS l D cy ad YX5_copy 1 [.ref q, .ref q1] X M none M' := Run.of 1 (miX5_copy).1 (Nat.le_of_ble_eq_true rfl) (w_X5_copy_0 hq hq1 _ hF)
def f_X5_swap_0 (q : Nat) (x1 : Int32) (x2 : Int32) (M : Mem) : Option (Int32 × Mem) :=
  gd (0 ≤ x1 ∧ x1.toNatClampNeg < 6) <|
  vl ((M (q + 1) x1.toNatClampNeg)) fun v2 =>
  gd (0 ≤ x2 ∧ x2.toNatClampNeg < 6) <|
  gd (0 ≤ x1 ∧ x1.toNatClampNeg < 6) <|
  ml (up M (q + 1) x1.toNatClampNeg (M (q + 1) x2.toNatClampNeg)) fun M5 =>
  gd (0 ≤ x2 ∧ x2.toNatClampNeg < 6) <|
  ml (up M5 (q + 1) x2.toNatClampNeg v2) fun M7 =>
  some (0, M7)
set_option maxRecDepth 100000 in
theorem w_X5_swap_0 {R : Int32} {M' : Mem} {q : Nat} (hq : isOr q) (x1 x2 : Int32) (M : Mem) (hF : f_X5_swap_0 q x1 x2 M = some (R, M')) : RunF l D cy ad none YX5_swap 0 0 0 none (lay X M') 0 0 0 [(0, .ref q), (1, .int x1), (2, .int x2)] [] (lay X M) := by
  unfold f_X5_swap_0 at hF
  refine g_aload_n (Y := YX5_swap) (pc := 0) 0 dX5_swap_0 rfl ?_
  refine u_getR (Y := YX5_swap) (pc := 1) (j := (q + 1)) dX5_swap_1 fl_X5_9 (or_k hq) (or_r0 hq) ?_
  refine g_iload_n (Y := YX5_swap) (pc := 4) 1 dX5_swap_4 rfl ?_
  obtain ⟨g1, hF⟩ := gd_some hF
  refine s_iald (Y := YX5_swap) (pc := 5) dX5_swap_5 (or_k1 hq) (or_n1 hq) g1 ?_
  refine g_nm (fun v2 e => ?_)
  replace hF := vl_to e hF; clear e
  refine g_istore_n (Y := YX5_swap) (pc := 6) (L' := [(3, .int v2), (0, .ref q), (1, .int x1), (2, .int x2)]) dX5_swap_6 (Nat.le_of_ble_eq_true rfl) rfl ?_
  refine g_aload_n (Y := YX5_swap) (pc := 7) 1 dX5_swap_7 rfl ?_
  refine u_getR (Y := YX5_swap) (pc := 8) (j := (q + 1)) dX5_swap_8 fl_X5_9 (or_k hq) (or_r0 hq) ?_
  refine g_iload_n (Y := YX5_swap) (pc := 11) 2 dX5_swap_11 rfl ?_
  refine g_aload_n (Y := YX5_swap) (pc := 12) 1 dX5_swap_12 rfl ?_
  refine u_getR (Y := YX5_swap) (pc := 13) (j := (q + 1)) dX5_swap_13 fl_X5_9 (or_k hq) (or_r0 hq) ?_
  refine g_iload_n (Y := YX5_swap) (pc := 16) 3 dX5_swap_16 rfl ?_
  obtain ⟨g3, hF⟩ := gd_some hF
  refine s_iald (Y := YX5_swap) (pc := 17) dX5_swap_17 (or_k1 hq) (or_n1 hq) g3 ?_
  obtain ⟨g4, hF⟩ := gd_some hF
  refine s_iast (Y := YX5_swap) (pc := 18) dX5_swap_18 (or_k1 hq) (or_n1 hq) g4 ?_
  refine g_nmM (fun M5 e => ?_)
  replace hF := ml_to e hF; clear e
  refine g_aload_n (Y := YX5_swap) (pc := 19) 1 dX5_swap_19 rfl ?_
  refine u_getR (Y := YX5_swap) (pc := 20) (j := (q + 1)) dX5_swap_20 fl_X5_9 (or_k hq) (or_r0 hq) ?_
  refine g_iload_n (Y := YX5_swap) (pc := 23) 3 dX5_swap_23 rfl ?_
  refine g_iload_n (Y := YX5_swap) (pc := 24) 0 dX5_swap_24 rfl ?_
  obtain ⟨g6, hF⟩ := gd_some hF
  refine s_iast (Y := YX5_swap) (pc := 25) dX5_swap_25 (or_k1 hq) (or_n1 hq) g6 ?_
  refine g_nmM (fun M7 e => ?_)
  replace hF := ml_to e hF; clear e
  exact s_vret (Y := YX5_swap) (pc := 26) dX5_swap_26 rfl hF
def f_X5_swap (q : Nat) (x1 : Int32) (x2 : Int32) (M : Mem) : Option (Int32 × Mem) := f_X5_swap_0 q x1 x2 M
theorem r_X5_swap {q : Nat} {x1 x2 R : Int32} {M M' : Mem} (hq : isOr q) (hF : f_X5_swap q x1 x2 M = some (R, M')) : RunS l D cy ad YX5_swap 0 [.ref q, .int x1, .int x2] X M none M' := Run.of 2 (miX5_swap).1 (Nat.le_of_ble_eq_true rfl) (w_X5_swap_0 hq _ _ _ hF)
def f_X5_turnToNext_93 (q : Nat) : Nat → Int32 → Int32 → Int32 → Mem → Option (Int32 × Mem)
  | 0, _, _, _, _ => none
  | n + 1, x1, x3, x4, M =>
    if x3 < x4 then
      bd (f_X5_swap q x3 x4 M) fun _ M13 =>
      vl (x3 + 1) fun v15 =>
      vl (x4 + (-1)) fun v16 =>
      f_X5_turnToNext_93 q n x1 v15 v16 M13
    else
      some (x1, M)
set_option maxRecDepth 100000 in
theorem w_X5_turnToNext_93 {R : Int32} {M' : Mem} {q : Nat} (hq : isOr q) : ∀ (n : Nat) (x1 x3 x4 : Int32) (M : Mem), f_X5_turnToNext_93 q n x1 x3 x4 M = some (R, M') → RunF l D cy ad none YX5_turnToNext 1 0 0 (some (.int R)) (lay X M') 0 0 93 [(0, .ref q), (1, .int x1), (3, .int x3), (4, .int x4)] [] (lay X M) := by
  intro n
  induction n with
  | zero => intro x1 x3 x4 M hF; exact absurd hF (by unfold f_X5_turnToNext_93; exact fun h => nomatch h)
  | succ n ih =>
    intro x1 x3 x4 M hF
    unfold f_X5_turnToNext_93 at hF
    refine g_iload_n (Y := YX5_turnToNext) (pc := 93) 2 dX5_turnToNext_93 rfl ?_
    refine g_iload (Y := YX5_turnToNext) (pc := 94) 3 dX5_turnToNext_94 rfl ?_
    refine g_icmp_ge (Y := YX5_turnToNext) (pc := 96) (tgt := 115) dX5_turnToNext_96 rfl (fun c11 => ?_) (fun c11 => ?_)
    · replace hF := if_f c11 hF
      refine g_iload_n (Y := YX5_turnToNext) (pc := 115) 1 dX5_turnToNext_115 rfl ?_
      exact s_iret (Y := YX5_turnToNext) (pc := 116) dX5_turnToNext_116 rfl hF
    · replace hF := if_t c11 hF
      refine g_aload_n (Y := YX5_turnToNext) (pc := 99) 0 dX5_turnToNext_99 rfl ?_
      refine g_iload_n (Y := YX5_turnToNext) (pc := 100) 2 dX5_turnToNext_100 rfl ?_
      refine g_iload (Y := YX5_turnToNext) (pc := 101) 3 dX5_turnToNext_101 rfl ?_
      obtain ⟨r12, M13, e14, hF⟩ := bd_some hF
      refine s_callVv (Y := YX5_turnToNext) (pc := 103) (as := [.int x3, .int x4]) (st := []) (r_X5_swap hq e14) miX5_swap lk_X5_47 dX5_turnToNext_103 (or_k hq) rfl (Nat.le_of_ble_eq_true rfl) (Nat.le_of_ble_eq_true rfl) rfl ?_
      clear e14
      refine s_iinc (Y := YX5_turnToNext) (pc := 106) (j := 2) (L' := fun y => [(3, .int y), (0, .ref q), (1, .int x1), (4, .int x4)]) dX5_turnToNext_106 kI_1 rfl (Nat.le_of_ble_eq_true rfl) (fun _ => rfl) (fun v15 e => ?_)
      replace hF := vl_to e hF; clear e
      refine s_iinc (Y := YX5_turnToNext) (pc := 109) (j := 3) (L' := fun y => [(4, .int y), (3, .int v15), (0, .ref q), (1, .int x1)]) dX5_turnToNext_109 kI_m1 rfl (Nat.le_of_ble_eq_true rfl) (fun _ => rfl) (fun v16 e => ?_)
      replace hF := vl_to e hF; clear e
      refine g_goto (Y := YX5_turnToNext) (pc := 112) (tgt := 93) dX5_turnToNext_112 rfl ?_
      refine g_loc [2, 3, 1, 0] rfl ?_
      exact ih _ _ _ _ hF
def f_X5_turnToNext_75 (q : Nat) (x1 : Int32) (x2 : Int32) (M : Mem) : Option (Int32 × Mem) :=
  bd (f_X5_swap q x1 x2 M) fun _ M7 =>
  vl ((x1 + 1)) fun v9 =>
  vl (((M7 q 1) - 1)) fun v10 =>
  f_X5_turnToNext_93 q FU x1 v9 v10 M7
set_option maxRecDepth 100000 in
theorem w_X5_turnToNext_75 {R : Int32} {M' : Mem} {q : Nat} (hq : isOr q) (x1 x2 : Int32) (M : Mem) (hF : f_X5_turnToNext_75 q x1 x2 M = some (R, M')) : RunF l D cy ad none YX5_turnToNext 1 0 0 (some (.int R)) (lay X M') 0 0 75 [(0, .ref q), (1, .int x1), (2, .int x2)] [] (lay X M) := by
  unfold f_X5_turnToNext_75 at hF
  refine g_aload_n (Y := YX5_turnToNext) (pc := 75) 0 dX5_turnToNext_75 rfl ?_
  refine g_iload_n (Y := YX5_turnToNext) (pc := 76) 1 dX5_turnToNext_76 rfl ?_
  refine g_iload_n (Y := YX5_turnToNext) (pc := 77) 2 dX5_turnToNext_77 rfl ?_
  obtain ⟨r6, M7, e8, hF⟩ := bd_some hF
  refine s_callVv (Y := YX5_turnToNext) (pc := 78) (as := [.int x1, .int x2]) (st := []) (r_X5_swap hq e8) miX5_swap lk_X5_47 dX5_turnToNext_78 (or_k hq) rfl (Nat.le_of_ble_eq_true rfl) (Nat.le_of_ble_eq_true rfl) rfl ?_
  clear e8
  refine g_iload_n (Y := YX5_turnToNext) (pc := 81) 1 dX5_turnToNext_81 rfl ?_
  refine g_iconst (Y := YX5_turnToNext) (pc := 82) dX5_turnToNext_82 kI_1 ?_
  refine g_iadd (Y := YX5_turnToNext) (pc := 83) dX5_turnToNext_83 ?_
  refine g_nm (fun v9 e => ?_)
  replace hF := vl_to e hF; clear e
  refine g_istore_n (Y := YX5_turnToNext) (pc := 84) (L' := [(3, .int v9), (0, .ref q), (1, .int x1), (2, .int x2)]) dX5_turnToNext_84 (Nat.le_of_ble_eq_true rfl) rfl ?_
  refine g_aload_n (Y := YX5_turnToNext) (pc := 85) 1 dX5_turnToNext_85 rfl ?_
  refine u_getI (Y := YX5_turnToNext) (pc := 86) dX5_turnToNext_86 fl_X5_15 (or_k hq) ?_
  refine g_iconst (Y := YX5_turnToNext) (pc := 89) dX5_turnToNext_89 kI_1 ?_
  refine g_isub (Y := YX5_turnToNext) (pc := 90) dX5_turnToNext_90 ?_
  refine g_nm (fun v10 e => ?_)
  replace hF := vl_to e hF; clear e
  refine g_istore (Y := YX5_turnToNext) (pc := 91) (L' := [(4, .int v10), (3, .int v9), (0, .ref q), (1, .int x1), (2, .int x2)]) dX5_turnToNext_91 (Nat.le_of_ble_eq_true rfl) rfl ?_
  refine g_loc [2, 3, 1, 0] rfl ?_
  exact w_X5_turnToNext_93 hq _ _ _ _ _ hF
def f_X5_turnToNext_47 (q : Nat) : Nat → Int32 → Int32 → Mem → Option (Int32 × Mem)
  | 0, _, _, _ => none
  | n + 1, x1, x2, M =>
    if (x1 + 1) < x2 then
      gd (0 ≤ x2 ∧ x2.toNatClampNeg < 6) <|
      gd (0 ≤ x1 ∧ x1.toNatClampNeg < 6) <|
      if (M (q + 1) x2.toNatClampNeg) < (M (q + 1) x1.toNatClampNeg) then
        vl (x2 + (-1)) fun v20 =>
        f_X5_turnToNext_47 q n x1 v20 M
      else
        f_X5_turnToNext_75 q x1 x2 M
    else
      f_X5_turnToNext_75 q x1 x2 M
set_option maxRecDepth 100000 in
theorem w_X5_turnToNext_47 {R : Int32} {M' : Mem} {q : Nat} (hq : isOr q) : ∀ (n : Nat) (x1 x2 : Int32) (M : Mem), f_X5_turnToNext_47 q n x1 x2 M = some (R, M') → RunF l D cy ad none YX5_turnToNext 1 0 0 (some (.int R)) (lay X M') 0 0 47 [(0, .ref q), (1, .int x1), (2, .int x2)] [] (lay X M) := by
  intro n
  induction n with
  | zero => intro x1 x2 M hF; exact absurd hF (by unfold f_X5_turnToNext_47; exact fun h => nomatch h)
  | succ n ih =>
    intro x1 x2 M hF
    unfold f_X5_turnToNext_47 at hF
    refine g_iload_n (Y := YX5_turnToNext) (pc := 47) 2 dX5_turnToNext_47 rfl ?_
    refine g_iload_n (Y := YX5_turnToNext) (pc := 48) 1 dX5_turnToNext_48 rfl ?_
    refine g_iconst (Y := YX5_turnToNext) (pc := 49) dX5_turnToNext_49 kI_1 ?_
    refine g_iadd (Y := YX5_turnToNext) (pc := 50) dX5_turnToNext_50 ?_
    refine g_icmp_le (Y := YX5_turnToNext) (pc := 51) (tgt := 75) dX5_turnToNext_51 rfl (fun c5 => ?_) (fun c5 => ?_)
    · replace hF := if_f c5 hF
      exact w_X5_turnToNext_75 hq _ _ _ hF
    · replace hF := if_t c5 hF
      refine g_aload_n (Y := YX5_turnToNext) (pc := 54) 0 dX5_turnToNext_54 rfl ?_
      refine u_getR (Y := YX5_turnToNext) (pc := 55) (j := (q + 1)) dX5_turnToNext_55 fl_X5_9 (or_k hq) (or_r0 hq) ?_
      refine g_iload_n (Y := YX5_turnToNext) (pc := 58) 2 dX5_turnToNext_58 rfl ?_
      obtain ⟨g17, hF⟩ := gd_some hF
      refine s_iald (Y := YX5_turnToNext) (pc := 59) dX5_turnToNext_59 (or_k1 hq) (or_n1 hq) g17 ?_
      refine g_aload_n (Y := YX5_turnToNext) (pc := 60) 0 dX5_turnToNext_60 rfl ?_
      refine u_getR (Y := YX5_turnToNext) (pc := 61) (j := (q + 1)) dX5_turnToNext_61 fl_X5_9 (or_k hq) (or_r0 hq) ?_
      refine g_iload_n (Y := YX5_turnToNext) (pc := 64) 1 dX5_turnToNext_64 rfl ?_
      obtain ⟨g18, hF⟩ := gd_some hF
      refine s_iald (Y := YX5_turnToNext) (pc := 65) dX5_turnToNext_65 (or_k1 hq) (or_n1 hq) g18 ?_
      refine g_icmp_ge (Y := YX5_turnToNext) (pc := 66) (tgt := 75) dX5_turnToNext_66 rfl (fun c19 => ?_) (fun c19 => ?_)
      · replace hF := if_f c19 hF
        exact w_X5_turnToNext_75 hq _ _ _ hF
      · replace hF := if_t c19 hF
        refine s_iinc (Y := YX5_turnToNext) (pc := 69) (j := 2) (L' := fun y => [(2, .int y), (0, .ref q), (1, .int x1)]) dX5_turnToNext_69 kI_m1 rfl (Nat.le_of_ble_eq_true rfl) (fun _ => rfl) (fun v20 e => ?_)
        replace hF := vl_to e hF; clear e
        refine g_goto (Y := YX5_turnToNext) (pc := 72) (tgt := 47) dX5_turnToNext_72 rfl ?_
        refine g_loc [1, 2, 0] rfl ?_
        exact ih _ _ _ hF
def f_X5_turnToNext_34 (q : Nat) (x1 : Int32) (M : Mem) : Option (Int32 × Mem) :=
  if x1 < 0 then
    some ((-1), M)
  else
    vl (((M q 1) - 1)) fun v4 =>
    f_X5_turnToNext_47 q FU x1 v4 M
set_option maxRecDepth 100000 in
theorem w_X5_turnToNext_34 {R : Int32} {M' : Mem} {q : Nat} (hq : isOr q) (x1 : Int32) (M : Mem) (hF : f_X5_turnToNext_34 q x1 M = some (R, M')) : RunF l D cy ad none YX5_turnToNext 1 0 0 (some (.int R)) (lay X M') 0 0 34 [(0, .ref q), (1, .int x1)] [] (lay X M) := by
  unfold f_X5_turnToNext_34 at hF
  refine g_iload_n (Y := YX5_turnToNext) (pc := 34) 1 dX5_turnToNext_34 rfl ?_
  refine g_if_ge (Y := YX5_turnToNext) (pc := 35) (tgt := 40) dX5_turnToNext_35 rfl (fun c3 => ?_) (fun c3 => ?_)
  · replace hF := if_f c3 hF
    refine g_aload_n (Y := YX5_turnToNext) (pc := 40) 0 dX5_turnToNext_40 rfl ?_
    refine u_getI (Y := YX5_turnToNext) (pc := 41) dX5_turnToNext_41 fl_X5_15 (or_k hq) ?_
    refine g_iconst (Y := YX5_turnToNext) (pc := 44) dX5_turnToNext_44 kI_1 ?_
    refine g_isub (Y := YX5_turnToNext) (pc := 45) dX5_turnToNext_45 ?_
    refine g_nm (fun v4 e => ?_)
    replace hF := vl_to e hF; clear e
    refine g_istore_n (Y := YX5_turnToNext) (pc := 46) (L' := [(2, .int v4), (0, .ref q), (1, .int x1)]) dX5_turnToNext_46 (Nat.le_of_ble_eq_true rfl) rfl ?_
    refine g_loc [1, 2, 0] rfl ?_
    exact w_X5_turnToNext_47 hq _ _ _ _ hF
  · replace hF := if_t c3 hF
    refine g_iconst (Y := YX5_turnToNext) (pc := 38) dX5_turnToNext_38 kI_m1 ?_
    exact s_iret (Y := YX5_turnToNext) (pc := 39) dX5_turnToNext_39 rfl hF
def f_X5_turnToNext_7 (q : Nat) : Nat → Int32 → Mem → Option (Int32 × Mem)
  | 0, _, _ => none
  | n + 1, x1, M =>
    if x1 < 0 then
      f_X5_turnToNext_34 q x1 M
    else
      gd (0 ≤ x1 ∧ x1.toNatClampNeg < 6) <|
      gd (0 ≤ (x1 + 1) ∧ (x1 + 1).toNatClampNeg < 6) <|
      if (M (q + 1) (x1 + 1).toNatClampNeg) < (M (q + 1) x1.toNatClampNeg) then
        vl (x1 + (-1)) fun v24 =>
        f_X5_turnToNext_7 q n v24 M
      else
        f_X5_turnToNext_34 q x1 M
set_option maxRecDepth 100000 in
theorem w_X5_turnToNext_7 {R : Int32} {M' : Mem} {q : Nat} (hq : isOr q) : ∀ (n : Nat) (x1 : Int32) (M : Mem), f_X5_turnToNext_7 q n x1 M = some (R, M') → RunF l D cy ad none YX5_turnToNext 1 0 0 (some (.int R)) (lay X M') 0 0 7 [(0, .ref q), (1, .int x1)] [] (lay X M) := by
  intro n
  induction n with
  | zero => intro x1 M hF; exact absurd hF (by unfold f_X5_turnToNext_7; exact fun h => nomatch h)
  | succ n ih =>
    intro x1 M hF
    unfold f_X5_turnToNext_7 at hF
    refine g_iload_n (Y := YX5_turnToNext) (pc := 7) 1 dX5_turnToNext_7 rfl ?_
    refine g_if_lt (Y := YX5_turnToNext) (pc := 8) (tgt := 34) dX5_turnToNext_8 rfl (fun c2 => ?_) (fun c2 => ?_)
    · replace hF := if_t c2 hF
      exact w_X5_turnToNext_34 hq _ _ hF
    · replace hF := if_f c2 hF
      refine g_aload_n (Y := YX5_turnToNext) (pc := 11) 0 dX5_turnToNext_11 rfl ?_
      refine u_getR (Y := YX5_turnToNext) (pc := 12) (j := (q + 1)) dX5_turnToNext_12 fl_X5_9 (or_k hq) (or_r0 hq) ?_
      refine g_iload_n (Y := YX5_turnToNext) (pc := 15) 1 dX5_turnToNext_15 rfl ?_
      obtain ⟨g21, hF⟩ := gd_some hF
      refine s_iald (Y := YX5_turnToNext) (pc := 16) dX5_turnToNext_16 (or_k1 hq) (or_n1 hq) g21 ?_
      refine g_aload_n (Y := YX5_turnToNext) (pc := 17) 0 dX5_turnToNext_17 rfl ?_
      refine u_getR (Y := YX5_turnToNext) (pc := 18) (j := (q + 1)) dX5_turnToNext_18 fl_X5_9 (or_k hq) (or_r0 hq) ?_
      refine g_iload_n (Y := YX5_turnToNext) (pc := 21) 1 dX5_turnToNext_21 rfl ?_
      refine g_iconst (Y := YX5_turnToNext) (pc := 22) dX5_turnToNext_22 kI_1 ?_
      refine g_iadd (Y := YX5_turnToNext) (pc := 23) dX5_turnToNext_23 ?_
      obtain ⟨g22, hF⟩ := gd_some hF
      refine s_iald (Y := YX5_turnToNext) (pc := 24) dX5_turnToNext_24 (or_k1 hq) (or_n1 hq) g22 ?_
      refine g_icmp_le (Y := YX5_turnToNext) (pc := 25) (tgt := 34) dX5_turnToNext_25 rfl (fun c23 => ?_) (fun c23 => ?_)
      · replace hF := if_f c23 hF
        exact w_X5_turnToNext_34 hq _ _ hF
      · replace hF := if_t c23 hF
        refine s_iinc (Y := YX5_turnToNext) (pc := 28) (j := 1) (L' := fun y => [(1, .int y), (0, .ref q)]) dX5_turnToNext_28 kI_m1 rfl (Nat.le_of_ble_eq_true rfl) (fun _ => rfl) (fun v24 e => ?_)
        replace hF := vl_to e hF; clear e
        refine g_goto (Y := YX5_turnToNext) (pc := 31) (tgt := 7) dX5_turnToNext_31 rfl ?_
        refine g_loc [1, 0] rfl ?_
        exact ih _ _ hF
def f_X5_turnToNext_0 (q : Nat) (M : Mem) : Option (Int32 × Mem) :=
  vl (((M q 1) - 2)) fun v1 =>
  f_X5_turnToNext_7 q FU v1 M
set_option maxRecDepth 100000 in
theorem w_X5_turnToNext_0 {R : Int32} {M' : Mem} {q : Nat} (hq : isOr q) (M : Mem) (hF : f_X5_turnToNext_0 q  M = some (R, M')) : RunF l D cy ad none YX5_turnToNext 1 0 0 (some (.int R)) (lay X M') 0 0 0 [(0, .ref q)] [] (lay X M) := by
  unfold f_X5_turnToNext_0 at hF
  refine g_aload_n (Y := YX5_turnToNext) (pc := 0) 0 dX5_turnToNext_0 rfl ?_
  refine u_getI (Y := YX5_turnToNext) (pc := 1) dX5_turnToNext_1 fl_X5_15 (or_k hq) ?_
  refine g_iconst (Y := YX5_turnToNext) (pc := 4) dX5_turnToNext_4 kI_2 ?_
  refine g_isub (Y := YX5_turnToNext) (pc := 5) dX5_turnToNext_5 ?_
  refine g_nm (fun v1 e => ?_)
  replace hF := vl_to e hF; clear e
  refine g_istore_n (Y := YX5_turnToNext) (pc := 6) (L' := [(1, .int v1), (0, .ref q)]) dX5_turnToNext_6 (Nat.le_of_ble_eq_true rfl) rfl ?_
  refine g_loc [1, 0] rfl ?_
  exact w_X5_turnToNext_7 hq _ _ _ hF
def f_X5_turnToNext (q : Nat) (M : Mem) : Option (Int32 × Mem) := f_X5_turnToNext_0 q M
theorem r_X5_turnToNext {q : Nat} {R : Int32} {M M' : Mem} (hq : isOr q) (hF : f_X5_turnToNext q M = some (R, M')) : RunS l D cy ad YX5_turnToNext 1 [.ref q] X M (some (.int R)) M' := Run.of 0 (miX5_turnToNext).1 (Nat.le_of_ble_eq_true rfl) (w_X5_turnToNext_0 hq _ hF)
def f_X10_findSoonest_129  (x3 : Int32) (M : Mem) : Option (Int32 × Mem) :=
  some (x3, M)
set_option maxRecDepth 100000 in
theorem w_X10_findSoonest_129 {R : Int32} {M' : Mem}  (x3 : Int32) (M : Mem) (hF : f_X10_findSoonest_129 x3 M = some (R, M')) : RunF l D cy ad none YX10_findSoonest 6 0 0 (some (.int R)) (lay X M') 0 0 129 [(3, .int x3)] [] (lay X M) := by
  unfold f_X10_findSoonest_129 at hF
  refine g_iload_n (Y := YX10_findSoonest) (pc := 129) 0 dX10_findSoonest_129 rfl ?_
  exact s_iret (Y := YX10_findSoonest) (pc := 130) dX10_findSoonest_130 rfl hF
def f_X10_findSoonest_114 (K16 : Int32 → Int32 → Int32 → Int32 → Int32 → Int32 → Mem → Option (Int32 × Mem)) (x1 : Int32) (x2 : Int32) (x3 : Int32) (x4 : Int32) (x6 : Int32) (M : Mem) : Option (Int32 × Mem) :=
  bd (f_X5_turnToNext 124 M) fun r11 M12 =>
  vl (x6 + 1) fun v14 =>
  K16 x1 x2 x3 x4 r11 v14 M12
set_option maxRecDepth 100000 in
theorem w_X10_findSoonest_114 {R : Int32} {M' : Mem} {K16 : Int32 → Int32 → Int32 → Int32 → Int32 → Int32 → Mem → Option (Int32 × Mem)} (hK16 : ∀ (x1 x2 x3 x4 x5 x6 : Int32) (M : Mem), K16 x1 x2 x3 x4 x5 x6 M = some (R, M') → RunF l D cy ad none YX10_findSoonest 6 0 0 (some (.int R)) (lay X M') 0 0 16 [(0, .ref 0), (1, .int x1), (2, .int x2), (3, .int x3), (4, .int x4), (5, .int x5), (6, .int x6)] [] (lay X M)) (x1 x2 x3 x4 x6 : Int32) (M : Mem) (hF : f_X10_findSoonest_114 K16 x1 x2 x3 x4 x6 M = some (R, M')) : RunF l D cy ad none YX10_findSoonest 6 0 0 (some (.int R)) (lay X M') 0 0 114 [(0, .ref 0), (1, .int x1), (2, .int x2), (3, .int x3), (4, .int x4), (6, .int x6)] [] (lay X M) := by
  unfold f_X10_findSoonest_114 at hF
  refine g_aload_n (Y := YX10_findSoonest) (pc := 114) 0 dX10_findSoonest_114 rfl ?_
  refine u_getR (Y := YX10_findSoonest) (pc := 115) (j := 124) dX10_findSoonest_115 fl_X10_73 k_0 rf_0_11 ?_
  obtain ⟨r11, M12, e13, hF⟩ := bd_some hF
  refine s_callVi (Y := YX10_findSoonest) (pc := 118) (as := []) (st := []) (r_X5_turnToNext (Or.inl rfl) e13) miX5_turnToNext lk_X10_326 dX10_findSoonest_118 k_124 rfl (Nat.le_of_ble_eq_true rfl) (Nat.le_of_ble_eq_true rfl) rfl ?_
  clear e13
  refine g_istore (Y := YX10_findSoonest) (pc := 121) (L' := [(5, .int r11), (0, .ref 0), (1, .int x1), (2, .int x2), (3, .int x3), (4, .int x4), (6, .int x6)]) dX10_findSoonest_121 (Nat.le_of_ble_eq_true rfl) rfl ?_
  refine s_iinc (Y := YX10_findSoonest) (pc := 123) (j := 6) (L' := fun y => [(6, .int y), (5, .int r11), (0, .ref 0), (1, .int x1), (2, .int x2), (3, .int x3), (4, .int x4)]) dX10_findSoonest_123 kI_1 rfl (Nat.le_of_ble_eq_true rfl) (fun _ => rfl) (fun v14 e => ?_)
  replace hF := vl_to e hF; clear e
  refine g_goto (Y := YX10_findSoonest) (pc := 126) (tgt := 16) dX10_findSoonest_126 rfl ?_
  refine g_loc [2, 3, 4, 5, 6, 1, 0] rfl ?_
  exact hK16 _ _ _ _ _ _ _ hF
def f_X10_findSoonest_96 (K16 : Int32 → Int32 → Int32 → Int32 → Int32 → Int32 → Mem → Option (Int32 × Mem)) (x1 : Int32) (x2 : Int32) (x6 : Int32) (x7 : Int32) (x8 : Int32) (M : Mem) : Option (Int32 × Mem) :=
  bd (f_X5_copy 126 124 M) fun _ M23 =>
  f_X10_findSoonest_114 K16 x1 x2 x7 x8 x6 M23
set_option maxRecDepth 100000 in
theorem w_X10_findSoonest_96 {R : Int32} {M' : Mem} {K16 : Int32 → Int32 → Int32 → Int32 → Int32 → Int32 → Mem → Option (Int32 × Mem)} (hK16 : ∀ (x1 x2 x3 x4 x5 x6 : Int32) (M : Mem), K16 x1 x2 x3 x4 x5 x6 M = some (R, M') → RunF l D cy ad none YX10_findSoonest 6 0 0 (some (.int R)) (lay X M') 0 0 16 [(0, .ref 0), (1, .int x1), (2, .int x2), (3, .int x3), (4, .int x4), (5, .int x5), (6, .int x6)] [] (lay X M)) (x1 x2 x6 x7 x8 : Int32) (M : Mem) (hF : f_X10_findSoonest_96 K16 x1 x2 x6 x7 x8 M = some (R, M')) : RunF l D cy ad none YX10_findSoonest 6 0 0 (some (.int R)) (lay X M') 0 0 96 [(0, .ref 0), (1, .int x1), (2, .int x2), (6, .int x6), (7, .int x7), (8, .int x8)] [] (lay X M) := by
  unfold f_X10_findSoonest_96 at hF
  refine g_iload (Y := YX10_findSoonest) (pc := 96) 4 dX10_findSoonest_96 rfl ?_
  refine g_istore_n (Y := YX10_findSoonest) (pc := 98) (L' := [(3, .int x7), (0, .ref 0), (1, .int x1), (2, .int x2), (6, .int x6), (7, .int x7), (8, .int x8)]) dX10_findSoonest_98 (Nat.le_of_ble_eq_true rfl) rfl ?_
  refine g_iload (Y := YX10_findSoonest) (pc := 99) 6 dX10_findSoonest_99 rfl ?_
  refine g_istore (Y := YX10_findSoonest) (pc := 101) (L' := [(4, .int x8), (3, .int x7), (0, .ref 0), (1, .int x1), (2, .int x2), (6, .int x6), (7, .int x7), (8, .int x8)]) dX10_findSoonest_101 (Nat.le_of_ble_eq_true rfl) rfl ?_
  refine g_aload_n (Y := YX10_findSoonest) (pc := 103) 2 dX10_findSoonest_103 rfl ?_
  refine u_getR (Y := YX10_findSoonest) (pc := 104) (j := 126) dX10_findSoonest_104 fl_X10_77 k_0 rf_0_12 ?_
  refine g_aload_n (Y := YX10_findSoonest) (pc := 107) 2 dX10_findSoonest_107 rfl ?_
  refine u_getR (Y := YX10_findSoonest) (pc := 108) (j := 124) dX10_findSoonest_108 fl_X10_73 k_0 rf_0_11 ?_
  obtain ⟨r22, M23, e24, hF⟩ := bd_some hF
  refine s_callVv (Y := YX10_findSoonest) (pc := 111) (as := [.ref 124]) (st := []) (r_X5_copy (Or.inr rfl) (Or.inl rfl) e24) miX5_copy lk_X10_323 dX10_findSoonest_111 k_126 rfl (Nat.le_of_ble_eq_true rfl) (Nat.le_of_ble_eq_true rfl) rfl ?_
  clear e24
  refine g_loc [2, 3, 4, 1, 0, 5] rfl ?_
  exact w_X10_findSoonest_114 hK16 _ _ _ _ _ _ hF
def f_X10_findSoonest_50 (K16 : Int32 → Int32 → Int32 → Int32 → Int32 → Int32 → Mem → Option (Int32 × Mem)) (x1 : Int32) (x2 : Int32) (x3 : Int32) (x4 : Int32) (x6 : Int32) (t1 : Int32) (t0 : Int32) (M : Mem) : Option (Int32 × Mem) :=
  bd (f_X9_walk 124 t1 t0 M) fun r7 M8 =>
  if r7 = 0 then
    f_X10_findSoonest_114 K16 x1 x2 x3 x4 x6 M8
  else
    bd (f_X9_minutesGone M8) fun r15 M16 =>
    bd (f_X7_waitedBy 165 x1 M16) fun r18 M19 =>
    if x3 = (-1) then
      f_X10_findSoonest_96 K16 x1 x2 x6 r15 r18 M19
    else
      if r15 < x3 then
        f_X10_findSoonest_96 K16 x1 x2 x6 r15 r18 M19
      else
        if r18 < x4 then
          f_X10_findSoonest_96 K16 x1 x2 x6 r15 r18 M19
        else
          f_X10_findSoonest_114 K16 x1 x2 x3 x4 x6 M19
set_option maxRecDepth 100000 in
theorem w_X10_findSoonest_50 {R : Int32} {M' : Mem} {K16 : Int32 → Int32 → Int32 → Int32 → Int32 → Int32 → Mem → Option (Int32 × Mem)} (hK16 : ∀ (x1 x2 x3 x4 x5 x6 : Int32) (M : Mem), K16 x1 x2 x3 x4 x5 x6 M = some (R, M') → RunF l D cy ad none YX10_findSoonest 6 0 0 (some (.int R)) (lay X M') 0 0 16 [(0, .ref 0), (1, .int x1), (2, .int x2), (3, .int x3), (4, .int x4), (5, .int x5), (6, .int x6)] [] (lay X M)) (x1 x2 x3 x4 x6 t1 t0 : Int32) (M : Mem) (hF : f_X10_findSoonest_50 K16 x1 x2 x3 x4 x6 t1 t0 M = some (R, M')) : RunF l D cy ad none YX10_findSoonest 6 0 0 (some (.int R)) (lay X M') 0 0 50 [(0, .ref 0), (1, .int x1), (2, .int x2), (3, .int x3), (4, .int x4), (6, .int x6)] [.int t0, .int t1, .ref 124, .ref 128] (lay X M) := by
  unfold f_X10_findSoonest_50 at hF
  obtain ⟨r7, M8, e9, hF⟩ := bd_some hF
  refine s_callVi (Y := YX10_findSoonest) (pc := 50) (as := [.ref 124, .int t1, .int t0]) (st := []) (r_X9_walk (Or.inl rfl) e9) miX9_walk lk_X10_299 dX10_findSoonest_50 k_128 rfl (Nat.le_of_ble_eq_true rfl) (Nat.le_of_ble_eq_true rfl) rfl ?_
  clear e9
  refine g_if_eq (Y := YX10_findSoonest) (pc := 53) (tgt := 114) dX10_findSoonest_53 rfl (fun c10 => ?_) (fun c10 => ?_)
  · replace hF := if_t c10 hF
    exact w_X10_findSoonest_114 hK16 _ _ _ _ _ _ hF
  · replace hF := if_f c10 hF
    refine g_aload_n (Y := YX10_findSoonest) (pc := 56) 0 dX10_findSoonest_56 rfl ?_
    refine u_getR (Y := YX10_findSoonest) (pc := 57) (j := 128) dX10_findSoonest_57 fl_X10_85 k_0 rf_0_13 ?_
    obtain ⟨r15, M16, e17, hF⟩ := bd_some hF
    refine s_callVi (Y := YX10_findSoonest) (pc := 60) (as := []) (st := []) (r_X9_minutesGone  e17) miX9_minutesGone lk_X10_310 dX10_findSoonest_60 k_128 rfl (Nat.le_of_ble_eq_true rfl) (Nat.le_of_ble_eq_true rfl) rfl ?_
    clear e17
    refine g_istore (Y := YX10_findSoonest) (pc := 63) (L' := [(7, .int r15), (0, .ref 0), (1, .int x1), (2, .int x2), (3, .int x3), (4, .int x4), (6, .int x6)]) dX10_findSoonest_63 (Nat.le_of_ble_eq_true rfl) rfl ?_
    refine g_aload_n (Y := YX10_findSoonest) (pc := 65) 1 dX10_findSoonest_65 rfl ?_
    refine u_getR (Y := YX10_findSoonest) (pc := 66) (j := 128) dX10_findSoonest_66 fl_X10_85 k_0 rf_0_13 ?_
    refine u_getR (Y := YX10_findSoonest) (pc := 69) (j := 165) dX10_findSoonest_69 fl_X10_304 k_128 rf_128_6 ?_
    refine g_iload_n (Y := YX10_findSoonest) (pc := 72) 2 dX10_findSoonest_72 rfl ?_
    obtain ⟨r18, M19, e20, hF⟩ := bd_some hF
    refine s_callVi (Y := YX10_findSoonest) (pc := 73) (as := [.int x1]) (st := []) (r_X7_waitedBy isSt_165 e20) miX7_waitedBy lk_X10_259 dX10_findSoonest_73 k_165 rfl (Nat.le_of_ble_eq_true rfl) (Nat.le_of_ble_eq_true rfl) rfl ?_
    clear e20
    refine g_istore (Y := YX10_findSoonest) (pc := 76) (L' := [(8, .int r18), (7, .int r15), (0, .ref 0), (1, .int x1), (2, .int x2), (3, .int x3), (4, .int x4), (6, .int x6)]) dX10_findSoonest_76 (Nat.le_of_ble_eq_true rfl) rfl ?_
    refine g_iload_n (Y := YX10_findSoonest) (pc := 78) 5 dX10_findSoonest_78 rfl ?_
    refine g_iconst (Y := YX10_findSoonest) (pc := 79) dX10_findSoonest_79 kI_m1 ?_
    refine g_icmp_eq (Y := YX10_findSoonest) (pc := 80) (tgt := 96) dX10_findSoonest_80 rfl (fun c21 => ?_) (fun c21 => ?_)
    · replace hF := if_t c21 hF
      refine g_loc [2, 3, 4, 7, 1, 0] rfl ?_
      exact w_X10_findSoonest_96 hK16 _ _ _ _ _ _ hF
    · replace hF := if_f c21 hF
      refine g_iload (Y := YX10_findSoonest) (pc := 83) 1 dX10_findSoonest_83 rfl ?_
      refine g_iload_n (Y := YX10_findSoonest) (pc := 85) 5 dX10_findSoonest_85 rfl ?_
      refine g_icmp_lt (Y := YX10_findSoonest) (pc := 86) (tgt := 96) dX10_findSoonest_86 rfl (fun c25 => ?_) (fun c25 => ?_)
      · replace hF := if_t c25 hF
        refine g_loc [2, 3, 4, 7, 1, 0] rfl ?_
        exact w_X10_findSoonest_96 hK16 _ _ _ _ _ _ hF
      · replace hF := if_f c25 hF
        refine g_iload (Y := YX10_findSoonest) (pc := 89) 0 dX10_findSoonest_89 rfl ?_
        refine g_iload (Y := YX10_findSoonest) (pc := 91) 6 dX10_findSoonest_91 rfl ?_
        refine g_icmp_ge (Y := YX10_findSoonest) (pc := 93) (tgt := 114) dX10_findSoonest_93 rfl (fun c26 => ?_) (fun c26 => ?_)
        · replace hF := if_f c26 hF
          refine g_loc [2, 3, 4, 5, 6, 7] rfl ?_
          exact w_X10_findSoonest_114 hK16 _ _ _ _ _ _ hF
        · replace hF := if_t c26 hF
          refine g_loc [2, 3, 4, 7, 1, 0] rfl ?_
          exact w_X10_findSoonest_96 hK16 _ _ _ _ _ _ hF
def f_X10_findSoonest_16  : Nat → Int32 → Int32 → Int32 → Int32 → Int32 → Int32 → Mem → Option (Int32 × Mem)
  | 0, _, _, _, _, _, _, _ => none
  | n + 1, x1, x2, x3, x4, x5, x6, M =>
    if x6 < 720 then
      if x5 = (-1) then
        f_X10_findSoonest_129 x3 M
      else
        if x3 = (-1) then
          f_X10_findSoonest_50 (f_X10_findSoonest_16 n) x1 x2 x3 x4 x6 x5 x2 M
        else
          f_X10_findSoonest_50 (f_X10_findSoonest_16 n) x1 x2 x3 x4 x6 x5 x3 M
    else
      f_X10_findSoonest_129 x3 M
set_option maxRecDepth 100000 in
theorem w_X10_findSoonest_16 {R : Int32} {M' : Mem}  : ∀ (n : Nat) (x1 x2 x3 x4 x5 x6 : Int32) (M : Mem), f_X10_findSoonest_16 n x1 x2 x3 x4 x5 x6 M = some (R, M') → RunF l D cy ad none YX10_findSoonest 6 0 0 (some (.int R)) (lay X M') 0 0 16 [(0, .ref 0), (1, .int x1), (2, .int x2), (3, .int x3), (4, .int x4), (5, .int x5), (6, .int x6)] [] (lay X M) := by
  intro n
  induction n with
  | zero => intro x1 x2 x3 x4 x5 x6 M hF; exact absurd hF (by unfold f_X10_findSoonest_16; exact fun h => nomatch h)
  | succ n ih =>
    intro x1 x2 x3 x4 x5 x6 M hF
    unfold f_X10_findSoonest_16 at hF
    refine g_iload (Y := YX10_findSoonest) (pc := 16) 6 dX10_findSoonest_16 rfl ?_
    refine g_sipush (Y := YX10_findSoonest) (pc := 18) dX10_findSoonest_18 kS_720 ?_
    refine g_icmp_ge (Y := YX10_findSoonest) (pc := 21) (tgt := 129) dX10_findSoonest_21 rfl (fun c4 => ?_) (fun c4 => ?_)
    · replace hF := if_f c4 hF
      refine g_loc [3] rfl ?_
      exact w_X10_findSoonest_129  _ _ hF
    · replace hF := if_t c4 hF
      refine g_iload (Y := YX10_findSoonest) (pc := 24) 5 dX10_findSoonest_24 rfl ?_
      refine g_iconst (Y := YX10_findSoonest) (pc := 26) dX10_findSoonest_26 kI_m1 ?_
      refine g_icmp_eq (Y := YX10_findSoonest) (pc := 27) (tgt := 129) dX10_findSoonest_27 rfl (fun c5 => ?_) (fun c5 => ?_)
      · replace hF := if_t c5 hF
        refine g_loc [3] rfl ?_
        exact w_X10_findSoonest_129  _ _ hF
      · replace hF := if_f c5 hF
        refine g_aload_n (Y := YX10_findSoonest) (pc := 30) 0 dX10_findSoonest_30 rfl ?_
        refine u_getR (Y := YX10_findSoonest) (pc := 31) (j := 128) dX10_findSoonest_31 fl_X10_85 k_0 rf_0_13 ?_
        refine g_aload_n (Y := YX10_findSoonest) (pc := 34) 0 dX10_findSoonest_34 rfl ?_
        refine u_getR (Y := YX10_findSoonest) (pc := 35) (j := 124) dX10_findSoonest_35 fl_X10_73 k_0 rf_0_11 ?_
        refine g_iload (Y := YX10_findSoonest) (pc := 38) 5 dX10_findSoonest_38 rfl ?_
        refine g_iload_n (Y := YX10_findSoonest) (pc := 40) 3 dX10_findSoonest_40 rfl ?_
        refine g_iconst (Y := YX10_findSoonest) (pc := 41) dX10_findSoonest_41 kI_m1 ?_
        refine g_icmp_ne (Y := YX10_findSoonest) (pc := 42) (tgt := 49) dX10_findSoonest_42 rfl (fun c6 => ?_) (fun c6 => ?_)
        · replace hF := if_f c6 hF
          refine g_iload_n (Y := YX10_findSoonest) (pc := 49) 3 dX10_findSoonest_49 rfl ?_
          refine g_loc [0, 1, 2, 3, 4, 6] rfl ?_
          exact w_X10_findSoonest_50 ih _ _ _ _ _ _ _ _ hF
        · replace hF := if_t c6 hF
          refine g_iload_n (Y := YX10_findSoonest) (pc := 45) 2 dX10_findSoonest_45 rfl ?_
          refine g_goto (Y := YX10_findSoonest) (pc := 46) (tgt := 50) dX10_findSoonest_46 rfl ?_
          refine g_loc [0, 1, 2, 3, 4, 6] rfl ?_
          exact w_X10_findSoonest_50 ih _ _ _ _ _ _ _ _ hF
def f_X10_findSoonest_0  (x1 : Int32) (x2 : Int32) (M : Mem) : Option (Int32 × Mem) :=
  bd (f_X10_beginOrders x1 0 M) fun r1 M2 =>
  f_X10_findSoonest_16 FU x1 x2 (-1) 0 r1 0 M2
set_option maxRecDepth 100000 in
theorem w_X10_findSoonest_0 {R : Int32} {M' : Mem}  (x1 x2 : Int32) (M : Mem) (hF : f_X10_findSoonest_0 x1 x2 M = some (R, M')) : RunF l D cy ad none YX10_findSoonest 6 0 0 (some (.int R)) (lay X M') 0 0 0 [(0, .ref 0), (1, .int x1), (2, .int x2)] [] (lay X M) := by
  unfold f_X10_findSoonest_0 at hF
  refine g_iconst (Y := YX10_findSoonest) (pc := 0) dX10_findSoonest_0 kI_m1 ?_
  refine g_istore_n (Y := YX10_findSoonest) (pc := 1) (L' := [(3, .int (-1)), (0, .ref 0), (1, .int x1), (2, .int x2)]) dX10_findSoonest_1 (Nat.le_of_ble_eq_true rfl) rfl ?_
  refine g_iconst (Y := YX10_findSoonest) (pc := 2) dX10_findSoonest_2 kI_0 ?_
  refine g_istore (Y := YX10_findSoonest) (pc := 3) (L' := [(4, .int 0), (3, .int (-1)), (0, .ref 0), (1, .int x1), (2, .int x2)]) dX10_findSoonest_3 (Nat.le_of_ble_eq_true rfl) rfl ?_
  refine g_aload_n (Y := YX10_findSoonest) (pc := 5) 2 dX10_findSoonest_5 rfl ?_
  refine g_iload_n (Y := YX10_findSoonest) (pc := 6) 3 dX10_findSoonest_6 rfl ?_
  refine g_iconst (Y := YX10_findSoonest) (pc := 7) dX10_findSoonest_7 kI_0 ?_
  obtain ⟨r1, M2, e3, hF⟩ := bd_some hF
  refine s_callVi (Y := YX10_findSoonest) (pc := 8) (as := [.int x1, .int 0]) (st := []) (r_X10_beginOrders  e3) miX10_beginOrders lk_X10_319 dX10_findSoonest_8 k_0 rfl (Nat.le_of_ble_eq_true rfl) (Nat.le_of_ble_eq_true rfl) rfl ?_
  clear e3
  refine g_istore (Y := YX10_findSoonest) (pc := 11) (L' := [(5, .int r1), (4, .int 0), (3, .int (-1)), (0, .ref 0), (1, .int x1), (2, .int x2)]) dX10_findSoonest_11 (Nat.le_of_ble_eq_true rfl) rfl ?_
  refine g_iconst (Y := YX10_findSoonest) (pc := 13) dX10_findSoonest_13 kI_0 ?_
  refine g_istore (Y := YX10_findSoonest) (pc := 14) (L' := [(6, .int 0), (5, .int r1), (4, .int 0), (3, .int (-1)), (0, .ref 0), (1, .int x1), (2, .int x2)]) dX10_findSoonest_14 (Nat.le_of_ble_eq_true rfl) rfl ?_
  refine g_loc [4, 5, 6, 3, 2, 1, 0] rfl ?_
  exact w_X10_findSoonest_16  _ _ _ _ _ _ _ _ hF
def f_X10_findSoonest (x1 : Int32) (x2 : Int32) (M : Mem) : Option (Int32 × Mem) := f_X10_findSoonest_0 x1 x2 M
theorem r_X10_findSoonest {x1 x2 R : Int32} {M M' : Mem}  (hF : f_X10_findSoonest x1 x2 M = some (R, M')) : RunS l D cy ad YX10_findSoonest 6 [.ref 0, .int x1, .int x2] X M (some (.int R)) M' := Run.of 2 (miX10_findSoonest).1 (Nat.le_of_ble_eq_true rfl) (w_X10_findSoonest_0  _ _ _ hF)
def f_X10_tellFound_2  : Nat → Int32 → Mem → Option (Int32 × Mem)
  | 0, _, _ => none
  | n + 1, x1, M =>
    if x1 < (M 126 1) then
      gd (0 ≤ x1 ∧ x1.toNatClampNeg < 6) <|
      bd (f_X10_tell (M 127 x1.toNatClampNeg) M) fun _ M4 =>
      vl (x1 + 1) fun v6 =>
      f_X10_tellFound_2 n v6 M4
    else
      some (0, M)
set_option maxRecDepth 100000 in
theorem w_X10_tellFound_2 {R : Int32} {M' : Mem}  : ∀ (n : Nat) (x1 : Int32) (M : Mem), f_X10_tellFound_2 n x1 M = some (R, M') → RunF l D cy ad none YX10_tellFound 1 0 0 none (lay X M') 0 0 2 [(0, .ref 0), (1, .int x1)] [] (lay X M) := by
  intro n
  induction n with
  | zero => intro x1 M hF; exact absurd hF (by unfold f_X10_tellFound_2; exact fun h => nomatch h)
  | succ n ih =>
    intro x1 M hF
    unfold f_X10_tellFound_2 at hF
    refine g_iload_n (Y := YX10_tellFound) (pc := 2) 1 dX10_tellFound_2 rfl ?_
    refine g_aload_n (Y := YX10_tellFound) (pc := 3) 0 dX10_tellFound_3 rfl ?_
    refine u_getR (Y := YX10_tellFound) (pc := 4) (j := 126) dX10_tellFound_4 fl_X10_77 k_0 rf_0_12 ?_
    refine u_getI (Y := YX10_tellFound) (pc := 7) dX10_tellFound_7 fl_X10_303 k_126 ?_
    refine g_icmp_ge (Y := YX10_tellFound) (pc := 10) (tgt := 32) dX10_tellFound_10 rfl (fun c1 => ?_) (fun c1 => ?_)
    · replace hF := if_f c1 hF
      exact s_vret (Y := YX10_tellFound) (pc := 32) dX10_tellFound_32 rfl hF
    · replace hF := if_t c1 hF
      refine g_aload_n (Y := YX10_tellFound) (pc := 13) 0 dX10_tellFound_13 rfl ?_
      refine g_aload_n (Y := YX10_tellFound) (pc := 14) 0 dX10_tellFound_14 rfl ?_
      refine u_getR (Y := YX10_tellFound) (pc := 15) (j := 126) dX10_tellFound_15 fl_X10_77 k_0 rf_0_12 ?_
      refine u_getR (Y := YX10_tellFound) (pc := 18) (j := 127) dX10_tellFound_18 fl_X10_307 k_126 rf_126_0 ?_
      refine g_iload_n (Y := YX10_tellFound) (pc := 21) 1 dX10_tellFound_21 rfl ?_
      obtain ⟨g2, hF⟩ := gd_some hF
      refine s_iald (Y := YX10_tellFound) (pc := 22) dX10_tellFound_22 k_127 n_127 g2 ?_
      obtain ⟨r3, M4, e5, hF⟩ := bd_some hF
      refine s_callVv (Y := YX10_tellFound) (pc := 23) (as := [.int (M 127 x1.toNatClampNeg)]) (st := []) (r_X10_tell  e5) miX10_tell lk_X10_252 dX10_tellFound_23 k_0 rfl (Nat.le_of_ble_eq_true rfl) (Nat.le_of_ble_eq_true rfl) rfl ?_
      clear e5
      refine s_iinc (Y := YX10_tellFound) (pc := 26) (j := 1) (L' := fun y => [(1, .int y), (0, .ref 0)]) dX10_tellFound_26 kI_1 rfl (Nat.le_of_ble_eq_true rfl) (fun _ => rfl) (fun v6 e => ?_)
      replace hF := vl_to e hF; clear e
      refine g_goto (Y := YX10_tellFound) (pc := 29) (tgt := 2) dX10_tellFound_29 rfl ?_
      refine g_loc [1, 0] rfl ?_
      exact ih _ _ hF
def f_X10_tellFound_0  (M : Mem) : Option (Int32 × Mem) :=
  f_X10_tellFound_2 FU 0 M
set_option maxRecDepth 100000 in
theorem w_X10_tellFound_0 {R : Int32} {M' : Mem}  (M : Mem) (hF : f_X10_tellFound_0  M = some (R, M')) : RunF l D cy ad none YX10_tellFound 1 0 0 none (lay X M') 0 0 0 [(0, .ref 0)] [] (lay X M) := by
  unfold f_X10_tellFound_0 at hF
  refine g_iconst (Y := YX10_tellFound) (pc := 0) dX10_tellFound_0 kI_0 ?_
  refine g_istore_n (Y := YX10_tellFound) (pc := 1) (L' := [(1, .int 0), (0, .ref 0)]) dX10_tellFound_1 (Nat.le_of_ble_eq_true rfl) rfl ?_
  refine g_loc [1, 0] rfl ?_
  exact w_X10_tellFound_2  _ _ _ hF
def f_X10_tellFound (M : Mem) : Option (Int32 × Mem) := f_X10_tellFound_0 M
theorem r_X10_tellFound {R : Int32} {M M' : Mem}  (hF : f_X10_tellFound  M = some (R, M')) : RunS l D cy ad YX10_tellFound 1 [.ref 0] X M none M' := Run.of 0 (miX10_tellFound).1 (Nat.le_of_ble_eq_true rfl) (w_X10_tellFound_0  _ hF)
def f_X10_best_0  (x1 : Int32) (M : Mem) : Option (Int32 × Mem) :=
  bd (f_X10_areOutside x1 M) fun r1 M2 =>
  if r1 = 0 then
    some ((-1), M2)
  else
    bd (f_X10_findSoonest x1 400 M2) fun r5 M6 =>
    if r5 = (-1) then
      some ((-2), M6)
    else
      bd (f_X10_clearRow M6) fun _ M10 =>
      bd (f_X10_tellFound M10) fun _ M13 =>
      some (r5, M13)
set_option maxRecDepth 100000 in
theorem w_X10_best_0 {R : Int32} {M' : Mem}  (x1 : Int32) (M : Mem) (hF : f_X10_best_0 x1 M = some (R, M')) : RunF l D cy ad none YX10_best 7 0 0 (some (.int R)) (lay X M') 0 0 0 [(0, .ref 0), (1, .int x1)] [] (lay X M) := by
  unfold f_X10_best_0 at hF
  refine g_aload_n (Y := YX10_best) (pc := 0) 0 dX10_best_0 rfl ?_
  refine g_iload_n (Y := YX10_best) (pc := 1) 1 dX10_best_1 rfl ?_
  obtain ⟨r1, M2, e3, hF⟩ := bd_some hF
  refine s_callVi (Y := YX10_best) (pc := 2) (as := [.int x1]) (st := []) (r_X10_areOutside  e3) miX10_areOutside lk_X10_292 dX10_best_2 k_0 rfl (Nat.le_of_ble_eq_true rfl) (Nat.le_of_ble_eq_true rfl) rfl ?_
  clear e3
  refine g_if_ne (Y := YX10_best) (pc := 5) (tgt := 10) dX10_best_5 rfl (fun c4 => ?_) (fun c4 => ?_)
  · replace hF := if_f c4 hF
    refine g_aload_n (Y := YX10_best) (pc := 10) 0 dX10_best_10 rfl ?_
    refine g_iload_n (Y := YX10_best) (pc := 11) 1 dX10_best_11 rfl ?_
    refine g_sipush (Y := YX10_best) (pc := 12) dX10_best_12 kS_400 ?_
    obtain ⟨r5, M6, e7, hF⟩ := bd_some hF
    refine s_callVi (Y := YX10_best) (pc := 15) (as := [.int x1, .int 400]) (st := []) (r_X10_findSoonest  e7) miX10_findSoonest lk_X10_313 dX10_best_15 k_0 rfl (Nat.le_of_ble_eq_true rfl) (Nat.le_of_ble_eq_true rfl) rfl ?_
    clear e7
    refine g_istore_n (Y := YX10_best) (pc := 18) (L' := [(2, .int r5), (0, .ref 0), (1, .int x1)]) dX10_best_18 (Nat.le_of_ble_eq_true rfl) rfl ?_
    refine g_iload_n (Y := YX10_best) (pc := 19) 0 dX10_best_19 rfl ?_
    refine g_iconst (Y := YX10_best) (pc := 20) dX10_best_20 kI_m1 ?_
    refine g_icmp_ne (Y := YX10_best) (pc := 21) (tgt := 27) dX10_best_21 rfl (fun c8 => ?_) (fun c8 => ?_)
    · replace hF := if_f c8 hF
      refine g_aload_n (Y := YX10_best) (pc := 27) 1 dX10_best_27 rfl ?_
      obtain ⟨r9, M10, e11, hF⟩ := bd_some hF
      refine s_callVv (Y := YX10_best) (pc := 28) (as := []) (st := []) (r_X10_clearRow  e11) miX10_clearRow lk_X10_246 dX10_best_28 k_0 rfl (Nat.le_of_ble_eq_true rfl) (Nat.le_of_ble_eq_true rfl) rfl ?_
      clear e11
      refine g_aload_n (Y := YX10_best) (pc := 31) 1 dX10_best_31 rfl ?_
      obtain ⟨r12, M13, e14, hF⟩ := bd_some hF
      refine s_callVv (Y := YX10_best) (pc := 32) (as := []) (st := []) (r_X10_tellFound  e14) miX10_tellFound lk_X10_316 dX10_best_32 k_0 rfl (Nat.le_of_ble_eq_true rfl) (Nat.le_of_ble_eq_true rfl) rfl ?_
      clear e14
      refine g_iload_n (Y := YX10_best) (pc := 35) 0 dX10_best_35 rfl ?_
      exact s_iret (Y := YX10_best) (pc := 36) dX10_best_36 rfl hF
    · replace hF := if_t c8 hF
      refine g_bipush (Y := YX10_best) (pc := 24) dX10_best_24 kB_m2 ?_
      exact s_iret (Y := YX10_best) (pc := 26) dX10_best_26 rfl hF
  · replace hF := if_t c4 hF
    refine g_iconst (Y := YX10_best) (pc := 8) dX10_best_8 kI_m1 ?_
    exact s_iret (Y := YX10_best) (pc := 9) dX10_best_9 rfl hF
def f_X10_best (x1 : Int32) (M : Mem) : Option (Int32 × Mem) := f_X10_best_0 x1 M
theorem r_X10_best {x1 R : Int32} {M M' : Mem}  (hF : f_X10_best x1 M = some (R, M')) : RunS l D cy ad YX10_best 7 [.ref 0, .int x1] X M (some (.int R)) M' := Run.of 1 (miX10_best).1 (Nat.le_of_ble_eq_true rfl) (w_X10_best_0  _ _ hF)
def f_X10_calm_135  (x2 : Int32) (x3 : Int32) (M : Mem) : Option (Int32 × Mem) :=
  if x2 = (-1) then
    some ((-2), M)
  else
    bd (f_X10_clearRow M) fun _ M11 =>
    bd (f_X10_tell x3 M11) fun _ M14 =>
    bd (f_X10_tellFound M14) fun _ M17 =>
    some (x2, M17)
set_option maxRecDepth 100000 in
theorem w_X10_calm_135 {R : Int32} {M' : Mem}  (x2 x3 : Int32) (M : Mem) (hF : f_X10_calm_135 x2 x3 M = some (R, M')) : RunF l D cy ad none YX10_calm 6 0 0 (some (.int R)) (lay X M') 0 0 135 [(0, .ref 0), (2, .int x2), (3, .int x3)] [] (lay X M) := by
  unfold f_X10_calm_135 at hF
  refine g_iload_n (Y := YX10_calm) (pc := 135) 1 dX10_calm_135 rfl ?_
  refine g_iconst (Y := YX10_calm) (pc := 136) dX10_calm_136 kI_m1 ?_
  refine g_icmp_ne (Y := YX10_calm) (pc := 137) (tgt := 143) dX10_calm_137 rfl (fun c9 => ?_) (fun c9 => ?_)
  · replace hF := if_f c9 hF
    refine g_aload_n (Y := YX10_calm) (pc := 143) 0 dX10_calm_143 rfl ?_
    obtain ⟨r10, M11, e12, hF⟩ := bd_some hF
    refine s_callVv (Y := YX10_calm) (pc := 144) (as := []) (st := []) (r_X10_clearRow  e12) miX10_clearRow lk_X10_246 dX10_calm_144 k_0 rfl (Nat.le_of_ble_eq_true rfl) (Nat.le_of_ble_eq_true rfl) rfl ?_
    clear e12
    refine g_aload_n (Y := YX10_calm) (pc := 147) 0 dX10_calm_147 rfl ?_
    refine g_iload_n (Y := YX10_calm) (pc := 148) 2 dX10_calm_148 rfl ?_
    obtain ⟨r13, M14, e15, hF⟩ := bd_some hF
    refine s_callVv (Y := YX10_calm) (pc := 149) (as := [.int x3]) (st := []) (r_X10_tell  e15) miX10_tell lk_X10_252 dX10_calm_149 k_0 rfl (Nat.le_of_ble_eq_true rfl) (Nat.le_of_ble_eq_true rfl) rfl ?_
    clear e15
    refine g_aload_n (Y := YX10_calm) (pc := 152) 0 dX10_calm_152 rfl ?_
    obtain ⟨r16, M17, e18, hF⟩ := bd_some hF
    refine s_callVv (Y := YX10_calm) (pc := 153) (as := []) (st := []) (r_X10_tellFound  e18) miX10_tellFound lk_X10_316 dX10_calm_153 k_0 rfl (Nat.le_of_ble_eq_true rfl) (Nat.le_of_ble_eq_true rfl) rfl ?_
    clear e18
    refine g_iload_n (Y := YX10_calm) (pc := 156) 1 dX10_calm_156 rfl ?_
    exact s_iret (Y := YX10_calm) (pc := 157) dX10_calm_157 rfl hF
  · replace hF := if_t c9 hF
    refine g_bipush (Y := YX10_calm) (pc := 140) dX10_calm_140 kB_m2 ?_
    exact s_iret (Y := YX10_calm) (pc := 142) dX10_calm_142 rfl hF
def f_X10_calm_120 (K25 : Int32 → Int32 → Int32 → Int32 → Int32 → Mem → Option (Int32 × Mem)) (x1 : Int32) (x2 : Int32) (x3 : Int32) (x5 : Int32) (M : Mem) : Option (Int32 × Mem) :=
  bd (f_X5_turnToNext 124 M) fun r24 M25 =>
  vl (x5 + 1) fun v27 =>
  K25 x1 x2 x3 r24 v27 M25
set_option maxRecDepth 100000 in
theorem w_X10_calm_120 {R : Int32} {M' : Mem} {K25 : Int32 → Int32 → Int32 → Int32 → Int32 → Mem → Option (Int32 × Mem)} (hK25 : ∀ (x1 x2 x3 x4 x5 : Int32) (M : Mem), K25 x1 x2 x3 x4 x5 M = some (R, M') → RunF l D cy ad none YX10_calm 6 0 0 (some (.int R)) (lay X M') 0 0 25 [(0, .ref 0), (1, .int x1), (2, .int x2), (3, .int x3), (4, .int x4), (5, .int x5)] [] (lay X M)) (x1 x2 x3 x5 : Int32) (M : Mem) (hF : f_X10_calm_120 K25 x1 x2 x3 x5 M = some (R, M')) : RunF l D cy ad none YX10_calm 6 0 0 (some (.int R)) (lay X M') 0 0 120 [(0, .ref 0), (1, .int x1), (2, .int x2), (3, .int x3), (5, .int x5)] [] (lay X M) := by
  unfold f_X10_calm_120 at hF
  refine g_aload_n (Y := YX10_calm) (pc := 120) 0 dX10_calm_120 rfl ?_
  refine u_getR (Y := YX10_calm) (pc := 121) (j := 124) dX10_calm_121 fl_X10_73 k_0 rf_0_11 ?_
  obtain ⟨r24, M25, e26, hF⟩ := bd_some hF
  refine s_callVi (Y := YX10_calm) (pc := 124) (as := []) (st := []) (r_X5_turnToNext (Or.inl rfl) e26) miX5_turnToNext lk_X10_326 dX10_calm_124 k_124 rfl (Nat.le_of_ble_eq_true rfl) (Nat.le_of_ble_eq_true rfl) rfl ?_
  clear e26
  refine g_istore (Y := YX10_calm) (pc := 127) (L' := [(4, .int r24), (0, .ref 0), (1, .int x1), (2, .int x2), (3, .int x3), (5, .int x5)]) dX10_calm_127 (Nat.le_of_ble_eq_true rfl) rfl ?_
  refine s_iinc (Y := YX10_calm) (pc := 129) (j := 5) (L' := fun y => [(5, .int y), (4, .int r24), (0, .ref 0), (1, .int x1), (2, .int x2), (3, .int x3)]) dX10_calm_129 kI_1 rfl (Nat.le_of_ble_eq_true rfl) (fun _ => rfl) (fun v27 e => ?_)
  replace hF := vl_to e hF; clear e
  refine g_goto (Y := YX10_calm) (pc := 132) (tgt := 25) dX10_calm_132 rfl ?_
  refine g_loc [2, 3, 4, 5, 1, 0] rfl ?_
  exact hK25 _ _ _ _ _ _ hF
def f_X10_calm_103 (K25 : Int32 → Int32 → Int32 → Int32 → Int32 → Mem → Option (Int32 × Mem)) (x1 : Int32) (x5 : Int32) (x6 : Int32) (x7 : Int32) (M : Mem) : Option (Int32 × Mem) :=
  bd (f_X5_copy 126 124 M) fun _ M36 =>
  f_X10_calm_120 K25 x1 x6 x7 x5 M36
set_option maxRecDepth 100000 in
theorem w_X10_calm_103 {R : Int32} {M' : Mem} {K25 : Int32 → Int32 → Int32 → Int32 → Int32 → Mem → Option (Int32 × Mem)} (hK25 : ∀ (x1 x2 x3 x4 x5 : Int32) (M : Mem), K25 x1 x2 x3 x4 x5 M = some (R, M') → RunF l D cy ad none YX10_calm 6 0 0 (some (.int R)) (lay X M') 0 0 25 [(0, .ref 0), (1, .int x1), (2, .int x2), (3, .int x3), (4, .int x4), (5, .int x5)] [] (lay X M)) (x1 x5 x6 x7 : Int32) (M : Mem) (hF : f_X10_calm_103 K25 x1 x5 x6 x7 M = some (R, M')) : RunF l D cy ad none YX10_calm 6 0 0 (some (.int R)) (lay X M') 0 0 103 [(0, .ref 0), (1, .int x1), (5, .int x5), (6, .int x6), (7, .int x7)] [] (lay X M) := by
  unfold f_X10_calm_103 at hF
  refine g_iload (Y := YX10_calm) (pc := 103) 3 dX10_calm_103 rfl ?_
  refine g_istore_n (Y := YX10_calm) (pc := 105) (L' := [(2, .int x6), (0, .ref 0), (1, .int x1), (5, .int x5), (6, .int x6), (7, .int x7)]) dX10_calm_105 (Nat.le_of_ble_eq_true rfl) rfl ?_
  refine g_iload (Y := YX10_calm) (pc := 106) 5 dX10_calm_106 rfl ?_
  refine g_istore_n (Y := YX10_calm) (pc := 108) (L' := [(3, .int x7), (2, .int x6), (0, .ref 0), (1, .int x1), (5, .int x5), (6, .int x6), (7, .int x7)]) dX10_calm_108 (Nat.le_of_ble_eq_true rfl) rfl ?_
  refine g_aload_n (Y := YX10_calm) (pc := 109) 2 dX10_calm_109 rfl ?_
  refine u_getR (Y := YX10_calm) (pc := 110) (j := 126) dX10_calm_110 fl_X10_77 k_0 rf_0_12 ?_
  refine g_aload_n (Y := YX10_calm) (pc := 113) 2 dX10_calm_113 rfl ?_
  refine u_getR (Y := YX10_calm) (pc := 114) (j := 124) dX10_calm_114 fl_X10_73 k_0 rf_0_11 ?_
  obtain ⟨r35, M36, e37, hF⟩ := bd_some hF
  refine s_callVv (Y := YX10_calm) (pc := 117) (as := [.ref 124]) (st := []) (r_X5_copy (Or.inr rfl) (Or.inl rfl) e37) miX5_copy lk_X10_323 dX10_calm_117 k_126 rfl (Nat.le_of_ble_eq_true rfl) (Nat.le_of_ble_eq_true rfl) rfl ?_
  clear e37
  refine g_loc [2, 3, 1, 0, 4] rfl ?_
  exact w_X10_calm_120 hK25 _ _ _ _ _ hF
def f_X10_calm_25  : Nat → Int32 → Int32 → Int32 → Int32 → Int32 → Mem → Option (Int32 × Mem)
  | 0, _, _, _, _, _, _ => none
  | n + 1, x1, x2, x3, x4, x5, M =>
    if x5 < 720 then
      if x4 = (-1) then
        f_X10_calm_135 x2 x3 M
      else
        bd (f_X9_walk 124 x4 400 M) fun r20 M21 =>
        if r20 = 0 then
          f_X10_calm_120 (f_X10_calm_25 n) x1 x2 x3 x5 M21
        else
          bd (f_X7_waitedBy 165 x1 M21) fun r28 M29 =>
          bd (f_X9_minutesGone M29) fun r31 M32 =>
          if x2 = (-1) then
            f_X10_calm_103 (f_X10_calm_25 n) x1 x5 r28 r31 M32
          else
            if r28 < x2 then
              f_X10_calm_103 (f_X10_calm_25 n) x1 x5 r28 r31 M32
            else
              if r28 = x2 then
                if r31 < x3 then
                  f_X10_calm_103 (f_X10_calm_25 n) x1 x5 r28 r31 M32
                else
                  f_X10_calm_120 (f_X10_calm_25 n) x1 x2 x3 x5 M32
              else
                f_X10_calm_120 (f_X10_calm_25 n) x1 x2 x3 x5 M32
    else
      f_X10_calm_135 x2 x3 M
set_option maxRecDepth 100000 in
theorem w_X10_calm_25 {R : Int32} {M' : Mem}  : ∀ (n : Nat) (x1 x2 x3 x4 x5 : Int32) (M : Mem), f_X10_calm_25 n x1 x2 x3 x4 x5 M = some (R, M') → RunF l D cy ad none YX10_calm 6 0 0 (some (.int R)) (lay X M') 0 0 25 [(0, .ref 0), (1, .int x1), (2, .int x2), (3, .int x3), (4, .int x4), (5, .int x5)] [] (lay X M) := by
  intro n
  induction n with
  | zero => intro x1 x2 x3 x4 x5 M hF; exact absurd hF (by unfold f_X10_calm_25; exact fun h => nomatch h)
  | succ n ih =>
    intro x1 x2 x3 x4 x5 M hF
    unfold f_X10_calm_25 at hF
    refine g_iload (Y := YX10_calm) (pc := 25) 5 dX10_calm_25 rfl ?_
    refine g_sipush (Y := YX10_calm) (pc := 27) dX10_calm_27 kS_720 ?_
    refine g_icmp_ge (Y := YX10_calm) (pc := 30) (tgt := 135) dX10_calm_30 rfl (fun c8 => ?_) (fun c8 => ?_)
    · replace hF := if_f c8 hF
      refine g_loc [0, 2, 3] rfl ?_
      exact w_X10_calm_135  _ _ _ hF
    · replace hF := if_t c8 hF
      refine g_iload (Y := YX10_calm) (pc := 33) 4 dX10_calm_33 rfl ?_
      refine g_iconst (Y := YX10_calm) (pc := 35) dX10_calm_35 kI_m1 ?_
      refine g_icmp_eq (Y := YX10_calm) (pc := 36) (tgt := 135) dX10_calm_36 rfl (fun c19 => ?_) (fun c19 => ?_)
      · replace hF := if_t c19 hF
        refine g_loc [0, 2, 3] rfl ?_
        exact w_X10_calm_135  _ _ _ hF
      · replace hF := if_f c19 hF
        refine g_aload_n (Y := YX10_calm) (pc := 39) 0 dX10_calm_39 rfl ?_
        refine u_getR (Y := YX10_calm) (pc := 40) (j := 128) dX10_calm_40 fl_X10_85 k_0 rf_0_13 ?_
        refine g_aload_n (Y := YX10_calm) (pc := 43) 0 dX10_calm_43 rfl ?_
        refine u_getR (Y := YX10_calm) (pc := 44) (j := 124) dX10_calm_44 fl_X10_73 k_0 rf_0_11 ?_
        refine g_iload (Y := YX10_calm) (pc := 47) 4 dX10_calm_47 rfl ?_
        refine g_sipush (Y := YX10_calm) (pc := 49) dX10_calm_49 kS_400 ?_
        obtain ⟨r20, M21, e22, hF⟩ := bd_some hF
        refine s_callVi (Y := YX10_calm) (pc := 52) (as := [.ref 124, .int x4, .int 400]) (st := []) (r_X9_walk (Or.inl rfl) e22) miX9_walk lk_X10_299 dX10_calm_52 k_128 rfl (Nat.le_of_ble_eq_true rfl) (Nat.le_of_ble_eq_true rfl) rfl ?_
        clear e22
        refine g_if_eq (Y := YX10_calm) (pc := 55) (tgt := 120) dX10_calm_55 rfl (fun c23 => ?_) (fun c23 => ?_)
        · replace hF := if_t c23 hF
          refine g_loc [0, 1, 2, 3, 5] rfl ?_
          exact w_X10_calm_120 ih _ _ _ _ _ hF
        · replace hF := if_f c23 hF
          refine g_aload_n (Y := YX10_calm) (pc := 58) 0 dX10_calm_58 rfl ?_
          refine u_getR (Y := YX10_calm) (pc := 59) (j := 128) dX10_calm_59 fl_X10_85 k_0 rf_0_13 ?_
          refine u_getR (Y := YX10_calm) (pc := 62) (j := 165) dX10_calm_62 fl_X10_304 k_128 rf_128_6 ?_
          refine g_iload_n (Y := YX10_calm) (pc := 65) 1 dX10_calm_65 rfl ?_
          obtain ⟨r28, M29, e30, hF⟩ := bd_some hF
          refine s_callVi (Y := YX10_calm) (pc := 66) (as := [.int x1]) (st := []) (r_X7_waitedBy isSt_165 e30) miX7_waitedBy lk_X10_259 dX10_calm_66 k_165 rfl (Nat.le_of_ble_eq_true rfl) (Nat.le_of_ble_eq_true rfl) rfl ?_
          clear e30
          refine g_istore (Y := YX10_calm) (pc := 69) (L' := [(6, .int r28), (0, .ref 0), (1, .int x1), (2, .int x2), (3, .int x3), (4, .int x4), (5, .int x5)]) dX10_calm_69 (Nat.le_of_ble_eq_true rfl) rfl ?_
          refine g_aload_n (Y := YX10_calm) (pc := 71) 1 dX10_calm_71 rfl ?_
          refine u_getR (Y := YX10_calm) (pc := 72) (j := 128) dX10_calm_72 fl_X10_85 k_0 rf_0_13 ?_
          obtain ⟨r31, M32, e33, hF⟩ := bd_some hF
          refine s_callVi (Y := YX10_calm) (pc := 75) (as := []) (st := []) (r_X9_minutesGone  e33) miX9_minutesGone lk_X10_310 dX10_calm_75 k_128 rfl (Nat.le_of_ble_eq_true rfl) (Nat.le_of_ble_eq_true rfl) rfl ?_
          clear e33
          refine g_istore (Y := YX10_calm) (pc := 78) (L' := [(7, .int r31), (6, .int r28), (0, .ref 0), (1, .int x1), (2, .int x2), (3, .int x3), (4, .int x4), (5, .int x5)]) dX10_calm_78 (Nat.le_of_ble_eq_true rfl) rfl ?_
          refine g_iload_n (Y := YX10_calm) (pc := 80) 4 dX10_calm_80 rfl ?_
          refine g_iconst (Y := YX10_calm) (pc := 81) dX10_calm_81 kI_m1 ?_
          refine g_icmp_eq (Y := YX10_calm) (pc := 82) (tgt := 103) dX10_calm_82 rfl (fun c34 => ?_) (fun c34 => ?_)
          · replace hF := if_t c34 hF
            refine g_loc [2, 3, 7, 1, 0] rfl ?_
            exact w_X10_calm_103 ih _ _ _ _ _ hF
          · replace hF := if_f c34 hF
            refine g_iload (Y := YX10_calm) (pc := 85) 1 dX10_calm_85 rfl ?_
            refine g_iload_n (Y := YX10_calm) (pc := 87) 4 dX10_calm_87 rfl ?_
            refine g_icmp_lt (Y := YX10_calm) (pc := 88) (tgt := 103) dX10_calm_88 rfl (fun c38 => ?_) (fun c38 => ?_)
            · replace hF := if_t c38 hF
              refine g_loc [2, 3, 7, 1, 0] rfl ?_
              exact w_X10_calm_103 ih _ _ _ _ _ hF
            · replace hF := if_f c38 hF
              refine g_iload (Y := YX10_calm) (pc := 91) 1 dX10_calm_91 rfl ?_
              refine g_iload_n (Y := YX10_calm) (pc := 93) 4 dX10_calm_93 rfl ?_
              refine g_icmp_ne (Y := YX10_calm) (pc := 94) (tgt := 120) dX10_calm_94 rfl (fun c39 => ?_) (fun c39 => ?_)
              · replace hF := if_f c39 hF
                refine g_loc [2, 3, 4, 5, 7] rfl ?_
                exact w_X10_calm_120 ih _ _ _ _ _ hF
              · replace hF := if_t c39 hF
                refine g_iload (Y := YX10_calm) (pc := 97) 0 dX10_calm_97 rfl ?_
                refine g_iload_n (Y := YX10_calm) (pc := 99) 5 dX10_calm_99 rfl ?_
                refine g_icmp_ge (Y := YX10_calm) (pc := 100) (tgt := 120) dX10_calm_100 rfl (fun c40 => ?_) (fun c40 => ?_)
                · replace hF := if_f c40 hF
                  refine g_loc [2, 3, 4, 5, 7] rfl ?_
                  exact w_X10_calm_120 ih _ _ _ _ _ hF
                · replace hF := if_t c40 hF
                  refine g_loc [2, 3, 7, 1, 0] rfl ?_
                  exact w_X10_calm_103 ih _ _ _ _ _ hF
def f_X10_calm_0  (x1 : Int32) (M : Mem) : Option (Int32 × Mem) :=
  bd (f_X10_areOutside x1 M) fun r1 M2 =>
  if r1 = 0 then
    some ((-1), M2)
  else
    bd (f_X10_beginOrders x1 0 M2) fun r5 M6 =>
    f_X10_calm_25 FU x1 (-1) (-1) r5 0 M6
set_option maxRecDepth 100000 in
theorem w_X10_calm_0 {R : Int32} {M' : Mem}  (x1 : Int32) (M : Mem) (hF : f_X10_calm_0 x1 M = some (R, M')) : RunF l D cy ad none YX10_calm 6 0 0 (some (.int R)) (lay X M') 0 0 0 [(0, .ref 0), (1, .int x1)] [] (lay X M) := by
  unfold f_X10_calm_0 at hF
  refine g_aload_n (Y := YX10_calm) (pc := 0) 0 dX10_calm_0 rfl ?_
  refine g_iload_n (Y := YX10_calm) (pc := 1) 1 dX10_calm_1 rfl ?_
  obtain ⟨r1, M2, e3, hF⟩ := bd_some hF
  refine s_callVi (Y := YX10_calm) (pc := 2) (as := [.int x1]) (st := []) (r_X10_areOutside  e3) miX10_areOutside lk_X10_292 dX10_calm_2 k_0 rfl (Nat.le_of_ble_eq_true rfl) (Nat.le_of_ble_eq_true rfl) rfl ?_
  clear e3
  refine g_if_ne (Y := YX10_calm) (pc := 5) (tgt := 10) dX10_calm_5 rfl (fun c4 => ?_) (fun c4 => ?_)
  · replace hF := if_f c4 hF
    refine g_iconst (Y := YX10_calm) (pc := 10) dX10_calm_10 kI_m1 ?_
    refine g_istore_n (Y := YX10_calm) (pc := 11) (L' := [(2, .int (-1)), (0, .ref 0), (1, .int x1)]) dX10_calm_11 (Nat.le_of_ble_eq_true rfl) rfl ?_
    refine g_iconst (Y := YX10_calm) (pc := 12) dX10_calm_12 kI_m1 ?_
    refine g_istore_n (Y := YX10_calm) (pc := 13) (L' := [(3, .int (-1)), (2, .int (-1)), (0, .ref 0), (1, .int x1)]) dX10_calm_13 (Nat.le_of_ble_eq_true rfl) rfl ?_
    refine g_aload_n (Y := YX10_calm) (pc := 14) 2 dX10_calm_14 rfl ?_
    refine g_iload_n (Y := YX10_calm) (pc := 15) 3 dX10_calm_15 rfl ?_
    refine g_iconst (Y := YX10_calm) (pc := 16) dX10_calm_16 kI_0 ?_
    obtain ⟨r5, M6, e7, hF⟩ := bd_some hF
    refine s_callVi (Y := YX10_calm) (pc := 17) (as := [.int x1, .int 0]) (st := []) (r_X10_beginOrders  e7) miX10_beginOrders lk_X10_319 dX10_calm_17 k_0 rfl (Nat.le_of_ble_eq_true rfl) (Nat.le_of_ble_eq_true rfl) rfl ?_
    clear e7
    refine g_istore (Y := YX10_calm) (pc := 20) (L' := [(4, .int r5), (3, .int (-1)), (2, .int (-1)), (0, .ref 0), (1, .int x1)]) dX10_calm_20 (Nat.le_of_ble_eq_true rfl) rfl ?_
    refine g_iconst (Y := YX10_calm) (pc := 22) dX10_calm_22 kI_0 ?_
    refine g_istore (Y := YX10_calm) (pc := 23) (L' := [(5, .int 0), (4, .int r5), (3, .int (-1)), (2, .int (-1)), (0, .ref 0), (1, .int x1)]) dX10_calm_23 (Nat.le_of_ble_eq_true rfl) rfl ?_
    refine g_loc [4, 5, 3, 2, 1, 0] rfl ?_
    exact w_X10_calm_25  _ _ _ _ _ _ _ hF
  · replace hF := if_t c4 hF
    refine g_iconst (Y := YX10_calm) (pc := 8) dX10_calm_8 kI_m1 ?_
    exact s_iret (Y := YX10_calm) (pc := 9) dX10_calm_9 rfl hF
def f_X10_calm (x1 : Int32) (M : Mem) : Option (Int32 × Mem) := f_X10_calm_0 x1 M
theorem r_X10_calm {x1 R : Int32} {M M' : Mem}  (hF : f_X10_calm x1 M = some (R, M')) : RunS l D cy ad YX10_calm 6 [.ref 0, .int x1] X M (some (.int R)) M' := Run.of 1 (miX10_calm).1 (Nat.le_of_ble_eq_true rfl) (w_X10_calm_0  _ _ hF)
def f_X10_many_20  (M : Mem) : Option (Int32 × Mem) :=
  some ((-1), M)
set_option maxRecDepth 100000 in
theorem w_X10_many_20 {R : Int32} {M' : Mem}  (M : Mem) (hF : f_X10_many_20  M = some (R, M')) : RunF l D cy ad none YX10_many 6 0 0 (some (.int R)) (lay X M') 0 0 20 [] [] (lay X M) := by
  unfold f_X10_many_20 at hF
  refine g_iconst (Y := YX10_many) (pc := 20) dX10_many_20 kI_m1 ?_
  exact s_iret (Y := YX10_many) (pc := 21) dX10_many_21 rfl hF
def f_X10_many_106  (x3 : Int32) (x4 : Int32) (M : Mem) : Option (Int32 × Mem) :=
  bd (f_X10_clearRow M) fun _ M12 =>
  bd (f_X10_tell x4 M12) fun _ M15 =>
  some (x3, M15)
set_option maxRecDepth 100000 in
theorem w_X10_many_106 {R : Int32} {M' : Mem}  (x3 x4 : Int32) (M : Mem) (hF : f_X10_many_106 x3 x4 M = some (R, M')) : RunF l D cy ad none YX10_many 6 0 0 (some (.int R)) (lay X M') 0 0 106 [(0, .ref 0), (3, .int x3), (4, .int x4)] [] (lay X M) := by
  unfold f_X10_many_106 at hF
  refine g_aload_n (Y := YX10_many) (pc := 106) 0 dX10_many_106 rfl ?_
  obtain ⟨r11, M12, e13, hF⟩ := bd_some hF
  refine s_callVv (Y := YX10_many) (pc := 107) (as := []) (st := []) (r_X10_clearRow  e13) miX10_clearRow lk_X10_246 dX10_many_107 k_0 rfl (Nat.le_of_ble_eq_true rfl) (Nat.le_of_ble_eq_true rfl) rfl ?_
  clear e13
  refine g_aload_n (Y := YX10_many) (pc := 110) 0 dX10_many_110 rfl ?_
  refine g_iload (Y := YX10_many) (pc := 111) 2 dX10_many_111 rfl ?_
  obtain ⟨r14, M15, e16, hF⟩ := bd_some hF
  refine s_callVv (Y := YX10_many) (pc := 113) (as := [.int x4]) (st := []) (r_X10_tell  e16) miX10_tell lk_X10_252 dX10_many_113 k_0 rfl (Nat.le_of_ble_eq_true rfl) (Nat.le_of_ble_eq_true rfl) rfl ?_
  clear e16
  refine g_iload_n (Y := YX10_many) (pc := 116) 1 dX10_many_116 rfl ?_
  exact s_iret (Y := YX10_many) (pc := 117) dX10_many_117 rfl hF
def f_X10_many_91 (K38 : Int32 → Int32 → Int32 → Int32 → Int32 → Mem → Option (Int32 × Mem)) (x2 : Int32) (x3 : Int32) (x4 : Int32) (x6 : Int32) (M : Mem) : Option (Int32 × Mem) :=
  bd (f_X5_turnToNext 124 M) fun r26 M27 =>
  vl (x6 + 1) fun v29 =>
  K38 x2 x3 x4 r26 v29 M27
set_option maxRecDepth 100000 in
theorem w_X10_many_91 {R : Int32} {M' : Mem} {K38 : Int32 → Int32 → Int32 → Int32 → Int32 → Mem → Option (Int32 × Mem)} (hK38 : ∀ (x2 x3 x4 x5 x6 : Int32) (M : Mem), K38 x2 x3 x4 x5 x6 M = some (R, M') → RunF l D cy ad none YX10_many 6 0 0 (some (.int R)) (lay X M') 0 0 38 [(0, .ref 0), (2, .int x2), (3, .int x3), (4, .int x4), (5, .int x5), (6, .int x6)] [] (lay X M)) (x2 x3 x4 x6 : Int32) (M : Mem) (hF : f_X10_many_91 K38 x2 x3 x4 x6 M = some (R, M')) : RunF l D cy ad none YX10_many 6 0 0 (some (.int R)) (lay X M') 0 0 91 [(0, .ref 0), (2, .int x2), (3, .int x3), (4, .int x4), (6, .int x6)] [] (lay X M) := by
  unfold f_X10_many_91 at hF
  refine g_aload_n (Y := YX10_many) (pc := 91) 0 dX10_many_91 rfl ?_
  refine u_getR (Y := YX10_many) (pc := 92) (j := 124) dX10_many_92 fl_X10_73 k_0 rf_0_11 ?_
  obtain ⟨r26, M27, e28, hF⟩ := bd_some hF
  refine s_callVi (Y := YX10_many) (pc := 95) (as := []) (st := []) (r_X5_turnToNext (Or.inl rfl) e28) miX5_turnToNext lk_X10_326 dX10_many_95 k_124 rfl (Nat.le_of_ble_eq_true rfl) (Nat.le_of_ble_eq_true rfl) rfl ?_
  clear e28
  refine g_istore (Y := YX10_many) (pc := 98) (L' := [(5, .int r26), (0, .ref 0), (2, .int x2), (3, .int x3), (4, .int x4), (6, .int x6)]) dX10_many_98 (Nat.le_of_ble_eq_true rfl) rfl ?_
  refine s_iinc (Y := YX10_many) (pc := 100) (j := 5) (L' := fun y => [(6, .int y), (5, .int r26), (0, .ref 0), (2, .int x2), (3, .int x3), (4, .int x4)]) dX10_many_100 kI_1 rfl (Nat.le_of_ble_eq_true rfl) (fun _ => rfl) (fun v29 e => ?_)
  replace hF := vl_to e hF; clear e
  refine g_goto (Y := YX10_many) (pc := 103) (tgt := 38) dX10_many_103 rfl ?_
  refine g_loc [2, 3, 4, 5, 1, 0] rfl ?_
  exact hK38 _ _ _ _ _ _ hF
def f_X10_many_38  : Nat → Int32 → Int32 → Int32 → Int32 → Int32 → Mem → Option (Int32 × Mem)
  | 0, _, _, _, _, _, _ => none
  | n + 1, x2, x3, x4, x5, x6, M =>
    if x6 < 720 then
      if x5 = (-1) then
        f_X10_many_106 x3 x4 M
      else
        bd (f_X9_walk 124 x5 400 M) fun r18 M19 =>
        if r18 = 0 then
          vl (x4 + 1) fun v31 =>
          f_X10_many_91 (f_X10_many_38 n) x2 x3 v31 x6 M19
        else
          bd (f_X9_minutesGone M19) fun r22 M23 =>
          if x2 < r22 then
            f_X10_many_91 (f_X10_many_38 n) x2 x3 x4 x6 M23
          else
            vl (x3 + 1) fun v30 =>
            f_X10_many_91 (f_X10_many_38 n) x2 v30 x4 x6 M23
    else
      f_X10_many_106 x3 x4 M
set_option maxRecDepth 100000 in
theorem w_X10_many_38 {R : Int32} {M' : Mem}  : ∀ (n : Nat) (x2 x3 x4 x5 x6 : Int32) (M : Mem), f_X10_many_38 n x2 x3 x4 x5 x6 M = some (R, M') → RunF l D cy ad none YX10_many 6 0 0 (some (.int R)) (lay X M') 0 0 38 [(0, .ref 0), (2, .int x2), (3, .int x3), (4, .int x4), (5, .int x5), (6, .int x6)] [] (lay X M) := by
  intro n
  induction n with
  | zero => intro x2 x3 x4 x5 x6 M hF; exact absurd hF (by unfold f_X10_many_38; exact fun h => nomatch h)
  | succ n ih =>
    intro x2 x3 x4 x5 x6 M hF
    unfold f_X10_many_38 at hF
    refine g_iload (Y := YX10_many) (pc := 38) 5 dX10_many_38 rfl ?_
    refine g_sipush (Y := YX10_many) (pc := 40) dX10_many_40 kS_720 ?_
    refine g_icmp_ge (Y := YX10_many) (pc := 43) (tgt := 106) dX10_many_43 rfl (fun c10 => ?_) (fun c10 => ?_)
    · replace hF := if_f c10 hF
      refine g_loc [0, 2, 3] rfl ?_
      exact w_X10_many_106  _ _ _ hF
    · replace hF := if_t c10 hF
      refine g_iload (Y := YX10_many) (pc := 46) 4 dX10_many_46 rfl ?_
      refine g_iconst (Y := YX10_many) (pc := 48) dX10_many_48 kI_m1 ?_
      refine g_icmp_eq (Y := YX10_many) (pc := 49) (tgt := 106) dX10_many_49 rfl (fun c17 => ?_) (fun c17 => ?_)
      · replace hF := if_t c17 hF
        refine g_loc [0, 2, 3] rfl ?_
        exact w_X10_many_106  _ _ _ hF
      · replace hF := if_f c17 hF
        refine g_aload_n (Y := YX10_many) (pc := 52) 0 dX10_many_52 rfl ?_
        refine u_getR (Y := YX10_many) (pc := 53) (j := 128) dX10_many_53 fl_X10_85 k_0 rf_0_13 ?_
        refine g_aload_n (Y := YX10_many) (pc := 56) 0 dX10_many_56 rfl ?_
        refine u_getR (Y := YX10_many) (pc := 57) (j := 124) dX10_many_57 fl_X10_73 k_0 rf_0_11 ?_
        refine g_iload (Y := YX10_many) (pc := 60) 4 dX10_many_60 rfl ?_
        refine g_sipush (Y := YX10_many) (pc := 62) dX10_many_62 kS_400 ?_
        obtain ⟨r18, M19, e20, hF⟩ := bd_some hF
        refine s_callVi (Y := YX10_many) (pc := 65) (as := [.ref 124, .int x5, .int 400]) (st := []) (r_X9_walk (Or.inl rfl) e20) miX9_walk lk_X10_299 dX10_many_65 k_128 rfl (Nat.le_of_ble_eq_true rfl) (Nat.le_of_ble_eq_true rfl) rfl ?_
        clear e20
        refine g_if_ne (Y := YX10_many) (pc := 68) (tgt := 77) dX10_many_68 rfl (fun c21 => ?_) (fun c21 => ?_)
        · replace hF := if_f c21 hF
          refine g_aload_n (Y := YX10_many) (pc := 77) 0 dX10_many_77 rfl ?_
          refine u_getR (Y := YX10_many) (pc := 78) (j := 128) dX10_many_78 fl_X10_85 k_0 rf_0_13 ?_
          obtain ⟨r22, M23, e24, hF⟩ := bd_some hF
          refine s_callVi (Y := YX10_many) (pc := 81) (as := []) (st := []) (r_X9_minutesGone  e24) miX9_minutesGone lk_X10_310 dX10_many_81 k_128 rfl (Nat.le_of_ble_eq_true rfl) (Nat.le_of_ble_eq_true rfl) rfl ?_
          clear e24
          refine g_iload_n (Y := YX10_many) (pc := 84) 1 dX10_many_84 rfl ?_
          refine g_icmp_gt (Y := YX10_many) (pc := 85) (tgt := 91) dX10_many_85 rfl (fun c25 => ?_) (fun c25 => ?_)
          · replace hF := if_t c25 hF
            refine g_loc [0, 1, 2, 3, 5] rfl ?_
            exact w_X10_many_91 ih _ _ _ _ _ hF
          · replace hF := if_f c25 hF
            refine s_iinc (Y := YX10_many) (pc := 88) (j := 2) (L' := fun y => [(3, .int y), (0, .ref 0), (2, .int x2), (4, .int x4), (5, .int x5), (6, .int x6)]) dX10_many_88 kI_1 rfl (Nat.le_of_ble_eq_true rfl) (fun _ => rfl) (fun v30 e => ?_)
            replace hF := vl_to e hF; clear e
            refine g_loc [1, 2, 0, 3, 5] rfl ?_
            exact w_X10_many_91 ih _ _ _ _ _ hF
        · replace hF := if_t c21 hF
          refine s_iinc (Y := YX10_many) (pc := 71) (j := 3) (L' := fun y => [(4, .int y), (0, .ref 0), (2, .int x2), (3, .int x3), (5, .int x5), (6, .int x6)]) dX10_many_71 kI_1 rfl (Nat.le_of_ble_eq_true rfl) (fun _ => rfl) (fun v31 e => ?_)
          replace hF := vl_to e hF; clear e
          refine g_goto (Y := YX10_many) (pc := 74) (tgt := 91) dX10_many_74 rfl ?_
          refine g_loc [1, 2, 3, 0, 5] rfl ?_
          exact w_X10_many_91 ih _ _ _ _ _ hF
def f_X10_many_0  (x1 : Int32) (x2 : Int32) (M : Mem) : Option (Int32 × Mem) :=
  if x2 < 1 then
    f_X10_many_20 M
  else
    if 400 < x2 then
      f_X10_many_20 M
    else
      bd (f_X10_areOutside x1 M) fun r3 M4 =>
      if r3 = 0 then
        f_X10_many_20 M4
      else
        bd (f_X10_beginOrders x1 0 M4) fun r7 M8 =>
        f_X10_many_38 FU x2 0 0 r7 0 M8
set_option maxRecDepth 100000 in
theorem w_X10_many_0 {R : Int32} {M' : Mem}  (x1 x2 : Int32) (M : Mem) (hF : f_X10_many_0 x1 x2 M = some (R, M')) : RunF l D cy ad none YX10_many 6 0 0 (some (.int R)) (lay X M') 0 0 0 [(0, .ref 0), (1, .int x1), (2, .int x2)] [] (lay X M) := by
  unfold f_X10_many_0 at hF
  refine g_iload_n (Y := YX10_many) (pc := 0) 2 dX10_many_0 rfl ?_
  refine g_iconst (Y := YX10_many) (pc := 1) dX10_many_1 kI_1 ?_
  refine g_icmp_lt (Y := YX10_many) (pc := 2) (tgt := 20) dX10_many_2 rfl (fun c1 => ?_) (fun c1 => ?_)
  · replace hF := if_t c1 hF
    refine g_loc [] rfl ?_
    exact w_X10_many_20  _ hF
  · replace hF := if_f c1 hF
    refine g_iload_n (Y := YX10_many) (pc := 5) 2 dX10_many_5 rfl ?_
    refine g_sipush (Y := YX10_many) (pc := 6) dX10_many_6 kS_400 ?_
    refine g_icmp_gt (Y := YX10_many) (pc := 9) (tgt := 20) dX10_many_9 rfl (fun c2 => ?_) (fun c2 => ?_)
    · replace hF := if_t c2 hF
      refine g_loc [] rfl ?_
      exact w_X10_many_20  _ hF
    · replace hF := if_f c2 hF
      refine g_aload_n (Y := YX10_many) (pc := 12) 0 dX10_many_12 rfl ?_
      refine g_iload_n (Y := YX10_many) (pc := 13) 1 dX10_many_13 rfl ?_
      obtain ⟨r3, M4, e5, hF⟩ := bd_some hF
      refine s_callVi (Y := YX10_many) (pc := 14) (as := [.int x1]) (st := []) (r_X10_areOutside  e5) miX10_areOutside lk_X10_292 dX10_many_14 k_0 rfl (Nat.le_of_ble_eq_true rfl) (Nat.le_of_ble_eq_true rfl) rfl ?_
      clear e5
      refine g_if_ne (Y := YX10_many) (pc := 17) (tgt := 22) dX10_many_17 rfl (fun c6 => ?_) (fun c6 => ?_)
      · replace hF := if_f c6 hF
        refine g_iconst (Y := YX10_many) (pc := 22) dX10_many_22 kI_0 ?_
        refine g_istore_n (Y := YX10_many) (pc := 23) (L' := [(3, .int 0), (0, .ref 0), (1, .int x1), (2, .int x2)]) dX10_many_23 (Nat.le_of_ble_eq_true rfl) rfl ?_
        refine g_iconst (Y := YX10_many) (pc := 24) dX10_many_24 kI_0 ?_
        refine g_istore (Y := YX10_many) (pc := 25) (L' := [(4, .int 0), (3, .int 0), (0, .ref 0), (1, .int x1), (2, .int x2)]) dX10_many_25 (Nat.le_of_ble_eq_true rfl) rfl ?_
        refine g_aload_n (Y := YX10_many) (pc := 27) 2 dX10_many_27 rfl ?_
        refine g_iload_n (Y := YX10_many) (pc := 28) 3 dX10_many_28 rfl ?_
        refine g_iconst (Y := YX10_many) (pc := 29) dX10_many_29 kI_0 ?_
        obtain ⟨r7, M8, e9, hF⟩ := bd_some hF
        refine s_callVi (Y := YX10_many) (pc := 30) (as := [.int x1, .int 0]) (st := []) (r_X10_beginOrders  e9) miX10_beginOrders lk_X10_319 dX10_many_30 k_0 rfl (Nat.le_of_ble_eq_true rfl) (Nat.le_of_ble_eq_true rfl) rfl ?_
        clear e9
        refine g_istore (Y := YX10_many) (pc := 33) (L' := [(5, .int r7), (4, .int 0), (3, .int 0), (0, .ref 0), (1, .int x1), (2, .int x2)]) dX10_many_33 (Nat.le_of_ble_eq_true rfl) rfl ?_
        refine g_iconst (Y := YX10_many) (pc := 35) dX10_many_35 kI_0 ?_
        refine g_istore (Y := YX10_many) (pc := 36) (L' := [(6, .int 0), (5, .int r7), (4, .int 0), (3, .int 0), (0, .ref 0), (1, .int x1), (2, .int x2)]) dX10_many_36 (Nat.le_of_ble_eq_true rfl) rfl ?_
        refine g_loc [4, 6, 3, 2, 1, 0] rfl ?_
        exact w_X10_many_38  _ _ _ _ _ _ _ hF
      · replace hF := if_t c6 hF
        refine g_loc [] rfl ?_
        exact w_X10_many_20  _ hF
def f_X10_many (x1 : Int32) (x2 : Int32) (M : Mem) : Option (Int32 × Mem) := f_X10_many_0 x1 x2 M
theorem r_X10_many {x1 x2 R : Int32} {M M' : Mem}  (hF : f_X10_many x1 x2 M = some (R, M')) : RunS l D cy ad YX10_many 6 [.ref 0, .int x1, .int x2] X M (some (.int R)) M' := Run.of 2 (miX10_many).1 (Nat.le_of_ble_eq_true rfl) (w_X10_many_0  _ _ _ hF)
def f_X1_gapOf_62 (K11 : Int32 → Int32 → Int32 → Int32 → Int32 → Int32 → Mem → Option (Int32 × Mem)) (x1 : Int32) (x2 : Int32) (x3 : Int32) (x4 : Int32) (x5 : Int32) (x6 : Int32) (x7 : Int32) (M : Mem) : Option (Int32 × Mem) :=
  gd (0 ≤ x2 ∧ x2.toNatClampNeg < 6) <|
  gd (0 ≤ x7 ∧ x7.toNatClampNeg < 6) <|
  vl ((x4 + (M (17 + x2.toNatClampNeg) x7.toNatClampNeg))) fun v15 =>
  vl (x6 + 1) fun v16 =>
  K11 x1 x2 x3 v15 x5 v16 M
set_option maxRecDepth 100000 in
theorem w_X1_gapOf_62 {R : Int32} {M' : Mem} {K11 : Int32 → Int32 → Int32 → Int32 → Int32 → Int32 → Mem → Option (Int32 × Mem)} (hK11 : ∀ (x1 x2 x3 x4 x5 x6 : Int32) (M : Mem), K11 x1 x2 x3 x4 x5 x6 M = some (R, M') → RunF l D cy ad none YX1_gapOf 1 0 0 (some (.int R)) (lay X M') 0 0 11 [(0, .ref 3), (1, .int x1), (2, .int x2), (3, .int x3), (4, .int x4), (5, .int x5), (6, .int x6)] [] (lay X M)) (x1 x2 x3 x4 x5 x6 x7 : Int32) (M : Mem) (hF : f_X1_gapOf_62 K11 x1 x2 x3 x4 x5 x6 x7 M = some (R, M')) : RunF l D cy ad none YX1_gapOf 1 0 0 (some (.int R)) (lay X M') 0 0 62 [(0, .ref 3), (1, .int x1), (2, .int x2), (3, .int x3), (4, .int x4), (5, .int x5), (6, .int x6), (7, .int x7)] [] (lay X M) := by
  unfold f_X1_gapOf_62 at hF
  refine g_iload (Y := YX1_gapOf) (pc := 62) 4 dX1_gapOf_62 rfl ?_
  refine g_aload_n (Y := YX1_gapOf) (pc := 64) 0 dX1_gapOf_64 rfl ?_
  refine u_getR (Y := YX1_gapOf) (pc := 65) (j := 16) dX1_gapOf_65 fl_X1_42 k_3 rf_3_9 ?_
  refine g_iload_n (Y := YX1_gapOf) (pc := 68) 2 dX1_gapOf_68 rfl ?_
  obtain ⟨g13, hF⟩ := gd_some hF
  refine s_aaldA (Y := YX1_gapOf) (pc := 69) dX1_gapOf_69 k_16 n_16 g13 (stay_r g13.2) ?_
  refine g_iload (Y := YX1_gapOf) (pc := 70) 7 dX1_gapOf_70 rfl ?_
  obtain ⟨g14, hF⟩ := gd_some hF
  refine s_iald (Y := YX1_gapOf) (pc := 72) dX1_gapOf_72 (stay_all _ g13.2).2.1 (stay_all _ g13.2).2.2 g14 ?_
  refine g_iadd (Y := YX1_gapOf) (pc := 73) dX1_gapOf_73 ?_
  refine g_nm (fun v15 e => ?_)
  replace hF := vl_to e hF; clear e
  refine g_istore (Y := YX1_gapOf) (pc := 74) (L' := [(4, .int v15), (0, .ref 3), (1, .int x1), (2, .int x2), (3, .int x3), (5, .int x5), (6, .int x6), (7, .int x7)]) dX1_gapOf_74 (Nat.le_of_ble_eq_true rfl) rfl ?_
  refine s_iinc (Y := YX1_gapOf) (pc := 76) (j := 6) (L' := fun y => [(6, .int y), (4, .int v15), (0, .ref 3), (1, .int x1), (2, .int x2), (3, .int x3), (5, .int x5), (7, .int x7)]) dX1_gapOf_76 kI_1 rfl (Nat.le_of_ble_eq_true rfl) (fun _ => rfl) (fun v16 e => ?_)
  replace hF := vl_to e hF; clear e
  refine g_goto (Y := YX1_gapOf) (pc := 79) (tgt := 11) dX1_gapOf_79 rfl ?_
  refine g_loc [2, 3, 4, 5, 1, 6, 0] rfl ?_
  exact hK11 _ _ _ _ _ _ _ hF
def f_X1_gapOf_11  : Nat → Int32 → Int32 → Int32 → Int32 → Int32 → Int32 → Mem → Option (Int32 × Mem)
  | 0, _, _, _, _, _, _, _ => none
  | n + 1, x1, x2, x3, x4, x5, x6, M =>
    if x6 < (M 3 0) then
      bd (f_X1_onWay x1 x6 M) fun r2 M3 =>
      gd (0 ≤ x1 ∧ x1.toNatClampNeg < 6) <|
      gd (0 ≤ r2 ∧ r2.toNatClampNeg < 6) <|
      vl ((M3 (17 + x1.toNatClampNeg) r2.toNatClampNeg)) fun v7 =>
      vl ((x5 + v7)) fun v8 =>
      bd (f_X1_isCorridor r2 M3) fun r9 M10 =>
      if r9 = 0 then
        vl ((if x3 < (v8 - x4) then (v8 - x4) else x3)) fun v17 =>
        f_X1_gapOf_62 (f_X1_gapOf_11 n) x1 x2 v17 x4 v8 x6 r2 M10
      else
        f_X1_gapOf_62 (f_X1_gapOf_11 n) x1 x2 x3 x4 v8 x6 r2 M10
    else
      some (x3, M)
set_option maxRecDepth 100000 in
theorem w_X1_gapOf_11 {R : Int32} {M' : Mem}  : ∀ (n : Nat) (x1 x2 x3 x4 x5 x6 : Int32) (M : Mem), f_X1_gapOf_11 n x1 x2 x3 x4 x5 x6 M = some (R, M') → RunF l D cy ad none YX1_gapOf 1 0 0 (some (.int R)) (lay X M') 0 0 11 [(0, .ref 3), (1, .int x1), (2, .int x2), (3, .int x3), (4, .int x4), (5, .int x5), (6, .int x6)] [] (lay X M) := by
  intro n
  induction n with
  | zero => intro x1 x2 x3 x4 x5 x6 M hF; exact absurd hF (by unfold f_X1_gapOf_11; exact fun h => nomatch h)
  | succ n ih =>
    intro x1 x2 x3 x4 x5 x6 M hF
    unfold f_X1_gapOf_11 at hF
    refine g_iload (Y := YX1_gapOf) (pc := 11) 6 dX1_gapOf_11 rfl ?_
    refine g_aload_n (Y := YX1_gapOf) (pc := 13) 0 dX1_gapOf_13 rfl ?_
    refine u_getI (Y := YX1_gapOf) (pc := 14) dX1_gapOf_14 fl_X1_9 k_3 ?_
    refine g_icmp_ge (Y := YX1_gapOf) (pc := 17) (tgt := 82) dX1_gapOf_17 rfl (fun c1 => ?_) (fun c1 => ?_)
    · replace hF := if_f c1 hF
      refine g_iload_n (Y := YX1_gapOf) (pc := 82) 3 dX1_gapOf_82 rfl ?_
      exact s_iret (Y := YX1_gapOf) (pc := 83) dX1_gapOf_83 rfl hF
    · replace hF := if_t c1 hF
      refine g_aload_n (Y := YX1_gapOf) (pc := 20) 0 dX1_gapOf_20 rfl ?_
      refine g_iload_n (Y := YX1_gapOf) (pc := 21) 1 dX1_gapOf_21 rfl ?_
      refine g_iload (Y := YX1_gapOf) (pc := 22) 6 dX1_gapOf_22 rfl ?_
      obtain ⟨r2, M3, e4, hF⟩ := bd_some hF
      refine s_callVi (Y := YX1_gapOf) (pc := 24) (as := [.int x1, .int x6]) (st := []) (r_X1_onWay  e4) miX1_onWay lk_X1_73 dX1_gapOf_24 k_3 rfl (Nat.le_of_ble_eq_true rfl) (Nat.le_of_ble_eq_true rfl) rfl ?_
      clear e4
      refine g_istore (Y := YX1_gapOf) (pc := 27) (L' := [(7, .int r2), (0, .ref 3), (1, .int x1), (2, .int x2), (3, .int x3), (4, .int x4), (5, .int x5), (6, .int x6)]) dX1_gapOf_27 (Nat.le_of_ble_eq_true rfl) rfl ?_
      refine g_iload (Y := YX1_gapOf) (pc := 29) 6 dX1_gapOf_29 rfl ?_
      refine g_aload_n (Y := YX1_gapOf) (pc := 31) 1 dX1_gapOf_31 rfl ?_
      refine u_getR (Y := YX1_gapOf) (pc := 32) (j := 16) dX1_gapOf_32 fl_X1_42 k_3 rf_3_9 ?_
      refine g_iload_n (Y := YX1_gapOf) (pc := 35) 2 dX1_gapOf_35 rfl ?_
      obtain ⟨g5, hF⟩ := gd_some hF
      refine s_aaldA (Y := YX1_gapOf) (pc := 36) dX1_gapOf_36 k_16 n_16 g5 (stay_r g5.2) ?_
      refine g_iload (Y := YX1_gapOf) (pc := 37) 0 dX1_gapOf_37 rfl ?_
      obtain ⟨g6, hF⟩ := gd_some hF
      refine s_iald (Y := YX1_gapOf) (pc := 39) dX1_gapOf_39 (stay_all _ g5.2).2.1 (stay_all _ g5.2).2.2 g6 ?_
      refine g_nm (fun v7 e => ?_)
      replace hF := vl_to e hF; clear e
      refine g_iadd (Y := YX1_gapOf) (pc := 40) dX1_gapOf_40 ?_
      refine g_nm (fun v8 e => ?_)
      replace hF := vl_to e hF; clear e
      refine g_istore (Y := YX1_gapOf) (pc := 41) (L' := [(5, .int v8), (7, .int r2), (0, .ref 3), (1, .int x1), (2, .int x2), (3, .int x3), (4, .int x4), (6, .int x6)]) dX1_gapOf_41 (Nat.le_of_ble_eq_true rfl) rfl ?_
      refine g_aload_n (Y := YX1_gapOf) (pc := 43) 2 dX1_gapOf_43 rfl ?_
      refine g_iload (Y := YX1_gapOf) (pc := 44) 1 dX1_gapOf_44 rfl ?_
      obtain ⟨r9, M10, e11, hF⟩ := bd_some hF
      refine s_callVi (Y := YX1_gapOf) (pc := 46) (as := [.int r2]) (st := []) (r_X1_isCorridor  e11) miX1_isCorridor lk_X1_69 dX1_gapOf_46 k_3 rfl (Nat.le_of_ble_eq_true rfl) (Nat.le_of_ble_eq_true rfl) rfl ?_
      clear e11
      refine g_if_ne (Y := YX1_gapOf) (pc := 49) (tgt := 62) dX1_gapOf_49 rfl (fun c12 => ?_) (fun c12 => ?_)
      · replace hF := if_f c12 hF
        refine g_loc [2, 3, 4, 5, 6, 0, 7, 1] rfl ?_
        exact w_X1_gapOf_62 ih _ _ _ _ _ _ _ _ hF
      · replace hF := if_t c12 hF
        refine g_iload_n (Y := YX1_gapOf) (pc := 52) 5 dX1_gapOf_52 rfl ?_
        refine g_iload (Y := YX1_gapOf) (pc := 53) 0 dX1_gapOf_53 rfl ?_
        refine g_iload (Y := YX1_gapOf) (pc := 55) 6 dX1_gapOf_55 rfl ?_
        refine g_isub (Y := YX1_gapOf) (pc := 57) dX1_gapOf_57 ?_
        refine s_max (Y := YX1_gapOf) (pc := 58) dX1_gapOf_58 lk_X1_62 w_max (Nat.le_of_ble_eq_true rfl) (Nat.le_of_ble_eq_true rfl) ?_
        refine g_nm (fun v17 e => ?_)
        replace hF := vl_to e hF; clear e
        refine g_istore_n (Y := YX1_gapOf) (pc := 61) (L' := [(3, .int v17), (5, .int v8), (7, .int r2), (0, .ref 3), (1, .int x1), (2, .int x2), (4, .int x4), (6, .int x6)]) dX1_gapOf_61 (Nat.le_of_ble_eq_true rfl) rfl ?_
        refine g_loc [3, 4, 5, 0, 6, 1, 7, 2] rfl ?_
        exact w_X1_gapOf_62 ih _ _ _ _ _ _ _ _ hF
def f_X1_gapOf_0  (x1 : Int32) (x2 : Int32) (M : Mem) : Option (Int32 × Mem) :=
  f_X1_gapOf_11 FU x1 x2 0 0 0 0 M
set_option maxRecDepth 100000 in
theorem w_X1_gapOf_0 {R : Int32} {M' : Mem}  (x1 x2 : Int32) (M : Mem) (hF : f_X1_gapOf_0 x1 x2 M = some (R, M')) : RunF l D cy ad none YX1_gapOf 1 0 0 (some (.int R)) (lay X M') 0 0 0 [(0, .ref 3), (1, .int x1), (2, .int x2)] [] (lay X M) := by
  unfold f_X1_gapOf_0 at hF
  refine g_iconst (Y := YX1_gapOf) (pc := 0) dX1_gapOf_0 kI_0 ?_
  refine g_istore_n (Y := YX1_gapOf) (pc := 1) (L' := [(3, .int 0), (0, .ref 3), (1, .int x1), (2, .int x2)]) dX1_gapOf_1 (Nat.le_of_ble_eq_true rfl) rfl ?_
  refine g_iconst (Y := YX1_gapOf) (pc := 2) dX1_gapOf_2 kI_0 ?_
  refine g_istore (Y := YX1_gapOf) (pc := 3) (L' := [(4, .int 0), (3, .int 0), (0, .ref 3), (1, .int x1), (2, .int x2)]) dX1_gapOf_3 (Nat.le_of_ble_eq_true rfl) rfl ?_
  refine g_iconst (Y := YX1_gapOf) (pc := 5) dX1_gapOf_5 kI_0 ?_
  refine g_istore (Y := YX1_gapOf) (pc := 6) (L' := [(5, .int 0), (4, .int 0), (3, .int 0), (0, .ref 3), (1, .int x1), (2, .int x2)]) dX1_gapOf_6 (Nat.le_of_ble_eq_true rfl) rfl ?_
  refine g_iconst (Y := YX1_gapOf) (pc := 8) dX1_gapOf_8 kI_0 ?_
  refine g_istore (Y := YX1_gapOf) (pc := 9) (L' := [(6, .int 0), (5, .int 0), (4, .int 0), (3, .int 0), (0, .ref 3), (1, .int x1), (2, .int x2)]) dX1_gapOf_9 (Nat.le_of_ble_eq_true rfl) rfl ?_
  refine g_loc [4, 5, 6, 3, 2, 1, 0] rfl ?_
  exact w_X1_gapOf_11  _ _ _ _ _ _ _ _ hF
def f_X1_gapOf (x1 : Int32) (x2 : Int32) (M : Mem) : Option (Int32 × Mem) := f_X1_gapOf_0 x1 x2 M
theorem r_X1_gapOf {x1 x2 R : Int32} {M M' : Mem}  (hF : f_X1_gapOf x1 x2 M = some (R, M')) : RunS l D cy ad YX1_gapOf 1 [.ref 3, .int x1, .int x2] X M (some (.int R)) M' := Run.of 2 (miX1_gapOf).1 (Nat.le_of_ble_eq_true rfl) (w_X1_gapOf_0  _ _ _ hF)
def f_X1_placeOfGap_62 (K9 : Int32 → Int32 → Int32 → Int32 → Int32 → Int32 → Mem → Option (Int32 × Mem)) (x1 : Int32) (x2 : Int32) (x3 : Int32) (x4 : Int32) (x5 : Int32) (x6 : Int32) (x7 : Int32) (M : Mem) : Option (Int32 × Mem) :=
  gd (0 ≤ x2 ∧ x2.toNatClampNeg < 6) <|
  gd (0 ≤ x7 ∧ x7.toNatClampNeg < 6) <|
  vl ((x4 + (M (17 + x2.toNatClampNeg) x7.toNatClampNeg))) fun v15 =>
  vl (x6 + 1) fun v16 =>
  K9 x1 x2 x3 v15 x5 v16 M
set_option maxRecDepth 100000 in
theorem w_X1_placeOfGap_62 {R : Int32} {M' : Mem} {K9 : Int32 → Int32 → Int32 → Int32 → Int32 → Int32 → Mem → Option (Int32 × Mem)} (hK9 : ∀ (x1 x2 x3 x4 x5 x6 : Int32) (M : Mem), K9 x1 x2 x3 x4 x5 x6 M = some (R, M') → RunF l D cy ad none YX1_placeOfGap 1 0 0 (some (.int R)) (lay X M') 0 0 9 [(0, .ref 3), (1, .int x1), (2, .int x2), (3, .int x3), (4, .int x4), (5, .int x5), (6, .int x6)] [] (lay X M)) (x1 x2 x3 x4 x5 x6 x7 : Int32) (M : Mem) (hF : f_X1_placeOfGap_62 K9 x1 x2 x3 x4 x5 x6 x7 M = some (R, M')) : RunF l D cy ad none YX1_placeOfGap 1 0 0 (some (.int R)) (lay X M') 0 0 62 [(0, .ref 3), (1, .int x1), (2, .int x2), (3, .int x3), (4, .int x4), (5, .int x5), (6, .int x6), (7, .int x7)] [] (lay X M) := by
  unfold f_X1_placeOfGap_62 at hF
  refine g_iload (Y := YX1_placeOfGap) (pc := 62) 4 dX1_placeOfGap_62 rfl ?_
  refine g_aload_n (Y := YX1_placeOfGap) (pc := 64) 0 dX1_placeOfGap_64 rfl ?_
  refine u_getR (Y := YX1_placeOfGap) (pc := 65) (j := 16) dX1_placeOfGap_65 fl_X1_42 k_3 rf_3_9 ?_
  refine g_iload_n (Y := YX1_placeOfGap) (pc := 68) 2 dX1_placeOfGap_68 rfl ?_
  obtain ⟨g13, hF⟩ := gd_some hF
  refine s_aaldA (Y := YX1_placeOfGap) (pc := 69) dX1_placeOfGap_69 k_16 n_16 g13 (stay_r g13.2) ?_
  refine g_iload (Y := YX1_placeOfGap) (pc := 70) 7 dX1_placeOfGap_70 rfl ?_
  obtain ⟨g14, hF⟩ := gd_some hF
  refine s_iald (Y := YX1_placeOfGap) (pc := 72) dX1_placeOfGap_72 (stay_all _ g13.2).2.1 (stay_all _ g13.2).2.2 g14 ?_
  refine g_iadd (Y := YX1_placeOfGap) (pc := 73) dX1_placeOfGap_73 ?_
  refine g_nm (fun v15 e => ?_)
  replace hF := vl_to e hF; clear e
  refine g_istore (Y := YX1_placeOfGap) (pc := 74) (L' := [(4, .int v15), (0, .ref 3), (1, .int x1), (2, .int x2), (3, .int x3), (5, .int x5), (6, .int x6), (7, .int x7)]) dX1_placeOfGap_74 (Nat.le_of_ble_eq_true rfl) rfl ?_
  refine s_iinc (Y := YX1_placeOfGap) (pc := 76) (j := 6) (L' := fun y => [(6, .int y), (4, .int v15), (0, .ref 3), (1, .int x1), (2, .int x2), (3, .int x3), (5, .int x5), (7, .int x7)]) dX1_placeOfGap_76 kI_1 rfl (Nat.le_of_ble_eq_true rfl) (fun _ => rfl) (fun v16 e => ?_)
  replace hF := vl_to e hF; clear e
  refine g_goto (Y := YX1_placeOfGap) (pc := 79) (tgt := 9) dX1_placeOfGap_79 rfl ?_
  refine g_loc [2, 3, 4, 5, 1, 6, 0] rfl ?_
  exact hK9 _ _ _ _ _ _ _ hF
def f_X1_placeOfGap_9  : Nat → Int32 → Int32 → Int32 → Int32 → Int32 → Int32 → Mem → Option (Int32 × Mem)
  | 0, _, _, _, _, _, _, _ => none
  | n + 1, x1, x2, x3, x4, x5, x6, M =>
    if x6 < (M 3 0) then
      bd (f_X1_onWay x1 x6 M) fun r2 M3 =>
      gd (0 ≤ x1 ∧ x1.toNatClampNeg < 6) <|
      gd (0 ≤ r2 ∧ r2.toNatClampNeg < 6) <|
      vl ((M3 (17 + x1.toNatClampNeg) r2.toNatClampNeg)) fun v7 =>
      vl ((x5 + v7)) fun v8 =>
      bd (f_X1_isCorridor r2 M3) fun r9 M10 =>
      if r9 = 0 then
        if (v8 - x4) = x3 then
          some (r2, M10)
        else
          f_X1_placeOfGap_62 (f_X1_placeOfGap_9 n) x1 x2 x3 x4 v8 x6 r2 M10
      else
        f_X1_placeOfGap_62 (f_X1_placeOfGap_9 n) x1 x2 x3 x4 v8 x6 r2 M10
    else
      some ((-1), M)
set_option maxRecDepth 100000 in
theorem w_X1_placeOfGap_9 {R : Int32} {M' : Mem}  : ∀ (n : Nat) (x1 x2 x3 x4 x5 x6 : Int32) (M : Mem), f_X1_placeOfGap_9 n x1 x2 x3 x4 x5 x6 M = some (R, M') → RunF l D cy ad none YX1_placeOfGap 1 0 0 (some (.int R)) (lay X M') 0 0 9 [(0, .ref 3), (1, .int x1), (2, .int x2), (3, .int x3), (4, .int x4), (5, .int x5), (6, .int x6)] [] (lay X M) := by
  intro n
  induction n with
  | zero => intro x1 x2 x3 x4 x5 x6 M hF; exact absurd hF (by unfold f_X1_placeOfGap_9; exact fun h => nomatch h)
  | succ n ih =>
    intro x1 x2 x3 x4 x5 x6 M hF
    unfold f_X1_placeOfGap_9 at hF
    refine g_iload (Y := YX1_placeOfGap) (pc := 9) 6 dX1_placeOfGap_9 rfl ?_
    refine g_aload_n (Y := YX1_placeOfGap) (pc := 11) 0 dX1_placeOfGap_11 rfl ?_
    refine u_getI (Y := YX1_placeOfGap) (pc := 12) dX1_placeOfGap_12 fl_X1_9 k_3 ?_
    refine g_icmp_ge (Y := YX1_placeOfGap) (pc := 15) (tgt := 82) dX1_placeOfGap_15 rfl (fun c1 => ?_) (fun c1 => ?_)
    · replace hF := if_f c1 hF
      refine g_iconst (Y := YX1_placeOfGap) (pc := 82) dX1_placeOfGap_82 kI_m1 ?_
      exact s_iret (Y := YX1_placeOfGap) (pc := 83) dX1_placeOfGap_83 rfl hF
    · replace hF := if_t c1 hF
      refine g_aload_n (Y := YX1_placeOfGap) (pc := 18) 0 dX1_placeOfGap_18 rfl ?_
      refine g_iload_n (Y := YX1_placeOfGap) (pc := 19) 1 dX1_placeOfGap_19 rfl ?_
      refine g_iload (Y := YX1_placeOfGap) (pc := 20) 6 dX1_placeOfGap_20 rfl ?_
      obtain ⟨r2, M3, e4, hF⟩ := bd_some hF
      refine s_callVi (Y := YX1_placeOfGap) (pc := 22) (as := [.int x1, .int x6]) (st := []) (r_X1_onWay  e4) miX1_onWay lk_X1_73 dX1_placeOfGap_22 k_3 rfl (Nat.le_of_ble_eq_true rfl) (Nat.le_of_ble_eq_true rfl) rfl ?_
      clear e4
      refine g_istore (Y := YX1_placeOfGap) (pc := 25) (L' := [(7, .int r2), (0, .ref 3), (1, .int x1), (2, .int x2), (3, .int x3), (4, .int x4), (5, .int x5), (6, .int x6)]) dX1_placeOfGap_25 (Nat.le_of_ble_eq_true rfl) rfl ?_
      refine g_iload (Y := YX1_placeOfGap) (pc := 27) 6 dX1_placeOfGap_27 rfl ?_
      refine g_aload_n (Y := YX1_placeOfGap) (pc := 29) 1 dX1_placeOfGap_29 rfl ?_
      refine u_getR (Y := YX1_placeOfGap) (pc := 30) (j := 16) dX1_placeOfGap_30 fl_X1_42 k_3 rf_3_9 ?_
      refine g_iload_n (Y := YX1_placeOfGap) (pc := 33) 2 dX1_placeOfGap_33 rfl ?_
      obtain ⟨g5, hF⟩ := gd_some hF
      refine s_aaldA (Y := YX1_placeOfGap) (pc := 34) dX1_placeOfGap_34 k_16 n_16 g5 (stay_r g5.2) ?_
      refine g_iload (Y := YX1_placeOfGap) (pc := 35) 0 dX1_placeOfGap_35 rfl ?_
      obtain ⟨g6, hF⟩ := gd_some hF
      refine s_iald (Y := YX1_placeOfGap) (pc := 37) dX1_placeOfGap_37 (stay_all _ g5.2).2.1 (stay_all _ g5.2).2.2 g6 ?_
      refine g_nm (fun v7 e => ?_)
      replace hF := vl_to e hF; clear e
      refine g_iadd (Y := YX1_placeOfGap) (pc := 38) dX1_placeOfGap_38 ?_
      refine g_nm (fun v8 e => ?_)
      replace hF := vl_to e hF; clear e
      refine g_istore (Y := YX1_placeOfGap) (pc := 39) (L' := [(5, .int v8), (7, .int r2), (0, .ref 3), (1, .int x1), (2, .int x2), (3, .int x3), (4, .int x4), (6, .int x6)]) dX1_placeOfGap_39 (Nat.le_of_ble_eq_true rfl) rfl ?_
      refine g_aload_n (Y := YX1_placeOfGap) (pc := 41) 2 dX1_placeOfGap_41 rfl ?_
      refine g_iload (Y := YX1_placeOfGap) (pc := 42) 1 dX1_placeOfGap_42 rfl ?_
      obtain ⟨r9, M10, e11, hF⟩ := bd_some hF
      refine s_callVi (Y := YX1_placeOfGap) (pc := 44) (as := [.int r2]) (st := []) (r_X1_isCorridor  e11) miX1_isCorridor lk_X1_69 dX1_placeOfGap_44 k_3 rfl (Nat.le_of_ble_eq_true rfl) (Nat.le_of_ble_eq_true rfl) rfl ?_
      clear e11
      refine g_if_ne (Y := YX1_placeOfGap) (pc := 47) (tgt := 62) dX1_placeOfGap_47 rfl (fun c12 => ?_) (fun c12 => ?_)
      · replace hF := if_f c12 hF
        refine g_loc [2, 3, 4, 5, 6, 0, 7, 1] rfl ?_
        exact w_X1_placeOfGap_62 ih _ _ _ _ _ _ _ _ hF
      · replace hF := if_t c12 hF
        refine g_iload (Y := YX1_placeOfGap) (pc := 50) 0 dX1_placeOfGap_50 rfl ?_
        refine g_iload (Y := YX1_placeOfGap) (pc := 52) 6 dX1_placeOfGap_52 rfl ?_
        refine g_isub (Y := YX1_placeOfGap) (pc := 54) dX1_placeOfGap_54 ?_
        refine g_iload_n (Y := YX1_placeOfGap) (pc := 55) 5 dX1_placeOfGap_55 rfl ?_
        refine g_icmp_ne (Y := YX1_placeOfGap) (pc := 56) (tgt := 62) dX1_placeOfGap_56 rfl (fun c17 => ?_) (fun c17 => ?_)
        · replace hF := if_f c17 hF
          refine g_loc [2, 3, 4, 5, 6, 0, 7, 1] rfl ?_
          exact w_X1_placeOfGap_62 ih _ _ _ _ _ _ _ _ hF
        · replace hF := if_t c17 hF
          refine g_iload (Y := YX1_placeOfGap) (pc := 59) 1 dX1_placeOfGap_59 rfl ?_
          exact s_iret (Y := YX1_placeOfGap) (pc := 61) dX1_placeOfGap_61 rfl hF
def f_X1_placeOfGap_0  (x1 : Int32) (x2 : Int32) (x3 : Int32) (M : Mem) : Option (Int32 × Mem) :=
  f_X1_placeOfGap_9 FU x1 x2 x3 0 0 0 M
set_option maxRecDepth 100000 in
theorem w_X1_placeOfGap_0 {R : Int32} {M' : Mem}  (x1 x2 x3 : Int32) (M : Mem) (hF : f_X1_placeOfGap_0 x1 x2 x3 M = some (R, M')) : RunF l D cy ad none YX1_placeOfGap 1 0 0 (some (.int R)) (lay X M') 0 0 0 [(0, .ref 3), (1, .int x1), (2, .int x2), (3, .int x3)] [] (lay X M) := by
  unfold f_X1_placeOfGap_0 at hF
  refine g_iconst (Y := YX1_placeOfGap) (pc := 0) dX1_placeOfGap_0 kI_0 ?_
  refine g_istore (Y := YX1_placeOfGap) (pc := 1) (L' := [(4, .int 0), (0, .ref 3), (1, .int x1), (2, .int x2), (3, .int x3)]) dX1_placeOfGap_1 (Nat.le_of_ble_eq_true rfl) rfl ?_
  refine g_iconst (Y := YX1_placeOfGap) (pc := 3) dX1_placeOfGap_3 kI_0 ?_
  refine g_istore (Y := YX1_placeOfGap) (pc := 4) (L' := [(5, .int 0), (4, .int 0), (0, .ref 3), (1, .int x1), (2, .int x2), (3, .int x3)]) dX1_placeOfGap_4 (Nat.le_of_ble_eq_true rfl) rfl ?_
  refine g_iconst (Y := YX1_placeOfGap) (pc := 6) dX1_placeOfGap_6 kI_0 ?_
  refine g_istore (Y := YX1_placeOfGap) (pc := 7) (L' := [(6, .int 0), (5, .int 0), (4, .int 0), (0, .ref 3), (1, .int x1), (2, .int x2), (3, .int x3)]) dX1_placeOfGap_7 (Nat.le_of_ble_eq_true rfl) rfl ?_
  refine g_loc [3, 4, 5, 6, 2, 1, 0] rfl ?_
  exact w_X1_placeOfGap_9  _ _ _ _ _ _ _ _ hF
def f_X1_placeOfGap (x1 : Int32) (x2 : Int32) (x3 : Int32) (M : Mem) : Option (Int32 × Mem) := f_X1_placeOfGap_0 x1 x2 x3 M
theorem r_X1_placeOfGap {x1 x2 x3 R : Int32} {M M' : Mem}  (hF : f_X1_placeOfGap x1 x2 x3 M = some (R, M')) : RunS l D cy ad YX1_placeOfGap 1 [.ref 3, .int x1, .int x2, .int x3] X M (some (.int R)) M' := Run.of 3 (miX1_placeOfGap).1 (Nat.le_of_ble_eq_true rfl) (w_X1_placeOfGap_0  _ _ _ _ hF)
def f_X10_gap_27  (M : Mem) : Option (Int32 × Mem) :=
  some ((-1), M)
set_option maxRecDepth 100000 in
theorem w_X10_gap_27 {R : Int32} {M' : Mem}  (M : Mem) (hF : f_X10_gap_27  M = some (R, M')) : RunF l D cy ad none YX10_gap 2 0 0 (some (.int R)) (lay X M') 0 0 27 [] [] (lay X M) := by
  unfold f_X10_gap_27 at hF
  refine g_iconst (Y := YX10_gap) (pc := 27) dX10_gap_27 kI_m1 ?_
  exact s_iret (Y := YX10_gap) (pc := 28) dX10_gap_28 rfl hF
def f_X10_gap_0  (x1 : Int32) (x2 : Int32) (M : Mem) : Option (Int32 × Mem) :=
  bd (f_X1_hasGroup x1 M) fun r1 M2 =>
  if r1 = 0 then
    f_X10_gap_27 M2
  else
    bd (f_X1_hasGroup x2 M2) fun r5 M6 =>
    if r5 = 0 then
      f_X10_gap_27 M6
    else
      if x1 = x2 then
        f_X10_gap_27 M6
      else
        gd (0 ≤ x1 ∧ x1.toNatClampNeg < 6) <|
        gd (0 ≤ x2 ∧ x2.toNatClampNeg < 6) <|
        if (M6 7 x1.toNatClampNeg) = (M6 7 x2.toNatClampNeg) then
          bd (f_X1_gapOf x1 x2 M6) fun r13 M14 =>
          bd (f_X10_clearRow M14) fun _ M17 =>
          bd (f_X1_placeOfGap x1 x2 r13 M17) fun r19 M20 =>
          bd (f_X10_tell r19 M20) fun _ M23 =>
          some (r13, M23)
        else
          some ((-2), M6)
set_option maxRecDepth 100000 in
theorem w_X10_gap_0 {R : Int32} {M' : Mem}  (x1 x2 : Int32) (M : Mem) (hF : f_X10_gap_0 x1 x2 M = some (R, M')) : RunF l D cy ad none YX10_gap 2 0 0 (some (.int R)) (lay X M') 0 0 0 [(0, .ref 0), (1, .int x1), (2, .int x2)] [] (lay X M) := by
  unfold f_X10_gap_0 at hF
  refine g_aload_n (Y := YX10_gap) (pc := 0) 0 dX10_gap_0 rfl ?_
  refine u_getR (Y := YX10_gap) (pc := 1) (j := 3) dX10_gap_1 fl_X10_19 k_0 rf_0_1 ?_
  refine g_iload_n (Y := YX10_gap) (pc := 4) 1 dX10_gap_4 rfl ?_
  obtain ⟨r1, M2, e3, hF⟩ := bd_some hF
  refine s_callVi (Y := YX10_gap) (pc := 5) (as := [.int x1]) (st := []) (r_X1_hasGroup  e3) miX1_hasGroup lk_X10_152 dX10_gap_5 k_3 rfl (Nat.le_of_ble_eq_true rfl) (Nat.le_of_ble_eq_true rfl) rfl ?_
  clear e3
  refine g_if_eq (Y := YX10_gap) (pc := 8) (tgt := 27) dX10_gap_8 rfl (fun c4 => ?_) (fun c4 => ?_)
  · replace hF := if_t c4 hF
    refine g_loc [] rfl ?_
    exact w_X10_gap_27  _ hF
  · replace hF := if_f c4 hF
    refine g_aload_n (Y := YX10_gap) (pc := 11) 0 dX10_gap_11 rfl ?_
    refine u_getR (Y := YX10_gap) (pc := 12) (j := 3) dX10_gap_12 fl_X10_19 k_0 rf_0_1 ?_
    refine g_iload_n (Y := YX10_gap) (pc := 15) 2 dX10_gap_15 rfl ?_
    obtain ⟨r5, M6, e7, hF⟩ := bd_some hF
    refine s_callVi (Y := YX10_gap) (pc := 16) (as := [.int x2]) (st := []) (r_X1_hasGroup  e7) miX1_hasGroup lk_X10_152 dX10_gap_16 k_3 rfl (Nat.le_of_ble_eq_true rfl) (Nat.le_of_ble_eq_true rfl) rfl ?_
    clear e7
    refine g_if_eq (Y := YX10_gap) (pc := 19) (tgt := 27) dX10_gap_19 rfl (fun c8 => ?_) (fun c8 => ?_)
    · replace hF := if_t c8 hF
      refine g_loc [] rfl ?_
      exact w_X10_gap_27  _ hF
    · replace hF := if_f c8 hF
      refine g_iload_n (Y := YX10_gap) (pc := 22) 1 dX10_gap_22 rfl ?_
      refine g_iload_n (Y := YX10_gap) (pc := 23) 2 dX10_gap_23 rfl ?_
      refine g_icmp_ne (Y := YX10_gap) (pc := 24) (tgt := 29) dX10_gap_24 rfl (fun c9 => ?_) (fun c9 => ?_)
      · replace hF := if_f c9 hF
        refine g_aload_n (Y := YX10_gap) (pc := 29) 0 dX10_gap_29 rfl ?_
        refine u_getR (Y := YX10_gap) (pc := 30) (j := 3) dX10_gap_30 fl_X10_19 k_0 rf_0_1 ?_
        refine u_getR (Y := YX10_gap) (pc := 33) (j := 7) dX10_gap_33 fl_X10_167 k_3 rf_3_6 ?_
        refine g_iload_n (Y := YX10_gap) (pc := 36) 1 dX10_gap_36 rfl ?_
        obtain ⟨g10, hF⟩ := gd_some hF
        refine s_iald (Y := YX10_gap) (pc := 37) dX10_gap_37 k_7 n_7 g10 ?_
        refine g_aload_n (Y := YX10_gap) (pc := 38) 0 dX10_gap_38 rfl ?_
        refine u_getR (Y := YX10_gap) (pc := 39) (j := 3) dX10_gap_39 fl_X10_19 k_0 rf_0_1 ?_
        refine u_getR (Y := YX10_gap) (pc := 42) (j := 7) dX10_gap_42 fl_X10_167 k_3 rf_3_6 ?_
        refine g_iload_n (Y := YX10_gap) (pc := 45) 2 dX10_gap_45 rfl ?_
        obtain ⟨g11, hF⟩ := gd_some hF
        refine s_iald (Y := YX10_gap) (pc := 46) dX10_gap_46 k_7 n_7 g11 ?_
        refine g_icmp_eq (Y := YX10_gap) (pc := 47) (tgt := 53) dX10_gap_47 rfl (fun c12 => ?_) (fun c12 => ?_)
        · replace hF := if_t c12 hF
          refine g_aload_n (Y := YX10_gap) (pc := 53) 0 dX10_gap_53 rfl ?_
          refine u_getR (Y := YX10_gap) (pc := 54) (j := 3) dX10_gap_54 fl_X10_19 k_0 rf_0_1 ?_
          refine g_iload_n (Y := YX10_gap) (pc := 57) 1 dX10_gap_57 rfl ?_
          refine g_iload_n (Y := YX10_gap) (pc := 58) 2 dX10_gap_58 rfl ?_
          obtain ⟨r13, M14, e15, hF⟩ := bd_some hF
          refine s_callVi (Y := YX10_gap) (pc := 59) (as := [.int x1, .int x2]) (st := []) (r_X1_gapOf  e15) miX1_gapOf lk_X10_329 dX10_gap_59 k_3 rfl (Nat.le_of_ble_eq_true rfl) (Nat.le_of_ble_eq_true rfl) rfl ?_
          clear e15
          refine g_istore_n (Y := YX10_gap) (pc := 62) (L' := [(3, .int r13), (0, .ref 0), (1, .int x1), (2, .int x2)]) dX10_gap_62 (Nat.le_of_ble_eq_true rfl) rfl ?_
          refine g_aload_n (Y := YX10_gap) (pc := 63) 1 dX10_gap_63 rfl ?_
          obtain ⟨r16, M17, e18, hF⟩ := bd_some hF
          refine s_callVv (Y := YX10_gap) (pc := 64) (as := []) (st := []) (r_X10_clearRow  e18) miX10_clearRow lk_X10_246 dX10_gap_64 k_0 rfl (Nat.le_of_ble_eq_true rfl) (Nat.le_of_ble_eq_true rfl) rfl ?_
          clear e18
          refine g_aload_n (Y := YX10_gap) (pc := 67) 1 dX10_gap_67 rfl ?_
          refine g_aload_n (Y := YX10_gap) (pc := 68) 1 dX10_gap_68 rfl ?_
          refine u_getR (Y := YX10_gap) (pc := 69) (j := 3) dX10_gap_69 fl_X10_19 k_0 rf_0_1 ?_
          refine g_iload_n (Y := YX10_gap) (pc := 72) 2 dX10_gap_72 rfl ?_
          refine g_iload_n (Y := YX10_gap) (pc := 73) 3 dX10_gap_73 rfl ?_
          refine g_iload_n (Y := YX10_gap) (pc := 74) 0 dX10_gap_74 rfl ?_
          obtain ⟨r19, M20, e21, hF⟩ := bd_some hF
          refine s_callVi (Y := YX10_gap) (pc := 75) (as := [.int x1, .int x2, .int r13]) (st := [.ref 0]) (r_X1_placeOfGap  e21) miX1_placeOfGap lk_X10_332 dX10_gap_75 k_3 rfl (Nat.le_of_ble_eq_true rfl) (Nat.le_of_ble_eq_true rfl) rfl ?_
          clear e21
          obtain ⟨r22, M23, e24, hF⟩ := bd_some hF
          refine s_callVv (Y := YX10_gap) (pc := 78) (as := [.int r19]) (st := []) (r_X10_tell  e24) miX10_tell lk_X10_252 dX10_gap_78 k_0 rfl (Nat.le_of_ble_eq_true rfl) (Nat.le_of_ble_eq_true rfl) rfl ?_
          clear e24
          refine g_iload_n (Y := YX10_gap) (pc := 81) 0 dX10_gap_81 rfl ?_
          exact s_iret (Y := YX10_gap) (pc := 82) dX10_gap_82 rfl hF
        · replace hF := if_f c12 hF
          refine g_bipush (Y := YX10_gap) (pc := 50) dX10_gap_50 kB_m2 ?_
          exact s_iret (Y := YX10_gap) (pc := 52) dX10_gap_52 rfl hF
      · replace hF := if_t c9 hF
        refine g_loc [] rfl ?_
        exact w_X10_gap_27  _ hF
def f_X10_gap (x1 : Int32) (x2 : Int32) (M : Mem) : Option (Int32 × Mem) := f_X10_gap_0 x1 x2 M
theorem r_X10_gap {x1 x2 R : Int32} {M M' : Mem}  (hF : f_X10_gap x1 x2 M = some (R, M')) : RunS l D cy ad YX10_gap 2 [.ref 0, .int x1, .int x2] X M (some (.int R)) M' := Run.of 2 (miX10_gap).1 (Nat.le_of_ble_eq_true rfl) (w_X10_gap_0  _ _ _ hF)
def f_X10_goOneWay_56  (t0 : Int32) (M : Mem) : Option (Int32 × Mem) :=
  gd (t0 = 0 ∨ t0 = 1) <|
  some (t0, M)
set_option maxRecDepth 100000 in
theorem w_X10_goOneWay_56 {R : Int32} {M' : Mem}  (t0 : Int32) (M : Mem) (hF : f_X10_goOneWay_56 t0 M = some (R, M')) : RunF l D cy ad none YX10_goOneWay 1 0 0 (some (.int R)) (lay X M') 0 0 56 [] [.int t0] (lay X M) := by
  unfold f_X10_goOneWay_56 at hF
  obtain ⟨g6, hF⟩ := gd_some hF
  exact s_zret (Y := YX10_goOneWay) (pc := 56) dX10_goOneWay_56 rfl g6 hF
def f_X10_goOneWay_37 (K4 : Int32 → Int32 → Int32 → Mem → Option (Int32 × Mem)) (x1 : Int32) (x2 : Int32) (x3 : Int32) (M : Mem) : Option (Int32 × Mem) :=
  vl (x3 + 1) fun v11 =>
  K4 x1 x2 v11 M
set_option maxRecDepth 100000 in
theorem w_X10_goOneWay_37 {R : Int32} {M' : Mem} {K4 : Int32 → Int32 → Int32 → Mem → Option (Int32 × Mem)} (hK4 : ∀ (x1 x2 x3 : Int32) (M : Mem), K4 x1 x2 x3 M = some (R, M') → RunF l D cy ad none YX10_goOneWay 1 0 0 (some (.int R)) (lay X M') 0 0 4 [(0, .ref 0), (1, .int x1), (2, .int x2), (3, .int x3)] [] (lay X M)) (x1 x2 x3 : Int32) (M : Mem) (hF : f_X10_goOneWay_37 K4 x1 x2 x3 M = some (R, M')) : RunF l D cy ad none YX10_goOneWay 1 0 0 (some (.int R)) (lay X M') 0 0 37 [(0, .ref 0), (1, .int x1), (2, .int x2), (3, .int x3)] [] (lay X M) := by
  unfold f_X10_goOneWay_37 at hF
  refine s_iinc (Y := YX10_goOneWay) (pc := 37) (j := 3) (L' := fun y => [(3, .int y), (0, .ref 0), (1, .int x1), (2, .int x2)]) dX10_goOneWay_37 kI_1 rfl (Nat.le_of_ble_eq_true rfl) (fun _ => rfl) (fun v11 e => ?_)
  replace hF := vl_to e hF; clear e
  refine g_goto (Y := YX10_goOneWay) (pc := 40) (tgt := 4) dX10_goOneWay_40 rfl ?_
  refine g_loc [1, 2, 3, 0] rfl ?_
  exact hK4 _ _ _ _ hF
def f_X10_goOneWay_4  : Nat → Int32 → Int32 → Int32 → Mem → Option (Int32 × Mem)
  | 0, _, _, _, _ => none
  | n + 1, x1, x2, x3, M =>
    if x3 < (M 3 2) then
      bd (f_X10_has x1 x3 M) fun r7 M8 =>
      if r7 = 0 then
        f_X10_goOneWay_37 (f_X10_goOneWay_4 n) x1 x2 x3 M8
      else
        gd (0 ≤ x3 ∧ x3.toNatClampNeg < 6) <|
        vl ((x2 ||| (1 <<< ((M8 7 x3.toNatClampNeg) &&& 31)))) fun v13 =>
        f_X10_goOneWay_37 (f_X10_goOneWay_4 n) x1 v13 x3 M8
    else
      bd (f_J6_bitCount_0f7a4 x2 M) fun r2 M3 =>
      if r2 = 1 then
        f_X10_goOneWay_56 1 M3
      else
        f_X10_goOneWay_56 0 M3
set_option maxRecDepth 100000 in
theorem w_X10_goOneWay_4 {R : Int32} {M' : Mem}  : ∀ (n : Nat) (x1 x2 x3 : Int32) (M : Mem), f_X10_goOneWay_4 n x1 x2 x3 M = some (R, M') → RunF l D cy ad none YX10_goOneWay 1 0 0 (some (.int R)) (lay X M') 0 0 4 [(0, .ref 0), (1, .int x1), (2, .int x2), (3, .int x3)] [] (lay X M) := by
  intro n
  induction n with
  | zero => intro x1 x2 x3 M hF; exact absurd hF (by unfold f_X10_goOneWay_4; exact fun h => nomatch h)
  | succ n ih =>
    intro x1 x2 x3 M hF
    unfold f_X10_goOneWay_4 at hF
    refine g_iload_n (Y := YX10_goOneWay) (pc := 4) 3 dX10_goOneWay_4 rfl ?_
    refine g_aload_n (Y := YX10_goOneWay) (pc := 5) 0 dX10_goOneWay_5 rfl ?_
    refine u_getR (Y := YX10_goOneWay) (pc := 6) (j := 3) dX10_goOneWay_6 fl_X10_19 k_0 rf_0_1 ?_
    refine u_getI (Y := YX10_goOneWay) (pc := 9) dX10_goOneWay_9 fl_X10_129 k_3 ?_
    refine g_icmp_ge (Y := YX10_goOneWay) (pc := 12) (tgt := 43) dX10_goOneWay_12 rfl (fun c1 => ?_) (fun c1 => ?_)
    · replace hF := if_f c1 hF
      refine g_iload_n (Y := YX10_goOneWay) (pc := 43) 2 dX10_goOneWay_43 rfl ?_
      obtain ⟨r2, M3, e4, hF⟩ := bd_some hF
      refine s_callSi (Y := YX10_goOneWay) (pc := 44) (as := [.int x2]) (st := []) (r_J6_bitCount_0f7a4  e4) msJ6_bitCount_0f7a4 lk_X10_225 dX10_goOneWay_44 rfl (Nat.le_of_ble_eq_true rfl) (Nat.le_of_ble_eq_true rfl) rfl ?_
      clear e4
      refine g_iconst (Y := YX10_goOneWay) (pc := 47) dX10_goOneWay_47 kI_1 ?_
      refine g_icmp_ne (Y := YX10_goOneWay) (pc := 48) (tgt := 55) dX10_goOneWay_48 rfl (fun c5 => ?_) (fun c5 => ?_)
      · replace hF := if_f c5 hF
        refine g_iconst (Y := YX10_goOneWay) (pc := 55) dX10_goOneWay_55 kI_0 ?_
        refine g_loc [] rfl ?_
        exact w_X10_goOneWay_56  _ _ hF
      · replace hF := if_t c5 hF
        refine g_iconst (Y := YX10_goOneWay) (pc := 51) dX10_goOneWay_51 kI_1 ?_
        refine g_goto (Y := YX10_goOneWay) (pc := 52) (tgt := 56) dX10_goOneWay_52 rfl ?_
        refine g_loc [] rfl ?_
        exact w_X10_goOneWay_56  _ _ hF
    · replace hF := if_t c1 hF
      refine g_iload_n (Y := YX10_goOneWay) (pc := 15) 1 dX10_goOneWay_15 rfl ?_
      refine g_iload_n (Y := YX10_goOneWay) (pc := 16) 3 dX10_goOneWay_16 rfl ?_
      obtain ⟨r7, M8, e9, hF⟩ := bd_some hF
      refine s_callSi (Y := YX10_goOneWay) (pc := 17) (as := [.int x1, .int x3]) (st := []) (r_X10_has  e9) msX10_has lk_X10_362 dX10_goOneWay_17 rfl (Nat.le_of_ble_eq_true rfl) (Nat.le_of_ble_eq_true rfl) rfl ?_
      clear e9
      refine g_if_eq (Y := YX10_goOneWay) (pc := 20) (tgt := 37) dX10_goOneWay_20 rfl (fun c10 => ?_) (fun c10 => ?_)
      · replace hF := if_t c10 hF
        exact w_X10_goOneWay_37 ih _ _ _ _ hF
      · replace hF := if_f c10 hF
        refine g_iload_n (Y := YX10_goOneWay) (pc := 23) 2 dX10_goOneWay_23 rfl ?_
        refine g_iconst (Y := YX10_goOneWay) (pc := 24) dX10_goOneWay_24 kI_1 ?_
        refine g_aload_n (Y := YX10_goOneWay) (pc := 25) 0 dX10_goOneWay_25 rfl ?_
        refine u_getR (Y := YX10_goOneWay) (pc := 26) (j := 3) dX10_goOneWay_26 fl_X10_19 k_0 rf_0_1 ?_
        refine u_getR (Y := YX10_goOneWay) (pc := 29) (j := 7) dX10_goOneWay_29 fl_X10_167 k_3 rf_3_6 ?_
        refine g_iload_n (Y := YX10_goOneWay) (pc := 32) 3 dX10_goOneWay_32 rfl ?_
        obtain ⟨g12, hF⟩ := gd_some hF
        refine s_iald (Y := YX10_goOneWay) (pc := 33) dX10_goOneWay_33 k_7 n_7 g12 ?_
        refine g_ishl (Y := YX10_goOneWay) (pc := 34) dX10_goOneWay_34 ?_
        refine g_ior (Y := YX10_goOneWay) (pc := 35) dX10_goOneWay_35 ?_
        refine g_nm (fun v13 e => ?_)
        replace hF := vl_to e hF; clear e
        refine g_istore_n (Y := YX10_goOneWay) (pc := 36) (L' := [(2, .int v13), (0, .ref 0), (1, .int x1), (3, .int x3)]) dX10_goOneWay_36 (Nat.le_of_ble_eq_true rfl) rfl ?_
        refine g_loc [1, 2, 0, 3] rfl ?_
        exact w_X10_goOneWay_37 ih _ _ _ _ hF
def f_X10_goOneWay_0  (x1 : Int32) (M : Mem) : Option (Int32 × Mem) :=
  f_X10_goOneWay_4 FU x1 0 0 M
set_option maxRecDepth 100000 in
theorem w_X10_goOneWay_0 {R : Int32} {M' : Mem}  (x1 : Int32) (M : Mem) (hF : f_X10_goOneWay_0 x1 M = some (R, M')) : RunF l D cy ad none YX10_goOneWay 1 0 0 (some (.int R)) (lay X M') 0 0 0 [(0, .ref 0), (1, .int x1)] [] (lay X M) := by
  unfold f_X10_goOneWay_0 at hF
  refine g_iconst (Y := YX10_goOneWay) (pc := 0) dX10_goOneWay_0 kI_0 ?_
  refine g_istore_n (Y := YX10_goOneWay) (pc := 1) (L' := [(2, .int 0), (0, .ref 0), (1, .int x1)]) dX10_goOneWay_1 (Nat.le_of_ble_eq_true rfl) rfl ?_
  refine g_iconst (Y := YX10_goOneWay) (pc := 2) dX10_goOneWay_2 kI_0 ?_
  refine g_istore_n (Y := YX10_goOneWay) (pc := 3) (L' := [(3, .int 0), (2, .int 0), (0, .ref 0), (1, .int x1)]) dX10_goOneWay_3 (Nat.le_of_ble_eq_true rfl) rfl ?_
  refine g_loc [2, 3, 1, 0] rfl ?_
  exact w_X10_goOneWay_4  _ _ _ _ _ hF
def f_X10_goOneWay (x1 : Int32) (M : Mem) : Option (Int32 × Mem) := f_X10_goOneWay_0 x1 M
theorem r_X10_goOneWay {x1 R : Int32} {M M' : Mem}  (hF : f_X10_goOneWay x1 M = some (R, M')) : RunS l D cy ad YX10_goOneWay 1 [.ref 0, .int x1] X M (some (.int R)) M' := Run.of 1 (miX10_goOneWay).1 (Nat.le_of_ble_eq_true rfl) (w_X10_goOneWay_0  _ _ hF)
def f_X10_smoothMinutes_47 (K7 : Int32 → Int32 → Int32 → Mem → Option (Int32 × Mem)) (q1 : Nat) (x2 : Int32) (x3 : Int32) (x4 : Int32) (M : Mem) : Option (Int32 × Mem) :=
  gd (0 ≤ x4 ∧ x4.toNatClampNeg < 6) <|
  bd (f_X1_wholeStay (M (q1 + 1) x4.toNatClampNeg) M) fun r4 M5 =>
  vl ((if x3 < (x2 + r4) then (x2 + r4) else x3)) fun v7 =>
  vl (x4 + 1) fun v8 =>
  K7 x2 v7 v8 M5
set_option maxRecDepth 100000 in
theorem w_X10_smoothMinutes_47 {R : Int32} {M' : Mem} {q1 : Nat} {K7 : Int32 → Int32 → Int32 → Mem → Option (Int32 × Mem)} (hq1 : isOr q1) (hK7 : ∀ (x2 x3 x4 : Int32) (M : Mem), K7 x2 x3 x4 M = some (R, M') → RunF l D cy ad none YX10_smoothMinutes 2 0 0 (some (.int R)) (lay X M') 0 0 7 [(0, .ref 0), (1, .ref q1), (2, .int x2), (3, .int x3), (4, .int x4)] [] (lay X M)) (x2 x3 x4 : Int32) (M : Mem) (hF : f_X10_smoothMinutes_47 K7 q1 x2 x3 x4 M = some (R, M')) : RunF l D cy ad none YX10_smoothMinutes 2 0 0 (some (.int R)) (lay X M') 0 0 47 [(0, .ref 0), (1, .ref q1), (2, .int x2), (3, .int x3), (4, .int x4)] [] (lay X M) := by
  unfold f_X10_smoothMinutes_47 at hF
  refine g_iload_n (Y := YX10_smoothMinutes) (pc := 47) 3 dX10_smoothMinutes_47 rfl ?_
  refine g_iload_n (Y := YX10_smoothMinutes) (pc := 48) 2 dX10_smoothMinutes_48 rfl ?_
  refine g_aload_n (Y := YX10_smoothMinutes) (pc := 49) 0 dX10_smoothMinutes_49 rfl ?_
  refine u_getR (Y := YX10_smoothMinutes) (pc := 50) (j := 3) dX10_smoothMinutes_50 fl_X10_19 k_0 rf_0_1 ?_
  refine g_aload_n (Y := YX10_smoothMinutes) (pc := 53) 1 dX10_smoothMinutes_53 rfl ?_
  refine u_getR (Y := YX10_smoothMinutes) (pc := 54) (j := (q1 + 1)) dX10_smoothMinutes_54 fl_X10_307 (or_k hq1) (or_r0 hq1) ?_
  refine g_iload (Y := YX10_smoothMinutes) (pc := 57) 4 dX10_smoothMinutes_57 rfl ?_
  obtain ⟨g3, hF⟩ := gd_some hF
  refine s_iald (Y := YX10_smoothMinutes) (pc := 59) dX10_smoothMinutes_59 (or_k1 hq1) (or_n1 hq1) g3 ?_
  obtain ⟨r4, M5, e6, hF⟩ := bd_some hF
  refine s_callVi (Y := YX10_smoothMinutes) (pc := 60) (as := [.int (M (q1 + 1) x4.toNatClampNeg)]) (st := [.int x2, .int x3]) (r_X1_wholeStay  e6) miX1_wholeStay lk_X10_354 dX10_smoothMinutes_60 k_3 rfl (Nat.le_of_ble_eq_true rfl) (Nat.le_of_ble_eq_true rfl) rfl ?_
  clear e6
  refine g_iadd (Y := YX10_smoothMinutes) (pc := 63) dX10_smoothMinutes_63 ?_
  refine s_max (Y := YX10_smoothMinutes) (pc := 64) dX10_smoothMinutes_64 lk_X10_357 w_max (Nat.le_of_ble_eq_true rfl) (Nat.le_of_ble_eq_true rfl) ?_
  refine g_nm (fun v7 e => ?_)
  replace hF := vl_to e hF; clear e
  refine g_istore_n (Y := YX10_smoothMinutes) (pc := 67) (L' := [(3, .int v7), (0, .ref 0), (1, .ref q1), (2, .int x2), (4, .int x4)]) dX10_smoothMinutes_67 (Nat.le_of_ble_eq_true rfl) rfl ?_
  refine s_iinc (Y := YX10_smoothMinutes) (pc := 68) (j := 4) (L' := fun y => [(4, .int y), (3, .int v7), (0, .ref 0), (1, .ref q1), (2, .int x2)]) dX10_smoothMinutes_68 kI_1 rfl (Nat.le_of_ble_eq_true rfl) (fun _ => rfl) (fun v8 e => ?_)
  replace hF := vl_to e hF; clear e
  refine g_goto (Y := YX10_smoothMinutes) (pc := 71) (tgt := 7) dX10_smoothMinutes_71 rfl ?_
  refine g_loc [2, 3, 4, 1, 0] rfl ?_
  exact hK7 _ _ _ _ hF
def f_X10_smoothMinutes_7 (q1 : Nat) : Nat → Int32 → Int32 → Int32 → Mem → Option (Int32 × Mem)
  | 0, _, _, _, _ => none
  | n + 1, x2, x3, x4, M =>
    if x4 < (M q1 1) then
      if 0 < x4 then
        gd (0 ≤ (x4 - 1) ∧ (x4 - 1).toNatClampNeg < 6) <|
        gd (0 ≤ x4 ∧ x4.toNatClampNeg < 6) <|
        bd (f_X1_gapOf (M (q1 + 1) (x4 - 1).toNatClampNeg) (M (q1 + 1) x4.toNatClampNeg) M) fun r11 M12 =>
        vl ((x2 + r11)) fun v14 =>
        f_X10_smoothMinutes_47 (f_X10_smoothMinutes_7 q1 n) q1 v14 x3 x4 M12
      else
        f_X10_smoothMinutes_47 (f_X10_smoothMinutes_7 q1 n) q1 x2 x3 x4 M
    else
      some (x3, M)
set_option maxRecDepth 100000 in
theorem w_X10_smoothMinutes_7 {R : Int32} {M' : Mem} {q1 : Nat} (hq1 : isOr q1) : ∀ (n : Nat) (x2 x3 x4 : Int32) (M : Mem), f_X10_smoothMinutes_7 q1 n x2 x3 x4 M = some (R, M') → RunF l D cy ad none YX10_smoothMinutes 2 0 0 (some (.int R)) (lay X M') 0 0 7 [(0, .ref 0), (1, .ref q1), (2, .int x2), (3, .int x3), (4, .int x4)] [] (lay X M) := by
  intro n
  induction n with
  | zero => intro x2 x3 x4 M hF; exact absurd hF (by unfold f_X10_smoothMinutes_7; exact fun h => nomatch h)
  | succ n ih =>
    intro x2 x3 x4 M hF
    unfold f_X10_smoothMinutes_7 at hF
    refine g_iload (Y := YX10_smoothMinutes) (pc := 7) 4 dX10_smoothMinutes_7 rfl ?_
    refine g_aload_n (Y := YX10_smoothMinutes) (pc := 9) 1 dX10_smoothMinutes_9 rfl ?_
    refine u_getI (Y := YX10_smoothMinutes) (pc := 10) dX10_smoothMinutes_10 fl_X10_303 (or_k hq1) ?_
    refine g_icmp_ge (Y := YX10_smoothMinutes) (pc := 13) (tgt := 74) dX10_smoothMinutes_13 rfl (fun c1 => ?_) (fun c1 => ?_)
    · replace hF := if_f c1 hF
      refine g_iload_n (Y := YX10_smoothMinutes) (pc := 74) 3 dX10_smoothMinutes_74 rfl ?_
      exact s_iret (Y := YX10_smoothMinutes) (pc := 75) dX10_smoothMinutes_75 rfl hF
    · replace hF := if_t c1 hF
      refine g_iload (Y := YX10_smoothMinutes) (pc := 16) 4 dX10_smoothMinutes_16 rfl ?_
      refine g_if_le (Y := YX10_smoothMinutes) (pc := 18) (tgt := 47) dX10_smoothMinutes_18 rfl (fun c2 => ?_) (fun c2 => ?_)
      · replace hF := if_f c2 hF
        exact w_X10_smoothMinutes_47 hq1 ih _ _ _ _ hF
      · replace hF := if_t c2 hF
        refine g_iload_n (Y := YX10_smoothMinutes) (pc := 21) 2 dX10_smoothMinutes_21 rfl ?_
        refine g_aload_n (Y := YX10_smoothMinutes) (pc := 22) 0 dX10_smoothMinutes_22 rfl ?_
        refine u_getR (Y := YX10_smoothMinutes) (pc := 23) (j := 3) dX10_smoothMinutes_23 fl_X10_19 k_0 rf_0_1 ?_
        refine g_aload_n (Y := YX10_smoothMinutes) (pc := 26) 1 dX10_smoothMinutes_26 rfl ?_
        refine u_getR (Y := YX10_smoothMinutes) (pc := 27) (j := (q1 + 1)) dX10_smoothMinutes_27 fl_X10_307 (or_k hq1) (or_r0 hq1) ?_
        refine g_iload (Y := YX10_smoothMinutes) (pc := 30) 4 dX10_smoothMinutes_30 rfl ?_
        refine g_iconst (Y := YX10_smoothMinutes) (pc := 32) dX10_smoothMinutes_32 kI_1 ?_
        refine g_isub (Y := YX10_smoothMinutes) (pc := 33) dX10_smoothMinutes_33 ?_
        obtain ⟨g9, hF⟩ := gd_some hF
        refine s_iald (Y := YX10_smoothMinutes) (pc := 34) dX10_smoothMinutes_34 (or_k1 hq1) (or_n1 hq1) g9 ?_
        refine g_aload_n (Y := YX10_smoothMinutes) (pc := 35) 1 dX10_smoothMinutes_35 rfl ?_
        refine u_getR (Y := YX10_smoothMinutes) (pc := 36) (j := (q1 + 1)) dX10_smoothMinutes_36 fl_X10_307 (or_k hq1) (or_r0 hq1) ?_
        refine g_iload (Y := YX10_smoothMinutes) (pc := 39) 4 dX10_smoothMinutes_39 rfl ?_
        obtain ⟨g10, hF⟩ := gd_some hF
        refine s_iald (Y := YX10_smoothMinutes) (pc := 41) dX10_smoothMinutes_41 (or_k1 hq1) (or_n1 hq1) g10 ?_
        obtain ⟨r11, M12, e13, hF⟩ := bd_some hF
        refine s_callVi (Y := YX10_smoothMinutes) (pc := 42) (as := [.int (M (q1 + 1) (x4 - 1).toNatClampNeg), .int (M (q1 + 1) x4.toNatClampNeg)]) (st := [.int x2]) (r_X1_gapOf  e13) miX1_gapOf lk_X10_329 dX10_smoothMinutes_42 k_3 rfl (Nat.le_of_ble_eq_true rfl) (Nat.le_of_ble_eq_true rfl) rfl ?_
        clear e13
        refine g_iadd (Y := YX10_smoothMinutes) (pc := 45) dX10_smoothMinutes_45 ?_
        refine g_nm (fun v14 e => ?_)
        replace hF := vl_to e hF; clear e
        refine g_istore_n (Y := YX10_smoothMinutes) (pc := 46) (L' := [(2, .int v14), (0, .ref 0), (1, .ref q1), (3, .int x3), (4, .int x4)]) dX10_smoothMinutes_46 (Nat.le_of_ble_eq_true rfl) rfl ?_
        refine g_loc [1, 2, 0, 3, 4] rfl ?_
        exact w_X10_smoothMinutes_47 hq1 ih _ _ _ _ hF
def f_X10_smoothMinutes_0 (q1 : Nat) (M : Mem) : Option (Int32 × Mem) :=
  f_X10_smoothMinutes_7 q1 FU 0 0 0 M
set_option maxRecDepth 100000 in
theorem w_X10_smoothMinutes_0 {R : Int32} {M' : Mem} {q1 : Nat} (hq1 : isOr q1) (M : Mem) (hF : f_X10_smoothMinutes_0 q1  M = some (R, M')) : RunF l D cy ad none YX10_smoothMinutes 2 0 0 (some (.int R)) (lay X M') 0 0 0 [(0, .ref 0), (1, .ref q1)] [] (lay X M) := by
  unfold f_X10_smoothMinutes_0 at hF
  refine g_iconst (Y := YX10_smoothMinutes) (pc := 0) dX10_smoothMinutes_0 kI_0 ?_
  refine g_istore_n (Y := YX10_smoothMinutes) (pc := 1) (L' := [(2, .int 0), (0, .ref 0), (1, .ref q1)]) dX10_smoothMinutes_1 (Nat.le_of_ble_eq_true rfl) rfl ?_
  refine g_iconst (Y := YX10_smoothMinutes) (pc := 2) dX10_smoothMinutes_2 kI_0 ?_
  refine g_istore_n (Y := YX10_smoothMinutes) (pc := 3) (L' := [(3, .int 0), (2, .int 0), (0, .ref 0), (1, .ref q1)]) dX10_smoothMinutes_3 (Nat.le_of_ble_eq_true rfl) rfl ?_
  refine g_iconst (Y := YX10_smoothMinutes) (pc := 4) dX10_smoothMinutes_4 kI_0 ?_
  refine g_istore (Y := YX10_smoothMinutes) (pc := 5) (L' := [(4, .int 0), (3, .int 0), (2, .int 0), (0, .ref 0), (1, .ref q1)]) dX10_smoothMinutes_5 (Nat.le_of_ble_eq_true rfl) rfl ?_
  refine g_loc [3, 4, 2, 1, 0] rfl ?_
  exact w_X10_smoothMinutes_7 hq1 _ _ _ _ _ hF
def f_X10_smoothMinutes (q1 : Nat) (M : Mem) : Option (Int32 × Mem) := f_X10_smoothMinutes_0 q1 M
theorem r_X10_smoothMinutes {q1 : Nat} {R : Int32} {M M' : Mem} (hq1 : isOr q1) (hF : f_X10_smoothMinutes q1 M = some (R, M')) : RunS l D cy ad YX10_smoothMinutes 2 [.ref 0, .ref q1] X M (some (.int R)) M' := Run.of 1 (miX10_smoothMinutes).1 (Nat.le_of_ble_eq_true rfl) (w_X10_smoothMinutes_0 hq1 _ hF)
def f_X10_tellSettingOff_40 (K4 : Int32 → Int32 → Mem → Option (Int32 × Mem)) (q1 : Nat) (x2 : Int32) (x3 : Int32) (M : Mem) : Option (Int32 × Mem) :=
  bd (f_X10_tell x2 M) fun _ M4 =>
  vl (x3 + 1) fun v6 =>
  K4 x2 v6 M4
set_option maxRecDepth 100000 in
theorem w_X10_tellSettingOff_40 {R : Int32} {M' : Mem} {q1 : Nat} {K4 : Int32 → Int32 → Mem → Option (Int32 × Mem)} (hq1 : isOr q1) (hK4 : ∀ (x2 x3 : Int32) (M : Mem), K4 x2 x3 M = some (R, M') → RunF l D cy ad none YX10_tellSettingOff 2 0 0 none (lay X M') 0 0 4 [(0, .ref 0), (1, .ref q1), (2, .int x2), (3, .int x3)] [] (lay X M)) (x2 x3 : Int32) (M : Mem) (hF : f_X10_tellSettingOff_40 K4 q1 x2 x3 M = some (R, M')) : RunF l D cy ad none YX10_tellSettingOff 2 0 0 none (lay X M') 0 0 40 [(0, .ref 0), (1, .ref q1), (2, .int x2), (3, .int x3)] [] (lay X M) := by
  unfold f_X10_tellSettingOff_40 at hF
  refine g_aload_n (Y := YX10_tellSettingOff) (pc := 40) 0 dX10_tellSettingOff_40 rfl ?_
  refine g_iload_n (Y := YX10_tellSettingOff) (pc := 41) 2 dX10_tellSettingOff_41 rfl ?_
  obtain ⟨r3, M4, e5, hF⟩ := bd_some hF
  refine s_callVv (Y := YX10_tellSettingOff) (pc := 42) (as := [.int x2]) (st := []) (r_X10_tell  e5) miX10_tell lk_X10_252 dX10_tellSettingOff_42 k_0 rfl (Nat.le_of_ble_eq_true rfl) (Nat.le_of_ble_eq_true rfl) rfl ?_
  clear e5
  refine s_iinc (Y := YX10_tellSettingOff) (pc := 45) (j := 3) (L' := fun y => [(3, .int y), (0, .ref 0), (1, .ref q1), (2, .int x2)]) dX10_tellSettingOff_45 kI_1 rfl (Nat.le_of_ble_eq_true rfl) (fun _ => rfl) (fun v6 e => ?_)
  replace hF := vl_to e hF; clear e
  refine g_goto (Y := YX10_tellSettingOff) (pc := 48) (tgt := 4) dX10_tellSettingOff_48 rfl ?_
  refine g_loc [1, 2, 3, 0] rfl ?_
  exact hK4 _ _ _ hF
def f_X10_tellSettingOff_4 (q1 : Nat) : Nat → Int32 → Int32 → Mem → Option (Int32 × Mem)
  | 0, _, _, _ => none
  | n + 1, x2, x3, M =>
    if x3 < (M q1 1) then
      if 0 < x3 then
        gd (0 ≤ (x3 - 1) ∧ (x3 - 1).toNatClampNeg < 6) <|
        gd (0 ≤ x3 ∧ x3.toNatClampNeg < 6) <|
        bd (f_X1_gapOf (M (q1 + 1) (x3 - 1).toNatClampNeg) (M (q1 + 1) x3.toNatClampNeg) M) fun r9 M10 =>
        vl ((x2 + r9)) fun v12 =>
        f_X10_tellSettingOff_40 (f_X10_tellSettingOff_4 q1 n) q1 v12 x3 M10
      else
        f_X10_tellSettingOff_40 (f_X10_tellSettingOff_4 q1 n) q1 x2 x3 M
    else
      some (0, M)
set_option maxRecDepth 100000 in
theorem w_X10_tellSettingOff_4 {R : Int32} {M' : Mem} {q1 : Nat} (hq1 : isOr q1) : ∀ (n : Nat) (x2 x3 : Int32) (M : Mem), f_X10_tellSettingOff_4 q1 n x2 x3 M = some (R, M') → RunF l D cy ad none YX10_tellSettingOff 2 0 0 none (lay X M') 0 0 4 [(0, .ref 0), (1, .ref q1), (2, .int x2), (3, .int x3)] [] (lay X M) := by
  intro n
  induction n with
  | zero => intro x2 x3 M hF; exact absurd hF (by unfold f_X10_tellSettingOff_4; exact fun h => nomatch h)
  | succ n ih =>
    intro x2 x3 M hF
    unfold f_X10_tellSettingOff_4 at hF
    refine g_iload_n (Y := YX10_tellSettingOff) (pc := 4) 3 dX10_tellSettingOff_4 rfl ?_
    refine g_aload_n (Y := YX10_tellSettingOff) (pc := 5) 1 dX10_tellSettingOff_5 rfl ?_
    refine u_getI (Y := YX10_tellSettingOff) (pc := 6) dX10_tellSettingOff_6 fl_X10_303 (or_k hq1) ?_
    refine g_icmp_ge (Y := YX10_tellSettingOff) (pc := 9) (tgt := 51) dX10_tellSettingOff_9 rfl (fun c1 => ?_) (fun c1 => ?_)
    · replace hF := if_f c1 hF
      exact s_vret (Y := YX10_tellSettingOff) (pc := 51) dX10_tellSettingOff_51 rfl hF
    · replace hF := if_t c1 hF
      refine g_iload_n (Y := YX10_tellSettingOff) (pc := 12) 3 dX10_tellSettingOff_12 rfl ?_
      refine g_if_le (Y := YX10_tellSettingOff) (pc := 13) (tgt := 40) dX10_tellSettingOff_13 rfl (fun c2 => ?_) (fun c2 => ?_)
      · replace hF := if_f c2 hF
        exact w_X10_tellSettingOff_40 hq1 ih _ _ _ hF
      · replace hF := if_t c2 hF
        refine g_iload_n (Y := YX10_tellSettingOff) (pc := 16) 2 dX10_tellSettingOff_16 rfl ?_
        refine g_aload_n (Y := YX10_tellSettingOff) (pc := 17) 0 dX10_tellSettingOff_17 rfl ?_
        refine u_getR (Y := YX10_tellSettingOff) (pc := 18) (j := 3) dX10_tellSettingOff_18 fl_X10_19 k_0 rf_0_1 ?_
        refine g_aload_n (Y := YX10_tellSettingOff) (pc := 21) 1 dX10_tellSettingOff_21 rfl ?_
        refine u_getR (Y := YX10_tellSettingOff) (pc := 22) (j := (q1 + 1)) dX10_tellSettingOff_22 fl_X10_307 (or_k hq1) (or_r0 hq1) ?_
        refine g_iload_n (Y := YX10_tellSettingOff) (pc := 25) 3 dX10_tellSettingOff_25 rfl ?_
        refine g_iconst (Y := YX10_tellSettingOff) (pc := 26) dX10_tellSettingOff_26 kI_1 ?_
        refine g_isub (Y := YX10_tellSettingOff) (pc := 27) dX10_tellSettingOff_27 ?_
        obtain ⟨g7, hF⟩ := gd_some hF
        refine s_iald (Y := YX10_tellSettingOff) (pc := 28) dX10_tellSettingOff_28 (or_k1 hq1) (or_n1 hq1) g7 ?_
        refine g_aload_n (Y := YX10_tellSettingOff) (pc := 29) 1 dX10_tellSettingOff_29 rfl ?_
        refine u_getR (Y := YX10_tellSettingOff) (pc := 30) (j := (q1 + 1)) dX10_tellSettingOff_30 fl_X10_307 (or_k hq1) (or_r0 hq1) ?_
        refine g_iload_n (Y := YX10_tellSettingOff) (pc := 33) 3 dX10_tellSettingOff_33 rfl ?_
        obtain ⟨g8, hF⟩ := gd_some hF
        refine s_iald (Y := YX10_tellSettingOff) (pc := 34) dX10_tellSettingOff_34 (or_k1 hq1) (or_n1 hq1) g8 ?_
        obtain ⟨r9, M10, e11, hF⟩ := bd_some hF
        refine s_callVi (Y := YX10_tellSettingOff) (pc := 35) (as := [.int (M (q1 + 1) (x3 - 1).toNatClampNeg), .int (M (q1 + 1) x3.toNatClampNeg)]) (st := [.int x2]) (r_X1_gapOf  e11) miX1_gapOf lk_X10_329 dX10_tellSettingOff_35 k_3 rfl (Nat.le_of_ble_eq_true rfl) (Nat.le_of_ble_eq_true rfl) rfl ?_
        clear e11
        refine g_iadd (Y := YX10_tellSettingOff) (pc := 38) dX10_tellSettingOff_38 ?_
        refine g_nm (fun v12 e => ?_)
        replace hF := vl_to e hF; clear e
        refine g_istore_n (Y := YX10_tellSettingOff) (pc := 39) (L' := [(2, .int v12), (0, .ref 0), (1, .ref q1), (3, .int x3)]) dX10_tellSettingOff_39 (Nat.le_of_ble_eq_true rfl) rfl ?_
        refine g_loc [1, 2, 0, 3] rfl ?_
        exact w_X10_tellSettingOff_40 hq1 ih _ _ _ hF
def f_X10_tellSettingOff_0 (q1 : Nat) (M : Mem) : Option (Int32 × Mem) :=
  f_X10_tellSettingOff_4 q1 FU 0 0 M
set_option maxRecDepth 100000 in
theorem w_X10_tellSettingOff_0 {R : Int32} {M' : Mem} {q1 : Nat} (hq1 : isOr q1) (M : Mem) (hF : f_X10_tellSettingOff_0 q1  M = some (R, M')) : RunF l D cy ad none YX10_tellSettingOff 2 0 0 none (lay X M') 0 0 0 [(0, .ref 0), (1, .ref q1)] [] (lay X M) := by
  unfold f_X10_tellSettingOff_0 at hF
  refine g_iconst (Y := YX10_tellSettingOff) (pc := 0) dX10_tellSettingOff_0 kI_0 ?_
  refine g_istore_n (Y := YX10_tellSettingOff) (pc := 1) (L' := [(2, .int 0), (0, .ref 0), (1, .ref q1)]) dX10_tellSettingOff_1 (Nat.le_of_ble_eq_true rfl) rfl ?_
  refine g_iconst (Y := YX10_tellSettingOff) (pc := 2) dX10_tellSettingOff_2 kI_0 ?_
  refine g_istore_n (Y := YX10_tellSettingOff) (pc := 3) (L' := [(3, .int 0), (2, .int 0), (0, .ref 0), (1, .ref q1)]) dX10_tellSettingOff_3 (Nat.le_of_ble_eq_true rfl) rfl ?_
  refine g_loc [2, 3, 1, 0] rfl ?_
  exact w_X10_tellSettingOff_4 hq1 _ _ _ _ hF
def f_X10_tellSettingOff (q1 : Nat) (M : Mem) : Option (Int32 × Mem) := f_X10_tellSettingOff_0 q1 M
theorem r_X10_tellSettingOff {q1 : Nat} {R : Int32} {M M' : Mem} (hq1 : isOr q1) (hF : f_X10_tellSettingOff q1 M = some (R, M')) : RunS l D cy ad YX10_tellSettingOff 2 [.ref 0, .ref q1] X M none M' := Run.of 1 (miX10_tellSettingOff).1 (Nat.le_of_ble_eq_true rfl) (w_X10_tellSettingOff_0 hq1 _ hF)
def f_X10_smooth_12  (M : Mem) : Option (Int32 × Mem) :=
  some ((-1), M)
set_option maxRecDepth 100000 in
theorem w_X10_smooth_12 {R : Int32} {M' : Mem}  (M : Mem) (hF : f_X10_smooth_12  M = some (R, M')) : RunF l D cy ad none YX10_smooth 3 0 0 (some (.int R)) (lay X M') 0 0 12 [] [] (lay X M) := by
  unfold f_X10_smooth_12 at hF
  refine g_iconst (Y := YX10_smooth) (pc := 12) dX10_smooth_12 kI_m1 ?_
  exact s_iret (Y := YX10_smooth) (pc := 13) dX10_smooth_13 rfl hF
def f_X10_smooth_102  (x2 : Int32) (M : Mem) : Option (Int32 × Mem) :=
  bd (f_X10_clearRow M) fun _ M15 =>
  bd (f_X10_tellFound M15) fun _ M18 =>
  bd (f_X10_tellSettingOff 126 M18) fun _ M21 =>
  some (x2, M21)
set_option maxRecDepth 100000 in
theorem w_X10_smooth_102 {R : Int32} {M' : Mem}  (x2 : Int32) (M : Mem) (hF : f_X10_smooth_102 x2 M = some (R, M')) : RunF l D cy ad none YX10_smooth 3 0 0 (some (.int R)) (lay X M') 0 0 102 [(0, .ref 0), (2, .int x2)] [] (lay X M) := by
  unfold f_X10_smooth_102 at hF
  refine g_aload_n (Y := YX10_smooth) (pc := 102) 0 dX10_smooth_102 rfl ?_
  obtain ⟨r14, M15, e16, hF⟩ := bd_some hF
  refine s_callVv (Y := YX10_smooth) (pc := 103) (as := []) (st := []) (r_X10_clearRow  e16) miX10_clearRow lk_X10_246 dX10_smooth_103 k_0 rfl (Nat.le_of_ble_eq_true rfl) (Nat.le_of_ble_eq_true rfl) rfl ?_
  clear e16
  refine g_aload_n (Y := YX10_smooth) (pc := 106) 0 dX10_smooth_106 rfl ?_
  obtain ⟨r17, M18, e19, hF⟩ := bd_some hF
  refine s_callVv (Y := YX10_smooth) (pc := 107) (as := []) (st := []) (r_X10_tellFound  e19) miX10_tellFound lk_X10_316 dX10_smooth_107 k_0 rfl (Nat.le_of_ble_eq_true rfl) (Nat.le_of_ble_eq_true rfl) rfl ?_
  clear e19
  refine g_aload_n (Y := YX10_smooth) (pc := 110) 0 dX10_smooth_110 rfl ?_
  refine g_aload_n (Y := YX10_smooth) (pc := 111) 0 dX10_smooth_111 rfl ?_
  refine u_getR (Y := YX10_smooth) (pc := 112) (j := 126) dX10_smooth_112 fl_X10_77 k_0 rf_0_12 ?_
  obtain ⟨r20, M21, e22, hF⟩ := bd_some hF
  refine s_callVv (Y := YX10_smooth) (pc := 115) (as := [.ref 126]) (st := []) (r_X10_tellSettingOff (Or.inr rfl) e22) miX10_tellSettingOff lk_X10_348 dX10_smooth_115 k_0 rfl (Nat.le_of_ble_eq_true rfl) (Nat.le_of_ble_eq_true rfl) rfl ?_
  clear e22
  refine g_iload_n (Y := YX10_smooth) (pc := 118) 1 dX10_smooth_118 rfl ?_
  exact s_iret (Y := YX10_smooth) (pc := 119) dX10_smooth_119 rfl hF
def f_X10_smooth_88 (K40 : Int32 → Int32 → Int32 → Mem → Option (Int32 × Mem)) (x2 : Int32) (x4 : Int32) (M : Mem) : Option (Int32 × Mem) :=
  bd (f_X5_turnToNext 124 M) fun r31 M32 =>
  vl (x4 + 1) fun v34 =>
  K40 x2 r31 v34 M32
set_option maxRecDepth 100000 in
theorem w_X10_smooth_88 {R : Int32} {M' : Mem} {K40 : Int32 → Int32 → Int32 → Mem → Option (Int32 × Mem)} (hK40 : ∀ (x2 x3 x4 : Int32) (M : Mem), K40 x2 x3 x4 M = some (R, M') → RunF l D cy ad none YX10_smooth 3 0 0 (some (.int R)) (lay X M') 0 0 40 [(0, .ref 0), (2, .int x2), (3, .int x3), (4, .int x4)] [] (lay X M)) (x2 x4 : Int32) (M : Mem) (hF : f_X10_smooth_88 K40 x2 x4 M = some (R, M')) : RunF l D cy ad none YX10_smooth 3 0 0 (some (.int R)) (lay X M') 0 0 88 [(0, .ref 0), (2, .int x2), (4, .int x4)] [] (lay X M) := by
  unfold f_X10_smooth_88 at hF
  refine g_aload_n (Y := YX10_smooth) (pc := 88) 0 dX10_smooth_88 rfl ?_
  refine u_getR (Y := YX10_smooth) (pc := 89) (j := 124) dX10_smooth_89 fl_X10_73 k_0 rf_0_11 ?_
  obtain ⟨r31, M32, e33, hF⟩ := bd_some hF
  refine s_callVi (Y := YX10_smooth) (pc := 92) (as := []) (st := []) (r_X5_turnToNext (Or.inl rfl) e33) miX5_turnToNext lk_X10_326 dX10_smooth_92 k_124 rfl (Nat.le_of_ble_eq_true rfl) (Nat.le_of_ble_eq_true rfl) rfl ?_
  clear e33
  refine g_istore_n (Y := YX10_smooth) (pc := 95) (L' := [(3, .int r31), (0, .ref 0), (2, .int x2), (4, .int x4)]) dX10_smooth_95 (Nat.le_of_ble_eq_true rfl) rfl ?_
  refine s_iinc (Y := YX10_smooth) (pc := 96) (j := 3) (L' := fun y => [(4, .int y), (3, .int r31), (0, .ref 0), (2, .int x2)]) dX10_smooth_96 kI_1 rfl (Nat.le_of_ble_eq_true rfl) (fun _ => rfl) (fun v34 e => ?_)
  replace hF := vl_to e hF; clear e
  refine g_goto (Y := YX10_smooth) (pc := 99) (tgt := 40) dX10_smooth_99 rfl ?_
  refine g_loc [2, 3, 1, 0] rfl ?_
  exact hK40 _ _ _ _ hF
def f_X10_smooth_74 (K40 : Int32 → Int32 → Int32 → Mem → Option (Int32 × Mem)) (x4 : Int32) (x5 : Int32) (M : Mem) : Option (Int32 × Mem) :=
  bd (f_X5_copy 126 124 M) fun _ M29 =>
  f_X10_smooth_88 K40 x5 x4 M29
set_option maxRecDepth 100000 in
theorem w_X10_smooth_74 {R : Int32} {M' : Mem} {K40 : Int32 → Int32 → Int32 → Mem → Option (Int32 × Mem)} (hK40 : ∀ (x2 x3 x4 : Int32) (M : Mem), K40 x2 x3 x4 M = some (R, M') → RunF l D cy ad none YX10_smooth 3 0 0 (some (.int R)) (lay X M') 0 0 40 [(0, .ref 0), (2, .int x2), (3, .int x3), (4, .int x4)] [] (lay X M)) (x4 x5 : Int32) (M : Mem) (hF : f_X10_smooth_74 K40 x4 x5 M = some (R, M')) : RunF l D cy ad none YX10_smooth 3 0 0 (some (.int R)) (lay X M') 0 0 74 [(0, .ref 0), (4, .int x4), (5, .int x5)] [] (lay X M) := by
  unfold f_X10_smooth_74 at hF
  refine g_iload (Y := YX10_smooth) (pc := 74) 2 dX10_smooth_74 rfl ?_
  refine g_istore_n (Y := YX10_smooth) (pc := 76) (L' := [(2, .int x5), (0, .ref 0), (4, .int x4), (5, .int x5)]) dX10_smooth_76 (Nat.le_of_ble_eq_true rfl) rfl ?_
  refine g_aload_n (Y := YX10_smooth) (pc := 77) 1 dX10_smooth_77 rfl ?_
  refine u_getR (Y := YX10_smooth) (pc := 78) (j := 126) dX10_smooth_78 fl_X10_77 k_0 rf_0_12 ?_
  refine g_aload_n (Y := YX10_smooth) (pc := 81) 1 dX10_smooth_81 rfl ?_
  refine u_getR (Y := YX10_smooth) (pc := 82) (j := 124) dX10_smooth_82 fl_X10_73 k_0 rf_0_11 ?_
  obtain ⟨r28, M29, e30, hF⟩ := bd_some hF
  refine s_callVv (Y := YX10_smooth) (pc := 85) (as := [.ref 124]) (st := []) (r_X5_copy (Or.inr rfl) (Or.inl rfl) e30) miX5_copy lk_X10_323 dX10_smooth_85 k_126 rfl (Nat.le_of_ble_eq_true rfl) (Nat.le_of_ble_eq_true rfl) rfl ?_
  clear e30
  refine g_loc [1, 0, 2] rfl ?_
  exact w_X10_smooth_88 hK40 _ _ _ hF
def f_X10_smooth_40  : Nat → Int32 → Int32 → Int32 → Mem → Option (Int32 × Mem)
  | 0, _, _, _, _ => none
  | n + 1, x2, x3, x4, M =>
    if x4 < 720 then
      if x3 = (-1) then
        f_X10_smooth_102 x2 M
      else
        bd (f_X10_smoothMinutes 124 M) fun r24 M25 =>
        if x2 = (-1) then
          f_X10_smooth_74 (f_X10_smooth_40 n) x4 r24 M25
        else
          if r24 < x2 then
            f_X10_smooth_74 (f_X10_smooth_40 n) x4 r24 M25
          else
            f_X10_smooth_88 (f_X10_smooth_40 n) x2 x4 M25
    else
      f_X10_smooth_102 x2 M
set_option maxRecDepth 100000 in
theorem w_X10_smooth_40 {R : Int32} {M' : Mem}  : ∀ (n : Nat) (x2 x3 x4 : Int32) (M : Mem), f_X10_smooth_40 n x2 x3 x4 M = some (R, M') → RunF l D cy ad none YX10_smooth 3 0 0 (some (.int R)) (lay X M') 0 0 40 [(0, .ref 0), (2, .int x2), (3, .int x3), (4, .int x4)] [] (lay X M) := by
  intro n
  induction n with
  | zero => intro x2 x3 x4 M hF; exact absurd hF (by unfold f_X10_smooth_40; exact fun h => nomatch h)
  | succ n ih =>
    intro x2 x3 x4 M hF
    unfold f_X10_smooth_40 at hF
    refine g_iload (Y := YX10_smooth) (pc := 40) 3 dX10_smooth_40 rfl ?_
    refine g_sipush (Y := YX10_smooth) (pc := 42) dX10_smooth_42 kS_720 ?_
    refine g_icmp_ge (Y := YX10_smooth) (pc := 45) (tgt := 102) dX10_smooth_45 rfl (fun c13 => ?_) (fun c13 => ?_)
    · replace hF := if_f c13 hF
      refine g_loc [0, 1] rfl ?_
      exact w_X10_smooth_102  _ _ hF
    · replace hF := if_t c13 hF
      refine g_iload_n (Y := YX10_smooth) (pc := 48) 2 dX10_smooth_48 rfl ?_
      refine g_iconst (Y := YX10_smooth) (pc := 49) dX10_smooth_49 kI_m1 ?_
      refine g_icmp_eq (Y := YX10_smooth) (pc := 50) (tgt := 102) dX10_smooth_50 rfl (fun c23 => ?_) (fun c23 => ?_)
      · replace hF := if_t c23 hF
        refine g_loc [0, 1] rfl ?_
        exact w_X10_smooth_102  _ _ hF
      · replace hF := if_f c23 hF
        refine g_aload_n (Y := YX10_smooth) (pc := 53) 0 dX10_smooth_53 rfl ?_
        refine g_aload_n (Y := YX10_smooth) (pc := 54) 0 dX10_smooth_54 rfl ?_
        refine u_getR (Y := YX10_smooth) (pc := 55) (j := 124) dX10_smooth_55 fl_X10_73 k_0 rf_0_11 ?_
        obtain ⟨r24, M25, e26, hF⟩ := bd_some hF
        refine s_callVi (Y := YX10_smooth) (pc := 58) (as := [.ref 124]) (st := []) (r_X10_smoothMinutes (Or.inl rfl) e26) miX10_smoothMinutes lk_X10_344 dX10_smooth_58 k_0 rfl (Nat.le_of_ble_eq_true rfl) (Nat.le_of_ble_eq_true rfl) rfl ?_
        clear e26
        refine g_istore (Y := YX10_smooth) (pc := 61) (L' := [(5, .int r24), (0, .ref 0), (2, .int x2), (3, .int x3), (4, .int x4)]) dX10_smooth_61 (Nat.le_of_ble_eq_true rfl) rfl ?_
        refine g_iload_n (Y := YX10_smooth) (pc := 63) 2 dX10_smooth_63 rfl ?_
        refine g_iconst (Y := YX10_smooth) (pc := 64) dX10_smooth_64 kI_m1 ?_
        refine g_icmp_eq (Y := YX10_smooth) (pc := 65) (tgt := 74) dX10_smooth_65 rfl (fun c27 => ?_) (fun c27 => ?_)
        · replace hF := if_t c27 hF
          refine g_loc [1, 4, 0] rfl ?_
          exact w_X10_smooth_74 ih _ _ _ hF
        · replace hF := if_f c27 hF
          refine g_iload (Y := YX10_smooth) (pc := 68) 0 dX10_smooth_68 rfl ?_
          refine g_iload_n (Y := YX10_smooth) (pc := 70) 2 dX10_smooth_70 rfl ?_
          refine g_icmp_ge (Y := YX10_smooth) (pc := 71) (tgt := 88) dX10_smooth_71 rfl (fun c35 => ?_) (fun c35 => ?_)
          · replace hF := if_f c35 hF
            refine g_loc [1, 2, 4] rfl ?_
            exact w_X10_smooth_88 ih _ _ _ hF
          · replace hF := if_t c35 hF
            refine g_loc [1, 4, 0] rfl ?_
            exact w_X10_smooth_74 ih _ _ _ hF
def f_X10_smooth_0  (x1 : Int32) (M : Mem) : Option (Int32 × Mem) :=
  bd (f_X10_areThere x1 M) fun r1 M2 =>
  if r1 = 0 then
    f_X10_smooth_12 M2
  else
    if x1 = 0 then
      f_X10_smooth_12 M2
    else
      bd (f_X10_goOneWay x1 M2) fun r6 M7 =>
      if r6 = 0 then
        some ((-2), M7)
      else
        bd (f_X5_begin 124 x1 M7) fun _ M11 =>
        f_X10_smooth_40 FU (-1) 0 0 M11
set_option maxRecDepth 100000 in
theorem w_X10_smooth_0 {R : Int32} {M' : Mem}  (x1 : Int32) (M : Mem) (hF : f_X10_smooth_0 x1 M = some (R, M')) : RunF l D cy ad none YX10_smooth 3 0 0 (some (.int R)) (lay X M') 0 0 0 [(0, .ref 0), (1, .int x1)] [] (lay X M) := by
  unfold f_X10_smooth_0 at hF
  refine g_aload_n (Y := YX10_smooth) (pc := 0) 0 dX10_smooth_0 rfl ?_
  refine g_iload_n (Y := YX10_smooth) (pc := 1) 1 dX10_smooth_1 rfl ?_
  obtain ⟨r1, M2, e3, hF⟩ := bd_some hF
  refine s_callVi (Y := YX10_smooth) (pc := 2) (as := [.int x1]) (st := []) (r_X10_areThere  e3) miX10_areThere lk_X10_336 dX10_smooth_2 k_0 rfl (Nat.le_of_ble_eq_true rfl) (Nat.le_of_ble_eq_true rfl) rfl ?_
  clear e3
  refine g_if_eq (Y := YX10_smooth) (pc := 5) (tgt := 12) dX10_smooth_5 rfl (fun c4 => ?_) (fun c4 => ?_)
  · replace hF := if_t c4 hF
    refine g_loc [] rfl ?_
    exact w_X10_smooth_12  _ hF
  · replace hF := if_f c4 hF
    refine g_iload_n (Y := YX10_smooth) (pc := 8) 1 dX10_smooth_8 rfl ?_
    refine g_if_ne (Y := YX10_smooth) (pc := 9) (tgt := 14) dX10_smooth_9 rfl (fun c5 => ?_) (fun c5 => ?_)
    · replace hF := if_f c5 hF
      refine g_aload_n (Y := YX10_smooth) (pc := 14) 0 dX10_smooth_14 rfl ?_
      refine g_iload_n (Y := YX10_smooth) (pc := 15) 1 dX10_smooth_15 rfl ?_
      obtain ⟨r6, M7, e8, hF⟩ := bd_some hF
      refine s_callVi (Y := YX10_smooth) (pc := 16) (as := [.int x1]) (st := []) (r_X10_goOneWay  e8) miX10_goOneWay lk_X10_339 dX10_smooth_16 k_0 rfl (Nat.le_of_ble_eq_true rfl) (Nat.le_of_ble_eq_true rfl) rfl ?_
      clear e8
      refine g_if_ne (Y := YX10_smooth) (pc := 19) (tgt := 25) dX10_smooth_19 rfl (fun c9 => ?_) (fun c9 => ?_)
      · replace hF := if_f c9 hF
        refine g_iconst (Y := YX10_smooth) (pc := 25) dX10_smooth_25 kI_m1 ?_
        refine g_istore_n (Y := YX10_smooth) (pc := 26) (L' := [(2, .int (-1)), (0, .ref 0), (1, .int x1)]) dX10_smooth_26 (Nat.le_of_ble_eq_true rfl) rfl ?_
        refine g_iconst (Y := YX10_smooth) (pc := 27) dX10_smooth_27 kI_0 ?_
        refine g_istore_n (Y := YX10_smooth) (pc := 28) (L' := [(3, .int 0), (2, .int (-1)), (0, .ref 0), (1, .int x1)]) dX10_smooth_28 (Nat.le_of_ble_eq_true rfl) rfl ?_
        refine g_aload_n (Y := YX10_smooth) (pc := 29) 2 dX10_smooth_29 rfl ?_
        refine u_getR (Y := YX10_smooth) (pc := 30) (j := 124) dX10_smooth_30 fl_X10_73 k_0 rf_0_11 ?_
        refine g_iload_n (Y := YX10_smooth) (pc := 33) 3 dX10_smooth_33 rfl ?_
        obtain ⟨r10, M11, e12, hF⟩ := bd_some hF
        refine s_callVv (Y := YX10_smooth) (pc := 34) (as := [.int x1]) (st := []) (r_X5_begin (Or.inl rfl) e12) miX5_begin lk_X10_342 dX10_smooth_34 k_124 rfl (Nat.le_of_ble_eq_true rfl) (Nat.le_of_ble_eq_true rfl) rfl ?_
        clear e12
        refine g_iconst (Y := YX10_smooth) (pc := 37) dX10_smooth_37 kI_0 ?_
        refine g_istore (Y := YX10_smooth) (pc := 38) (L' := [(4, .int 0), (3, .int 0), (2, .int (-1)), (0, .ref 0), (1, .int x1)]) dX10_smooth_38 (Nat.le_of_ble_eq_true rfl) rfl ?_
        refine g_loc [3, 2, 1, 0] rfl ?_
        exact w_X10_smooth_40  _ _ _ _ _ hF
      · replace hF := if_t c9 hF
        refine g_bipush (Y := YX10_smooth) (pc := 22) dX10_smooth_22 kB_m2 ?_
        exact s_iret (Y := YX10_smooth) (pc := 24) dX10_smooth_24 rfl hF
    · replace hF := if_t c5 hF
      refine g_loc [] rfl ?_
      exact w_X10_smooth_12  _ hF
def f_X10_smooth (x1 : Int32) (M : Mem) : Option (Int32 × Mem) := f_X10_smooth_0 x1 M
theorem r_X10_smooth {x1 R : Int32} {M M' : Mem}  (hF : f_X10_smooth x1 M = some (R, M')) : RunS l D cy ad YX10_smooth 3 [.ref 0, .int x1] X M (some (.int R)) M' := Run.of 1 (miX10_smooth).1 (Nat.le_of_ble_eq_true rfl) (w_X10_smooth_0  _ _ hF)
def f_X1_longestPlace_46 (K4 : Int32 → Int32 → Int32 → Mem → Option (Int32 × Mem)) (x1 : Int32) (x2 : Int32) (x3 : Int32) (M : Mem) : Option (Int32 × Mem) :=
  vl (x3 + 1) fun v6 =>
  K4 x1 x2 v6 M
set_option maxRecDepth 100000 in
theorem w_X1_longestPlace_46 {R : Int32} {M' : Mem} {K4 : Int32 → Int32 → Int32 → Mem → Option (Int32 × Mem)} (hK4 : ∀ (x1 x2 x3 : Int32) (M : Mem), K4 x1 x2 x3 M = some (R, M') → RunF l D cy ad none YX1_longestPlace 1 0 0 (some (.int R)) (lay X M') 0 0 4 [(0, .ref 3), (1, .int x1), (2, .int x2), (3, .int x3)] [] (lay X M)) (x1 x2 x3 : Int32) (M : Mem) (hF : f_X1_longestPlace_46 K4 x1 x2 x3 M = some (R, M')) : RunF l D cy ad none YX1_longestPlace 1 0 0 (some (.int R)) (lay X M') 0 0 46 [(0, .ref 3), (1, .int x1), (2, .int x2), (3, .int x3)] [] (lay X M) := by
  unfold f_X1_longestPlace_46 at hF
  refine s_iinc (Y := YX1_longestPlace) (pc := 46) (j := 3) (L' := fun y => [(3, .int y), (0, .ref 3), (1, .int x1), (2, .int x2)]) dX1_longestPlace_46 kI_1 rfl (Nat.le_of_ble_eq_true rfl) (fun _ => rfl) (fun v6 e => ?_)
  replace hF := vl_to e hF; clear e
  refine g_goto (Y := YX1_longestPlace) (pc := 49) (tgt := 4) dX1_longestPlace_49 rfl ?_
  refine g_loc [1, 2, 3, 0] rfl ?_
  exact hK4 _ _ _ _ hF
def f_X1_longestPlace_44 (K4 : Int32 → Int32 → Int32 → Mem → Option (Int32 × Mem)) (x1 : Int32) (x3 : Int32) (M : Mem) : Option (Int32 × Mem) :=
  f_X1_longestPlace_46 K4 x1 x3 x3 M
set_option maxRecDepth 100000 in
theorem w_X1_longestPlace_44 {R : Int32} {M' : Mem} {K4 : Int32 → Int32 → Int32 → Mem → Option (Int32 × Mem)} (hK4 : ∀ (x1 x2 x3 : Int32) (M : Mem), K4 x1 x2 x3 M = some (R, M') → RunF l D cy ad none YX1_longestPlace 1 0 0 (some (.int R)) (lay X M') 0 0 4 [(0, .ref 3), (1, .int x1), (2, .int x2), (3, .int x3)] [] (lay X M)) (x1 x3 : Int32) (M : Mem) (hF : f_X1_longestPlace_44 K4 x1 x3 M = some (R, M')) : RunF l D cy ad none YX1_longestPlace 1 0 0 (some (.int R)) (lay X M') 0 0 44 [(0, .ref 3), (1, .int x1), (3, .int x3)] [] (lay X M) := by
  unfold f_X1_longestPlace_44 at hF
  refine g_iload_n (Y := YX1_longestPlace) (pc := 44) 2 dX1_longestPlace_44 rfl ?_
  refine g_istore_n (Y := YX1_longestPlace) (pc := 45) (L' := [(2, .int x3), (0, .ref 3), (1, .int x1), (3, .int x3)]) dX1_longestPlace_45 (Nat.le_of_ble_eq_true rfl) rfl ?_
  refine g_loc [1, 2, 0, 3] rfl ?_
  exact w_X1_longestPlace_46 hK4 _ _ _ _ hF
def f_X1_longestPlace_4  : Nat → Int32 → Int32 → Int32 → Mem → Option (Int32 × Mem)
  | 0, _, _, _, _ => none
  | n + 1, x1, x2, x3, M =>
    if x3 < (M 3 0) then
      bd (f_X1_isCorridor x3 M) fun r2 M3 =>
      if r2 = 0 then
        if x2 = (-1) then
          f_X1_longestPlace_44 (f_X1_longestPlace_4 n) x1 x3 M3
        else
          gd (0 ≤ x1 ∧ x1.toNatClampNeg < 6) <|
          gd (0 ≤ x3 ∧ x3.toNatClampNeg < 6) <|
          vl ((M3 (17 + x1.toNatClampNeg) x3.toNatClampNeg)) fun v10 =>
          gd (0 ≤ x1 ∧ x1.toNatClampNeg < 6) <|
          gd (0 ≤ x2 ∧ x2.toNatClampNeg < 6) <|
          vl ((M3 (17 + x1.toNatClampNeg) x2.toNatClampNeg)) fun v13 =>
          if v13 < v10 then
            f_X1_longestPlace_44 (f_X1_longestPlace_4 n) x1 x3 M3
          else
            f_X1_longestPlace_46 (f_X1_longestPlace_4 n) x1 x2 x3 M3
      else
        f_X1_longestPlace_46 (f_X1_longestPlace_4 n) x1 x2 x3 M3
    else
      some (x2, M)
set_option maxRecDepth 100000 in
theorem w_X1_longestPlace_4 {R : Int32} {M' : Mem}  : ∀ (n : Nat) (x1 x2 x3 : Int32) (M : Mem), f_X1_longestPlace_4 n x1 x2 x3 M = some (R, M') → RunF l D cy ad none YX1_longestPlace 1 0 0 (some (.int R)) (lay X M') 0 0 4 [(0, .ref 3), (1, .int x1), (2, .int x2), (3, .int x3)] [] (lay X M) := by
  intro n
  induction n with
  | zero => intro x1 x2 x3 M hF; exact absurd hF (by unfold f_X1_longestPlace_4; exact fun h => nomatch h)
  | succ n ih =>
    intro x1 x2 x3 M hF
    unfold f_X1_longestPlace_4 at hF
    refine g_iload_n (Y := YX1_longestPlace) (pc := 4) 3 dX1_longestPlace_4 rfl ?_
    refine g_aload_n (Y := YX1_longestPlace) (pc := 5) 0 dX1_longestPlace_5 rfl ?_
    refine u_getI (Y := YX1_longestPlace) (pc := 6) dX1_longestPlace_6 fl_X1_9 k_3 ?_
    refine g_icmp_ge (Y := YX1_longestPlace) (pc := 9) (tgt := 52) dX1_longestPlace_9 rfl (fun c1 => ?_) (fun c1 => ?_)
    · replace hF := if_f c1 hF
      refine g_iload_n (Y := YX1_longestPlace) (pc := 52) 2 dX1_longestPlace_52 rfl ?_
      exact s_iret (Y := YX1_longestPlace) (pc := 53) dX1_longestPlace_53 rfl hF
    · replace hF := if_t c1 hF
      refine g_aload_n (Y := YX1_longestPlace) (pc := 12) 0 dX1_longestPlace_12 rfl ?_
      refine g_iload_n (Y := YX1_longestPlace) (pc := 13) 3 dX1_longestPlace_13 rfl ?_
      obtain ⟨r2, M3, e4, hF⟩ := bd_some hF
      refine s_callVi (Y := YX1_longestPlace) (pc := 14) (as := [.int x3]) (st := []) (r_X1_isCorridor  e4) miX1_isCorridor lk_X1_69 dX1_longestPlace_14 k_3 rfl (Nat.le_of_ble_eq_true rfl) (Nat.le_of_ble_eq_true rfl) rfl ?_
      clear e4
      refine g_if_ne (Y := YX1_longestPlace) (pc := 17) (tgt := 46) dX1_longestPlace_17 rfl (fun c5 => ?_) (fun c5 => ?_)
      · replace hF := if_f c5 hF
        exact w_X1_longestPlace_46 ih _ _ _ _ hF
      · replace hF := if_t c5 hF
        refine g_iload_n (Y := YX1_longestPlace) (pc := 20) 2 dX1_longestPlace_20 rfl ?_
        refine g_iconst (Y := YX1_longestPlace) (pc := 21) dX1_longestPlace_21 kI_m1 ?_
        refine g_icmp_eq (Y := YX1_longestPlace) (pc := 22) (tgt := 44) dX1_longestPlace_22 rfl (fun c7 => ?_) (fun c7 => ?_)
        · replace hF := if_t c7 hF
          refine g_loc [0, 1, 3] rfl ?_
          exact w_X1_longestPlace_44 ih _ _ _ hF
        · replace hF := if_f c7 hF
          refine g_aload_n (Y := YX1_longestPlace) (pc := 25) 0 dX1_longestPlace_25 rfl ?_
          refine u_getR (Y := YX1_longestPlace) (pc := 26) (j := 16) dX1_longestPlace_26 fl_X1_42 k_3 rf_3_9 ?_
          refine g_iload_n (Y := YX1_longestPlace) (pc := 29) 1 dX1_longestPlace_29 rfl ?_
          obtain ⟨g8, hF⟩ := gd_some hF
          refine s_aaldA (Y := YX1_longestPlace) (pc := 30) dX1_longestPlace_30 k_16 n_16 g8 (stay_r g8.2) ?_
          refine g_iload_n (Y := YX1_longestPlace) (pc := 31) 3 dX1_longestPlace_31 rfl ?_
          obtain ⟨g9, hF⟩ := gd_some hF
          refine s_iald (Y := YX1_longestPlace) (pc := 32) dX1_longestPlace_32 (stay_all _ g8.2).2.1 (stay_all _ g8.2).2.2 g9 ?_
          refine g_nm (fun v10 e => ?_)
          replace hF := vl_to e hF; clear e
          refine g_aload_n (Y := YX1_longestPlace) (pc := 33) 0 dX1_longestPlace_33 rfl ?_
          refine u_getR (Y := YX1_longestPlace) (pc := 34) (j := 16) dX1_longestPlace_34 fl_X1_42 k_3 rf_3_9 ?_
          refine g_iload_n (Y := YX1_longestPlace) (pc := 37) 1 dX1_longestPlace_37 rfl ?_
          obtain ⟨g11, hF⟩ := gd_some hF
          refine s_aaldA (Y := YX1_longestPlace) (pc := 38) dX1_longestPlace_38 k_16 n_16 g11 (stay_r g11.2) ?_
          refine g_iload_n (Y := YX1_longestPlace) (pc := 39) 2 dX1_longestPlace_39 rfl ?_
          obtain ⟨g12, hF⟩ := gd_some hF
          refine s_iald (Y := YX1_longestPlace) (pc := 40) dX1_longestPlace_40 (stay_all _ g11.2).2.1 (stay_all _ g11.2).2.2 g12 ?_
          refine g_nm (fun v13 e => ?_)
          replace hF := vl_to e hF; clear e
          refine g_icmp_le (Y := YX1_longestPlace) (pc := 41) (tgt := 46) dX1_longestPlace_41 rfl (fun c14 => ?_) (fun c14 => ?_)
          · replace hF := if_f c14 hF
            exact w_X1_longestPlace_46 ih _ _ _ _ hF
          · replace hF := if_t c14 hF
            refine g_loc [0, 1, 3] rfl ?_
            exact w_X1_longestPlace_44 ih _ _ _ hF
def f_X1_longestPlace_0  (x1 : Int32) (M : Mem) : Option (Int32 × Mem) :=
  f_X1_longestPlace_4 FU x1 (-1) 0 M
set_option maxRecDepth 100000 in
theorem w_X1_longestPlace_0 {R : Int32} {M' : Mem}  (x1 : Int32) (M : Mem) (hF : f_X1_longestPlace_0 x1 M = some (R, M')) : RunF l D cy ad none YX1_longestPlace 1 0 0 (some (.int R)) (lay X M') 0 0 0 [(0, .ref 3), (1, .int x1)] [] (lay X M) := by
  unfold f_X1_longestPlace_0 at hF
  refine g_iconst (Y := YX1_longestPlace) (pc := 0) dX1_longestPlace_0 kI_m1 ?_
  refine g_istore_n (Y := YX1_longestPlace) (pc := 1) (L' := [(2, .int (-1)), (0, .ref 3), (1, .int x1)]) dX1_longestPlace_1 (Nat.le_of_ble_eq_true rfl) rfl ?_
  refine g_iconst (Y := YX1_longestPlace) (pc := 2) dX1_longestPlace_2 kI_0 ?_
  refine g_istore_n (Y := YX1_longestPlace) (pc := 3) (L' := [(3, .int 0), (2, .int (-1)), (0, .ref 3), (1, .int x1)]) dX1_longestPlace_3 (Nat.le_of_ble_eq_true rfl) rfl ?_
  refine g_loc [2, 3, 1, 0] rfl ?_
  exact w_X1_longestPlace_4  _ _ _ _ _ hF
def f_X1_longestPlace (x1 : Int32) (M : Mem) : Option (Int32 × Mem) := f_X1_longestPlace_0 x1 M
theorem r_X1_longestPlace {x1 R : Int32} {M M' : Mem}  (hF : f_X1_longestPlace x1 M = some (R, M')) : RunS l D cy ad YX1_longestPlace 1 [.ref 3, .int x1] X M (some (.int R)) M' := Run.of 1 (miX1_longestPlace).1 (Nat.le_of_ble_eq_true rfl) (w_X1_longestPlace_0  _ _ hF)
def f_X10_every_77  (x3 : Int32) (t0 : Int32) (M : Mem) : Option (Int32 × Mem) :=
  bd (f_X10_tell t0 M) fun _ M24 =>
  some (x3, M24)
set_option maxRecDepth 100000 in
theorem w_X10_every_77 {R : Int32} {M' : Mem}  (x3 t0 : Int32) (M : Mem) (hF : f_X10_every_77 x3 t0 M = some (R, M')) : RunF l D cy ad none YX10_every 2 0 0 (some (.int R)) (lay X M') 0 0 77 [(3, .int x3)] [.int t0, .ref 0] (lay X M) := by
  unfold f_X10_every_77 at hF
  obtain ⟨r23, M24, e25, hF⟩ := bd_some hF
  refine s_callVv (Y := YX10_every) (pc := 77) (as := [.int t0]) (st := []) (r_X10_tell  e25) miX10_tell lk_X10_252 dX10_every_77 k_0 rfl (Nat.le_of_ble_eq_true rfl) (Nat.le_of_ble_eq_true rfl) rfl ?_
  clear e25
  refine g_iload_n (Y := YX10_every) (pc := 80) 0 dX10_every_80 rfl ?_
  exact s_iret (Y := YX10_every) (pc := 81) dX10_every_81 rfl hF
def f_X10_every_42  (x1 : Int32) (x2 : Int32) (t0 : Int32) (M : Mem) : Option (Int32 × Mem) :=
  bd (f_X10_clearRow M) fun _ M13 =>
  bd (f_X10_tell x2 M13) fun _ M16 =>
  if t0 = 0 then
    f_X10_every_77 t0 (-1) M16
  else
    bd (f_X1_wholeStay x1 M16) fun r19 M20 =>
    gd (¬ t0 = 0) <|
    f_X10_every_77 t0 (((300 - r19) / t0) + 1) M20
set_option maxRecDepth 100000 in
theorem w_X10_every_42 {R : Int32} {M' : Mem}  (x1 x2 t0 : Int32) (M : Mem) (hF : f_X10_every_42 x1 x2 t0 M = some (R, M')) : RunF l D cy ad none YX10_every 2 0 0 (some (.int R)) (lay X M') 0 0 42 [(0, .ref 0), (1, .int x1), (2, .int x2)] [.int t0] (lay X M) := by
  unfold f_X10_every_42 at hF
  refine g_istore_n (Y := YX10_every) (pc := 42) (L' := [(3, .int t0), (0, .ref 0), (1, .int x1), (2, .int x2)]) dX10_every_42 (Nat.le_of_ble_eq_true rfl) rfl ?_
  refine g_aload_n (Y := YX10_every) (pc := 43) 1 dX10_every_43 rfl ?_
  obtain ⟨r12, M13, e14, hF⟩ := bd_some hF
  refine s_callVv (Y := YX10_every) (pc := 44) (as := []) (st := []) (r_X10_clearRow  e14) miX10_clearRow lk_X10_246 dX10_every_44 k_0 rfl (Nat.le_of_ble_eq_true rfl) (Nat.le_of_ble_eq_true rfl) rfl ?_
  clear e14
  refine g_aload_n (Y := YX10_every) (pc := 47) 1 dX10_every_47 rfl ?_
  refine g_iload_n (Y := YX10_every) (pc := 48) 3 dX10_every_48 rfl ?_
  obtain ⟨r15, M16, e17, hF⟩ := bd_some hF
  refine s_callVv (Y := YX10_every) (pc := 49) (as := [.int x2]) (st := []) (r_X10_tell  e17) miX10_tell lk_X10_252 dX10_every_49 k_0 rfl (Nat.le_of_ble_eq_true rfl) (Nat.le_of_ble_eq_true rfl) rfl ?_
  clear e17
  refine g_aload_n (Y := YX10_every) (pc := 52) 1 dX10_every_52 rfl ?_
  refine g_iload_n (Y := YX10_every) (pc := 53) 0 dX10_every_53 rfl ?_
  refine g_if_ne (Y := YX10_every) (pc := 54) (tgt := 61) dX10_every_54 rfl (fun c18 => ?_) (fun c18 => ?_)
  · replace hF := if_f c18 hF
    refine g_sipush (Y := YX10_every) (pc := 61) dX10_every_61 kS_300 ?_
    refine g_aload_n (Y := YX10_every) (pc := 64) 1 dX10_every_64 rfl ?_
    refine u_getR (Y := YX10_every) (pc := 65) (j := 3) dX10_every_65 fl_X10_19 k_0 rf_0_1 ?_
    refine g_iload_n (Y := YX10_every) (pc := 68) 2 dX10_every_68 rfl ?_
    obtain ⟨r19, M20, e21, hF⟩ := bd_some hF
    refine s_callVi (Y := YX10_every) (pc := 69) (as := [.int x1]) (st := [.int 300, .ref 0]) (r_X1_wholeStay  e21) miX1_wholeStay lk_X10_354 dX10_every_69 k_3 rfl (Nat.le_of_ble_eq_true rfl) (Nat.le_of_ble_eq_true rfl) rfl ?_
    clear e21
    refine g_isub (Y := YX10_every) (pc := 72) dX10_every_72 ?_
    refine g_iload_n (Y := YX10_every) (pc := 73) 0 dX10_every_73 rfl ?_
    obtain ⟨g22, hF⟩ := gd_some hF
    refine g_idiv (Y := YX10_every) (pc := 74) dX10_every_74 g22 ?_
    refine g_iconst (Y := YX10_every) (pc := 75) dX10_every_75 kI_1 ?_
    refine g_iadd (Y := YX10_every) (pc := 76) dX10_every_76 ?_
    refine g_loc [0] rfl ?_
    exact w_X10_every_77  _ _ _ hF
  · replace hF := if_t c18 hF
    refine g_iconst (Y := YX10_every) (pc := 57) dX10_every_57 kI_m1 ?_
    refine g_goto (Y := YX10_every) (pc := 58) (tgt := 77) dX10_every_58 rfl ?_
    refine g_loc [0] rfl ?_
    exact w_X10_every_77  _ _ _ hF
def f_X10_every_0  (x1 : Int32) (M : Mem) : Option (Int32 × Mem) :=
  bd (f_X1_hasGroup x1 M) fun r1 M2 =>
  if r1 = 0 then
    some ((-1), M2)
  else
    bd (f_X1_longestPlace x1 M2) fun r5 M6 =>
    if r5 = (-1) then
      f_X10_every_42 x1 r5 0 M6
    else
      gd (0 ≤ x1 ∧ x1.toNatClampNeg < 6) <|
      gd (0 ≤ r5 ∧ r5.toNatClampNeg < 6) <|
      vl ((M6 (17 + x1.toNatClampNeg) r5.toNatClampNeg)) fun v11 =>
      f_X10_every_42 x1 r5 v11 M6
set_option maxRecDepth 100000 in
theorem w_X10_every_0 {R : Int32} {M' : Mem}  (x1 : Int32) (M : Mem) (hF : f_X10_every_0 x1 M = some (R, M')) : RunF l D cy ad none YX10_every 2 0 0 (some (.int R)) (lay X M') 0 0 0 [(0, .ref 0), (1, .int x1)] [] (lay X M) := by
  unfold f_X10_every_0 at hF
  refine g_aload_n (Y := YX10_every) (pc := 0) 0 dX10_every_0 rfl ?_
  refine u_getR (Y := YX10_every) (pc := 1) (j := 3) dX10_every_1 fl_X10_19 k_0 rf_0_1 ?_
  refine g_iload_n (Y := YX10_every) (pc := 4) 1 dX10_every_4 rfl ?_
  obtain ⟨r1, M2, e3, hF⟩ := bd_some hF
  refine s_callVi (Y := YX10_every) (pc := 5) (as := [.int x1]) (st := []) (r_X1_hasGroup  e3) miX1_hasGroup lk_X10_152 dX10_every_5 k_3 rfl (Nat.le_of_ble_eq_true rfl) (Nat.le_of_ble_eq_true rfl) rfl ?_
  clear e3
  refine g_if_ne (Y := YX10_every) (pc := 8) (tgt := 13) dX10_every_8 rfl (fun c4 => ?_) (fun c4 => ?_)
  · replace hF := if_f c4 hF
    refine g_aload_n (Y := YX10_every) (pc := 13) 0 dX10_every_13 rfl ?_
    refine u_getR (Y := YX10_every) (pc := 14) (j := 3) dX10_every_14 fl_X10_19 k_0 rf_0_1 ?_
    refine g_iload_n (Y := YX10_every) (pc := 17) 1 dX10_every_17 rfl ?_
    obtain ⟨r5, M6, e7, hF⟩ := bd_some hF
    refine s_callVi (Y := YX10_every) (pc := 18) (as := [.int x1]) (st := []) (r_X1_longestPlace  e7) miX1_longestPlace lk_X10_351 dX10_every_18 k_3 rfl (Nat.le_of_ble_eq_true rfl) (Nat.le_of_ble_eq_true rfl) rfl ?_
    clear e7
    refine g_istore_n (Y := YX10_every) (pc := 21) (L' := [(2, .int r5), (0, .ref 0), (1, .int x1)]) dX10_every_21 (Nat.le_of_ble_eq_true rfl) rfl ?_
    refine g_iload_n (Y := YX10_every) (pc := 22) 0 dX10_every_22 rfl ?_
    refine g_iconst (Y := YX10_every) (pc := 23) dX10_every_23 kI_m1 ?_
    refine g_icmp_ne (Y := YX10_every) (pc := 24) (tgt := 31) dX10_every_24 rfl (fun c8 => ?_) (fun c8 => ?_)
    · replace hF := if_f c8 hF
      refine g_aload_n (Y := YX10_every) (pc := 31) 1 dX10_every_31 rfl ?_
      refine u_getR (Y := YX10_every) (pc := 32) (j := 3) dX10_every_32 fl_X10_19 k_0 rf_0_1 ?_
      refine u_getR (Y := YX10_every) (pc := 35) (j := 16) dX10_every_35 fl_X10_201 k_3 rf_3_9 ?_
      refine g_iload_n (Y := YX10_every) (pc := 38) 2 dX10_every_38 rfl ?_
      obtain ⟨g9, hF⟩ := gd_some hF
      refine s_aaldA (Y := YX10_every) (pc := 39) dX10_every_39 k_16 n_16 g9 (stay_r g9.2) ?_
      refine g_iload_n (Y := YX10_every) (pc := 40) 0 dX10_every_40 rfl ?_
      obtain ⟨g10, hF⟩ := gd_some hF
      refine s_iald (Y := YX10_every) (pc := 41) dX10_every_41 (stay_all _ g9.2).2.1 (stay_all _ g9.2).2.2 g10 ?_
      refine g_nm (fun v11 e => ?_)
      replace hF := vl_to e hF; clear e
      refine g_loc [1, 2, 0] rfl ?_
      exact w_X10_every_42  _ _ _ _ hF
    · replace hF := if_t c8 hF
      refine g_iconst (Y := YX10_every) (pc := 27) dX10_every_27 kI_0 ?_
      refine g_goto (Y := YX10_every) (pc := 28) (tgt := 42) dX10_every_28 rfl ?_
      refine g_loc [1, 2, 0] rfl ?_
      exact w_X10_every_42  _ _ _ _ hF
  · replace hF := if_t c4 hF
    refine g_iconst (Y := YX10_every) (pc := 11) dX10_every_11 kI_m1 ?_
    exact s_iret (Y := YX10_every) (pc := 12) dX10_every_12 rfl hF
def f_X10_every (x1 : Int32) (M : Mem) : Option (Int32 × Mem) := f_X10_every_0 x1 M
theorem r_X10_every {x1 R : Int32} {M M' : Mem}  (hF : f_X10_every x1 M = some (R, M')) : RunS l D cy ad YX10_every 2 [.ref 0, .int x1] X M (some (.int R)) M' := Run.of 1 (miX10_every).1 (Nat.le_of_ble_eq_true rfl) (w_X10_every_0  _ _ hF)
def f_X10_firstWithTogether_39 (K2 : Int32 → Int32 → Int32 → Mem → Option (Int32 × Mem)) (x1 : Int32) (x2 : Int32) (x3 : Int32) (M : Mem) : Option (Int32 × Mem) :=
  vl (x3 + 1) fun v6 =>
  K2 x1 x2 v6 M
set_option maxRecDepth 100000 in
theorem w_X10_firstWithTogether_39 {R : Int32} {M' : Mem} {K2 : Int32 → Int32 → Int32 → Mem → Option (Int32 × Mem)} (hK2 : ∀ (x1 x2 x3 : Int32) (M : Mem), K2 x1 x2 x3 M = some (R, M') → RunF l D cy ad none YX10_firstWithTogether 2 0 0 (some (.int R)) (lay X M') 0 0 2 [(0, .ref 0), (1, .int x1), (2, .int x2), (3, .int x3)] [] (lay X M)) (x1 x2 x3 : Int32) (M : Mem) (hF : f_X10_firstWithTogether_39 K2 x1 x2 x3 M = some (R, M')) : RunF l D cy ad none YX10_firstWithTogether 2 0 0 (some (.int R)) (lay X M') 0 0 39 [(0, .ref 0), (1, .int x1), (2, .int x2), (3, .int x3)] [] (lay X M) := by
  unfold f_X10_firstWithTogether_39 at hF
  refine s_iinc (Y := YX10_firstWithTogether) (pc := 39) (j := 3) (L' := fun y => [(3, .int y), (0, .ref 0), (1, .int x1), (2, .int x2)]) dX10_firstWithTogether_39 kI_1 rfl (Nat.le_of_ble_eq_true rfl) (fun _ => rfl) (fun v6 e => ?_)
  replace hF := vl_to e hF; clear e
  refine g_goto (Y := YX10_firstWithTogether) (pc := 42) (tgt := 2) dX10_firstWithTogether_42 rfl ?_
  refine g_loc [1, 2, 3, 0] rfl ?_
  exact hK2 _ _ _ _ hF
def f_X10_firstWithTogether_2  : Nat → Int32 → Int32 → Int32 → Mem → Option (Int32 × Mem)
  | 0, _, _, _, _ => none
  | n + 1, x1, x2, x3, M =>
    if x3 < (M 3 0) then
      bd (f_X1_isCorridor x3 M) fun r2 M3 =>
      if r2 = 0 then
        bd (f_X1_togetherIn x3 x1 M3) fun r7 M8 =>
        if r7 = x2 then
          some (x3, M8)
        else
          f_X10_firstWithTogether_39 (f_X10_firstWithTogether_2 n) x1 x2 x3 M8
      else
        f_X10_firstWithTogether_39 (f_X10_firstWithTogether_2 n) x1 x2 x3 M3
    else
      some ((-1), M)
set_option maxRecDepth 100000 in
theorem w_X10_firstWithTogether_2 {R : Int32} {M' : Mem}  : ∀ (n : Nat) (x1 x2 x3 : Int32) (M : Mem), f_X10_firstWithTogether_2 n x1 x2 x3 M = some (R, M') → RunF l D cy ad none YX10_firstWithTogether 2 0 0 (some (.int R)) (lay X M') 0 0 2 [(0, .ref 0), (1, .int x1), (2, .int x2), (3, .int x3)] [] (lay X M) := by
  intro n
  induction n with
  | zero => intro x1 x2 x3 M hF; exact absurd hF (by unfold f_X10_firstWithTogether_2; exact fun h => nomatch h)
  | succ n ih =>
    intro x1 x2 x3 M hF
    unfold f_X10_firstWithTogether_2 at hF
    refine g_iload_n (Y := YX10_firstWithTogether) (pc := 2) 3 dX10_firstWithTogether_2 rfl ?_
    refine g_aload_n (Y := YX10_firstWithTogether) (pc := 3) 0 dX10_firstWithTogether_3 rfl ?_
    refine u_getR (Y := YX10_firstWithTogether) (pc := 4) (j := 3) dX10_firstWithTogether_4 fl_X10_19 k_0 rf_0_1 ?_
    refine u_getI (Y := YX10_firstWithTogether) (pc := 7) dX10_firstWithTogether_7 fl_X10_123 k_3 ?_
    refine g_icmp_ge (Y := YX10_firstWithTogether) (pc := 10) (tgt := 45) dX10_firstWithTogether_10 rfl (fun c1 => ?_) (fun c1 => ?_)
    · replace hF := if_f c1 hF
      refine g_iconst (Y := YX10_firstWithTogether) (pc := 45) dX10_firstWithTogether_45 kI_m1 ?_
      exact s_iret (Y := YX10_firstWithTogether) (pc := 46) dX10_firstWithTogether_46 rfl hF
    · replace hF := if_t c1 hF
      refine g_aload_n (Y := YX10_firstWithTogether) (pc := 13) 0 dX10_firstWithTogether_13 rfl ?_
      refine u_getR (Y := YX10_firstWithTogether) (pc := 14) (j := 3) dX10_firstWithTogether_14 fl_X10_19 k_0 rf_0_1 ?_
      refine g_iload_n (Y := YX10_firstWithTogether) (pc := 17) 3 dX10_firstWithTogether_17 rfl ?_
      obtain ⟨r2, M3, e4, hF⟩ := bd_some hF
      refine s_callVi (Y := YX10_firstWithTogether) (pc := 18) (as := [.int x3]) (st := []) (r_X1_isCorridor  e4) miX1_isCorridor lk_X10_188 dX10_firstWithTogether_18 k_3 rfl (Nat.le_of_ble_eq_true rfl) (Nat.le_of_ble_eq_true rfl) rfl ?_
      clear e4
      refine g_if_ne (Y := YX10_firstWithTogether) (pc := 21) (tgt := 39) dX10_firstWithTogether_21 rfl (fun c5 => ?_) (fun c5 => ?_)
      · replace hF := if_f c5 hF
        exact w_X10_firstWithTogether_39 ih _ _ _ _ hF
      · replace hF := if_t c5 hF
        refine g_aload_n (Y := YX10_firstWithTogether) (pc := 24) 0 dX10_firstWithTogether_24 rfl ?_
        refine u_getR (Y := YX10_firstWithTogether) (pc := 25) (j := 3) dX10_firstWithTogether_25 fl_X10_19 k_0 rf_0_1 ?_
        refine g_iload_n (Y := YX10_firstWithTogether) (pc := 28) 3 dX10_firstWithTogether_28 rfl ?_
        refine g_iload_n (Y := YX10_firstWithTogether) (pc := 29) 1 dX10_firstWithTogether_29 rfl ?_
        obtain ⟨r7, M8, e9, hF⟩ := bd_some hF
        refine s_callVi (Y := YX10_firstWithTogether) (pc := 30) (as := [.int x3, .int x1]) (st := []) (r_X1_togetherIn  e9) miX1_togetherIn lk_X10_197 dX10_firstWithTogether_30 k_3 rfl (Nat.le_of_ble_eq_true rfl) (Nat.le_of_ble_eq_true rfl) rfl ?_
        clear e9
        refine g_iload_n (Y := YX10_firstWithTogether) (pc := 33) 2 dX10_firstWithTogether_33 rfl ?_
        refine g_icmp_ne (Y := YX10_firstWithTogether) (pc := 34) (tgt := 39) dX10_firstWithTogether_34 rfl (fun c10 => ?_) (fun c10 => ?_)
        · replace hF := if_f c10 hF
          exact w_X10_firstWithTogether_39 ih _ _ _ _ hF
        · replace hF := if_t c10 hF
          refine g_iload_n (Y := YX10_firstWithTogether) (pc := 37) 3 dX10_firstWithTogether_37 rfl ?_
          exact s_iret (Y := YX10_firstWithTogether) (pc := 38) dX10_firstWithTogether_38 rfl hF
def f_X10_firstWithTogether_0  (x1 : Int32) (x2 : Int32) (M : Mem) : Option (Int32 × Mem) :=
  f_X10_firstWithTogether_2 FU x1 x2 0 M
set_option maxRecDepth 100000 in
theorem w_X10_firstWithTogether_0 {R : Int32} {M' : Mem}  (x1 x2 : Int32) (M : Mem) (hF : f_X10_firstWithTogether_0 x1 x2 M = some (R, M')) : RunF l D cy ad none YX10_firstWithTogether 2 0 0 (some (.int R)) (lay X M') 0 0 0 [(0, .ref 0), (1, .int x1), (2, .int x2)] [] (lay X M) := by
  unfold f_X10_firstWithTogether_0 at hF
  refine g_iconst (Y := YX10_firstWithTogether) (pc := 0) dX10_firstWithTogether_0 kI_0 ?_
  refine g_istore_n (Y := YX10_firstWithTogether) (pc := 1) (L' := [(3, .int 0), (0, .ref 0), (1, .int x1), (2, .int x2)]) dX10_firstWithTogether_1 (Nat.le_of_ble_eq_true rfl) rfl ?_
  refine g_loc [1, 2, 3, 0] rfl ?_
  exact w_X10_firstWithTogether_2  _ _ _ _ _ hF
def f_X10_firstWithTogether (x1 : Int32) (x2 : Int32) (M : Mem) : Option (Int32 × Mem) := f_X10_firstWithTogether_0 x1 x2 M
theorem r_X10_firstWithTogether {x1 x2 R : Int32} {M M' : Mem}  (hF : f_X10_firstWithTogether x1 x2 M = some (R, M')) : RunS l D cy ad YX10_firstWithTogether 2 [.ref 0, .int x1, .int x2] X M (some (.int R)) M' := Run.of 2 (miX10_firstWithTogether).1 (Nat.le_of_ble_eq_true rfl) (w_X10_firstWithTogether_0  _ _ _ hF)
def f_X10_bitsWithWhole_46 (K5 : Int32 → Int32 → Int32 → Int32 → Mem → Option (Int32 × Mem)) (x1 : Int32) (x2 : Int32) (x3 : Int32) (x4 : Int32) (M : Mem) : Option (Int32 × Mem) :=
  vl (x4 + 1) fun v6 =>
  K5 x1 x2 x3 v6 M
set_option maxRecDepth 100000 in
theorem w_X10_bitsWithWhole_46 {R : Int32} {M' : Mem} {K5 : Int32 → Int32 → Int32 → Int32 → Mem → Option (Int32 × Mem)} (hK5 : ∀ (x1 x2 x3 x4 : Int32) (M : Mem), K5 x1 x2 x3 x4 M = some (R, M') → RunF l D cy ad none YX10_bitsWithWhole 1 0 0 (some (.int R)) (lay X M') 0 0 5 [(0, .ref 0), (1, .int x1), (2, .int x2), (3, .int x3), (4, .int x4)] [] (lay X M)) (x1 x2 x3 x4 : Int32) (M : Mem) (hF : f_X10_bitsWithWhole_46 K5 x1 x2 x3 x4 M = some (R, M')) : RunF l D cy ad none YX10_bitsWithWhole 1 0 0 (some (.int R)) (lay X M') 0 0 46 [(0, .ref 0), (1, .int x1), (2, .int x2), (3, .int x3), (4, .int x4)] [] (lay X M) := by
  unfold f_X10_bitsWithWhole_46 at hF
  refine s_iinc (Y := YX10_bitsWithWhole) (pc := 46) (j := 4) (L' := fun y => [(4, .int y), (0, .ref 0), (1, .int x1), (2, .int x2), (3, .int x3)]) dX10_bitsWithWhole_46 kI_1 rfl (Nat.le_of_ble_eq_true rfl) (fun _ => rfl) (fun v6 e => ?_)
  replace hF := vl_to e hF; clear e
  refine g_goto (Y := YX10_bitsWithWhole) (pc := 49) (tgt := 5) dX10_bitsWithWhole_49 rfl ?_
  refine g_loc [1, 2, 3, 4, 0] rfl ?_
  exact hK5 _ _ _ _ _ hF
def f_X10_bitsWithWhole_5  : Nat → Int32 → Int32 → Int32 → Int32 → Mem → Option (Int32 × Mem)
  | 0, _, _, _, _, _ => none
  | n + 1, x1, x2, x3, x4, M =>
    if x4 < (M 3 2) then
      bd (f_X10_has x1 x4 M) fun r2 M3 =>
      if r2 = 0 then
        f_X10_bitsWithWhole_46 (f_X10_bitsWithWhole_5 n) x1 x2 x3 x4 M3
      else
        bd (f_X1_wholeStay x4 M3) fun r7 M8 =>
        if r7 = x2 then
          vl ((x3 ||| (1 <<< (x4 &&& 31)))) fun v11 =>
          f_X10_bitsWithWhole_46 (f_X10_bitsWithWhole_5 n) x1 x2 v11 x4 M8
        else
          f_X10_bitsWithWhole_46 (f_X10_bitsWithWhole_5 n) x1 x2 x3 x4 M8
    else
      some (x3, M)
set_option maxRecDepth 100000 in
theorem w_X10_bitsWithWhole_5 {R : Int32} {M' : Mem}  : ∀ (n : Nat) (x1 x2 x3 x4 : Int32) (M : Mem), f_X10_bitsWithWhole_5 n x1 x2 x3 x4 M = some (R, M') → RunF l D cy ad none YX10_bitsWithWhole 1 0 0 (some (.int R)) (lay X M') 0 0 5 [(0, .ref 0), (1, .int x1), (2, .int x2), (3, .int x3), (4, .int x4)] [] (lay X M) := by
  intro n
  induction n with
  | zero => intro x1 x2 x3 x4 M hF; exact absurd hF (by unfold f_X10_bitsWithWhole_5; exact fun h => nomatch h)
  | succ n ih =>
    intro x1 x2 x3 x4 M hF
    unfold f_X10_bitsWithWhole_5 at hF
    refine g_iload (Y := YX10_bitsWithWhole) (pc := 5) 4 dX10_bitsWithWhole_5 rfl ?_
    refine g_aload_n (Y := YX10_bitsWithWhole) (pc := 7) 0 dX10_bitsWithWhole_7 rfl ?_
    refine u_getR (Y := YX10_bitsWithWhole) (pc := 8) (j := 3) dX10_bitsWithWhole_8 fl_X10_19 k_0 rf_0_1 ?_
    refine u_getI (Y := YX10_bitsWithWhole) (pc := 11) dX10_bitsWithWhole_11 fl_X10_129 k_3 ?_
    refine g_icmp_ge (Y := YX10_bitsWithWhole) (pc := 14) (tgt := 52) dX10_bitsWithWhole_14 rfl (fun c1 => ?_) (fun c1 => ?_)
    · replace hF := if_f c1 hF
      refine g_iload_n (Y := YX10_bitsWithWhole) (pc := 52) 3 dX10_bitsWithWhole_52 rfl ?_
      exact s_iret (Y := YX10_bitsWithWhole) (pc := 53) dX10_bitsWithWhole_53 rfl hF
    · replace hF := if_t c1 hF
      refine g_iload_n (Y := YX10_bitsWithWhole) (pc := 17) 1 dX10_bitsWithWhole_17 rfl ?_
      refine g_iload (Y := YX10_bitsWithWhole) (pc := 18) 4 dX10_bitsWithWhole_18 rfl ?_
      obtain ⟨r2, M3, e4, hF⟩ := bd_some hF
      refine s_callSi (Y := YX10_bitsWithWhole) (pc := 20) (as := [.int x1, .int x4]) (st := []) (r_X10_has  e4) msX10_has lk_X10_362 dX10_bitsWithWhole_20 rfl (Nat.le_of_ble_eq_true rfl) (Nat.le_of_ble_eq_true rfl) rfl ?_
      clear e4
      refine g_if_eq (Y := YX10_bitsWithWhole) (pc := 23) (tgt := 46) dX10_bitsWithWhole_23 rfl (fun c5 => ?_) (fun c5 => ?_)
      · replace hF := if_t c5 hF
        exact w_X10_bitsWithWhole_46 ih _ _ _ _ _ hF
      · replace hF := if_f c5 hF
        refine g_aload_n (Y := YX10_bitsWithWhole) (pc := 26) 0 dX10_bitsWithWhole_26 rfl ?_
        refine u_getR (Y := YX10_bitsWithWhole) (pc := 27) (j := 3) dX10_bitsWithWhole_27 fl_X10_19 k_0 rf_0_1 ?_
        refine g_iload (Y := YX10_bitsWithWhole) (pc := 30) 4 dX10_bitsWithWhole_30 rfl ?_
        obtain ⟨r7, M8, e9, hF⟩ := bd_some hF
        refine s_callVi (Y := YX10_bitsWithWhole) (pc := 32) (as := [.int x4]) (st := []) (r_X1_wholeStay  e9) miX1_wholeStay lk_X10_354 dX10_bitsWithWhole_32 k_3 rfl (Nat.le_of_ble_eq_true rfl) (Nat.le_of_ble_eq_true rfl) rfl ?_
        clear e9
        refine g_iload_n (Y := YX10_bitsWithWhole) (pc := 35) 2 dX10_bitsWithWhole_35 rfl ?_
        refine g_icmp_ne (Y := YX10_bitsWithWhole) (pc := 36) (tgt := 46) dX10_bitsWithWhole_36 rfl (fun c10 => ?_) (fun c10 => ?_)
        · replace hF := if_f c10 hF
          exact w_X10_bitsWithWhole_46 ih _ _ _ _ _ hF
        · replace hF := if_t c10 hF
          refine g_iload_n (Y := YX10_bitsWithWhole) (pc := 39) 3 dX10_bitsWithWhole_39 rfl ?_
          refine g_iconst (Y := YX10_bitsWithWhole) (pc := 40) dX10_bitsWithWhole_40 kI_1 ?_
          refine g_iload (Y := YX10_bitsWithWhole) (pc := 41) 4 dX10_bitsWithWhole_41 rfl ?_
          refine g_ishl (Y := YX10_bitsWithWhole) (pc := 43) dX10_bitsWithWhole_43 ?_
          refine g_ior (Y := YX10_bitsWithWhole) (pc := 44) dX10_bitsWithWhole_44 ?_
          refine g_nm (fun v11 e => ?_)
          replace hF := vl_to e hF; clear e
          refine g_istore_n (Y := YX10_bitsWithWhole) (pc := 45) (L' := [(3, .int v11), (0, .ref 0), (1, .int x1), (2, .int x2), (4, .int x4)]) dX10_bitsWithWhole_45 (Nat.le_of_ble_eq_true rfl) rfl ?_
          refine g_loc [1, 2, 3, 0, 4] rfl ?_
          exact w_X10_bitsWithWhole_46 ih _ _ _ _ _ hF
def f_X10_bitsWithWhole_0  (x1 : Int32) (x2 : Int32) (M : Mem) : Option (Int32 × Mem) :=
  f_X10_bitsWithWhole_5 FU x1 x2 0 0 M
set_option maxRecDepth 100000 in
theorem w_X10_bitsWithWhole_0 {R : Int32} {M' : Mem}  (x1 x2 : Int32) (M : Mem) (hF : f_X10_bitsWithWhole_0 x1 x2 M = some (R, M')) : RunF l D cy ad none YX10_bitsWithWhole 1 0 0 (some (.int R)) (lay X M') 0 0 0 [(0, .ref 0), (1, .int x1), (2, .int x2)] [] (lay X M) := by
  unfold f_X10_bitsWithWhole_0 at hF
  refine g_iconst (Y := YX10_bitsWithWhole) (pc := 0) dX10_bitsWithWhole_0 kI_0 ?_
  refine g_istore_n (Y := YX10_bitsWithWhole) (pc := 1) (L' := [(3, .int 0), (0, .ref 0), (1, .int x1), (2, .int x2)]) dX10_bitsWithWhole_1 (Nat.le_of_ble_eq_true rfl) rfl ?_
  refine g_iconst (Y := YX10_bitsWithWhole) (pc := 2) dX10_bitsWithWhole_2 kI_0 ?_
  refine g_istore (Y := YX10_bitsWithWhole) (pc := 3) (L' := [(4, .int 0), (3, .int 0), (0, .ref 0), (1, .int x1), (2, .int x2)]) dX10_bitsWithWhole_3 (Nat.le_of_ble_eq_true rfl) rfl ?_
  refine g_loc [2, 3, 4, 1, 0] rfl ?_
  exact w_X10_bitsWithWhole_5  _ _ _ _ _ _ hF
def f_X10_bitsWithWhole (x1 : Int32) (x2 : Int32) (M : Mem) : Option (Int32 × Mem) := f_X10_bitsWithWhole_0 x1 x2 M
theorem r_X10_bitsWithWhole {x1 x2 R : Int32} {M M' : Mem}  (hF : f_X10_bitsWithWhole x1 x2 M = some (R, M')) : RunS l D cy ad YX10_bitsWithWhole 1 [.ref 0, .int x1, .int x2] X M (some (.int R)) M' := Run.of 2 (miX10_bitsWithWhole).1 (Nat.le_of_ble_eq_true rfl) (w_X10_bitsWithWhole_0  _ _ _ hF)
def f_X10_least_90 (K58 : Int32 → Int32 → Int32 → Mem → Option (Int32 × Mem)) (x1 : Int32) (x2 : Int32) (x3 : Int32) (M : Mem) : Option (Int32 × Mem) :=
  vl (x3 + 1) fun v26 =>
  K58 x1 x2 v26 M
set_option maxRecDepth 100000 in
theorem w_X10_least_90 {R : Int32} {M' : Mem} {K58 : Int32 → Int32 → Int32 → Mem → Option (Int32 × Mem)} (hK58 : ∀ (x1 x2 x3 : Int32) (M : Mem), K58 x1 x2 x3 M = some (R, M') → RunF l D cy ad none YX10_least 3 0 0 (some (.int R)) (lay X M') 0 0 58 [(0, .ref 0), (1, .int x1), (2, .int x2), (3, .int x3)] [] (lay X M)) (x1 x2 x3 : Int32) (M : Mem) (hF : f_X10_least_90 K58 x1 x2 x3 M = some (R, M')) : RunF l D cy ad none YX10_least 3 0 0 (some (.int R)) (lay X M') 0 0 90 [(0, .ref 0), (1, .int x1), (2, .int x2), (3, .int x3)] [] (lay X M) := by
  unfold f_X10_least_90 at hF
  refine s_iinc (Y := YX10_least) (pc := 90) (j := 3) (L' := fun y => [(3, .int y), (0, .ref 0), (1, .int x1), (2, .int x2)]) dX10_least_90 kI_1 rfl (Nat.le_of_ble_eq_true rfl) (fun _ => rfl) (fun v26 e => ?_)
  replace hF := vl_to e hF; clear e
  refine g_goto (Y := YX10_least) (pc := 93) (tgt := 58) dX10_least_93 rfl ?_
  refine g_loc [1, 2, 3, 0] rfl ?_
  exact hK58 _ _ _ _ hF
def f_X10_least_58  : Nat → Int32 → Int32 → Int32 → Mem → Option (Int32 × Mem)
  | 0, _, _, _, _ => none
  | n + 1, x1, x2, x3, M =>
    if x3 < (M 3 2) then
      bd (f_X10_has x1 x3 M) fun r22 M23 =>
      if r22 = 0 then
        f_X10_least_90 (f_X10_least_58 n) x1 x2 x3 M23
      else
        bd (f_X1_wholeStay x3 M23) fun r27 M28 =>
        vl ((if x2 < r27 then r27 else x2)) fun v30 =>
        f_X10_least_90 (f_X10_least_58 n) x1 v30 x3 M28
    else
      bd (f_X10_clearRow M) fun _ M8 =>
      bd (f_X10_firstWithTogether x1 x2 M8) fun r10 M11 =>
      bd (f_X10_tell r10 M11) fun _ M14 =>
      bd (f_X10_bitsWithWhole x1 x2 M14) fun r16 M17 =>
      bd (f_X10_tell r16 M17) fun _ M20 =>
      some (x2, M20)
set_option maxRecDepth 100000 in
theorem w_X10_least_58 {R : Int32} {M' : Mem}  : ∀ (n : Nat) (x1 x2 x3 : Int32) (M : Mem), f_X10_least_58 n x1 x2 x3 M = some (R, M') → RunF l D cy ad none YX10_least 3 0 0 (some (.int R)) (lay X M') 0 0 58 [(0, .ref 0), (1, .int x1), (2, .int x2), (3, .int x3)] [] (lay X M) := by
  intro n
  induction n with
  | zero => intro x1 x2 x3 M hF; exact absurd hF (by unfold f_X10_least_58; exact fun h => nomatch h)
  | succ n ih =>
    intro x1 x2 x3 M hF
    unfold f_X10_least_58 at hF
    refine g_iload_n (Y := YX10_least) (pc := 58) 3 dX10_least_58 rfl ?_
    refine g_aload_n (Y := YX10_least) (pc := 59) 0 dX10_least_59 rfl ?_
    refine u_getR (Y := YX10_least) (pc := 60) (j := 3) dX10_least_60 fl_X10_19 k_0 rf_0_1 ?_
    refine u_getI (Y := YX10_least) (pc := 63) dX10_least_63 fl_X10_129 k_3 ?_
    refine g_icmp_ge (Y := YX10_least) (pc := 66) (tgt := 96) dX10_least_66 rfl (fun c6 => ?_) (fun c6 => ?_)
    · replace hF := if_f c6 hF
      refine g_aload_n (Y := YX10_least) (pc := 96) 0 dX10_least_96 rfl ?_
      obtain ⟨r7, M8, e9, hF⟩ := bd_some hF
      refine s_callVv (Y := YX10_least) (pc := 97) (as := []) (st := []) (r_X10_clearRow  e9) miX10_clearRow lk_X10_246 dX10_least_97 k_0 rfl (Nat.le_of_ble_eq_true rfl) (Nat.le_of_ble_eq_true rfl) rfl ?_
      clear e9
      refine g_aload_n (Y := YX10_least) (pc := 100) 0 dX10_least_100 rfl ?_
      refine g_aload_n (Y := YX10_least) (pc := 101) 0 dX10_least_101 rfl ?_
      refine g_iload_n (Y := YX10_least) (pc := 102) 1 dX10_least_102 rfl ?_
      refine g_iload_n (Y := YX10_least) (pc := 103) 2 dX10_least_103 rfl ?_
      obtain ⟨r10, M11, e12, hF⟩ := bd_some hF
      refine s_callVi (Y := YX10_least) (pc := 104) (as := [.int x1, .int x2]) (st := [.ref 0]) (r_X10_firstWithTogether  e12) miX10_firstWithTogether lk_X10_366 dX10_least_104 k_0 rfl (Nat.le_of_ble_eq_true rfl) (Nat.le_of_ble_eq_true rfl) rfl ?_
      clear e12
      obtain ⟨r13, M14, e15, hF⟩ := bd_some hF
      refine s_callVv (Y := YX10_least) (pc := 107) (as := [.int r10]) (st := []) (r_X10_tell  e15) miX10_tell lk_X10_252 dX10_least_107 k_0 rfl (Nat.le_of_ble_eq_true rfl) (Nat.le_of_ble_eq_true rfl) rfl ?_
      clear e15
      refine g_aload_n (Y := YX10_least) (pc := 110) 0 dX10_least_110 rfl ?_
      refine g_aload_n (Y := YX10_least) (pc := 111) 0 dX10_least_111 rfl ?_
      refine g_iload_n (Y := YX10_least) (pc := 112) 1 dX10_least_112 rfl ?_
      refine g_iload_n (Y := YX10_least) (pc := 113) 2 dX10_least_113 rfl ?_
      obtain ⟨r16, M17, e18, hF⟩ := bd_some hF
      refine s_callVi (Y := YX10_least) (pc := 114) (as := [.int x1, .int x2]) (st := [.ref 0]) (r_X10_bitsWithWhole  e18) miX10_bitsWithWhole lk_X10_369 dX10_least_114 k_0 rfl (Nat.le_of_ble_eq_true rfl) (Nat.le_of_ble_eq_true rfl) rfl ?_
      clear e18
      obtain ⟨r19, M20, e21, hF⟩ := bd_some hF
      refine s_callVv (Y := YX10_least) (pc := 117) (as := [.int r16]) (st := []) (r_X10_tell  e21) miX10_tell lk_X10_252 dX10_least_117 k_0 rfl (Nat.le_of_ble_eq_true rfl) (Nat.le_of_ble_eq_true rfl) rfl ?_
      clear e21
      refine g_iload_n (Y := YX10_least) (pc := 120) 2 dX10_least_120 rfl ?_
      exact s_iret (Y := YX10_least) (pc := 121) dX10_least_121 rfl hF
    · replace hF := if_t c6 hF
      refine g_iload_n (Y := YX10_least) (pc := 69) 1 dX10_least_69 rfl ?_
      refine g_iload_n (Y := YX10_least) (pc := 70) 3 dX10_least_70 rfl ?_
      obtain ⟨r22, M23, e24, hF⟩ := bd_some hF
      refine s_callSi (Y := YX10_least) (pc := 71) (as := [.int x1, .int x3]) (st := []) (r_X10_has  e24) msX10_has lk_X10_362 dX10_least_71 rfl (Nat.le_of_ble_eq_true rfl) (Nat.le_of_ble_eq_true rfl) rfl ?_
      clear e24
      refine g_if_eq (Y := YX10_least) (pc := 74) (tgt := 90) dX10_least_74 rfl (fun c25 => ?_) (fun c25 => ?_)
      · replace hF := if_t c25 hF
        exact w_X10_least_90 ih _ _ _ _ hF
      · replace hF := if_f c25 hF
        refine g_iload_n (Y := YX10_least) (pc := 77) 2 dX10_least_77 rfl ?_
        refine g_aload_n (Y := YX10_least) (pc := 78) 0 dX10_least_78 rfl ?_
        refine u_getR (Y := YX10_least) (pc := 79) (j := 3) dX10_least_79 fl_X10_19 k_0 rf_0_1 ?_
        refine g_iload_n (Y := YX10_least) (pc := 82) 3 dX10_least_82 rfl ?_
        obtain ⟨r27, M28, e29, hF⟩ := bd_some hF
        refine s_callVi (Y := YX10_least) (pc := 83) (as := [.int x3]) (st := [.int x2]) (r_X1_wholeStay  e29) miX1_wholeStay lk_X10_354 dX10_least_83 k_3 rfl (Nat.le_of_ble_eq_true rfl) (Nat.le_of_ble_eq_true rfl) rfl ?_
        clear e29
        refine s_max (Y := YX10_least) (pc := 86) dX10_least_86 lk_X10_357 w_max (Nat.le_of_ble_eq_true rfl) (Nat.le_of_ble_eq_true rfl) ?_
        refine g_nm (fun v30 e => ?_)
        replace hF := vl_to e hF; clear e
        refine g_istore_n (Y := YX10_least) (pc := 89) (L' := [(2, .int v30), (0, .ref 0), (1, .int x1), (3, .int x3)]) dX10_least_89 (Nat.le_of_ble_eq_true rfl) rfl ?_
        refine g_loc [1, 2, 0, 3] rfl ?_
        exact w_X10_least_90 ih _ _ _ _ hF
def f_X10_least_50 (K14 : Int32 → Int32 → Int32 → Mem → Option (Int32 × Mem)) (x1 : Int32) (x2 : Int32) (x3 : Int32) (M : Mem) : Option (Int32 × Mem) :=
  vl (x3 + 1) fun v35 =>
  K14 x1 x2 v35 M
set_option maxRecDepth 100000 in
theorem w_X10_least_50 {R : Int32} {M' : Mem} {K14 : Int32 → Int32 → Int32 → Mem → Option (Int32 × Mem)} (hK14 : ∀ (x1 x2 x3 : Int32) (M : Mem), K14 x1 x2 x3 M = some (R, M') → RunF l D cy ad none YX10_least 3 0 0 (some (.int R)) (lay X M') 0 0 14 [(0, .ref 0), (1, .int x1), (2, .int x2), (3, .int x3)] [] (lay X M)) (x1 x2 x3 : Int32) (M : Mem) (hF : f_X10_least_50 K14 x1 x2 x3 M = some (R, M')) : RunF l D cy ad none YX10_least 3 0 0 (some (.int R)) (lay X M') 0 0 50 [(0, .ref 0), (1, .int x1), (2, .int x2), (3, .int x3)] [] (lay X M) := by
  unfold f_X10_least_50 at hF
  refine s_iinc (Y := YX10_least) (pc := 50) (j := 3) (L' := fun y => [(3, .int y), (0, .ref 0), (1, .int x1), (2, .int x2)]) dX10_least_50 kI_1 rfl (Nat.le_of_ble_eq_true rfl) (fun _ => rfl) (fun v35 e => ?_)
  replace hF := vl_to e hF; clear e
  refine g_goto (Y := YX10_least) (pc := 53) (tgt := 14) dX10_least_53 rfl ?_
  refine g_loc [1, 2, 3, 0] rfl ?_
  exact hK14 _ _ _ _ hF
def f_X10_least_14  : Nat → Int32 → Int32 → Int32 → Mem → Option (Int32 × Mem)
  | 0, _, _, _, _ => none
  | n + 1, x1, x2, x3, M =>
    if x3 < (M 3 0) then
      bd (f_X1_isCorridor x3 M) fun r31 M32 =>
      if r31 = 0 then
        bd (f_X1_togetherIn x3 x1 M32) fun r36 M37 =>
        vl ((if x2 < r36 then r36 else x2)) fun v39 =>
        f_X10_least_50 (f_X10_least_14 n) x1 v39 x3 M37
      else
        f_X10_least_50 (f_X10_least_14 n) x1 x2 x3 M32
    else
      f_X10_least_58 FU x1 x2 0 M
set_option maxRecDepth 100000 in
theorem w_X10_least_14 {R : Int32} {M' : Mem}  : ∀ (n : Nat) (x1 x2 x3 : Int32) (M : Mem), f_X10_least_14 n x1 x2 x3 M = some (R, M') → RunF l D cy ad none YX10_least 3 0 0 (some (.int R)) (lay X M') 0 0 14 [(0, .ref 0), (1, .int x1), (2, .int x2), (3, .int x3)] [] (lay X M) := by
  intro n
  induction n with
  | zero => intro x1 x2 x3 M hF; exact absurd hF (by unfold f_X10_least_14; exact fun h => nomatch h)
  | succ n ih =>
    intro x1 x2 x3 M hF
    unfold f_X10_least_14 at hF
    refine g_iload_n (Y := YX10_least) (pc := 14) 3 dX10_least_14 rfl ?_
    refine g_aload_n (Y := YX10_least) (pc := 15) 0 dX10_least_15 rfl ?_
    refine u_getR (Y := YX10_least) (pc := 16) (j := 3) dX10_least_16 fl_X10_19 k_0 rf_0_1 ?_
    refine u_getI (Y := YX10_least) (pc := 19) dX10_least_19 fl_X10_123 k_3 ?_
    refine g_icmp_ge (Y := YX10_least) (pc := 22) (tgt := 56) dX10_least_22 rfl (fun c5 => ?_) (fun c5 => ?_)
    · replace hF := if_f c5 hF
      refine g_iconst (Y := YX10_least) (pc := 56) dX10_least_56 kI_0 ?_
      refine g_istore_n (Y := YX10_least) (pc := 57) (L' := [(3, .int 0), (0, .ref 0), (1, .int x1), (2, .int x2)]) dX10_least_57 (Nat.le_of_ble_eq_true rfl) rfl ?_
      refine g_loc [1, 2, 3, 0] rfl ?_
      exact w_X10_least_58  _ _ _ _ _ hF
    · replace hF := if_t c5 hF
      refine g_aload_n (Y := YX10_least) (pc := 25) 0 dX10_least_25 rfl ?_
      refine u_getR (Y := YX10_least) (pc := 26) (j := 3) dX10_least_26 fl_X10_19 k_0 rf_0_1 ?_
      refine g_iload_n (Y := YX10_least) (pc := 29) 3 dX10_least_29 rfl ?_
      obtain ⟨r31, M32, e33, hF⟩ := bd_some hF
      refine s_callVi (Y := YX10_least) (pc := 30) (as := [.int x3]) (st := []) (r_X1_isCorridor  e33) miX1_isCorridor lk_X10_188 dX10_least_30 k_3 rfl (Nat.le_of_ble_eq_true rfl) (Nat.le_of_ble_eq_true rfl) rfl ?_
      clear e33
      refine g_if_ne (Y := YX10_least) (pc := 33) (tgt := 50) dX10_least_33 rfl (fun c34 => ?_) (fun c34 => ?_)
      · replace hF := if_f c34 hF
        exact w_X10_least_50 ih _ _ _ _ hF
      · replace hF := if_t c34 hF
        refine g_iload_n (Y := YX10_least) (pc := 36) 2 dX10_least_36 rfl ?_
        refine g_aload_n (Y := YX10_least) (pc := 37) 0 dX10_least_37 rfl ?_
        refine u_getR (Y := YX10_least) (pc := 38) (j := 3) dX10_least_38 fl_X10_19 k_0 rf_0_1 ?_
        refine g_iload_n (Y := YX10_least) (pc := 41) 3 dX10_least_41 rfl ?_
        refine g_iload_n (Y := YX10_least) (pc := 42) 1 dX10_least_42 rfl ?_
        obtain ⟨r36, M37, e38, hF⟩ := bd_some hF
        refine s_callVi (Y := YX10_least) (pc := 43) (as := [.int x3, .int x1]) (st := [.int x2]) (r_X1_togetherIn  e38) miX1_togetherIn lk_X10_197 dX10_least_43 k_3 rfl (Nat.le_of_ble_eq_true rfl) (Nat.le_of_ble_eq_true rfl) rfl ?_
        clear e38
        refine s_max (Y := YX10_least) (pc := 46) dX10_least_46 lk_X10_357 w_max (Nat.le_of_ble_eq_true rfl) (Nat.le_of_ble_eq_true rfl) ?_
        refine g_nm (fun v39 e => ?_)
        replace hF := vl_to e hF; clear e
        refine g_istore_n (Y := YX10_least) (pc := 49) (L' := [(2, .int v39), (0, .ref 0), (1, .int x1), (3, .int x3)]) dX10_least_49 (Nat.le_of_ble_eq_true rfl) rfl ?_
        refine g_loc [1, 2, 0, 3] rfl ?_
        exact w_X10_least_50 ih _ _ _ _ hF
def f_X10_least_0  (x1 : Int32) (M : Mem) : Option (Int32 × Mem) :=
  bd (f_X10_areThere x1 M) fun r1 M2 =>
  if r1 = 0 then
    some ((-1), M2)
  else
    f_X10_least_14 FU x1 0 0 M2
set_option maxRecDepth 100000 in
theorem w_X10_least_0 {R : Int32} {M' : Mem}  (x1 : Int32) (M : Mem) (hF : f_X10_least_0 x1 M = some (R, M')) : RunF l D cy ad none YX10_least 3 0 0 (some (.int R)) (lay X M') 0 0 0 [(0, .ref 0), (1, .int x1)] [] (lay X M) := by
  unfold f_X10_least_0 at hF
  refine g_aload_n (Y := YX10_least) (pc := 0) 0 dX10_least_0 rfl ?_
  refine g_iload_n (Y := YX10_least) (pc := 1) 1 dX10_least_1 rfl ?_
  obtain ⟨r1, M2, e3, hF⟩ := bd_some hF
  refine s_callVi (Y := YX10_least) (pc := 2) (as := [.int x1]) (st := []) (r_X10_areThere  e3) miX10_areThere lk_X10_336 dX10_least_2 k_0 rfl (Nat.le_of_ble_eq_true rfl) (Nat.le_of_ble_eq_true rfl) rfl ?_
  clear e3
  refine g_if_ne (Y := YX10_least) (pc := 5) (tgt := 10) dX10_least_5 rfl (fun c4 => ?_) (fun c4 => ?_)
  · replace hF := if_f c4 hF
    refine g_iconst (Y := YX10_least) (pc := 10) dX10_least_10 kI_0 ?_
    refine g_istore_n (Y := YX10_least) (pc := 11) (L' := [(2, .int 0), (0, .ref 0), (1, .int x1)]) dX10_least_11 (Nat.le_of_ble_eq_true rfl) rfl ?_
    refine g_iconst (Y := YX10_least) (pc := 12) dX10_least_12 kI_0 ?_
    refine g_istore_n (Y := YX10_least) (pc := 13) (L' := [(3, .int 0), (2, .int 0), (0, .ref 0), (1, .int x1)]) dX10_least_13 (Nat.le_of_ble_eq_true rfl) rfl ?_
    refine g_loc [2, 3, 1, 0] rfl ?_
    exact w_X10_least_14  _ _ _ _ _ hF
  · replace hF := if_t c4 hF
    refine g_iconst (Y := YX10_least) (pc := 8) dX10_least_8 kI_m1 ?_
    exact s_iret (Y := YX10_least) (pc := 9) dX10_least_9 rfl hF
def f_X10_least (x1 : Int32) (M : Mem) : Option (Int32 × Mem) := f_X10_least_0 x1 M
theorem r_X10_least {x1 R : Int32} {M M' : Mem}  (hF : f_X10_least x1 M = some (R, M')) : RunS l D cy ad YX10_least 3 [.ref 0, .int x1] X M (some (.int R)) M' := Run.of 1 (miX10_least).1 (Nat.le_of_ble_eq_true rfl) (w_X10_least_0  _ _ hF)
def f_X10_foresee_0 (s1 : Nat) (x2 : Int32) (x3 : Int32) (M : Mem) : Option (Int32 × Mem) :=
  bd (f_X7_copy s1 26 M) fun _ M2 =>
  bd (f_X7_runOver s1 x2 x3 M2) fun _ M5 =>
  bd (f_X1_goOn s1 400 M5) fun _ M8 =>
  some (0, M8)
set_option maxRecDepth 100000 in
theorem w_X10_foresee_0 {R : Int32} {M' : Mem} {s1 : Nat} (hs1 : isSt s1) (x2 x3 : Int32) (M : Mem) (hF : f_X10_foresee_0 s1 x2 x3 M = some (R, M')) : RunF l D cy ad none YX10_foresee 4 0 0 none (lay X M') 0 0 0 [(0, .ref 0), (1, .ref s1), (2, .int x2), (3, .int x3)] [] (lay X M) := by
  unfold f_X10_foresee_0 at hF
  refine g_aload_n (Y := YX10_foresee) (pc := 0) 1 dX10_foresee_0 rfl ?_
  refine g_aload_n (Y := YX10_foresee) (pc := 1) 0 dX10_foresee_1 rfl ?_
  refine u_getR (Y := YX10_foresee) (pc := 2) (j := 26) dX10_foresee_2 fl_X10_35 k_0 rf_0_3 ?_
  obtain ⟨r1, M2, e3, hF⟩ := bd_some hF
  refine s_callVv (Y := YX10_foresee) (pc := 5) (as := [.ref 26]) (st := []) (r_X7_copy hs1 isSt_26 e3) miX7_copy lk_X10_268 dX10_foresee_5 (st_k hs1) rfl (Nat.le_of_ble_eq_true rfl) (Nat.le_of_ble_eq_true rfl) rfl ?_
  clear e3
  refine g_aload_n (Y := YX10_foresee) (pc := 8) 1 dX10_foresee_8 rfl ?_
  refine g_iload_n (Y := YX10_foresee) (pc := 9) 2 dX10_foresee_9 rfl ?_
  refine g_iload_n (Y := YX10_foresee) (pc := 10) 3 dX10_foresee_10 rfl ?_
  obtain ⟨r4, M5, e6, hF⟩ := bd_some hF
  refine s_callVv (Y := YX10_foresee) (pc := 11) (as := [.int x2, .int x3]) (st := []) (r_X7_runOver hs1 e6) miX7_runOver lk_X10_233 dX10_foresee_11 (st_k hs1) rfl (Nat.le_of_ble_eq_true rfl) (Nat.le_of_ble_eq_true rfl) rfl ?_
  clear e6
  refine g_aload_n (Y := YX10_foresee) (pc := 14) 0 dX10_foresee_14 rfl ?_
  refine u_getR (Y := YX10_foresee) (pc := 15) (j := 3) dX10_foresee_15 fl_X10_19 k_0 rf_0_1 ?_
  refine g_aload_n (Y := YX10_foresee) (pc := 18) 1 dX10_foresee_18 rfl ?_
  refine g_sipush (Y := YX10_foresee) (pc := 19) dX10_foresee_19 kS_400 ?_
  obtain ⟨r7, M8, e9, hF⟩ := bd_some hF
  refine s_callVv (Y := YX10_foresee) (pc := 22) (as := [.ref s1, .int 400]) (st := []) (r_X1_goOn hs1 e9) miX1_goOn lk_X10_262 dX10_foresee_22 k_3 rfl (Nat.le_of_ble_eq_true rfl) (Nat.le_of_ble_eq_true rfl) rfl ?_
  clear e9
  exact s_vret (Y := YX10_foresee) (pc := 25) dX10_foresee_25 rfl hF
def f_X10_foresee (s1 : Nat) (x2 : Int32) (x3 : Int32) (M : Mem) : Option (Int32 × Mem) := f_X10_foresee_0 s1 x2 x3 M
theorem r_X10_foresee {s1 : Nat} {x2 x3 R : Int32} {M M' : Mem} (hs1 : isSt s1) (hF : f_X10_foresee s1 x2 x3 M = some (R, M')) : RunS l D cy ad YX10_foresee 4 [.ref 0, .ref s1, .int x2, .int x3] X M none M' := Run.of 3 (miX10_foresee).1 (Nat.le_of_ble_eq_true rfl) (w_X10_foresee_0 hs1 _ _ _ hF)
end NXG
