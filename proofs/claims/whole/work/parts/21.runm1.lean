theorem dX11_stayOf_0 : decode cX11_stayOf 0 = .ok (.aload_n 0, 1) := by decide +kernel
theorem dX11_stayOf_1 : decode cX11_stayOf 1 = .ok (.getfield 32, 3) := by decide +kernel
theorem dX11_stayOf_4 : decode cX11_stayOf 4 = .ok (.iload_n 1, 1) := by decide +kernel
theorem dX11_stayOf_5 : decode cX11_stayOf 5 = .ok (.iaload, 1) := by decide +kernel
theorem dX11_stayOf_6 : decode cX11_stayOf 6 = .ok (.iload_n 2, 1) := by decide +kernel
theorem dX11_stayOf_7 : decode cX11_stayOf 7 = .ok (.invokestatic 209, 3) := by decide +kernel
theorem dX11_stayOf_10 : decode cX11_stayOf 10 = .ok (.ifCond .eq 5, 3) := by decide +kernel
theorem dX11_stayOf_13 : decode cX11_stayOf 13 = .ok (.iconst 0, 1) := by decide +kernel
theorem dX11_stayOf_14 : decode cX11_stayOf 14 = .ok (.ireturn, 1) := by decide +kernel
theorem dX11_stayOf_15 : decode cX11_stayOf 15 = .ok (.aload_n 0, 1) := by decide +kernel
theorem dX11_stayOf_16 : decode cX11_stayOf 16 = .ok (.getfield 29, 3) := by decide +kernel
theorem dX11_stayOf_19 : decode cX11_stayOf 19 = .ok (.bipush 6, 2) := by decide +kernel
theorem dX11_stayOf_21 : decode cX11_stayOf 21 = .ok (.iload_n 1, 1) := by decide +kernel
theorem dX11_stayOf_22 : decode cX11_stayOf 22 = .ok (.imul, 1) := by decide +kernel
theorem dX11_stayOf_23 : decode cX11_stayOf 23 = .ok (.iload_n 2, 1) := by decide +kernel
theorem dX11_stayOf_24 : decode cX11_stayOf 24 = .ok (.iadd, 1) := by decide +kernel
theorem dX11_stayOf_25 : decode cX11_stayOf 25 = .ok (.iaload, 1) := by decide +kernel
theorem dX11_stayOf_26 : decode cX11_stayOf 26 = .ok (.istore_n 3, 1) := by decide +kernel
theorem dX11_stayOf_27 : decode cX11_stayOf 27 = .ok (.aload_n 0, 1) := by decide +kernel
theorem dX11_stayOf_28 : decode cX11_stayOf 28 = .ok (.getfield 206, 3) := by decide +kernel
theorem dX11_stayOf_31 : decode cX11_stayOf 31 = .ok (.ifCond .le 43, 3) := by decide +kernel
theorem dX11_stayOf_34 : decode cX11_stayOf 34 = .ok (.aload_n 0, 1) := by decide +kernel
theorem dX11_stayOf_35 : decode cX11_stayOf 35 = .ok (.aload_n 0, 1) := by decide +kernel
theorem dX11_stayOf_36 : decode cX11_stayOf 36 = .ok (.getfield 45, 3) := by decide +kernel
theorem dX11_stayOf_39 : decode cX11_stayOf 39 = .ok (.aload_n 0, 1) := by decide +kernel
theorem dX11_stayOf_40 : decode cX11_stayOf 40 = .ok (.getfield 206, 3) := by decide +kernel
theorem dX11_stayOf_43 : decode cX11_stayOf 43 = .ok (.bipush 40, 2) := by decide +kernel
theorem dX11_stayOf_45 : decode cX11_stayOf 45 = .ok (.invokevirtual 164, 3) := by decide +kernel
theorem dX11_stayOf_48 : decode cX11_stayOf 48 = .ok (.aload_n 0, 1) := by decide +kernel
theorem dX11_stayOf_49 : decode cX11_stayOf 49 = .ok (.iconst 1, 1) := by decide +kernel
theorem dX11_stayOf_50 : decode cX11_stayOf 50 = .ok (.putfield 193, 3) := by decide +kernel
theorem dX11_stayOf_53 : decode cX11_stayOf 53 = .ok (.aload_n 0, 1) := by decide +kernel
theorem dX11_stayOf_54 : decode cX11_stayOf 54 = .ok (.iload_n 1, 1) := by decide +kernel
theorem dX11_stayOf_55 : decode cX11_stayOf 55 = .ok (.putfield 200, 3) := by decide +kernel
theorem dX11_stayOf_58 : decode cX11_stayOf 58 = .ok (.aload_n 0, 1) := by decide +kernel
theorem dX11_stayOf_59 : decode cX11_stayOf 59 = .ok (.iload_n 2, 1) := by decide +kernel
theorem dX11_stayOf_60 : decode cX11_stayOf 60 = .ok (.putfield 203, 3) := by decide +kernel
theorem dX11_stayOf_63 : decode cX11_stayOf 63 = .ok (.aload_n 0, 1) := by decide +kernel
theorem dX11_stayOf_64 : decode cX11_stayOf 64 = .ok (.iconst 0, 1) := by decide +kernel
theorem dX11_stayOf_65 : decode cX11_stayOf 65 = .ok (.invokevirtual 190, 3) := by decide +kernel
theorem dX11_stayOf_68 : decode cX11_stayOf 68 = .ok (.istore_n 3, 1) := by decide +kernel
theorem dX11_stayOf_69 : decode cX11_stayOf 69 = .ok (.aload_n 0, 1) := by decide +kernel
theorem dX11_stayOf_70 : decode cX11_stayOf 70 = .ok (.iconst 0, 1) := by decide +kernel
theorem dX11_stayOf_71 : decode cX11_stayOf 71 = .ok (.putfield 193, 3) := by decide +kernel
theorem dX11_stayOf_74 : decode cX11_stayOf 74 = .ok (.iconst 0, 1) := by decide +kernel
theorem dX11_stayOf_75 : decode cX11_stayOf 75 = .ok (.bipush 30, 2) := by decide +kernel
theorem dX11_stayOf_77 : decode cX11_stayOf 77 = .ok (.iload_n 3, 1) := by decide +kernel
theorem dX11_stayOf_78 : decode cX11_stayOf 78 = .ok (.invokestatic 213, 3) := by decide +kernel
theorem dX11_stayOf_81 : decode cX11_stayOf 81 = .ok (.invokestatic 218, 3) := by decide +kernel
theorem dX11_stayOf_84 : decode cX11_stayOf 84 = .ok (.ireturn, 1) := by decide +kernel
theorem dX11_layStays_0 : decode cX11_layStays 0 = .ok (.iconst 0, 1) := by decide +kernel
theorem dX11_layStays_1 : decode cX11_layStays 1 = .ok (.istore_n 1, 1) := by decide +kernel
theorem dX11_layStays_2 : decode cX11_layStays 2 = .ok (.iload_n 1, 1) := by decide +kernel
theorem dX11_layStays_3 : decode cX11_layStays 3 = .ok (.aload_n 0, 1) := by decide +kernel
theorem dX11_layStays_4 : decode cX11_layStays 4 = .ok (.getfield 113, 3) := by decide +kernel
theorem dX11_layStays_7 : decode cX11_layStays 7 = .ok (.if_icmp .ge 42, 3) := by decide +kernel
theorem dX11_layStays_10 : decode cX11_layStays 10 = .ok (.iconst 0, 1) := by decide +kernel
theorem dX11_layStays_11 : decode cX11_layStays 11 = .ok (.istore_n 2, 1) := by decide +kernel
theorem dX11_layStays_12 : decode cX11_layStays 12 = .ok (.iload_n 2, 1) := by decide +kernel
theorem dX11_layStays_13 : decode cX11_layStays 13 = .ok (.aload_n 0, 1) := by decide +kernel
theorem dX11_layStays_14 : decode cX11_layStays 14 = .ok (.getfield 106, 3) := by decide +kernel
theorem dX11_layStays_17 : decode cX11_layStays 17 = .ok (.if_icmp .ge 26, 3) := by decide +kernel
theorem dX11_layStays_20 : decode cX11_layStays 20 = .ok (.aload_n 0, 1) := by decide +kernel
theorem dX11_layStays_21 : decode cX11_layStays 21 = .ok (.getfield 48, 3) := by decide +kernel
theorem dX11_layStays_24 : decode cX11_layStays 24 = .ok (.bipush 6, 2) := by decide +kernel
theorem dX11_layStays_26 : decode cX11_layStays 26 = .ok (.iload_n 1, 1) := by decide +kernel
theorem dX11_layStays_27 : decode cX11_layStays 27 = .ok (.imul, 1) := by decide +kernel
theorem dX11_layStays_28 : decode cX11_layStays 28 = .ok (.iload_n 2, 1) := by decide +kernel
theorem dX11_layStays_29 : decode cX11_layStays 29 = .ok (.iadd, 1) := by decide +kernel
theorem dX11_layStays_30 : decode cX11_layStays 30 = .ok (.aload_n 0, 1) := by decide +kernel
theorem dX11_layStays_31 : decode cX11_layStays 31 = .ok (.iload_n 1, 1) := by decide +kernel
theorem dX11_layStays_32 : decode cX11_layStays 32 = .ok (.iload_n 2, 1) := by decide +kernel
theorem dX11_layStays_33 : decode cX11_layStays 33 = .ok (.invokevirtual 221, 3) := by decide +kernel
theorem dX11_layStays_36 : decode cX11_layStays 36 = .ok (.iastore, 1) := by decide +kernel
theorem dX11_layStays_37 : decode cX11_layStays 37 = .ok (.iinc 2 1, 3) := by decide +kernel
theorem dX11_layStays_40 : decode cX11_layStays 40 = .ok (.goto (-28), 3) := by decide +kernel
theorem dX11_layStays_43 : decode cX11_layStays 43 = .ok (.iinc 1 1, 3) := by decide +kernel
theorem dX11_layStays_46 : decode cX11_layStays 46 = .ok (.goto (-44), 3) := by decide +kernel
theorem dX11_layStays_49 : decode cX11_layStays 49 = .ok (.return_, 1) := by decide +kernel
theorem dX11_isInside_0 : decode cX11_isInside 0 = .ok (.aload_n 1, 1) := by decide +kernel
theorem dX11_isInside_1 : decode cX11_isInside 1 = .ok (.iload_n 2, 1) := by decide +kernel
theorem dX11_isInside_2 : decode cX11_isInside 2 = .ok (.iaload, 1) := by decide +kernel
theorem dX11_isInside_3 : decode cX11_isInside 3 = .ok (.iconst (-1), 1) := by decide +kernel
theorem dX11_isInside_4 : decode cX11_isInside 4 = .ok (.if_icmp .eq 15, 3) := by decide +kernel
theorem dX11_isInside_7 : decode cX11_isInside 7 = .ok (.aload_n 1, 1) := by decide +kernel
theorem dX11_isInside_8 : decode cX11_isInside 8 = .ok (.iload_n 2, 1) := by decide +kernel
theorem dX11_isInside_9 : decode cX11_isInside 9 = .ok (.iaload, 1) := by decide +kernel
theorem dX11_isInside_10 : decode cX11_isInside 10 = .ok (.bipush 9, 2) := by decide +kernel
theorem dX11_isInside_12 : decode cX11_isInside 12 = .ok (.if_icmp .eq 7, 3) := by decide +kernel
theorem dX11_isInside_15 : decode cX11_isInside 15 = .ok (.iconst 1, 1) := by decide +kernel
theorem dX11_isInside_16 : decode cX11_isInside 16 = .ok (.goto 4, 3) := by decide +kernel
theorem dX11_isInside_19 : decode cX11_isInside 19 = .ok (.iconst 0, 1) := by decide +kernel
theorem dX11_isInside_20 : decode cX11_isInside 20 = .ok (.ireturn, 1) := by decide +kernel
theorem dX11_inRoom_0 : decode cX11_inRoom 0 = .ok (.iconst 0, 1) := by decide +kernel
theorem dX11_inRoom_1 : decode cX11_inRoom 1 = .ok (.istore_n 3, 1) := by decide +kernel
theorem dX11_inRoom_2 : decode cX11_inRoom 2 = .ok (.iconst 0, 1) := by decide +kernel
theorem dX11_inRoom_3 : decode cX11_inRoom 3 = .ok (.istore 4, 2) := by decide +kernel
theorem dX11_inRoom_5 : decode cX11_inRoom 5 = .ok (.iload 4, 2) := by decide +kernel
theorem dX11_inRoom_7 : decode cX11_inRoom 7 = .ok (.aload_n 0, 1) := by decide +kernel
theorem dX11_inRoom_8 : decode cX11_inRoom 8 = .ok (.getfield 113, 3) := by decide +kernel
theorem dX11_inRoom_11 : decode cX11_inRoom 11 = .ok (.if_icmp .ge 28, 3) := by decide +kernel
theorem dX11_inRoom_14 : decode cX11_inRoom 14 = .ok (.iload_n 3, 1) := by decide +kernel
theorem dX11_inRoom_15 : decode cX11_inRoom 15 = .ok (.aload_n 1, 1) := by decide +kernel
theorem dX11_inRoom_16 : decode cX11_inRoom 16 = .ok (.iload 4, 2) := by decide +kernel
theorem dX11_inRoom_18 : decode cX11_inRoom 18 = .ok (.iaload, 1) := by decide +kernel
theorem dX11_inRoom_19 : decode cX11_inRoom 19 = .ok (.iload_n 2, 1) := by decide +kernel
theorem dX11_inRoom_20 : decode cX11_inRoom 20 = .ok (.if_icmp .ne 10, 3) := by decide +kernel
theorem dX11_inRoom_23 : decode cX11_inRoom 23 = .ok (.iconst 1, 1) := by decide +kernel
theorem dX11_inRoom_24 : decode cX11_inRoom 24 = .ok (.iload 4, 2) := by decide +kernel
theorem dX11_inRoom_26 : decode cX11_inRoom 26 = .ok (.ishl, 1) := by decide +kernel
theorem dX11_inRoom_27 : decode cX11_inRoom 27 = .ok (.goto 4, 3) := by decide +kernel
theorem dX11_inRoom_30 : decode cX11_inRoom 30 = .ok (.iconst 0, 1) := by decide +kernel
theorem dX11_inRoom_31 : decode cX11_inRoom 31 = .ok (.ior, 1) := by decide +kernel
theorem dX11_inRoom_32 : decode cX11_inRoom 32 = .ok (.istore_n 3, 1) := by decide +kernel
theorem dX11_inRoom_33 : decode cX11_inRoom 33 = .ok (.iinc 4 1, 3) := by decide +kernel
theorem dX11_inRoom_36 : decode cX11_inRoom 36 = .ok (.goto (-31), 3) := by decide +kernel
theorem dX11_inRoom_39 : decode cX11_inRoom 39 = .ok (.iload_n 3, 1) := by decide +kernel
theorem dX11_inRoom_40 : decode cX11_inRoom 40 = .ok (.ireturn, 1) := by decide +kernel
theorem dX11_inside_0 : decode cX11_inside 0 = .ok (.iconst 0, 1) := by decide +kernel
theorem dX11_inside_1 : decode cX11_inside 1 = .ok (.istore_n 2, 1) := by decide +kernel
theorem dX11_inside_2 : decode cX11_inside 2 = .ok (.iconst 0, 1) := by decide +kernel
theorem dX11_inside_3 : decode cX11_inside 3 = .ok (.istore_n 3, 1) := by decide +kernel
theorem dX11_inside_4 : decode cX11_inside 4 = .ok (.iload_n 3, 1) := by decide +kernel
theorem dX11_inside_5 : decode cX11_inside 5 = .ok (.aload_n 0, 1) := by decide +kernel
theorem dX11_inside_6 : decode cX11_inside 6 = .ok (.getfield 113, 3) := by decide +kernel
theorem dX11_inside_9 : decode cX11_inside 9 = .ok (.if_icmp .ge 28, 3) := by decide +kernel
theorem dX11_inside_12 : decode cX11_inside 12 = .ok (.iload_n 2, 1) := by decide +kernel
theorem dX11_inside_13 : decode cX11_inside 13 = .ok (.aload_n 0, 1) := by decide +kernel
theorem dX11_inside_14 : decode cX11_inside 14 = .ok (.aload_n 1, 1) := by decide +kernel
theorem dX11_inside_15 : decode cX11_inside 15 = .ok (.iload_n 3, 1) := by decide +kernel
theorem dX11_inside_16 : decode cX11_inside 16 = .ok (.invokevirtual 224, 3) := by decide +kernel
theorem dX11_inside_19 : decode cX11_inside 19 = .ok (.ifCond .eq 9, 3) := by decide +kernel
theorem dX11_inside_22 : decode cX11_inside 22 = .ok (.iconst 1, 1) := by decide +kernel
theorem dX11_inside_23 : decode cX11_inside 23 = .ok (.iload_n 3, 1) := by decide +kernel
theorem dX11_inside_24 : decode cX11_inside 24 = .ok (.ishl, 1) := by decide +kernel
theorem dX11_inside_25 : decode cX11_inside 25 = .ok (.goto 4, 3) := by decide +kernel
theorem dX11_inside_28 : decode cX11_inside 28 = .ok (.iconst 0, 1) := by decide +kernel
theorem dX11_inside_29 : decode cX11_inside 29 = .ok (.ior, 1) := by decide +kernel
theorem dX11_inside_30 : decode cX11_inside 30 = .ok (.istore_n 2, 1) := by decide +kernel
theorem dX11_inside_31 : decode cX11_inside 31 = .ok (.iinc 3 1, 3) := by decide +kernel
theorem dX11_inside_34 : decode cX11_inside 34 = .ok (.goto (-30), 3) := by decide +kernel
theorem dX11_inside_37 : decode cX11_inside 37 = .ok (.iload_n 2, 1) := by decide +kernel
theorem dX11_inside_38 : decode cX11_inside 38 = .ok (.ireturn, 1) := by decide +kernel
theorem dX11_group_0 : decode cX11_group 0 = .ok (.aload_n 0, 1) := by decide +kernel
theorem dX11_group_1 : decode cX11_group 1 = .ok (.iconst 0, 1) := by decide +kernel
theorem dX11_group_2 : decode cX11_group 2 = .ok (.putfield 99, 3) := by decide +kernel
theorem dX11_group_5 : decode cX11_group 5 = .ok (.aload_n 0, 1) := by decide +kernel
theorem dX11_group_6 : decode cX11_group 6 = .ok (.iload_n 1, 1) := by decide +kernel
theorem dX11_group_7 : decode cX11_group 7 = .ok (.invokevirtual 228, 3) := by decide +kernel
theorem dX11_group_10 : decode cX11_group 10 = .ok (.ifCond .eq 13, 3) := by decide +kernel
theorem dX11_group_13 : decode cX11_group 13 = .ok (.iload_n 2, 1) := by decide +kernel
theorem dX11_group_14 : decode cX11_group 14 = .ok (.iconst 0, 1) := by decide +kernel
theorem dX11_group_15 : decode cX11_group 15 = .ok (.bipush 8, 2) := by decide +kernel
theorem dX11_group_17 : decode cX11_group 17 = .ok (.invokestatic 109, 3) := by decide +kernel
theorem dX11_group_20 : decode cX11_group 20 = .ok (.ifCond .ne 8, 3) := by decide +kernel
theorem dX11_group_23 : decode cX11_group 23 = .ok (.aload_n 0, 1) := by decide +kernel
theorem dX11_group_24 : decode cX11_group 24 = .ok (.invokevirtual 232, 3) := by decide +kernel
theorem dX11_group_27 : decode cX11_group 27 = .ok (.ireturn, 1) := by decide +kernel
theorem dX11_group_28 : decode cX11_group 28 = .ok (.iload_n 2, 1) := by decide +kernel
theorem dX11_group_29 : decode cX11_group 29 = .ok (.tableswitch 120 0 7 #[47, 54, 61, 68, 83, 90, 100, 110], 47) := by decide +kernel
theorem dX11_group_76 : decode cX11_group 76 = .ok (.aload_n 0, 1) := by decide +kernel
theorem dX11_group_77 : decode cX11_group 77 = .ok (.getfield 17, 3) := by decide +kernel
theorem dX11_group_80 : decode cX11_group 80 = .ok (.iload_n 1, 1) := by decide +kernel
theorem dX11_group_81 : decode cX11_group 81 = .ok (.iaload, 1) := by decide +kernel
theorem dX11_group_82 : decode cX11_group 82 = .ok (.ireturn, 1) := by decide +kernel
theorem dX11_group_83 : decode cX11_group 83 = .ok (.aload_n 0, 1) := by decide +kernel
theorem dX11_group_84 : decode cX11_group 84 = .ok (.getfield 20, 3) := by decide +kernel
theorem dX11_group_87 : decode cX11_group 87 = .ok (.iload_n 1, 1) := by decide +kernel
theorem dX11_group_88 : decode cX11_group 88 = .ok (.iaload, 1) := by decide +kernel
theorem dX11_group_89 : decode cX11_group 89 = .ok (.ireturn, 1) := by decide +kernel
theorem dX11_group_90 : decode cX11_group 90 = .ok (.aload_n 0, 1) := by decide +kernel
theorem dX11_group_91 : decode cX11_group 91 = .ok (.getfield 23, 3) := by decide +kernel
theorem dX11_group_94 : decode cX11_group 94 = .ok (.iload_n 1, 1) := by decide +kernel
theorem dX11_group_95 : decode cX11_group 95 = .ok (.iaload, 1) := by decide +kernel
theorem dX11_group_96 : decode cX11_group 96 = .ok (.ireturn, 1) := by decide +kernel
theorem dX11_group_97 : decode cX11_group 97 = .ok (.aload_n 0, 1) := by decide +kernel
theorem dX11_group_98 : decode cX11_group 98 = .ok (.getfield 26, 3) := by decide +kernel
theorem dX11_group_101 : decode cX11_group 101 = .ok (.iload_n 1, 1) := by decide +kernel
theorem dX11_group_102 : decode cX11_group 102 = .ok (.baload, 1) := by decide +kernel
theorem dX11_group_103 : decode cX11_group 103 = .ok (.ifCond .eq 7, 3) := by decide +kernel
theorem dX11_group_106 : decode cX11_group 106 = .ok (.iconst 1, 1) := by decide +kernel
theorem dX11_group_107 : decode cX11_group 107 = .ok (.goto 4, 3) := by decide +kernel
theorem dX11_group_110 : decode cX11_group 110 = .ok (.iconst 0, 1) := by decide +kernel
theorem dX11_group_111 : decode cX11_group 111 = .ok (.ireturn, 1) := by decide +kernel
theorem dX11_group_112 : decode cX11_group 112 = .ok (.aload_n 0, 1) := by decide +kernel
theorem dX11_group_113 : decode cX11_group 113 = .ok (.getfield 9, 3) := by decide +kernel
theorem dX11_group_116 : decode cX11_group 116 = .ok (.iload_n 1, 1) := by decide +kernel
theorem dX11_group_117 : decode cX11_group 117 = .ok (.iaload, 1) := by decide +kernel
theorem dX11_group_118 : decode cX11_group 118 = .ok (.ireturn, 1) := by decide +kernel
theorem dX11_group_119 : decode cX11_group 119 = .ok (.aload_n 0, 1) := by decide +kernel
theorem dX11_group_120 : decode cX11_group 120 = .ok (.getfield 9, 3) := by decide +kernel
theorem dX11_group_123 : decode cX11_group 123 = .ok (.bipush 6, 2) := by decide +kernel
theorem dX11_group_125 : decode cX11_group 125 = .ok (.iload_n 1, 1) := by decide +kernel
theorem dX11_group_126 : decode cX11_group 126 = .ok (.iadd, 1) := by decide +kernel
theorem dX11_group_127 : decode cX11_group 127 = .ok (.iaload, 1) := by decide +kernel
theorem dX11_group_128 : decode cX11_group 128 = .ok (.ireturn, 1) := by decide +kernel
theorem dX11_group_129 : decode cX11_group 129 = .ok (.aload_n 0, 1) := by decide +kernel
theorem dX11_group_130 : decode cX11_group 130 = .ok (.getfield 9, 3) := by decide +kernel
theorem dX11_group_133 : decode cX11_group 133 = .ok (.bipush 12, 2) := by decide +kernel
theorem dX11_group_135 : decode cX11_group 135 = .ok (.iload_n 1, 1) := by decide +kernel
theorem dX11_group_136 : decode cX11_group 136 = .ok (.iadd, 1) := by decide +kernel
theorem dX11_group_137 : decode cX11_group 137 = .ok (.iaload, 1) := by decide +kernel
theorem dX11_group_138 : decode cX11_group 138 = .ok (.ireturn, 1) := by decide +kernel
theorem dX11_group_139 : decode cX11_group 139 = .ok (.aload_n 0, 1) := by decide +kernel
theorem dX11_group_140 : decode cX11_group 140 = .ok (.getfield 9, 3) := by decide +kernel
theorem dX11_group_143 : decode cX11_group 143 = .ok (.bipush 18, 2) := by decide +kernel
theorem dX11_group_145 : decode cX11_group 145 = .ok (.iload_n 1, 1) := by decide +kernel
theorem dX11_group_146 : decode cX11_group 146 = .ok (.iadd, 1) := by decide +kernel
theorem dX11_group_147 : decode cX11_group 147 = .ok (.iaload, 1) := by decide +kernel
theorem dX11_group_148 : decode cX11_group 148 = .ok (.ireturn, 1) := by decide +kernel
theorem dX11_group_149 : decode cX11_group 149 = .ok (.aload_n 0, 1) := by decide +kernel
theorem dX11_group_150 : decode cX11_group 150 = .ok (.getfield 32, 3) := by decide +kernel
theorem dX11_group_153 : decode cX11_group 153 = .ok (.iload_n 1, 1) := by decide +kernel
theorem dX11_group_154 : decode cX11_group 154 = .ok (.iaload, 1) := by decide +kernel
theorem dX11_group_155 : decode cX11_group 155 = .ok (.ireturn, 1) := by decide +kernel
theorem dX11_room_0 : decode cX11_room 0 = .ok (.aload_n 0, 1) := by decide +kernel
theorem dX11_room_1 : decode cX11_room 1 = .ok (.iconst 0, 1) := by decide +kernel
theorem dX11_room_2 : decode cX11_room 2 = .ok (.putfield 99, 3) := by decide +kernel
theorem dX11_room_5 : decode cX11_room 5 = .ok (.aload_n 0, 1) := by decide +kernel
theorem dX11_room_6 : decode cX11_room 6 = .ok (.iload_n 1, 1) := by decide +kernel
theorem dX11_room_7 : decode cX11_room 7 = .ok (.invokevirtual 235, 3) := by decide +kernel
theorem dX11_room_10 : decode cX11_room 10 = .ok (.ifCond .eq 12, 3) := by decide +kernel
theorem dX11_room_13 : decode cX11_room 13 = .ok (.iload_n 2, 1) := by decide +kernel
theorem dX11_room_14 : decode cX11_room 14 = .ok (.iconst 0, 1) := by decide +kernel
theorem dX11_room_15 : decode cX11_room 15 = .ok (.iconst 2, 1) := by decide +kernel
theorem dX11_room_16 : decode cX11_room 16 = .ok (.invokestatic 109, 3) := by decide +kernel
theorem dX11_room_19 : decode cX11_room 19 = .ok (.ifCond .ne 8, 3) := by decide +kernel
theorem dX11_room_22 : decode cX11_room 22 = .ok (.aload_n 0, 1) := by decide +kernel
theorem dX11_room_23 : decode cX11_room 23 = .ok (.invokevirtual 232, 3) := by decide +kernel
theorem dX11_room_26 : decode cX11_room 26 = .ok (.ireturn, 1) := by decide +kernel
theorem dX11_room_27 : decode cX11_room 27 = .ok (.iload_n 2, 1) := by decide +kernel
theorem dX11_room_28 : decode cX11_room 28 = .ok (.ifCond .ne 18, 3) := by decide +kernel
theorem dX11_room_31 : decode cX11_room 31 = .ok (.aload_n 0, 1) := by decide +kernel
theorem dX11_room_32 : decode cX11_room 32 = .ok (.getfield 13, 3) := by decide +kernel
theorem dX11_room_35 : decode cX11_room 35 = .ok (.iload_n 1, 1) := by decide +kernel
theorem dX11_room_36 : decode cX11_room 36 = .ok (.baload, 1) := by decide +kernel
theorem dX11_room_37 : decode cX11_room 37 = .ok (.ifCond .eq 7, 3) := by decide +kernel
theorem dX11_room_40 : decode cX11_room 40 = .ok (.iconst 1, 1) := by decide +kernel
theorem dX11_room_41 : decode cX11_room 41 = .ok (.goto 4, 3) := by decide +kernel
theorem dX11_room_44 : decode cX11_room 44 = .ok (.iconst 0, 1) := by decide +kernel
theorem dX11_room_45 : decode cX11_room 45 = .ok (.ireturn, 1) := by decide +kernel
theorem dX11_room_46 : decode cX11_room 46 = .ok (.iload_n 2, 1) := by decide +kernel
theorem dX11_room_47 : decode cX11_room 47 = .ok (.iconst 1, 1) := by decide +kernel
theorem dX11_room_48 : decode cX11_room 48 = .ok (.if_icmp .ne 13, 3) := by decide +kernel
theorem dX11_room_51 : decode cX11_room 51 = .ok (.aload_n 0, 1) := by decide +kernel
theorem dX11_room_52 : decode cX11_room 52 = .ok (.aload_n 0, 1) := by decide +kernel
theorem dX11_room_53 : decode cX11_room 53 = .ok (.getfield 9, 3) := by decide +kernel
theorem dX11_room_56 : decode cX11_room 56 = .ok (.iload_n 1, 1) := by decide +kernel
theorem dX11_room_57 : decode cX11_room 57 = .ok (.invokevirtual 238, 3) := by decide +kernel
theorem dX11_room_60 : decode cX11_room 60 = .ok (.ireturn, 1) := by decide +kernel
theorem dX11_room_61 : decode cX11_room 61 = .ok (.iconst 0, 1) := by decide +kernel
theorem dX11_room_62 : decode cX11_room 62 = .ok (.istore_n 3, 1) := by decide +kernel
theorem dX11_room_63 : decode cX11_room 63 = .ok (.iconst 0, 1) := by decide +kernel
theorem dX11_room_64 : decode cX11_room 64 = .ok (.istore 4, 2) := by decide +kernel
theorem dX11_room_66 : decode cX11_room 66 = .ok (.iload 4, 2) := by decide +kernel
theorem dX11_room_68 : decode cX11_room 68 = .ok (.aload_n 0, 1) := by decide +kernel
theorem dX11_room_69 : decode cX11_room 69 = .ok (.getfield 113, 3) := by decide +kernel
theorem dX11_room_72 : decode cX11_room 72 = .ok (.if_icmp .ge 19, 3) := by decide +kernel
theorem dX11_room_75 : decode cX11_room 75 = .ok (.iload_n 3, 1) := by decide +kernel
theorem dX11_room_76 : decode cX11_room 76 = .ok (.aload_n 0, 1) := by decide +kernel
theorem dX11_room_77 : decode cX11_room 77 = .ok (.iload 4, 2) := by decide +kernel
theorem dX11_room_79 : decode cX11_room 79 = .ok (.iload_n 1, 1) := by decide +kernel
theorem dX11_room_80 : decode cX11_room 80 = .ok (.invokevirtual 221, 3) := by decide +kernel
theorem dX11_room_83 : decode cX11_room 83 = .ok (.iadd, 1) := by decide +kernel
theorem dX11_room_84 : decode cX11_room 84 = .ok (.istore_n 3, 1) := by decide +kernel
theorem dX11_room_85 : decode cX11_room 85 = .ok (.iinc 4 1, 3) := by decide +kernel
theorem dX11_room_88 : decode cX11_room 88 = .ok (.goto (-22), 3) := by decide +kernel
theorem dX11_room_91 : decode cX11_room 91 = .ok (.iload_n 3, 1) := by decide +kernel
theorem dX11_room_92 : decode cX11_room 92 = .ok (.ireturn, 1) := by decide +kernel
theorem dX11_stay_0 : decode cX11_stay 0 = .ok (.aload_n 0, 1) := by decide +kernel
theorem dX11_stay_1 : decode cX11_stay 1 = .ok (.iconst 0, 1) := by decide +kernel
theorem dX11_stay_2 : decode cX11_stay 2 = .ok (.putfield 99, 3) := by decide +kernel
theorem dX11_stay_5 : decode cX11_stay 5 = .ok (.aload_n 0, 1) := by decide +kernel
theorem dX11_stay_6 : decode cX11_stay 6 = .ok (.iload_n 1, 1) := by decide +kernel
theorem dX11_stay_7 : decode cX11_stay 7 = .ok (.invokevirtual 228, 3) := by decide +kernel
theorem dX11_stay_10 : decode cX11_stay 10 = .ok (.ifCond .eq 20, 3) := by decide +kernel
theorem dX11_stay_13 : decode cX11_stay 13 = .ok (.aload_n 0, 1) := by decide +kernel
theorem dX11_stay_14 : decode cX11_stay 14 = .ok (.iload_n 2, 1) := by decide +kernel
theorem dX11_stay_15 : decode cX11_stay 15 = .ok (.invokevirtual 235, 3) := by decide +kernel
theorem dX11_stay_18 : decode cX11_stay 18 = .ok (.ifCond .eq 12, 3) := by decide +kernel
theorem dX11_stay_21 : decode cX11_stay 21 = .ok (.aload_n 0, 1) := by decide +kernel
theorem dX11_stay_22 : decode cX11_stay 22 = .ok (.iload_n 1, 1) := by decide +kernel
theorem dX11_stay_23 : decode cX11_stay 23 = .ok (.iload_n 2, 1) := by decide +kernel
theorem dX11_stay_24 : decode cX11_stay 24 = .ok (.invokevirtual 221, 3) := by decide +kernel
theorem dX11_stay_27 : decode cX11_stay 27 = .ok (.goto 4, 3) := by decide +kernel
theorem dX11_stay_30 : decode cX11_stay 30 = .ok (.iconst (-1), 1) := by decide +kernel
theorem dX11_stay_31 : decode cX11_stay 31 = .ok (.ireturn, 1) := by decide +kernel
theorem dX11_leave_0 : decode cX11_leave 0 = .ok (.aload_n 0, 1) := by decide +kernel
theorem dX11_leave_1 : decode cX11_leave 1 = .ok (.iconst 0, 1) := by decide +kernel
theorem dX11_leave_2 : decode cX11_leave 2 = .ok (.putfield 99, 3) := by decide +kernel
theorem dX11_leave_5 : decode cX11_leave 5 = .ok (.aload_n 0, 1) := by decide +kernel
theorem dX11_leave_6 : decode cX11_leave 6 = .ok (.iload_n 1, 1) := by decide +kernel
theorem dX11_leave_7 : decode cX11_leave 7 = .ok (.invokevirtual 228, 3) := by decide +kernel
theorem dX11_leave_10 : decode cX11_leave 10 = .ok (.ifCond .eq 19, 3) := by decide +kernel
theorem dX11_leave_13 : decode cX11_leave 13 = .ok (.iload_n 2, 1) := by decide +kernel
theorem dX11_leave_14 : decode cX11_leave 14 = .ok (.iconst 0, 1) := by decide +kernel
theorem dX11_leave_15 : decode cX11_leave 15 = .ok (.iconst 1, 1) := by decide +kernel
theorem dX11_leave_16 : decode cX11_leave 16 = .ok (.aload_n 0, 1) := by decide +kernel
theorem dX11_leave_17 : decode cX11_leave 17 = .ok (.getfield 106, 3) := by decide +kernel
theorem dX11_leave_20 : decode cX11_leave 20 = .ok (.ishl, 1) := by decide +kernel
theorem dX11_leave_21 : decode cX11_leave 21 = .ok (.iconst 1, 1) := by decide +kernel
theorem dX11_leave_22 : decode cX11_leave 22 = .ok (.isub, 1) := by decide +kernel
theorem dX11_leave_23 : decode cX11_leave 23 = .ok (.invokestatic 109, 3) := by decide +kernel
theorem dX11_leave_26 : decode cX11_leave 26 = .ok (.ifCond .ne 5, 3) := by decide +kernel
theorem dX11_leave_29 : decode cX11_leave 29 = .ok (.iconst (-1), 1) := by decide +kernel
theorem dX11_leave_30 : decode cX11_leave 30 = .ok (.ireturn, 1) := by decide +kernel
theorem dX11_leave_31 : decode cX11_leave 31 = .ok (.aload_n 0, 1) := by decide +kernel
theorem dX11_leave_32 : decode cX11_leave 32 = .ok (.getfield 32, 3) := by decide +kernel
theorem dX11_leave_35 : decode cX11_leave 35 = .ok (.iload_n 1, 1) := by decide +kernel
theorem dX11_leave_36 : decode cX11_leave 36 = .ok (.iaload, 1) := by decide +kernel
theorem dX11_leave_37 : decode cX11_leave 37 = .ok (.istore_n 3, 1) := by decide +kernel
theorem dX11_leave_38 : decode cX11_leave 38 = .ok (.aload_n 0, 1) := by decide +kernel
theorem dX11_leave_39 : decode cX11_leave 39 = .ok (.getfield 32, 3) := by decide +kernel
theorem dX11_leave_42 : decode cX11_leave 42 = .ok (.iload_n 1, 1) := by decide +kernel
theorem dX11_leave_43 : decode cX11_leave 43 = .ok (.iload_n 2, 1) := by decide +kernel
theorem dX11_leave_44 : decode cX11_leave 44 = .ok (.iastore, 1) := by decide +kernel
theorem dX11_leave_45 : decode cX11_leave 45 = .ok (.iload_n 3, 1) := by decide +kernel
theorem dX11_leave_46 : decode cX11_leave 46 = .ok (.ireturn, 1) := by decide +kernel
theorem dX11_sheet_0 : decode cX11_sheet 0 = .ok (.aload_n 0, 1) := by decide +kernel
theorem dX11_sheet_1 : decode cX11_sheet 1 = .ok (.iconst 0, 1) := by decide +kernel
theorem dX11_sheet_2 : decode cX11_sheet 2 = .ok (.putfield 99, 3) := by decide +kernel
theorem dX11_sheet_5 : decode cX11_sheet 5 = .ok (.iload_n 2, 1) := by decide +kernel
theorem dX11_sheet_6 : decode cX11_sheet 6 = .ok (.iconst 0, 1) := by decide +kernel
theorem dX11_sheet_7 : decode cX11_sheet 7 = .ok (.iconst 3, 1) := by decide +kernel
theorem dX11_sheet_8 : decode cX11_sheet 8 = .ok (.invokestatic 109, 3) := by decide +kernel
theorem dX11_sheet_11 : decode cX11_sheet 11 = .ok (.ifCond .eq 17, 3) := by decide +kernel
theorem dX11_sheet_14 : decode cX11_sheet 14 = .ok (.iload_n 3, 1) := by decide +kernel
theorem dX11_sheet_15 : decode cX11_sheet 15 = .ok (.bipush 6, 2) := by decide +kernel
theorem dX11_sheet_17 : decode cX11_sheet 17 = .ok (.if_icmp .gt 11, 3) := by decide +kernel
theorem dX11_sheet_20 : decode cX11_sheet 20 = .ok (.aload_n 0, 1) := by decide +kernel
theorem dX11_sheet_21 : decode cX11_sheet 21 = .ok (.iload_n 1, 1) := by decide +kernel
theorem dX11_sheet_22 : decode cX11_sheet 22 = .ok (.invokevirtual 235, 3) := by decide +kernel
theorem dX11_sheet_25 : decode cX11_sheet 25 = .ok (.ifCond .ne 5, 3) := by decide +kernel
theorem dX11_sheet_28 : decode cX11_sheet 28 = .ok (.iconst (-1), 1) := by decide +kernel
theorem dX11_sheet_29 : decode cX11_sheet 29 = .ok (.ireturn, 1) := by decide +kernel
theorem dX11_sheet_30 : decode cX11_sheet 30 = .ok (.iload_n 2, 1) := by decide +kernel
theorem dX11_sheet_31 : decode cX11_sheet 31 = .ok (.iconst 3, 1) := by decide +kernel
theorem dX11_sheet_32 : decode cX11_sheet 32 = .ok (.if_icmp .ge 10, 3) := by decide +kernel
theorem dX11_sheet_35 : decode cX11_sheet 35 = .ok (.iload_n 3, 1) := by decide +kernel
theorem dX11_sheet_36 : decode cX11_sheet 36 = .ok (.ifCond .ge 6, 3) := by decide +kernel
theorem dX11_sheet_39 : decode cX11_sheet 39 = .ok (.bipush (-2), 2) := by decide +kernel
theorem dX11_sheet_41 : decode cX11_sheet 41 = .ok (.ireturn, 1) := by decide +kernel
theorem dX11_sheet_42 : decode cX11_sheet 42 = .ok (.iconst 0, 1) := by decide +kernel
theorem dX11_sheet_43 : decode cX11_sheet 43 = .ok (.istore 6, 2) := by decide +kernel
theorem dX11_sheet_45 : decode cX11_sheet 45 = .ok (.iload 4, 2) := by decide +kernel
theorem dX11_sheet_47 : decode cX11_sheet 47 = .ok (.istore 7, 2) := by decide +kernel
theorem dX11_sheet_49 : decode cX11_sheet 49 = .ok (.iconst 0, 1) := by decide +kernel
theorem dX11_sheet_50 : decode cX11_sheet 50 = .ok (.istore 8, 2) := by decide +kernel
theorem dX11_sheet_52 : decode cX11_sheet 52 = .ok (.iload 8, 2) := by decide +kernel
theorem dX11_sheet_54 : decode cX11_sheet 54 = .ok (.aload_n 0, 1) := by decide +kernel
theorem dX11_sheet_55 : decode cX11_sheet 55 = .ok (.getfield 113, 3) := by decide +kernel
theorem dX11_sheet_58 : decode cX11_sheet 58 = .ok (.if_icmp .ge 90, 3) := by decide +kernel
theorem dX11_sheet_61 : decode cX11_sheet 61 = .ok (.iload_n 2, 1) := by decide +kernel
theorem dX11_sheet_62 : decode cX11_sheet 62 = .ok (.ifCond .ne 9, 3) := by decide +kernel
theorem dX11_sheet_65 : decode cX11_sheet 65 = .ok (.iload 7, 2) := by decide +kernel
theorem dX11_sheet_67 : decode cX11_sheet 67 = .ok (.i2b, 1) := by decide +kernel
theorem dX11_sheet_68 : decode cX11_sheet 68 = .ok (.goto 16, 3) := by decide +kernel
theorem dX11_sheet_71 : decode cX11_sheet 71 = .ok (.iload_n 2, 1) := by decide +kernel
theorem dX11_sheet_72 : decode cX11_sheet 72 = .ok (.iconst 1, 1) := by decide +kernel
theorem dX11_sheet_73 : decode cX11_sheet 73 = .ok (.if_icmp .ne 9, 3) := by decide +kernel
theorem dX11_sheet_76 : decode cX11_sheet 76 = .ok (.iload 7, 2) := by decide +kernel
theorem dX11_sheet_78 : decode cX11_sheet 78 = .ok (.i2s, 1) := by decide +kernel
theorem dX11_sheet_79 : decode cX11_sheet 79 = .ok (.goto 5, 3) := by decide +kernel
theorem dX11_sheet_82 : decode cX11_sheet 82 = .ok (.iload 7, 2) := by decide +kernel
theorem dX11_sheet_84 : decode cX11_sheet 84 = .ok (.istore 9, 2) := by decide +kernel
theorem dX11_sheet_86 : decode cX11_sheet 86 = .ok (.iload_n 2, 1) := by decide +kernel
theorem dX11_sheet_87 : decode cX11_sheet 87 = .ok (.iconst 3, 1) := by decide +kernel
theorem dX11_sheet_88 : decode cX11_sheet 88 = .ok (.if_icmp .eq 9, 3) := by decide +kernel
theorem dX11_sheet_91 : decode cX11_sheet 91 = .ok (.iload 8, 2) := by decide +kernel
theorem dX11_sheet_93 : decode cX11_sheet 93 = .ok (.iload_n 3, 1) := by decide +kernel
theorem dX11_sheet_94 : decode cX11_sheet 94 = .ok (.if_icmp .lt 7, 3) := by decide +kernel
theorem dX11_sheet_97 : decode cX11_sheet 97 = .ok (.iconst 0, 1) := by decide +kernel
theorem dX11_sheet_98 : decode cX11_sheet 98 = .ok (.goto 14, 3) := by decide +kernel
theorem dX11_sheet_101 : decode cX11_sheet 101 = .ok (.iconst 0, 1) := by decide +kernel
theorem dX11_sheet_102 : decode cX11_sheet 102 = .ok (.bipush 9, 2) := by decide +kernel
theorem dX11_sheet_104 : decode cX11_sheet 104 = .ok (.iload 9, 2) := by decide +kernel
theorem dX11_sheet_106 : decode cX11_sheet 106 = .ok (.invokestatic 213, 3) := by decide +kernel
theorem dX11_sheet_109 : decode cX11_sheet 109 = .ok (.invokestatic 218, 3) := by decide +kernel
theorem dX11_sheet_112 : decode cX11_sheet 112 = .ok (.istore 10, 2) := by decide +kernel
theorem dX11_sheet_114 : decode cX11_sheet 114 = .ok (.aload_n 0, 1) := by decide +kernel
theorem dX11_sheet_115 : decode cX11_sheet 115 = .ok (.getfield 29, 3) := by decide +kernel
theorem dX11_sheet_118 : decode cX11_sheet 118 = .ok (.bipush 6, 2) := by decide +kernel
theorem dX11_sheet_120 : decode cX11_sheet 120 = .ok (.iload 8, 2) := by decide +kernel
theorem dX11_sheet_122 : decode cX11_sheet 122 = .ok (.imul, 1) := by decide +kernel
theorem dX11_sheet_123 : decode cX11_sheet 123 = .ok (.iload_n 1, 1) := by decide +kernel
theorem dX11_sheet_124 : decode cX11_sheet 124 = .ok (.iadd, 1) := by decide +kernel
theorem dX11_sheet_125 : decode cX11_sheet 125 = .ok (.iload 10, 2) := by decide +kernel
theorem dX11_sheet_127 : decode cX11_sheet 127 = .ok (.iastore, 1) := by decide +kernel
theorem dX11_sheet_128 : decode cX11_sheet 128 = .ok (.iload 6, 2) := by decide +kernel
theorem dX11_sheet_130 : decode cX11_sheet 130 = .ok (.iload 10, 2) := by decide +kernel
theorem dX11_sheet_132 : decode cX11_sheet 132 = .ok (.iadd, 1) := by decide +kernel
theorem dX11_sheet_133 : decode cX11_sheet 133 = .ok (.istore 6, 2) := by decide +kernel
theorem dX11_sheet_135 : decode cX11_sheet 135 = .ok (.iload 7, 2) := by decide +kernel
theorem dX11_sheet_137 : decode cX11_sheet 137 = .ok (.iload 5, 2) := by decide +kernel
theorem dX11_sheet_139 : decode cX11_sheet 139 = .ok (.iadd, 1) := by decide +kernel
theorem dX11_sheet_140 : decode cX11_sheet 140 = .ok (.istore 7, 2) := by decide +kernel
theorem dX11_sheet_142 : decode cX11_sheet 142 = .ok (.iinc 8 1, 3) := by decide +kernel
theorem dX11_sheet_145 : decode cX11_sheet 145 = .ok (.goto (-93), 3) := by decide +kernel
theorem dX11_sheet_148 : decode cX11_sheet 148 = .ok (.iload_n 2, 1) := by decide +kernel
theorem dX11_sheet_149 : decode cX11_sheet 149 = .ok (.iconst 3, 1) := by decide +kernel
theorem dX11_sheet_150 : decode cX11_sheet 150 = .ok (.if_icmp .ne 8, 3) := by decide +kernel
theorem dX11_sheet_153 : decode cX11_sheet 153 = .ok (.bipush (-3), 2) := by decide +kernel
theorem dX11_sheet_155 : decode cX11_sheet 155 = .ok (.goto 5, 3) := by decide +kernel
theorem dX11_sheet_158 : decode cX11_sheet 158 = .ok (.iload 6, 2) := by decide +kernel
theorem dX11_sheet_160 : decode cX11_sheet 160 = .ok (.ireturn, 1) := by decide +kernel
theorem dX11_lay_0 : decode cX11_lay 0 = .ok (.iconst 0, 1) := by decide +kernel
theorem dX11_lay_1 : decode cX11_lay 1 = .ok (.istore_n 3, 1) := by decide +kernel
theorem dX11_lay_2 : decode cX11_lay 2 = .ok (.iload_n 3, 1) := by decide +kernel
theorem dX11_lay_3 : decode cX11_lay 3 = .ok (.bipush 25, 2) := by decide +kernel
theorem dX11_lay_5 : decode cX11_lay 5 = .ok (.if_icmp .ge 17, 3) := by decide +kernel
theorem dX11_lay_8 : decode cX11_lay 8 = .ok (.aload_n 1, 1) := by decide +kernel
theorem dX11_lay_9 : decode cX11_lay 9 = .ok (.iload_n 2, 1) := by decide +kernel
theorem dX11_lay_10 : decode cX11_lay 10 = .ok (.iload_n 3, 1) := by decide +kernel
theorem dX11_lay_11 : decode cX11_lay 11 = .ok (.iadd, 1) := by decide +kernel
theorem dX11_lay_12 : decode cX11_lay 12 = .ok (.aload_n 0, 1) := by decide +kernel
theorem dX11_lay_13 : decode cX11_lay 13 = .ok (.iload_n 3, 1) := by decide +kernel
theorem dX11_lay_14 : decode cX11_lay 14 = .ok (.iaload, 1) := by decide +kernel
theorem dX11_lay_15 : decode cX11_lay 15 = .ok (.iastore, 1) := by decide +kernel
theorem dX11_lay_16 : decode cX11_lay 16 = .ok (.iinc 3 1, 3) := by decide +kernel
theorem dX11_lay_19 : decode cX11_lay 19 = .ok (.goto (-17), 3) := by decide +kernel
theorem dX11_lay_22 : decode cX11_lay 22 = .ok (.return_, 1) := by decide +kernel
theorem dX11_remember_0 : decode cX11_remember 0 = .ok (.aload_n 0, 1) := by decide +kernel
theorem dX11_remember_1 : decode cX11_remember 1 = .ok (.getfield 153, 3) := by decide +kernel
theorem dX11_remember_4 : decode cX11_remember 4 = .ok (.bipush 12, 2) := by decide +kernel
theorem dX11_remember_6 : decode cX11_remember 6 = .ok (.if_icmp .ne 43, 3) := by decide +kernel
theorem dX11_remember_9 : decode cX11_remember 9 = .ok (.iconst 0, 1) := by decide +kernel
theorem dX11_remember_10 : decode cX11_remember 10 = .ok (.istore_n 2, 1) := by decide +kernel
theorem dX11_remember_11 : decode cX11_remember 11 = .ok (.iload_n 2, 1) := by decide +kernel
theorem dX11_remember_12 : decode cX11_remember 12 = .ok (.sipush 275, 3) := by decide +kernel
theorem dX11_remember_15 : decode cX11_remember 15 = .ok (.if_icmp .ge 24, 3) := by decide +kernel
theorem dX11_remember_18 : decode cX11_remember 18 = .ok (.aload_n 0, 1) := by decide +kernel
theorem dX11_remember_19 : decode cX11_remember 19 = .ok (.getfield 51, 3) := by decide +kernel
theorem dX11_remember_22 : decode cX11_remember 22 = .ok (.iload_n 2, 1) := by decide +kernel
theorem dX11_remember_23 : decode cX11_remember 23 = .ok (.aload_n 0, 1) := by decide +kernel
theorem dX11_remember_24 : decode cX11_remember 24 = .ok (.getfield 51, 3) := by decide +kernel
theorem dX11_remember_27 : decode cX11_remember 27 = .ok (.iload_n 2, 1) := by decide +kernel
theorem dX11_remember_28 : decode cX11_remember 28 = .ok (.bipush 25, 2) := by decide +kernel
theorem dX11_remember_30 : decode cX11_remember 30 = .ok (.iadd, 1) := by decide +kernel
theorem dX11_remember_31 : decode cX11_remember 31 = .ok (.iaload, 1) := by decide +kernel
theorem dX11_remember_32 : decode cX11_remember 32 = .ok (.iastore, 1) := by decide +kernel
theorem dX11_remember_33 : decode cX11_remember 33 = .ok (.iinc 2 1, 3) := by decide +kernel
theorem dX11_remember_36 : decode cX11_remember 36 = .ok (.goto (-25), 3) := by decide +kernel
theorem dX11_remember_39 : decode cX11_remember 39 = .ok (.aload_n 0, 1) := by decide +kernel
theorem dX11_remember_40 : decode cX11_remember 40 = .ok (.dup, 1) := by decide +kernel
theorem dX11_remember_41 : decode cX11_remember 41 = .ok (.getfield 153, 3) := by decide +kernel
theorem dX11_remember_44 : decode cX11_remember 44 = .ok (.iconst 1, 1) := by decide +kernel
theorem dX11_remember_45 : decode cX11_remember 45 = .ok (.isub, 1) := by decide +kernel
theorem dX11_remember_46 : decode cX11_remember 46 = .ok (.putfield 153, 3) := by decide +kernel
theorem dX11_remember_49 : decode cX11_remember 49 = .ok (.aload_n 1, 1) := by decide +kernel
theorem dX11_remember_50 : decode cX11_remember 50 = .ok (.aload_n 0, 1) := by decide +kernel
theorem dX11_remember_51 : decode cX11_remember 51 = .ok (.getfield 51, 3) := by decide +kernel
theorem dX11_remember_54 : decode cX11_remember 54 = .ok (.bipush 25, 2) := by decide +kernel
theorem dX11_remember_56 : decode cX11_remember 56 = .ok (.aload_n 0, 1) := by decide +kernel
theorem dX11_remember_57 : decode cX11_remember 57 = .ok (.getfield 153, 3) := by decide +kernel
theorem dX11_remember_60 : decode cX11_remember 60 = .ok (.imul, 1) := by decide +kernel
theorem dX11_remember_61 : decode cX11_remember 61 = .ok (.invokestatic 242, 3) := by decide +kernel
theorem dX11_remember_64 : decode cX11_remember 64 = .ok (.aload_n 0, 1) := by decide +kernel
theorem dX11_remember_65 : decode cX11_remember 65 = .ok (.dup, 1) := by decide +kernel
theorem dX11_remember_66 : decode cX11_remember 66 = .ok (.getfield 153, 3) := by decide +kernel
theorem dX11_remember_69 : decode cX11_remember 69 = .ok (.iconst 1, 1) := by decide +kernel
theorem dX11_remember_70 : decode cX11_remember 70 = .ok (.iadd, 1) := by decide +kernel
theorem dX11_remember_71 : decode cX11_remember 71 = .ok (.putfield 153, 3) := by decide +kernel
theorem dX11_remember_74 : decode cX11_remember 74 = .ok (.return_, 1) := by decide +kernel
theorem dX11_firstRoom_0 : decode cX11_firstRoom 0 = .ok (.aload_n 0, 1) := by decide +kernel
theorem dX11_firstRoom_1 : decode cX11_firstRoom 1 = .ok (.getfield 26, 3) := by decide +kernel
theorem dX11_firstRoom_4 : decode cX11_firstRoom 4 = .ok (.iload_n 1, 1) := by decide +kernel
theorem dX11_firstRoom_5 : decode cX11_firstRoom 5 = .ok (.baload, 1) := by decide +kernel
theorem dX11_firstRoom_6 : decode cX11_firstRoom 6 = .ok (.ifCond .eq 12, 3) := by decide +kernel
theorem dX11_firstRoom_9 : decode cX11_firstRoom 9 = .ok (.aload_n 0, 1) := by decide +kernel
theorem dX11_firstRoom_10 : decode cX11_firstRoom 10 = .ok (.getfield 106, 3) := by decide +kernel
theorem dX11_firstRoom_13 : decode cX11_firstRoom 13 = .ok (.iconst 1, 1) := by decide +kernel
theorem dX11_firstRoom_14 : decode cX11_firstRoom 14 = .ok (.isub, 1) := by decide +kernel
theorem dX11_firstRoom_15 : decode cX11_firstRoom 15 = .ok (.goto 4, 3) := by decide +kernel
theorem dX11_firstRoom_18 : decode cX11_firstRoom 18 = .ok (.iconst 0, 1) := by decide +kernel
theorem dX11_firstRoom_19 : decode cX11_firstRoom 19 = .ok (.ireturn, 1) := by decide +kernel
theorem dX11_nextRoom_0 : decode cX11_nextRoom 0 = .ok (.aload_n 0, 1) := by decide +kernel
theorem dX11_nextRoom_1 : decode cX11_nextRoom 1 = .ok (.getfield 26, 3) := by decide +kernel
theorem dX11_nextRoom_4 : decode cX11_nextRoom 4 = .ok (.iload_n 1, 1) := by decide +kernel
theorem dX11_nextRoom_5 : decode cX11_nextRoom 5 = .ok (.baload, 1) := by decide +kernel
theorem dX11_nextRoom_6 : decode cX11_nextRoom 6 = .ok (.ifCond .eq 9, 3) := by decide +kernel
theorem dX11_nextRoom_9 : decode cX11_nextRoom 9 = .ok (.iload_n 2, 1) := by decide +kernel
theorem dX11_nextRoom_10 : decode cX11_nextRoom 10 = .ok (.iconst 1, 1) := by decide +kernel
theorem dX11_nextRoom_11 : decode cX11_nextRoom 11 = .ok (.isub, 1) := by decide +kernel
theorem dX11_nextRoom_12 : decode cX11_nextRoom 12 = .ok (.goto 6, 3) := by decide +kernel
theorem dX11_nextRoom_15 : decode cX11_nextRoom 15 = .ok (.iload_n 2, 1) := by decide +kernel
theorem dX11_nextRoom_16 : decode cX11_nextRoom 16 = .ok (.iconst 1, 1) := by decide +kernel
theorem dX11_nextRoom_17 : decode cX11_nextRoom 17 = .ok (.iadd, 1) := by decide +kernel
theorem dX11_nextRoom_18 : decode cX11_nextRoom 18 = .ok (.istore_n 3, 1) := by decide +kernel
theorem dX11_nextRoom_19 : decode cX11_nextRoom 19 = .ok (.aload_n 0, 1) := by decide +kernel
theorem dX11_nextRoom_20 : decode cX11_nextRoom 20 = .ok (.iload_n 3, 1) := by decide +kernel
theorem dX11_nextRoom_21 : decode cX11_nextRoom 21 = .ok (.invokevirtual 235, 3) := by decide +kernel
theorem dX11_nextRoom_24 : decode cX11_nextRoom 24 = .ok (.ifCond .eq 7, 3) := by decide +kernel
theorem dX11_nextRoom_27 : decode cX11_nextRoom 27 = .ok (.iload_n 3, 1) := by decide +kernel
theorem dX11_nextRoom_28 : decode cX11_nextRoom 28 = .ok (.goto 5, 3) := by decide +kernel
theorem dX11_nextRoom_31 : decode cX11_nextRoom 31 = .ok (.bipush 9, 2) := by decide +kernel
theorem dX11_nextRoom_33 : decode cX11_nextRoom 33 = .ok (.ireturn, 1) := by decide +kernel
theorem dX11_isFree_0 : decode cX11_isFree 0 = .ok (.iload_n 2, 1) := by decide +kernel
theorem dX11_isFree_1 : decode cX11_isFree 1 = .ok (.bipush 9, 2) := by decide +kernel
theorem dX11_isFree_3 : decode cX11_isFree 3 = .ok (.if_icmp .eq 21, 3) := by decide +kernel
theorem dX11_isFree_6 : decode cX11_isFree 6 = .ok (.aload_n 0, 1) := by decide +kernel
theorem dX11_isFree_7 : decode cX11_isFree 7 = .ok (.getfield 13, 3) := by decide +kernel
theorem dX11_isFree_10 : decode cX11_isFree 10 = .ok (.iload_n 2, 1) := by decide +kernel
theorem dX11_isFree_11 : decode cX11_isFree 11 = .ok (.baload, 1) := by decide +kernel
theorem dX11_isFree_12 : decode cX11_isFree 12 = .ok (.ifCond .ne 12, 3) := by decide +kernel
theorem dX11_isFree_15 : decode cX11_isFree 15 = .ok (.aload_n 0, 1) := by decide +kernel
theorem dX11_isFree_16 : decode cX11_isFree 16 = .ok (.aload_n 1, 1) := by decide +kernel
theorem dX11_isFree_17 : decode cX11_isFree 17 = .ok (.iload_n 2, 1) := by decide +kernel
theorem dX11_isFree_18 : decode cX11_isFree 18 = .ok (.invokevirtual 238, 3) := by decide +kernel
theorem dX11_isFree_21 : decode cX11_isFree 21 = .ok (.ifCond .ne 7, 3) := by decide +kernel
theorem dX11_isFree_24 : decode cX11_isFree 24 = .ok (.iconst 1, 1) := by decide +kernel
theorem dX11_isFree_25 : decode cX11_isFree 25 = .ok (.goto 4, 3) := by decide +kernel
theorem dX11_isFree_28 : decode cX11_isFree 28 = .ok (.iconst 0, 1) := by decide +kernel
theorem dX11_isFree_29 : decode cX11_isFree 29 = .ok (.ireturn, 1) := by decide +kernel
theorem dX11_refusesOff_0 : decode cX11_refusesOff 0 = .ok (.aload_n 0, 1) := by decide +kernel
theorem dX11_refusesOff_1 : decode cX11_refusesOff 1 = .ok (.iload_n 2, 1) := by decide +kernel
theorem dX11_refusesOff_2 : decode cX11_refusesOff 2 = .ok (.invokevirtual 228, 3) := by decide +kernel
theorem dX11_refusesOff_5 : decode cX11_refusesOff 5 = .ok (.ifCond .ne 5, 3) := by decide +kernel
theorem dX11_refusesOff_8 : decode cX11_refusesOff 8 = .ok (.iconst (-1), 1) := by decide +kernel
theorem dX11_refusesOff_9 : decode cX11_refusesOff 9 = .ok (.ireturn, 1) := by decide +kernel
theorem dX11_refusesOff_10 : decode cX11_refusesOff 10 = .ok (.aload_n 1, 1) := by decide +kernel
theorem dX11_refusesOff_11 : decode cX11_refusesOff 11 = .ok (.iload_n 2, 1) := by decide +kernel
theorem dX11_refusesOff_12 : decode cX11_refusesOff 12 = .ok (.iaload, 1) := by decide +kernel
theorem dX11_refusesOff_13 : decode cX11_refusesOff 13 = .ok (.iconst (-1), 1) := by decide +kernel
theorem dX11_refusesOff_14 : decode cX11_refusesOff 14 = .ok (.if_icmp .eq 6, 3) := by decide +kernel
theorem dX11_refusesOff_17 : decode cX11_refusesOff 17 = .ok (.bipush (-2), 2) := by decide +kernel
theorem dX11_refusesOff_19 : decode cX11_refusesOff 19 = .ok (.ireturn, 1) := by decide +kernel
theorem dX11_refusesOff_20 : decode cX11_refusesOff 20 = .ok (.aload_n 1, 1) := by decide +kernel
theorem dX11_refusesOff_21 : decode cX11_refusesOff 21 = .ok (.bipush 24, 2) := by decide +kernel
theorem dX11_refusesOff_23 : decode cX11_refusesOff 23 = .ok (.iaload, 1) := by decide +kernel
theorem dX11_refusesOff_24 : decode cX11_refusesOff 24 = .ok (.aload_n 0, 1) := by decide +kernel
theorem dX11_refusesOff_25 : decode cX11_refusesOff 25 = .ok (.getfield 17, 3) := by decide +kernel
theorem dX11_refusesOff_28 : decode cX11_refusesOff 28 = .ok (.iload_n 2, 1) := by decide +kernel
theorem dX11_refusesOff_29 : decode cX11_refusesOff 29 = .ok (.iaload, 1) := by decide +kernel
theorem dX11_refusesOff_30 : decode cX11_refusesOff 30 = .ok (.if_icmp .ge 6, 3) := by decide +kernel
theorem dX11_refusesOff_33 : decode cX11_refusesOff 33 = .ok (.bipush (-3), 2) := by decide +kernel
theorem dX11_refusesOff_35 : decode cX11_refusesOff 35 = .ok (.ireturn, 1) := by decide +kernel
theorem dX11_refusesOff_36 : decode cX11_refusesOff 36 = .ok (.aload_n 0, 1) := by decide +kernel
theorem dX11_refusesOff_37 : decode cX11_refusesOff 37 = .ok (.aload_n 1, 1) := by decide +kernel
theorem dX11_refusesOff_38 : decode cX11_refusesOff 38 = .ok (.aload_n 0, 1) := by decide +kernel
theorem dX11_refusesOff_39 : decode cX11_refusesOff 39 = .ok (.iload_n 2, 1) := by decide +kernel
theorem dX11_refusesOff_40 : decode cX11_refusesOff 40 = .ok (.invokevirtual 246, 3) := by decide +kernel
theorem dX11_refusesOff_43 : decode cX11_refusesOff 43 = .ok (.invokevirtual 249, 3) := by decide +kernel
theorem dX11_refusesOff_46 : decode cX11_refusesOff 46 = .ok (.ifCond .eq 7, 3) := by decide +kernel
theorem dX11_refusesOff_49 : decode cX11_refusesOff 49 = .ok (.iconst 0, 1) := by decide +kernel
theorem dX11_refusesOff_50 : decode cX11_refusesOff 50 = .ok (.goto 5, 3) := by decide +kernel
theorem dX11_refusesOff_53 : decode cX11_refusesOff 53 = .ok (.bipush (-4), 2) := by decide +kernel
theorem dX11_refusesOff_55 : decode cX11_refusesOff 55 = .ok (.ireturn, 1) := by decide +kernel
theorem dX11_goOff_0 : decode cX11_goOff 0 = .ok (.aload_n 1, 1) := by decide +kernel
theorem dX11_goOff_1 : decode cX11_goOff 1 = .ok (.iload_n 2, 1) := by decide +kernel
theorem dX11_goOff_2 : decode cX11_goOff 2 = .ok (.aload_n 0, 1) := by decide +kernel
theorem dX11_goOff_3 : decode cX11_goOff 3 = .ok (.iload_n 2, 1) := by decide +kernel
theorem dX11_goOff_4 : decode cX11_goOff 4 = .ok (.invokevirtual 246, 3) := by decide +kernel
theorem dX11_goOff_7 : decode cX11_goOff 7 = .ok (.iastore, 1) := by decide +kernel
theorem dX11_goOff_8 : decode cX11_goOff 8 = .ok (.aload_n 1, 1) := by decide +kernel
theorem dX11_goOff_9 : decode cX11_goOff 9 = .ok (.bipush 6, 2) := by decide +kernel
theorem dX11_goOff_11 : decode cX11_goOff 11 = .ok (.iload_n 2, 1) := by decide +kernel
theorem dX11_goOff_12 : decode cX11_goOff 12 = .ok (.iadd, 1) := by decide +kernel
theorem dX11_goOff_13 : decode cX11_goOff 13 = .ok (.aload_n 0, 1) := by decide +kernel
theorem dX11_goOff_14 : decode cX11_goOff 14 = .ok (.getfield 48, 3) := by decide +kernel
theorem dX11_goOff_17 : decode cX11_goOff 17 = .ok (.bipush 6, 2) := by decide +kernel
theorem dX11_goOff_19 : decode cX11_goOff 19 = .ok (.iload_n 2, 1) := by decide +kernel
theorem dX11_goOff_20 : decode cX11_goOff 20 = .ok (.imul, 1) := by decide +kernel
theorem dX11_goOff_21 : decode cX11_goOff 21 = .ok (.aload_n 1, 1) := by decide +kernel
theorem dX11_goOff_22 : decode cX11_goOff 22 = .ok (.iload_n 2, 1) := by decide +kernel
theorem dX11_goOff_23 : decode cX11_goOff 23 = .ok (.iaload, 1) := by decide +kernel
theorem dX11_goOff_24 : decode cX11_goOff 24 = .ok (.iadd, 1) := by decide +kernel
theorem dX11_goOff_25 : decode cX11_goOff 25 = .ok (.iaload, 1) := by decide +kernel
theorem dX11_goOff_26 : decode cX11_goOff 26 = .ok (.iastore, 1) := by decide +kernel
theorem dX11_goOff_27 : decode cX11_goOff 27 = .ok (.return_, 1) := by decide +kernel
theorem dX11_nextStep_0 : decode cX11_nextStep 0 = .ok (.iconst 0, 1) := by decide +kernel
theorem dX11_nextStep_1 : decode cX11_nextStep 1 = .ok (.istore_n 2, 1) := by decide +kernel
theorem dX11_nextStep_2 : decode cX11_nextStep 2 = .ok (.iload_n 2, 1) := by decide +kernel
theorem dX11_nextStep_3 : decode cX11_nextStep 3 = .ok (.aload_n 0, 1) := by decide +kernel
theorem dX11_nextStep_4 : decode cX11_nextStep 4 = .ok (.getfield 113, 3) := by decide +kernel
theorem dX11_nextStep_7 : decode cX11_nextStep 7 = .ok (.if_icmp .ge 45, 3) := by decide +kernel
theorem dX11_nextStep_10 : decode cX11_nextStep 10 = .ok (.aload_n 0, 1) := by decide +kernel
theorem dX11_nextStep_11 : decode cX11_nextStep 11 = .ok (.aload_n 1, 1) := by decide +kernel
theorem dX11_nextStep_12 : decode cX11_nextStep 12 = .ok (.iload_n 2, 1) := by decide +kernel
theorem dX11_nextStep_13 : decode cX11_nextStep 13 = .ok (.invokevirtual 224, 3) := by decide +kernel
theorem dX11_nextStep_16 : decode cX11_nextStep 16 = .ok (.ifCond .eq 30, 3) := by decide +kernel
theorem dX11_nextStep_19 : decode cX11_nextStep 19 = .ok (.aload_n 1, 1) := by decide +kernel
theorem dX11_nextStep_20 : decode cX11_nextStep 20 = .ok (.bipush 6, 2) := by decide +kernel
theorem dX11_nextStep_22 : decode cX11_nextStep 22 = .ok (.iload_n 2, 1) := by decide +kernel
theorem dX11_nextStep_23 : decode cX11_nextStep 23 = .ok (.iadd, 1) := by decide +kernel
theorem dX11_nextStep_24 : decode cX11_nextStep 24 = .ok (.iaload, 1) := by decide +kernel
theorem dX11_nextStep_25 : decode cX11_nextStep 25 = .ok (.ifCond .ne 21, 3) := by decide +kernel
theorem dX11_nextStep_28 : decode cX11_nextStep 28 = .ok (.aload_n 0, 1) := by decide +kernel
theorem dX11_nextStep_29 : decode cX11_nextStep 29 = .ok (.aload_n 1, 1) := by decide +kernel
theorem dX11_nextStep_30 : decode cX11_nextStep 30 = .ok (.aload_n 0, 1) := by decide +kernel
theorem dX11_nextStep_31 : decode cX11_nextStep 31 = .ok (.iload_n 2, 1) := by decide +kernel
theorem dX11_nextStep_32 : decode cX11_nextStep 32 = .ok (.aload_n 1, 1) := by decide +kernel
theorem dX11_nextStep_33 : decode cX11_nextStep 33 = .ok (.iload_n 2, 1) := by decide +kernel
theorem dX11_nextStep_34 : decode cX11_nextStep 34 = .ok (.iaload, 1) := by decide +kernel
theorem dX11_nextStep_35 : decode cX11_nextStep 35 = .ok (.invokevirtual 252, 3) := by decide +kernel
theorem dX11_nextStep_38 : decode cX11_nextStep 38 = .ok (.invokevirtual 249, 3) := by decide +kernel
theorem dX11_nextStep_41 : decode cX11_nextStep 41 = .ok (.ifCond .eq 5, 3) := by decide +kernel
theorem dX11_nextStep_44 : decode cX11_nextStep 44 = .ok (.iload_n 2, 1) := by decide +kernel
theorem dX11_nextStep_45 : decode cX11_nextStep 45 = .ok (.ireturn, 1) := by decide +kernel
theorem dX11_nextStep_46 : decode cX11_nextStep 46 = .ok (.iinc 2 1, 3) := by decide +kernel
theorem dX11_nextStep_49 : decode cX11_nextStep 49 = .ok (.goto (-47), 3) := by decide +kernel
theorem dX11_nextStep_52 : decode cX11_nextStep 52 = .ok (.iconst (-1), 1) := by decide +kernel
theorem dX11_nextStep_53 : decode cX11_nextStep 53 = .ok (.ireturn, 1) := by decide +kernel
theorem dX11_goMinute_0 : decode cX11_goMinute 0 = .ok (.aload_n 0, 1) := by decide +kernel
theorem dX11_goMinute_1 : decode cX11_goMinute 1 = .ok (.iconst 0, 1) := by decide +kernel
theorem dX11_goMinute_2 : decode cX11_goMinute 2 = .ok (.putfield 255, 3) := by decide +kernel
theorem dX11_goMinute_5 : decode cX11_goMinute 5 = .ok (.aload_n 0, 1) := by decide +kernel
theorem dX11_goMinute_6 : decode cX11_goMinute 6 = .ok (.iconst 0, 1) := by decide +kernel
theorem dX11_goMinute_7 : decode cX11_goMinute 7 = .ok (.putfield 258, 3) := by decide +kernel
theorem dX11_goMinute_10 : decode cX11_goMinute 10 = .ok (.aload_n 0, 1) := by decide +kernel
theorem dX11_goMinute_11 : decode cX11_goMinute 11 = .ok (.iconst 0, 1) := by decide +kernel
theorem dX11_goMinute_12 : decode cX11_goMinute 12 = .ok (.putfield 261, 3) := by decide +kernel
theorem dX11_goMinute_15 : decode cX11_goMinute 15 = .ok (.iconst 0, 1) := by decide +kernel
theorem dX11_goMinute_16 : decode cX11_goMinute 16 = .ok (.istore_n 2, 1) := by decide +kernel
theorem dX11_goMinute_17 : decode cX11_goMinute 17 = .ok (.iload_n 2, 1) := by decide +kernel
theorem dX11_goMinute_18 : decode cX11_goMinute 18 = .ok (.aload_n 0, 1) := by decide +kernel
theorem dX11_goMinute_19 : decode cX11_goMinute 19 = .ok (.getfield 113, 3) := by decide +kernel
theorem dX11_goMinute_22 : decode cX11_goMinute 22 = .ok (.if_icmp .ge 36, 3) := by decide +kernel
theorem dX11_goMinute_25 : decode cX11_goMinute 25 = .ok (.aload_n 0, 1) := by decide +kernel
theorem dX11_goMinute_26 : decode cX11_goMinute 26 = .ok (.aload_n 1, 1) := by decide +kernel
theorem dX11_goMinute_27 : decode cX11_goMinute 27 = .ok (.iload_n 2, 1) := by decide +kernel
theorem dX11_goMinute_28 : decode cX11_goMinute 28 = .ok (.invokevirtual 224, 3) := by decide +kernel
theorem dX11_goMinute_31 : decode cX11_goMinute 31 = .ok (.ifCond .eq 21, 3) := by decide +kernel
theorem dX11_goMinute_34 : decode cX11_goMinute 34 = .ok (.aload_n 1, 1) := by decide +kernel
theorem dX11_goMinute_35 : decode cX11_goMinute 35 = .ok (.bipush 6, 2) := by decide +kernel
theorem dX11_goMinute_37 : decode cX11_goMinute 37 = .ok (.iload_n 2, 1) := by decide +kernel
theorem dX11_goMinute_38 : decode cX11_goMinute 38 = .ok (.iadd, 1) := by decide +kernel
theorem dX11_goMinute_39 : decode cX11_goMinute 39 = .ok (.iconst 0, 1) := by decide +kernel
theorem dX11_goMinute_40 : decode cX11_goMinute 40 = .ok (.aload_n 1, 1) := by decide +kernel
theorem dX11_goMinute_41 : decode cX11_goMinute 41 = .ok (.bipush 6, 2) := by decide +kernel
theorem dX11_goMinute_43 : decode cX11_goMinute 43 = .ok (.iload_n 2, 1) := by decide +kernel
theorem dX11_goMinute_44 : decode cX11_goMinute 44 = .ok (.iadd, 1) := by decide +kernel
theorem dX11_goMinute_45 : decode cX11_goMinute 45 = .ok (.iaload, 1) := by decide +kernel
theorem dX11_goMinute_46 : decode cX11_goMinute 46 = .ok (.iconst 1, 1) := by decide +kernel
theorem dX11_goMinute_47 : decode cX11_goMinute 47 = .ok (.isub, 1) := by decide +kernel
theorem dX11_goMinute_48 : decode cX11_goMinute 48 = .ok (.invokestatic 218, 3) := by decide +kernel
theorem dX11_goMinute_51 : decode cX11_goMinute 51 = .ok (.iastore, 1) := by decide +kernel
theorem dX11_goMinute_52 : decode cX11_goMinute 52 = .ok (.iinc 2 1, 3) := by decide +kernel
theorem dX11_goMinute_55 : decode cX11_goMinute 55 = .ok (.goto (-38), 3) := by decide +kernel
theorem dX11_goMinute_58 : decode cX11_goMinute 58 = .ok (.aload_n 1, 1) := by decide +kernel
theorem dX11_goMinute_59 : decode cX11_goMinute 59 = .ok (.bipush 24, 2) := by decide +kernel
theorem dX11_goMinute_61 : decode cX11_goMinute 61 = .ok (.dup2, 1) := by decide +kernel
theorem dX11_goMinute_62 : decode cX11_goMinute 62 = .ok (.iaload, 1) := by decide +kernel
theorem dX11_goMinute_63 : decode cX11_goMinute 63 = .ok (.iconst 1, 1) := by decide +kernel
theorem dX11_goMinute_64 : decode cX11_goMinute 64 = .ok (.iadd, 1) := by decide +kernel
theorem dX11_goMinute_65 : decode cX11_goMinute 65 = .ok (.iastore, 1) := by decide +kernel
theorem dX11_goMinute_66 : decode cX11_goMinute 66 = .ok (.aload_n 0, 1) := by decide +kernel
theorem dX11_goMinute_67 : decode cX11_goMinute 67 = .ok (.aload_n 1, 1) := by decide +kernel
theorem dX11_goMinute_68 : decode cX11_goMinute 68 = .ok (.invokevirtual 264, 3) := by decide +kernel
theorem dX11_goMinute_71 : decode cX11_goMinute 71 = .ok (.istore_n 2, 1) := by decide +kernel
theorem dX11_goMinute_72 : decode cX11_goMinute 72 = .ok (.iload_n 2, 1) := by decide +kernel
theorem dX11_goMinute_73 : decode cX11_goMinute 73 = .ok (.iconst (-1), 1) := by decide +kernel
theorem dX11_goMinute_74 : decode cX11_goMinute 74 = .ok (.if_icmp .eq 96, 3) := by decide +kernel
theorem dX11_goMinute_77 : decode cX11_goMinute 77 = .ok (.aload_n 1, 1) := by decide +kernel
theorem dX11_goMinute_78 : decode cX11_goMinute 78 = .ok (.iload_n 2, 1) := by decide +kernel
theorem dX11_goMinute_79 : decode cX11_goMinute 79 = .ok (.aload_n 0, 1) := by decide +kernel
theorem dX11_goMinute_80 : decode cX11_goMinute 80 = .ok (.iload_n 2, 1) := by decide +kernel
theorem dX11_goMinute_81 : decode cX11_goMinute 81 = .ok (.aload_n 1, 1) := by decide +kernel
theorem dX11_goMinute_82 : decode cX11_goMinute 82 = .ok (.iload_n 2, 1) := by decide +kernel
theorem dX11_goMinute_83 : decode cX11_goMinute 83 = .ok (.iaload, 1) := by decide +kernel
theorem dX11_goMinute_84 : decode cX11_goMinute 84 = .ok (.invokevirtual 252, 3) := by decide +kernel
theorem dX11_goMinute_87 : decode cX11_goMinute 87 = .ok (.iastore, 1) := by decide +kernel
theorem dX11_goMinute_88 : decode cX11_goMinute 88 = .ok (.aload_n 0, 1) := by decide +kernel
theorem dX11_goMinute_89 : decode cX11_goMinute 89 = .ok (.dup, 1) := by decide +kernel
theorem dX11_goMinute_90 : decode cX11_goMinute 90 = .ok (.getfield 255, 3) := by decide +kernel
theorem dX11_goMinute_93 : decode cX11_goMinute 93 = .ok (.iconst 1, 1) := by decide +kernel
theorem dX11_goMinute_94 : decode cX11_goMinute 94 = .ok (.iload_n 2, 1) := by decide +kernel
theorem dX11_goMinute_95 : decode cX11_goMinute 95 = .ok (.ishl, 1) := by decide +kernel
theorem dX11_goMinute_96 : decode cX11_goMinute 96 = .ok (.ior, 1) := by decide +kernel
theorem dX11_goMinute_97 : decode cX11_goMinute 97 = .ok (.putfield 255, 3) := by decide +kernel
theorem dX11_goMinute_100 : decode cX11_goMinute 100 = .ok (.aload_n 1, 1) := by decide +kernel
theorem dX11_goMinute_101 : decode cX11_goMinute 101 = .ok (.iload_n 2, 1) := by decide +kernel
theorem dX11_goMinute_102 : decode cX11_goMinute 102 = .ok (.iaload, 1) := by decide +kernel
theorem dX11_goMinute_103 : decode cX11_goMinute 103 = .ok (.bipush 9, 2) := by decide +kernel
theorem dX11_goMinute_105 : decode cX11_goMinute 105 = .ok (.if_icmp .ne 37, 3) := by decide +kernel
theorem dX11_goMinute_108 : decode cX11_goMinute 108 = .ok (.aload_n 0, 1) := by decide +kernel
theorem dX11_goMinute_109 : decode cX11_goMinute 109 = .ok (.dup, 1) := by decide +kernel
theorem dX11_goMinute_110 : decode cX11_goMinute 110 = .ok (.getfield 261, 3) := by decide +kernel
theorem dX11_goMinute_113 : decode cX11_goMinute 113 = .ok (.iconst 1, 1) := by decide +kernel
theorem dX11_goMinute_114 : decode cX11_goMinute 114 = .ok (.iload_n 2, 1) := by decide +kernel
theorem dX11_goMinute_115 : decode cX11_goMinute 115 = .ok (.ishl, 1) := by decide +kernel
theorem dX11_goMinute_116 : decode cX11_goMinute 116 = .ok (.ior, 1) := by decide +kernel
theorem dX11_goMinute_117 : decode cX11_goMinute 117 = .ok (.putfield 261, 3) := by decide +kernel
theorem dX11_goMinute_120 : decode cX11_goMinute 120 = .ok (.aload_n 1, 1) := by decide +kernel
theorem dX11_goMinute_121 : decode cX11_goMinute 121 = .ok (.bipush 18, 2) := by decide +kernel
theorem dX11_goMinute_123 : decode cX11_goMinute 123 = .ok (.iload_n 2, 1) := by decide +kernel
theorem dX11_goMinute_124 : decode cX11_goMinute 124 = .ok (.iadd, 1) := by decide +kernel
theorem dX11_goMinute_125 : decode cX11_goMinute 125 = .ok (.aload_n 1, 1) := by decide +kernel
theorem dX11_goMinute_126 : decode cX11_goMinute 126 = .ok (.bipush 24, 2) := by decide +kernel
theorem dX11_goMinute_128 : decode cX11_goMinute 128 = .ok (.iaload, 1) := by decide +kernel
theorem dX11_goMinute_129 : decode cX11_goMinute 129 = .ok (.iconst 1, 1) := by decide +kernel
theorem dX11_goMinute_130 : decode cX11_goMinute 130 = .ok (.isub, 1) := by decide +kernel
theorem dX11_goMinute_131 : decode cX11_goMinute 131 = .ok (.iastore, 1) := by decide +kernel
theorem dX11_goMinute_132 : decode cX11_goMinute 132 = .ok (.aload_n 1, 1) := by decide +kernel
theorem dX11_goMinute_133 : decode cX11_goMinute 133 = .ok (.bipush 6, 2) := by decide +kernel
theorem dX11_goMinute_135 : decode cX11_goMinute 135 = .ok (.iload_n 2, 1) := by decide +kernel
theorem dX11_goMinute_136 : decode cX11_goMinute 136 = .ok (.iadd, 1) := by decide +kernel
theorem dX11_goMinute_137 : decode cX11_goMinute 137 = .ok (.iconst 0, 1) := by decide +kernel
theorem dX11_goMinute_138 : decode cX11_goMinute 138 = .ok (.iastore, 1) := by decide +kernel
theorem dX11_goMinute_139 : decode cX11_goMinute 139 = .ok (.goto 22, 3) := by decide +kernel
theorem dX11_goMinute_142 : decode cX11_goMinute 142 = .ok (.aload_n 1, 1) := by decide +kernel
theorem dX11_goMinute_143 : decode cX11_goMinute 143 = .ok (.bipush 6, 2) := by decide +kernel
theorem dX11_goMinute_145 : decode cX11_goMinute 145 = .ok (.iload_n 2, 1) := by decide +kernel
theorem dX11_goMinute_146 : decode cX11_goMinute 146 = .ok (.iadd, 1) := by decide +kernel
theorem dX11_goMinute_147 : decode cX11_goMinute 147 = .ok (.aload_n 0, 1) := by decide +kernel
theorem dX11_goMinute_148 : decode cX11_goMinute 148 = .ok (.getfield 48, 3) := by decide +kernel
theorem dX11_goMinute_151 : decode cX11_goMinute 151 = .ok (.bipush 6, 2) := by decide +kernel
theorem dX11_goMinute_153 : decode cX11_goMinute 153 = .ok (.iload_n 2, 1) := by decide +kernel
theorem dX11_goMinute_154 : decode cX11_goMinute 154 = .ok (.imul, 1) := by decide +kernel
theorem dX11_goMinute_155 : decode cX11_goMinute 155 = .ok (.aload_n 1, 1) := by decide +kernel
theorem dX11_goMinute_156 : decode cX11_goMinute 156 = .ok (.iload_n 2, 1) := by decide +kernel
theorem dX11_goMinute_157 : decode cX11_goMinute 157 = .ok (.iaload, 1) := by decide +kernel
theorem dX11_goMinute_158 : decode cX11_goMinute 158 = .ok (.iadd, 1) := by decide +kernel
theorem dX11_goMinute_159 : decode cX11_goMinute 159 = .ok (.iaload, 1) := by decide +kernel
theorem dX11_goMinute_160 : decode cX11_goMinute 160 = .ok (.iastore, 1) := by decide +kernel
theorem dX11_goMinute_161 : decode cX11_goMinute 161 = .ok (.aload_n 0, 1) := by decide +kernel
theorem dX11_goMinute_162 : decode cX11_goMinute 162 = .ok (.aload_n 1, 1) := by decide +kernel
theorem dX11_goMinute_163 : decode cX11_goMinute 163 = .ok (.invokevirtual 264, 3) := by decide +kernel
theorem dX11_goMinute_166 : decode cX11_goMinute 166 = .ok (.istore_n 2, 1) := by decide +kernel
theorem dX11_goMinute_167 : decode cX11_goMinute 167 = .ok (.goto (-95), 3) := by decide +kernel
theorem dX11_goMinute_170 : decode cX11_goMinute 170 = .ok (.iconst 0, 1) := by decide +kernel
theorem dX11_goMinute_171 : decode cX11_goMinute 171 = .ok (.istore_n 2, 1) := by decide +kernel
theorem dX11_goMinute_172 : decode cX11_goMinute 172 = .ok (.iload_n 2, 1) := by decide +kernel
theorem dX11_goMinute_173 : decode cX11_goMinute 173 = .ok (.aload_n 0, 1) := by decide +kernel
theorem dX11_goMinute_174 : decode cX11_goMinute 174 = .ok (.getfield 113, 3) := by decide +kernel
theorem dX11_goMinute_177 : decode cX11_goMinute 177 = .ok (.if_icmp .ge 52, 3) := by decide +kernel
theorem dX11_goMinute_180 : decode cX11_goMinute 180 = .ok (.aload_n 0, 1) := by decide +kernel
theorem dX11_goMinute_181 : decode cX11_goMinute 181 = .ok (.aload_n 1, 1) := by decide +kernel
theorem dX11_goMinute_182 : decode cX11_goMinute 182 = .ok (.iload_n 2, 1) := by decide +kernel
theorem dX11_goMinute_183 : decode cX11_goMinute 183 = .ok (.invokevirtual 224, 3) := by decide +kernel
theorem dX11_goMinute_186 : decode cX11_goMinute 186 = .ok (.ifCond .eq 37, 3) := by decide +kernel
theorem dX11_goMinute_189 : decode cX11_goMinute 189 = .ok (.aload_n 1, 1) := by decide +kernel
theorem dX11_goMinute_190 : decode cX11_goMinute 190 = .ok (.bipush 6, 2) := by decide +kernel
theorem dX11_goMinute_192 : decode cX11_goMinute 192 = .ok (.iload_n 2, 1) := by decide +kernel
theorem dX11_goMinute_193 : decode cX11_goMinute 193 = .ok (.iadd, 1) := by decide +kernel
theorem dX11_goMinute_194 : decode cX11_goMinute 194 = .ok (.iaload, 1) := by decide +kernel
theorem dX11_goMinute_195 : decode cX11_goMinute 195 = .ok (.ifCond .le 6, 3) := by decide +kernel
theorem dX11_goMinute_198 : decode cX11_goMinute 198 = .ok (.goto 25, 3) := by decide +kernel
theorem dX11_goMinute_201 : decode cX11_goMinute 201 = .ok (.aload_n 0, 1) := by decide +kernel
theorem dX11_goMinute_202 : decode cX11_goMinute 202 = .ok (.dup, 1) := by decide +kernel
theorem dX11_goMinute_203 : decode cX11_goMinute 203 = .ok (.getfield 258, 3) := by decide +kernel
theorem dX11_goMinute_206 : decode cX11_goMinute 206 = .ok (.iconst 1, 1) := by decide +kernel
theorem dX11_goMinute_207 : decode cX11_goMinute 207 = .ok (.iload_n 2, 1) := by decide +kernel
theorem dX11_goMinute_208 : decode cX11_goMinute 208 = .ok (.ishl, 1) := by decide +kernel
theorem dX11_goMinute_209 : decode cX11_goMinute 209 = .ok (.ior, 1) := by decide +kernel
theorem dX11_goMinute_210 : decode cX11_goMinute 210 = .ok (.putfield 258, 3) := by decide +kernel
theorem dX11_goMinute_213 : decode cX11_goMinute 213 = .ok (.aload_n 1, 1) := by decide +kernel
theorem dX11_goMinute_214 : decode cX11_goMinute 214 = .ok (.bipush 12, 2) := by decide +kernel
theorem dX11_goMinute_216 : decode cX11_goMinute 216 = .ok (.iload_n 2, 1) := by decide +kernel
theorem dX11_goMinute_217 : decode cX11_goMinute 217 = .ok (.iadd, 1) := by decide +kernel
theorem dX11_goMinute_218 : decode cX11_goMinute 218 = .ok (.dup2, 1) := by decide +kernel
theorem dX11_goMinute_219 : decode cX11_goMinute 219 = .ok (.iaload, 1) := by decide +kernel
theorem dX11_goMinute_220 : decode cX11_goMinute 220 = .ok (.iconst 1, 1) := by decide +kernel
theorem dX11_goMinute_221 : decode cX11_goMinute 221 = .ok (.iadd, 1) := by decide +kernel
theorem dX11_goMinute_222 : decode cX11_goMinute 222 = .ok (.iastore, 1) := by decide +kernel
theorem dX11_goMinute_223 : decode cX11_goMinute 223 = .ok (.iinc 2 1, 3) := by decide +kernel
theorem dX11_goMinute_226 : decode cX11_goMinute 226 = .ok (.goto (-54), 3) := by decide +kernel
theorem dX11_goMinute_229 : decode cX11_goMinute 229 = .ok (.return_, 1) := by decide +kernel
theorem dX11_off_0 : decode cX11_off 0 = .ok (.aload_n 0, 1) := by decide +kernel
theorem dX11_off_1 : decode cX11_off 1 = .ok (.iconst 0, 1) := by decide +kernel
theorem dX11_off_2 : decode cX11_off 2 = .ok (.putfield 99, 3) := by decide +kernel
theorem dX11_off_5 : decode cX11_off 5 = .ok (.aload_n 0, 1) := by decide +kernel
theorem dX11_off_6 : decode cX11_off 6 = .ok (.aload_n 0, 1) := by decide +kernel
theorem dX11_off_7 : decode cX11_off 7 = .ok (.getfield 9, 3) := by decide +kernel
theorem dX11_off_10 : decode cX11_off 10 = .ok (.iload_n 1, 1) := by decide +kernel
theorem dX11_off_11 : decode cX11_off 11 = .ok (.invokevirtual 268, 3) := by decide +kernel
theorem dX11_off_14 : decode cX11_off 14 = .ok (.istore_n 2, 1) := by decide +kernel
theorem dX11_off_15 : decode cX11_off 15 = .ok (.iload_n 2, 1) := by decide +kernel
theorem dX11_off_16 : decode cX11_off 16 = .ok (.ifCond .ge 5, 3) := by decide +kernel
theorem dX11_off_19 : decode cX11_off 19 = .ok (.iload_n 2, 1) := by decide +kernel
theorem dX11_off_20 : decode cX11_off 20 = .ok (.ireturn, 1) := by decide +kernel
theorem dX11_off_21 : decode cX11_off 21 = .ok (.aload_n 0, 1) := by decide +kernel
theorem dX11_off_22 : decode cX11_off 22 = .ok (.invokevirtual 271, 3) := by decide +kernel
theorem dX11_off_25 : decode cX11_off 25 = .ok (.aload_n 0, 1) := by decide +kernel
theorem dX11_off_26 : decode cX11_off 26 = .ok (.aload_n 0, 1) := by decide +kernel
theorem dX11_off_27 : decode cX11_off 27 = .ok (.getfield 9, 3) := by decide +kernel
theorem dX11_off_30 : decode cX11_off 30 = .ok (.invokevirtual 274, 3) := by decide +kernel
theorem dX11_off_33 : decode cX11_off 33 = .ok (.aload_n 0, 1) := by decide +kernel
theorem dX11_off_34 : decode cX11_off 34 = .ok (.aload_n 0, 1) := by decide +kernel
theorem dX11_off_35 : decode cX11_off 35 = .ok (.getfield 9, 3) := by decide +kernel
theorem dX11_off_38 : decode cX11_off 38 = .ok (.iload_n 1, 1) := by decide +kernel
theorem dX11_off_39 : decode cX11_off 39 = .ok (.invokevirtual 278, 3) := by decide +kernel
theorem dX11_off_42 : decode cX11_off 42 = .ok (.aload_n 0, 1) := by decide +kernel
theorem dX11_off_43 : decode cX11_off 43 = .ok (.aload_n 0, 1) := by decide +kernel
theorem dX11_off_44 : decode cX11_off 44 = .ok (.getfield 9, 3) := by decide +kernel
theorem dX11_off_47 : decode cX11_off 47 = .ok (.invokevirtual 282, 3) := by decide +kernel
theorem dX11_off_50 : decode cX11_off 50 = .ok (.invokestatic 285, 3) := by decide +kernel
theorem dX11_off_53 : decode cX11_off 53 = .ok (.ireturn, 1) := by decide +kernel
theorem dX11_canOver_0 : decode cX11_canOver 0 = .ok (.aload_n 0, 1) := by decide +kernel
theorem dX11_canOver_1 : decode cX11_canOver 1 = .ok (.iload_n 1, 1) := by decide +kernel
theorem dX11_canOver_2 : decode cX11_canOver 2 = .ok (.invokevirtual 228, 3) := by decide +kernel
theorem dX11_canOver_5 : decode cX11_canOver 5 = .ok (.ifCond .eq 29, 3) := by decide +kernel
theorem dX11_canOver_8 : decode cX11_canOver 8 = .ok (.aload_n 0, 1) := by decide +kernel
theorem dX11_canOver_9 : decode cX11_canOver 9 = .ok (.aload_n 0, 1) := by decide +kernel
theorem dX11_canOver_10 : decode cX11_canOver 10 = .ok (.getfield 9, 3) := by decide +kernel
theorem dX11_canOver_13 : decode cX11_canOver 13 = .ok (.iload_n 1, 1) := by decide +kernel
theorem dX11_canOver_14 : decode cX11_canOver 14 = .ok (.invokevirtual 224, 3) := by decide +kernel
theorem dX11_canOver_17 : decode cX11_canOver 17 = .ok (.ifCond .eq 17, 3) := by decide +kernel
theorem dX11_canOver_20 : decode cX11_canOver 20 = .ok (.iload_n 2, 1) := by decide +kernel
theorem dX11_canOver_21 : decode cX11_canOver 21 = .ok (.iconst 1, 1) := by decide +kernel
theorem dX11_canOver_22 : decode cX11_canOver 22 = .ok (.bipush 30, 2) := by decide +kernel
theorem dX11_canOver_24 : decode cX11_canOver 24 = .ok (.invokestatic 109, 3) := by decide +kernel
theorem dX11_canOver_27 : decode cX11_canOver 27 = .ok (.ifCond .eq 7, 3) := by decide +kernel
theorem dX11_canOver_30 : decode cX11_canOver 30 = .ok (.iconst 1, 1) := by decide +kernel
theorem dX11_canOver_31 : decode cX11_canOver 31 = .ok (.goto 4, 3) := by decide +kernel
theorem dX11_canOver_34 : decode cX11_canOver 34 = .ok (.iconst 0, 1) := by decide +kernel
theorem dX11_canOver_35 : decode cX11_canOver 35 = .ok (.ireturn, 1) := by decide +kernel
theorem dX11_goOver_0 : decode cX11_goOver 0 = .ok (.aload_n 0, 1) := by decide +kernel
theorem dX11_goOver_1 : decode cX11_goOver 1 = .ok (.bipush 6, 2) := by decide +kernel
theorem dX11_goOver_3 : decode cX11_goOver 3 = .ok (.iload_n 1, 1) := by decide +kernel
theorem dX11_goOver_4 : decode cX11_goOver 4 = .ok (.iadd, 1) := by decide +kernel
theorem dX11_goOver_5 : decode cX11_goOver 5 = .ok (.bipush 99, 2) := by decide +kernel
theorem dX11_goOver_7 : decode cX11_goOver 7 = .ok (.aload_n 0, 1) := by decide +kernel
theorem dX11_goOver_8 : decode cX11_goOver 8 = .ok (.bipush 6, 2) := by decide +kernel
theorem dX11_goOver_10 : decode cX11_goOver 10 = .ok (.iload_n 1, 1) := by decide +kernel
theorem dX11_goOver_11 : decode cX11_goOver 11 = .ok (.iadd, 1) := by decide +kernel
theorem dX11_goOver_12 : decode cX11_goOver 12 = .ok (.iaload, 1) := by decide +kernel
theorem dX11_goOver_13 : decode cX11_goOver 13 = .ok (.iload_n 2, 1) := by decide +kernel
theorem dX11_goOver_14 : decode cX11_goOver 14 = .ok (.iadd, 1) := by decide +kernel
theorem dX11_goOver_15 : decode cX11_goOver 15 = .ok (.invokestatic 213, 3) := by decide +kernel
theorem dX11_goOver_18 : decode cX11_goOver 18 = .ok (.iastore, 1) := by decide +kernel
theorem dX11_goOver_19 : decode cX11_goOver 19 = .ok (.return_, 1) := by decide +kernel
theorem dX11_over_0 : decode cX11_over 0 = .ok (.aload_n 0, 1) := by decide +kernel
theorem dX11_over_1 : decode cX11_over 1 = .ok (.iconst 0, 1) := by decide +kernel
theorem dX11_over_2 : decode cX11_over 2 = .ok (.putfield 99, 3) := by decide +kernel
theorem dX11_over_5 : decode cX11_over 5 = .ok (.aload_n 0, 1) := by decide +kernel
theorem dX11_over_6 : decode cX11_over 6 = .ok (.iload_n 1, 1) := by decide +kernel
theorem dX11_over_7 : decode cX11_over 7 = .ok (.iload_n 2, 1) := by decide +kernel
theorem dX11_over_8 : decode cX11_over 8 = .ok (.invokevirtual 290, 3) := by decide +kernel
theorem dX11_over_11 : decode cX11_over 11 = .ok (.ifCond .ne 5, 3) := by decide +kernel
theorem dX11_over_14 : decode cX11_over 14 = .ok (.iconst (-1), 1) := by decide +kernel
theorem dX11_over_15 : decode cX11_over 15 = .ok (.ireturn, 1) := by decide +kernel
theorem dX11_over_16 : decode cX11_over 16 = .ok (.aload_n 0, 1) := by decide +kernel
theorem dX11_over_17 : decode cX11_over 17 = .ok (.aload_n 0, 1) := by decide +kernel
theorem dX11_over_18 : decode cX11_over 18 = .ok (.getfield 9, 3) := by decide +kernel
theorem dX11_over_21 : decode cX11_over 21 = .ok (.invokevirtual 274, 3) := by decide +kernel
theorem dX11_over_24 : decode cX11_over 24 = .ok (.aload_n 0, 1) := by decide +kernel
theorem dX11_over_25 : decode cX11_over 25 = .ok (.getfield 9, 3) := by decide +kernel
theorem dX11_over_28 : decode cX11_over 28 = .ok (.iload_n 1, 1) := by decide +kernel
theorem dX11_over_29 : decode cX11_over 29 = .ok (.iload_n 2, 1) := by decide +kernel
theorem dX11_over_30 : decode cX11_over 30 = .ok (.invokestatic 293, 3) := by decide +kernel
theorem dX11_over_33 : decode cX11_over 33 = .ok (.aload_n 0, 1) := by decide +kernel
theorem dX11_over_34 : decode cX11_over 34 = .ok (.getfield 9, 3) := by decide +kernel
theorem dX11_over_37 : decode cX11_over 37 = .ok (.bipush 6, 2) := by decide +kernel
theorem dX11_over_39 : decode cX11_over 39 = .ok (.iload_n 1, 1) := by decide +kernel
theorem dX11_over_40 : decode cX11_over 40 = .ok (.iadd, 1) := by decide +kernel
theorem dX11_over_41 : decode cX11_over 41 = .ok (.iaload, 1) := by decide +kernel
theorem dX11_over_42 : decode cX11_over 42 = .ok (.ireturn, 1) := by decide +kernel
theorem dX11_stand_0 : decode cX11_stand 0 = .ok (.aload_n 0, 1) := by decide +kernel
theorem dX11_stand_1 : decode cX11_stand 1 = .ok (.iconst 0, 1) := by decide +kernel
theorem dX11_stand_2 : decode cX11_stand 2 = .ok (.putfield 99, 3) := by decide +kernel
theorem dX11_stand_5 : decode cX11_stand 5 = .ok (.iload_n 1, 1) := by decide +kernel
theorem dX11_stand_6 : decode cX11_stand 6 = .ok (.iconst 1, 1) := by decide +kernel
theorem dX11_stand_7 : decode cX11_stand 7 = .ok (.bipush 60, 2) := by decide +kernel
theorem dX11_stand_9 : decode cX11_stand 9 = .ok (.invokestatic 109, 3) := by decide +kernel
theorem dX11_stand_12 : decode cX11_stand 12 = .ok (.ifCond .ne 5, 3) := by decide +kernel
theorem dX11_stand_15 : decode cX11_stand 15 = .ok (.iconst (-1), 1) := by decide +kernel
theorem dX11_stand_16 : decode cX11_stand 16 = .ok (.ireturn, 1) := by decide +kernel
theorem dX11_stand_17 : decode cX11_stand 17 = .ok (.aload_n 0, 1) := by decide +kernel
theorem dX11_stand_18 : decode cX11_stand 18 = .ok (.aload_n 0, 1) := by decide +kernel
theorem dX11_stand_19 : decode cX11_stand 19 = .ok (.getfield 9, 3) := by decide +kernel
theorem dX11_stand_22 : decode cX11_stand 22 = .ok (.invokevirtual 274, 3) := by decide +kernel
theorem dX11_stand_25 : decode cX11_stand 25 = .ok (.aload_n 0, 1) := by decide +kernel
theorem dX11_stand_26 : decode cX11_stand 26 = .ok (.getfield 9, 3) := by decide +kernel
theorem dX11_stand_29 : decode cX11_stand 29 = .ok (.bipush 24, 2) := by decide +kernel
theorem dX11_stand_31 : decode cX11_stand 31 = .ok (.dup2, 1) := by decide +kernel
theorem dX11_stand_32 : decode cX11_stand 32 = .ok (.iaload, 1) := by decide +kernel
theorem dX11_stand_33 : decode cX11_stand 33 = .ok (.iload_n 1, 1) := by decide +kernel
theorem dX11_stand_34 : decode cX11_stand 34 = .ok (.iadd, 1) := by decide +kernel
theorem dX11_stand_35 : decode cX11_stand 35 = .ok (.iastore, 1) := by decide +kernel
theorem dX11_stand_36 : decode cX11_stand 36 = .ok (.aload_n 0, 1) := by decide +kernel
theorem dX11_stand_37 : decode cX11_stand 37 = .ok (.getfield 9, 3) := by decide +kernel
theorem dX11_stand_40 : decode cX11_stand 40 = .ok (.bipush 24, 2) := by decide +kernel
theorem dX11_stand_42 : decode cX11_stand 42 = .ok (.iaload, 1) := by decide +kernel
theorem dX11_stand_43 : decode cX11_stand 43 = .ok (.ireturn, 1) := by decide +kernel
theorem dX11_minute_0 : decode cX11_minute 0 = .ok (.aload_n 0, 1) := by decide +kernel
theorem dX11_minute_1 : decode cX11_minute 1 = .ok (.iconst 0, 1) := by decide +kernel
theorem dX11_minute_2 : decode cX11_minute 2 = .ok (.putfield 99, 3) := by decide +kernel
theorem dX11_minute_5 : decode cX11_minute 5 = .ok (.aload_n 0, 1) := by decide +kernel
theorem dX11_minute_6 : decode cX11_minute 6 = .ok (.invokevirtual 271, 3) := by decide +kernel
theorem dX11_minute_9 : decode cX11_minute 9 = .ok (.aload_n 0, 1) := by decide +kernel
theorem dX11_minute_10 : decode cX11_minute 10 = .ok (.aload_n 0, 1) := by decide +kernel
theorem dX11_minute_11 : decode cX11_minute 11 = .ok (.getfield 9, 3) := by decide +kernel
theorem dX11_minute_14 : decode cX11_minute 14 = .ok (.invokevirtual 274, 3) := by decide +kernel
theorem dX11_minute_17 : decode cX11_minute 17 = .ok (.aload_n 0, 1) := by decide +kernel
theorem dX11_minute_18 : decode cX11_minute 18 = .ok (.aload_n 0, 1) := by decide +kernel
theorem dX11_minute_19 : decode cX11_minute 19 = .ok (.getfield 9, 3) := by decide +kernel
theorem dX11_minute_22 : decode cX11_minute 22 = .ok (.invokevirtual 297, 3) := by decide +kernel
theorem dX11_minute_25 : decode cX11_minute 25 = .ok (.aload_n 0, 1) := by decide +kernel
theorem dX11_minute_26 : decode cX11_minute 26 = .ok (.iconst 0, 1) := by decide +kernel
theorem dX11_minute_27 : decode cX11_minute 27 = .ok (.putfield 103, 3) := by decide +kernel
theorem dX11_minute_30 : decode cX11_minute 30 = .ok (.aload_n 0, 1) := by decide +kernel
theorem dX11_minute_31 : decode cX11_minute 31 = .ok (.aload_n 0, 1) := by decide +kernel
theorem dX11_minute_32 : decode cX11_minute 32 = .ok (.getfield 255, 3) := by decide +kernel
theorem dX11_minute_35 : decode cX11_minute 35 = .ok (.invokevirtual 300, 3) := by decide +kernel
theorem dX11_minute_38 : decode cX11_minute 38 = .ok (.aload_n 0, 1) := by decide +kernel
theorem dX11_minute_39 : decode cX11_minute 39 = .ok (.aload_n 0, 1) := by decide +kernel
theorem dX11_minute_40 : decode cX11_minute 40 = .ok (.getfield 258, 3) := by decide +kernel
theorem dX11_minute_43 : decode cX11_minute 43 = .ok (.invokevirtual 300, 3) := by decide +kernel
theorem dX11_minute_46 : decode cX11_minute 46 = .ok (.aload_n 0, 1) := by decide +kernel
theorem dX11_minute_47 : decode cX11_minute 47 = .ok (.getfield 261, 3) := by decide +kernel
theorem dX11_minute_50 : decode cX11_minute 50 = .ok (.invokestatic 285, 3) := by decide +kernel
theorem dX11_minute_53 : decode cX11_minute 53 = .ok (.ireturn, 1) := by decide +kernel
theorem dX11_minutes_0 : decode cX11_minutes 0 = .ok (.aload_n 0, 1) := by decide +kernel
theorem dX11_minutes_1 : decode cX11_minutes 1 = .ok (.iconst 0, 1) := by decide +kernel
theorem dX11_minutes_2 : decode cX11_minutes 2 = .ok (.putfield 99, 3) := by decide +kernel
theorem dX11_minutes_5 : decode cX11_minutes 5 = .ok (.iload_n 1, 1) := by decide +kernel
theorem dX11_minutes_6 : decode cX11_minutes 6 = .ok (.iconst 0, 1) := by decide +kernel
theorem dX11_minutes_7 : decode cX11_minutes 7 = .ok (.bipush 90, 2) := by decide +kernel
theorem dX11_minutes_9 : decode cX11_minutes 9 = .ok (.invokestatic 109, 3) := by decide +kernel
theorem dX11_minutes_12 : decode cX11_minutes 12 = .ok (.ifCond .ne 5, 3) := by decide +kernel
theorem dX11_minutes_15 : decode cX11_minutes 15 = .ok (.iconst (-1), 1) := by decide +kernel
theorem dX11_minutes_16 : decode cX11_minutes 16 = .ok (.ireturn, 1) := by decide +kernel
theorem dX11_minutes_17 : decode cX11_minutes 17 = .ok (.aload_n 0, 1) := by decide +kernel
theorem dX11_minutes_18 : decode cX11_minutes 18 = .ok (.invokevirtual 271, 3) := by decide +kernel
theorem dX11_minutes_21 : decode cX11_minutes 21 = .ok (.iload_n 1, 1) := by decide +kernel
theorem dX11_minutes_22 : decode cX11_minutes 22 = .ok (.ifCond .le 11, 3) := by decide +kernel
theorem dX11_minutes_25 : decode cX11_minutes 25 = .ok (.aload_n 0, 1) := by decide +kernel
theorem dX11_minutes_26 : decode cX11_minutes 26 = .ok (.aload_n 0, 1) := by decide +kernel
theorem dX11_minutes_27 : decode cX11_minutes 27 = .ok (.getfield 9, 3) := by decide +kernel
theorem dX11_minutes_30 : decode cX11_minutes 30 = .ok (.invokevirtual 274, 3) := by decide +kernel
theorem dX11_minutes_33 : decode cX11_minutes 33 = .ok (.iconst 0, 1) := by decide +kernel
theorem dX11_minutes_34 : decode cX11_minutes 34 = .ok (.istore_n 2, 1) := by decide +kernel
theorem dX11_minutes_35 : decode cX11_minutes 35 = .ok (.iconst 0, 1) := by decide +kernel
theorem dX11_minutes_36 : decode cX11_minutes 36 = .ok (.istore_n 3, 1) := by decide +kernel
theorem dX11_minutes_37 : decode cX11_minutes 37 = .ok (.iconst 0, 1) := by decide +kernel
theorem dX11_minutes_38 : decode cX11_minutes 38 = .ok (.istore 4, 2) := by decide +kernel
theorem dX11_minutes_40 : decode cX11_minutes 40 = .ok (.iload 4, 2) := by decide +kernel
theorem dX11_minutes_42 : decode cX11_minutes 42 = .ok (.iload_n 1, 1) := by decide +kernel
theorem dX11_minutes_43 : decode cX11_minutes 43 = .ok (.if_icmp .ge 34, 3) := by decide +kernel
theorem dX11_minutes_46 : decode cX11_minutes 46 = .ok (.aload_n 0, 1) := by decide +kernel
theorem dX11_minutes_47 : decode cX11_minutes 47 = .ok (.aload_n 0, 1) := by decide +kernel
theorem dX11_minutes_48 : decode cX11_minutes 48 = .ok (.getfield 9, 3) := by decide +kernel
theorem dX11_minutes_51 : decode cX11_minutes 51 = .ok (.invokevirtual 297, 3) := by decide +kernel
theorem dX11_minutes_54 : decode cX11_minutes 54 = .ok (.iload_n 2, 1) := by decide +kernel
theorem dX11_minutes_55 : decode cX11_minutes 55 = .ok (.aload_n 0, 1) := by decide +kernel
theorem dX11_minutes_56 : decode cX11_minutes 56 = .ok (.getfield 261, 3) := by decide +kernel
theorem dX11_minutes_59 : decode cX11_minutes 59 = .ok (.ior, 1) := by decide +kernel
theorem dX11_minutes_60 : decode cX11_minutes 60 = .ok (.istore_n 2, 1) := by decide +kernel
theorem dX11_minutes_61 : decode cX11_minutes 61 = .ok (.iload_n 3, 1) := by decide +kernel
theorem dX11_minutes_62 : decode cX11_minutes 62 = .ok (.aload_n 0, 1) := by decide +kernel
theorem dX11_minutes_63 : decode cX11_minutes 63 = .ok (.getfield 258, 3) := by decide +kernel
theorem dX11_minutes_66 : decode cX11_minutes 66 = .ok (.invokestatic 285, 3) := by decide +kernel
theorem dX11_minutes_69 : decode cX11_minutes 69 = .ok (.iadd, 1) := by decide +kernel
theorem dX11_minutes_70 : decode cX11_minutes 70 = .ok (.istore_n 3, 1) := by decide +kernel
theorem dX11_minutes_71 : decode cX11_minutes 71 = .ok (.iinc 4 1, 3) := by decide +kernel
theorem dX11_minutes_74 : decode cX11_minutes 74 = .ok (.goto (-34), 3) := by decide +kernel
theorem dX11_minutes_77 : decode cX11_minutes 77 = .ok (.aload_n 0, 1) := by decide +kernel
theorem dX11_minutes_78 : decode cX11_minutes 78 = .ok (.iconst 0, 1) := by decide +kernel
theorem dX11_minutes_79 : decode cX11_minutes 79 = .ok (.putfield 103, 3) := by decide +kernel
theorem dX11_minutes_82 : decode cX11_minutes 82 = .ok (.aload_n 0, 1) := by decide +kernel
theorem dX11_minutes_83 : decode cX11_minutes 83 = .ok (.iload_n 2, 1) := by decide +kernel
theorem dX11_minutes_84 : decode cX11_minutes 84 = .ok (.invokevirtual 300, 3) := by decide +kernel
theorem dX11_minutes_87 : decode cX11_minutes 87 = .ok (.aload_n 0, 1) := by decide +kernel
theorem dX11_minutes_88 : decode cX11_minutes 88 = .ok (.iload_n 3, 1) := by decide +kernel
theorem dX11_minutes_89 : decode cX11_minutes 89 = .ok (.invokevirtual 300, 3) := by decide +kernel
theorem dX11_minutes_92 : decode cX11_minutes 92 = .ok (.iload_n 2, 1) := by decide +kernel
theorem dX11_minutes_93 : decode cX11_minutes 93 = .ok (.invokestatic 285, 3) := by decide +kernel
theorem dX11_minutes_96 : decode cX11_minutes 96 = .ok (.ireturn, 1) := by decide +kernel
theorem dX11_readAct_0 : decode cX11_readAct 0 = .ok (.aload_n 0, 1) := by decide +kernel
theorem dX11_readAct_1 : decode cX11_readAct 1 = .ok (.invokevirtual 138, 3) := by decide +kernel
theorem dX11_readAct_4 : decode cX11_readAct 4 = .ok (.istore_n 2, 1) := by decide +kernel
theorem dX11_readAct_5 : decode cX11_readAct 5 = .ok (.iload_n 2, 1) := by decide +kernel
theorem dX11_readAct_6 : decode cX11_readAct 6 = .ok (.bipush 109, 2) := by decide +kernel
theorem dX11_readAct_8 : decode cX11_readAct 8 = .ok (.if_icmp .eq 29, 3) := by decide +kernel
theorem dX11_readAct_11 : decode cX11_readAct 11 = .ok (.iload_n 2, 1) := by decide +kernel
theorem dX11_readAct_12 : decode cX11_readAct 12 = .ok (.bipush 111, 2) := by decide +kernel
theorem dX11_readAct_14 : decode cX11_readAct 14 = .ok (.if_icmp .eq 23, 3) := by decide +kernel
theorem dX11_readAct_17 : decode cX11_readAct 17 = .ok (.iload_n 2, 1) := by decide +kernel
theorem dX11_readAct_18 : decode cX11_readAct 18 = .ok (.bipush 118, 2) := by decide +kernel
theorem dX11_readAct_20 : decode cX11_readAct 20 = .ok (.if_icmp .eq 17, 3) := by decide +kernel
theorem dX11_readAct_23 : decode cX11_readAct 23 = .ok (.iload_n 2, 1) := by decide +kernel
theorem dX11_readAct_24 : decode cX11_readAct 24 = .ok (.bipush 112, 2) := by decide +kernel
theorem dX11_readAct_26 : decode cX11_readAct 26 = .ok (.if_icmp .eq 11, 3) := by decide +kernel
theorem dX11_readAct_29 : decode cX11_readAct 29 = .ok (.aload_n 0, 1) := by decide +kernel
theorem dX11_readAct_30 : decode cX11_readAct 30 = .ok (.aload_n 0, 1) := by decide +kernel
theorem dX11_readAct_31 : decode cX11_readAct 31 = .ok (.getfield 128, 3) := by decide +kernel
theorem dX11_readAct_34 : decode cX11_readAct 34 = .ok (.invokevirtual 142, 3) := by decide +kernel
theorem dX11_readAct_37 : decode cX11_readAct 37 = .ok (.aload_n 0, 1) := by decide +kernel
theorem dX11_readAct_38 : decode cX11_readAct 38 = .ok (.dup, 1) := by decide +kernel
theorem dX11_readAct_39 : decode cX11_readAct 39 = .ok (.getfield 128, 3) := by decide +kernel
theorem dX11_readAct_42 : decode cX11_readAct 42 = .ok (.iconst 1, 1) := by decide +kernel
theorem dX11_readAct_43 : decode cX11_readAct 43 = .ok (.iadd, 1) := by decide +kernel
theorem dX11_readAct_44 : decode cX11_readAct 44 = .ok (.putfield 128, 3) := by decide +kernel
theorem dX11_readAct_47 : decode cX11_readAct 47 = .ok (.aload_n 0, 1) := by decide +kernel
theorem dX11_readAct_48 : decode cX11_readAct 48 = .ok (.getfield 57, 3) := by decide +kernel
theorem dX11_readAct_51 : decode cX11_readAct 51 = .ok (.iload_n 1, 1) := by decide +kernel
theorem dX11_readAct_52 : decode cX11_readAct 52 = .ok (.iload_n 2, 1) := by decide +kernel
theorem dX11_readAct_53 : decode cX11_readAct 53 = .ok (.iastore, 1) := by decide +kernel
theorem dX11_readAct_54 : decode cX11_readAct 54 = .ok (.iload_n 2, 1) := by decide +kernel
theorem dX11_readAct_55 : decode cX11_readAct 55 = .ok (.bipush 109, 2) := by decide +kernel
theorem dX11_readAct_57 : decode cX11_readAct 57 = .ok (.if_icmp .ne 16, 3) := by decide +kernel
theorem dX11_readAct_60 : decode cX11_readAct 60 = .ok (.aload_n 0, 1) := by decide +kernel
theorem dX11_readAct_61 : decode cX11_readAct 61 = .ok (.getfield 57, 3) := by decide +kernel
theorem dX11_readAct_64 : decode cX11_readAct 64 = .ok (.iload_n 1, 1) := by decide +kernel
theorem dX11_readAct_65 : decode cX11_readAct 65 = .ok (.iconst 1, 1) := by decide +kernel
theorem dX11_readAct_66 : decode cX11_readAct 66 = .ok (.iadd, 1) := by decide +kernel
theorem dX11_readAct_67 : decode cX11_readAct 67 = .ok (.aload_n 0, 1) := by decide +kernel
theorem dX11_readAct_68 : decode cX11_readAct 68 = .ok (.iconst 2, 1) := by decide +kernel
theorem dX11_readAct_69 : decode cX11_readAct 69 = .ok (.invokevirtual 156, 3) := by decide +kernel
theorem dX11_readAct_72 : decode cX11_readAct 72 = .ok (.iastore, 1) := by decide +kernel
theorem dX11_readAct_73 : decode cX11_readAct 73 = .ok (.iload_n 2, 1) := by decide +kernel
theorem dX11_readAct_74 : decode cX11_readAct 74 = .ok (.bipush 112, 2) := by decide +kernel
theorem dX11_readAct_76 : decode cX11_readAct 76 = .ok (.if_icmp .ne 18, 3) := by decide +kernel
theorem dX11_readAct_79 : decode cX11_readAct 79 = .ok (.aload_n 0, 1) := by decide +kernel
theorem dX11_readAct_80 : decode cX11_readAct 80 = .ok (.getfield 57, 3) := by decide +kernel
theorem dX11_readAct_83 : decode cX11_readAct 83 = .ok (.iload_n 1, 1) := by decide +kernel
theorem dX11_readAct_84 : decode cX11_readAct 84 = .ok (.iconst 1, 1) := by decide +kernel
theorem dX11_readAct_85 : decode cX11_readAct 85 = .ok (.iadd, 1) := by decide +kernel
theorem dX11_readAct_86 : decode cX11_readAct 86 = .ok (.aload_n 0, 1) := by decide +kernel
theorem dX11_readAct_87 : decode cX11_readAct 87 = .ok (.iconst 1, 1) := by decide +kernel
theorem dX11_readAct_88 : decode cX11_readAct 88 = .ok (.bipush 9, 2) := by decide +kernel
theorem dX11_readAct_90 : decode cX11_readAct 90 = .ok (.invokevirtual 146, 3) := by decide +kernel
theorem dX11_readAct_93 : decode cX11_readAct 93 = .ok (.iastore, 1) := by decide +kernel
theorem dX11_readAct_94 : decode cX11_readAct 94 = .ok (.iload_n 2, 1) := by decide +kernel
theorem dX11_readAct_95 : decode cX11_readAct 95 = .ok (.bipush 111, 2) := by decide +kernel
theorem dX11_readAct_97 : decode cX11_readAct 97 = .ok (.if_icmp .eq 9, 3) := by decide +kernel
theorem dX11_readAct_100 : decode cX11_readAct 100 = .ok (.iload_n 2, 1) := by decide +kernel
theorem dX11_readAct_101 : decode cX11_readAct 101 = .ok (.bipush 118, 2) := by decide +kernel
theorem dX11_readAct_103 : decode cX11_readAct 103 = .ok (.if_icmp .ne 19, 3) := by decide +kernel
theorem dX11_readAct_106 : decode cX11_readAct 106 = .ok (.aload_n 0, 1) := by decide +kernel
theorem dX11_readAct_107 : decode cX11_readAct 107 = .ok (.getfield 57, 3) := by decide +kernel
theorem dX11_readAct_110 : decode cX11_readAct 110 = .ok (.iload_n 1, 1) := by decide +kernel
theorem dX11_readAct_111 : decode cX11_readAct 111 = .ok (.iconst 1, 1) := by decide +kernel
theorem dX11_readAct_112 : decode cX11_readAct 112 = .ok (.iadd, 1) := by decide +kernel
theorem dX11_readAct_113 : decode cX11_readAct 113 = .ok (.aload_n 0, 1) := by decide +kernel
theorem dX11_readAct_114 : decode cX11_readAct 114 = .ok (.bipush 97, 2) := by decide +kernel
theorem dX11_readAct_116 : decode cX11_readAct 116 = .ok (.bipush 6, 2) := by decide +kernel
theorem dX11_readAct_118 : decode cX11_readAct 118 = .ok (.invokevirtual 160, 3) := by decide +kernel
theorem dX11_readAct_121 : decode cX11_readAct 121 = .ok (.iastore, 1) := by decide +kernel
theorem dX11_readAct_122 : decode cX11_readAct 122 = .ok (.iload_n 2, 1) := by decide +kernel
theorem dX11_readAct_123 : decode cX11_readAct 123 = .ok (.bipush 118, 2) := by decide +kernel
theorem dX11_readAct_125 : decode cX11_readAct 125 = .ok (.if_icmp .ne 18, 3) := by decide +kernel
theorem dX11_readAct_128 : decode cX11_readAct 128 = .ok (.aload_n 0, 1) := by decide +kernel
theorem dX11_readAct_129 : decode cX11_readAct 129 = .ok (.getfield 57, 3) := by decide +kernel
theorem dX11_readAct_132 : decode cX11_readAct 132 = .ok (.iload_n 1, 1) := by decide +kernel
theorem dX11_readAct_133 : decode cX11_readAct 133 = .ok (.iconst 2, 1) := by decide +kernel
theorem dX11_readAct_134 : decode cX11_readAct 134 = .ok (.iadd, 1) := by decide +kernel
theorem dX11_readAct_135 : decode cX11_readAct 135 = .ok (.aload_n 0, 1) := by decide +kernel
theorem dX11_readAct_136 : decode cX11_readAct 136 = .ok (.iconst 1, 1) := by decide +kernel
theorem dX11_readAct_137 : decode cX11_readAct 137 = .ok (.bipush 9, 2) := by decide +kernel
theorem dX11_readAct_139 : decode cX11_readAct 139 = .ok (.invokevirtual 146, 3) := by decide +kernel
theorem dX11_readAct_142 : decode cX11_readAct 142 = .ok (.iastore, 1) := by decide +kernel
theorem dX11_readAct_143 : decode cX11_readAct 143 = .ok (.return_, 1) := by decide +kernel
section NXG
variable {l : Launch} {D : va_G} {cy : Nat → ClassId} {ad : Nat → Nat} {dT : Nat} {X : Mm}
def f_X11_stayOf_74  (x3 : Int32) (M : Mem) : Option (Int32 × Mem) :=
  vl ((if x3 < (30 : Int32) then x3 else (30 : Int32))) fun v9 =>
  vl ((if (0 : Int32) < v9 then v9 else (0 : Int32))) fun v10 =>
  some (v10, M)
set_option maxRecDepth 100000 in
theorem w_X11_stayOf_74 {R : Int32} {M' : Mem}  (x3 : Int32) (M : Mem) (hF : f_X11_stayOf_74 x3 M = some (R, M')) : RunF l D cy ad none YX11_stayOf 404 0 0 (some (.int R)) (lay X M') 0 0 74 [(3, .int x3)] [] (lay X M) := by
  unfold f_X11_stayOf_74 at hF
  refine g_iconst (Y := YX11_stayOf) (pc := 74) dX11_stayOf_74 kI_0 ?_
  refine g_bipush (Y := YX11_stayOf) (pc := 75) dX11_stayOf_75 kB_30 ?_
  refine g_iload_n (Y := YX11_stayOf) (pc := 77) 0 dX11_stayOf_77 rfl ?_
  refine s_min (Y := YX11_stayOf) (pc := 78) dX11_stayOf_78 lk_X11_213 w_min (Nat.le_of_ble_eq_true rfl) (Nat.le_of_ble_eq_true rfl) ?_
  refine g_nm (fun v9 e => ?_)
  replace hF := vl_to e hF; clear e
  refine s_max (Y := YX11_stayOf) (pc := 81) dX11_stayOf_81 lk_X11_218 w_max (Nat.le_of_ble_eq_true rfl) (Nat.le_of_ble_eq_true rfl) ?_
  refine g_nm (fun v10 e => ?_)
  replace hF := vl_to e hF; clear e
  exact s_iret (Y := YX11_stayOf) (pc := 84) dX11_stayOf_84 rfl hF
def f_X11_stayOf_0  (x1 : Int32) (x2 : Int32) (M : Mem) : Option (Int32 × Mem) :=
  gd (0 ≤ x1 ∧ x1.toNatClampNeg < 6) <|
  bd (f_X11_has (M 182 x1.toNatClampNeg) x2 M) fun r2 M3 =>
  if r2 = 0 then
    gd (0 ≤ ((6 * x1) + x2) ∧ ((6 * x1) + x2).toNatClampNeg < 36) <|
    vl ((M3 181 ((6 * x1) + x2).toNatClampNeg)) fun v7 =>
    if 0 < (M3 174 22) then
      bd (f_X11_begin 186 (M3 174 22) 40 M3) fun _ M12 =>
      ml (up M12 174 23 1) fun M14 =>
      ml (up M14 174 24 x1) fun M15 =>
      ml (up M15 174 25 x2) fun M16 =>
      bd (f_X11_held (f_X11_thing RU) 0 M16) fun r17 M18 =>
      ml (up M18 174 23 0) fun M20 =>
      f_X11_stayOf_74 r17 M20
    else
      f_X11_stayOf_74 v7 M3
  else
    some (0, M3)
set_option maxRecDepth 100000 in
theorem w_X11_stayOf_0 {R : Int32} {M' : Mem}  (x1 x2 : Int32) (M : Mem) (hF : f_X11_stayOf_0 x1 x2 M = some (R, M')) : RunF l D cy ad none YX11_stayOf 404 0 0 (some (.int R)) (lay X M') 0 0 0 [(0, .ref 174), (1, .int x1), (2, .int x2)] [] (lay X M) := by
  unfold f_X11_stayOf_0 at hF
  refine g_aload_n (Y := YX11_stayOf) (pc := 0) 0 dX11_stayOf_0 rfl ?_
  refine u_getR (Y := YX11_stayOf) (pc := 1) (j := 182) dX11_stayOf_1 fl_X11_32 k_174 rf_174_9 ?_
  refine g_iload_n (Y := YX11_stayOf) (pc := 4) 1 dX11_stayOf_4 rfl ?_
  obtain ⟨g1, hF⟩ := gd_some hF
  refine s_iald (Y := YX11_stayOf) (pc := 5) dX11_stayOf_5 k_182 n_182 g1 ?_
  refine g_iload_n (Y := YX11_stayOf) (pc := 6) 2 dX11_stayOf_6 rfl ?_
  obtain ⟨r2, M3, e4, hF⟩ := bd_some hF
  refine s_callSi (Y := YX11_stayOf) (pc := 7) (as := [.int (M 182 x1.toNatClampNeg), .int x2]) (st := []) (r_X11_has  e4) msX11_has lk_X11_209 dX11_stayOf_7 rfl (Nat.le_of_ble_eq_true rfl) (Nat.le_of_ble_eq_true rfl) rfl ?_
  clear e4
  refine g_if_eq (Y := YX11_stayOf) (pc := 10) (tgt := 15) dX11_stayOf_10 rfl (fun c5 => ?_) (fun c5 => ?_)
  · replace hF := if_t c5 hF
    refine g_aload_n (Y := YX11_stayOf) (pc := 15) 0 dX11_stayOf_15 rfl ?_
    refine u_getR (Y := YX11_stayOf) (pc := 16) (j := 181) dX11_stayOf_16 fl_X11_29 k_174 rf_174_8 ?_
    refine g_bipush (Y := YX11_stayOf) (pc := 19) dX11_stayOf_19 kB_6 ?_
    refine g_iload_n (Y := YX11_stayOf) (pc := 21) 1 dX11_stayOf_21 rfl ?_
    refine g_imul (Y := YX11_stayOf) (pc := 22) dX11_stayOf_22 ?_
    refine g_iload_n (Y := YX11_stayOf) (pc := 23) 2 dX11_stayOf_23 rfl ?_
    refine g_iadd (Y := YX11_stayOf) (pc := 24) dX11_stayOf_24 ?_
    obtain ⟨g6, hF⟩ := gd_some hF
    refine s_iald (Y := YX11_stayOf) (pc := 25) dX11_stayOf_25 k_181 n_181 g6 ?_
    refine g_nm (fun v7 e => ?_)
    replace hF := vl_to e hF; clear e
    refine g_istore_n (Y := YX11_stayOf) (pc := 26) (L' := [(3, .int v7), (0, .ref 174), (1, .int x1), (2, .int x2)]) dX11_stayOf_26 (Nat.le_of_ble_eq_true rfl) rfl ?_
    refine g_aload_n (Y := YX11_stayOf) (pc := 27) 1 dX11_stayOf_27 rfl ?_
    refine u_getI (Y := YX11_stayOf) (pc := 28) dX11_stayOf_28 fl_X11_206 k_174 ?_
    refine g_if_le (Y := YX11_stayOf) (pc := 31) (tgt := 74) dX11_stayOf_31 rfl (fun c8 => ?_) (fun c8 => ?_)
    · replace hF := if_f c8 hF
      refine g_loc [0] rfl ?_
      exact w_X11_stayOf_74  _ _ hF
    · replace hF := if_t c8 hF
      refine g_aload_n (Y := YX11_stayOf) (pc := 34) 1 dX11_stayOf_34 rfl ?_
      refine g_aload_n (Y := YX11_stayOf) (pc := 35) 1 dX11_stayOf_35 rfl ?_
      refine u_getR (Y := YX11_stayOf) (pc := 36) (j := 186) dX11_stayOf_36 fl_X11_45 k_174 rf_174_21 ?_
      refine g_aload_n (Y := YX11_stayOf) (pc := 39) 1 dX11_stayOf_39 rfl ?_
      refine u_getI (Y := YX11_stayOf) (pc := 40) dX11_stayOf_40 fl_X11_206 k_174 ?_
      refine g_bipush (Y := YX11_stayOf) (pc := 43) dX11_stayOf_43 kB_40 ?_
      obtain ⟨r11, M12, e13, hF⟩ := bd_some hF
      refine s_callVv (Y := YX11_stayOf) (pc := 45) (as := [.ref 186, .int (M3 174 22), .int 40]) (st := []) (r_X11_begin (Or.inr rfl) e13) miX11_begin lk_X11_164 dX11_stayOf_45 k_174 rfl (Nat.le_of_ble_eq_true rfl) (Nat.le_of_ble_eq_true rfl) rfl ?_
      clear e13
      refine g_aload_n (Y := YX11_stayOf) (pc := 48) 1 dX11_stayOf_48 rfl ?_
      refine g_iconst (Y := YX11_stayOf) (pc := 49) dX11_stayOf_49 kI_1 ?_
      refine u_putZ (Y := YX11_stayOf) (pc := 50) dX11_stayOf_50 fl_X11_193 (Or.inr rfl) k_174 ?_
      refine g_nmM (fun M14 e => ?_)
      replace hF := ml_to e hF; clear e
      refine g_aload_n (Y := YX11_stayOf) (pc := 53) 1 dX11_stayOf_53 rfl ?_
      refine g_iload_n (Y := YX11_stayOf) (pc := 54) 2 dX11_stayOf_54 rfl ?_
      refine u_putI (Y := YX11_stayOf) (pc := 55) dX11_stayOf_55 fl_X11_200  k_174 ?_
      refine g_nmM (fun M15 e => ?_)
      replace hF := ml_to e hF; clear e
      refine g_aload_n (Y := YX11_stayOf) (pc := 58) 1 dX11_stayOf_58 rfl ?_
      refine g_iload_n (Y := YX11_stayOf) (pc := 59) 3 dX11_stayOf_59 rfl ?_
      refine u_putI (Y := YX11_stayOf) (pc := 60) dX11_stayOf_60 fl_X11_203  k_174 ?_
      refine g_nmM (fun M16 e => ?_)
      replace hF := ml_to e hF; clear e
      refine g_aload_n (Y := YX11_stayOf) (pc := 63) 1 dX11_stayOf_63 rfl ?_
      refine g_iconst (Y := YX11_stayOf) (pc := 64) dX11_stayOf_64 kI_0 ?_
      obtain ⟨r17, M18, e19, hF⟩ := bd_some hF
      refine s_callVi (Y := YX11_stayOf) (pc := 65) (as := [.int 0]) (st := []) (r_X11_held (rn_X11_thing RU) e19) miX11_held lk_X11_190 dX11_stayOf_65 k_174 rfl (Nat.le_of_ble_eq_true rfl) (Nat.le_of_ble_eq_true rfl) rfl ?_
      clear e19
      refine g_istore_n (Y := YX11_stayOf) (pc := 68) (L' := [(3, .int r17), (0, .ref 174), (1, .int x1), (2, .int x2)]) dX11_stayOf_68 (Nat.le_of_ble_eq_true rfl) rfl ?_
      refine g_aload_n (Y := YX11_stayOf) (pc := 69) 1 dX11_stayOf_69 rfl ?_
      refine g_iconst (Y := YX11_stayOf) (pc := 70) dX11_stayOf_70 kI_0 ?_
      refine u_putZ (Y := YX11_stayOf) (pc := 71) dX11_stayOf_71 fl_X11_193 (Or.inl rfl) k_174 ?_
      refine g_nmM (fun M20 e => ?_)
      replace hF := ml_to e hF; clear e
      refine g_loc [0] rfl ?_
      exact w_X11_stayOf_74  _ _ hF
  · replace hF := if_f c5 hF
    refine g_iconst (Y := YX11_stayOf) (pc := 13) dX11_stayOf_13 kI_0 ?_
    exact s_iret (Y := YX11_stayOf) (pc := 14) dX11_stayOf_14 rfl hF
def f_X11_stayOf (x1 : Int32) (x2 : Int32) (M : Mem) : Option (Int32 × Mem) := f_X11_stayOf_0 x1 x2 M
theorem r_X11_stayOf {x1 x2 R : Int32} {M M' : Mem}  (hF : f_X11_stayOf x1 x2 M = some (R, M')) : RunS l D cy ad YX11_stayOf 404 [.ref 174, .int x1, .int x2] X M (some (.int R)) M' := Run.of 2 (miX11_stayOf).1 (Nat.le_of_ble_eq_true rfl) (w_X11_stayOf_0  _ _ _ hF)
def f_X11_layStays_12 (K2 : Int32 → Mem → Option (Int32 × Mem)) : Nat → Int32 → Int32 → Mem → Option (Int32 × Mem)
  | 0, _, _, _ => none
  | n + 1, x1, x2, M =>
    if x2 < (M 174 1) then
      bd (f_X11_stayOf x1 x2 M) fun r4 M5 =>
      gd (0 ≤ ((6 * x1) + x2) ∧ ((6 * x1) + x2).toNatClampNeg < 36) <|
      ml (up M5 187 ((6 * x1) + x2).toNatClampNeg r4) fun M8 =>
      vl (x2 + 1) fun v9 =>
      f_X11_layStays_12 K2 n x1 v9 M8
    else
      vl (x1 + 1) fun v3 =>
      K2 v3 M
set_option maxRecDepth 100000 in
theorem w_X11_layStays_12 {R : Int32} {M' : Mem} {K2 : Int32 → Mem → Option (Int32 × Mem)} (hK2 : ∀ (x1 : Int32) (M : Mem), K2 x1 M = some (R, M') → RunF l D cy ad none YX11_layStays 405 0 0 none (lay X M') 0 0 2 [(0, .ref 174), (1, .int x1)] [] (lay X M)) : ∀ (n : Nat) (x1 x2 : Int32) (M : Mem), f_X11_layStays_12 K2 n x1 x2 M = some (R, M') → RunF l D cy ad none YX11_layStays 405 0 0 none (lay X M') 0 0 12 [(0, .ref 174), (1, .int x1), (2, .int x2)] [] (lay X M) := by
  intro n
  induction n with
  | zero => intro x1 x2 M hF; exact absurd hF (by unfold f_X11_layStays_12; exact fun h => nomatch h)
  | succ n ih =>
    intro x1 x2 M hF
    unfold f_X11_layStays_12 at hF
    refine g_iload_n (Y := YX11_layStays) (pc := 12) 2 dX11_layStays_12 rfl ?_
    refine g_aload_n (Y := YX11_layStays) (pc := 13) 0 dX11_layStays_13 rfl ?_
    refine u_getI (Y := YX11_layStays) (pc := 14) dX11_layStays_14 fl_X11_106 k_174 ?_
    refine g_icmp_ge (Y := YX11_layStays) (pc := 17) (tgt := 43) dX11_layStays_17 rfl (fun c2 => ?_) (fun c2 => ?_)
    · replace hF := if_f c2 hF
      refine s_iinc (Y := YX11_layStays) (pc := 43) (j := 1) (L' := fun y => [(1, .int y), (0, .ref 174), (2, .int x2)]) dX11_layStays_43 kI_1 rfl (Nat.le_of_ble_eq_true rfl) (fun _ => rfl) (fun v3 e => ?_)
      replace hF := vl_to e hF; clear e
      refine g_goto (Y := YX11_layStays) (pc := 46) (tgt := 2) dX11_layStays_46 rfl ?_
      refine g_loc [1, 0] rfl ?_
      exact hK2 _ _ hF
    · replace hF := if_t c2 hF
      refine g_aload_n (Y := YX11_layStays) (pc := 20) 0 dX11_layStays_20 rfl ?_
      refine u_getR (Y := YX11_layStays) (pc := 21) (j := 187) dX11_layStays_21 fl_X11_48 k_174 rf_174_26 ?_
      refine g_bipush (Y := YX11_layStays) (pc := 24) dX11_layStays_24 kB_6 ?_
      refine g_iload_n (Y := YX11_layStays) (pc := 26) 1 dX11_layStays_26 rfl ?_
      refine g_imul (Y := YX11_layStays) (pc := 27) dX11_layStays_27 ?_
      refine g_iload_n (Y := YX11_layStays) (pc := 28) 2 dX11_layStays_28 rfl ?_
      refine g_iadd (Y := YX11_layStays) (pc := 29) dX11_layStays_29 ?_
      refine g_aload_n (Y := YX11_layStays) (pc := 30) 0 dX11_layStays_30 rfl ?_
      refine g_iload_n (Y := YX11_layStays) (pc := 31) 1 dX11_layStays_31 rfl ?_
      refine g_iload_n (Y := YX11_layStays) (pc := 32) 2 dX11_layStays_32 rfl ?_
      obtain ⟨r4, M5, e6, hF⟩ := bd_some hF
      refine s_callVi (Y := YX11_layStays) (pc := 33) (as := [.int x1, .int x2]) (st := [.int ((6 * x1) + x2), .ref 187]) (r_X11_stayOf  e6) miX11_stayOf lk_X11_221 dX11_layStays_33 k_174 rfl (Nat.le_of_ble_eq_true rfl) (Nat.le_of_ble_eq_true rfl) rfl ?_
      clear e6
      obtain ⟨g7, hF⟩ := gd_some hF
      refine s_iast (Y := YX11_layStays) (pc := 36) dX11_layStays_36 k_187 n_187 g7 ?_
      refine g_nmM (fun M8 e => ?_)
      replace hF := ml_to e hF; clear e
      refine s_iinc (Y := YX11_layStays) (pc := 37) (j := 2) (L' := fun y => [(2, .int y), (0, .ref 174), (1, .int x1)]) dX11_layStays_37 kI_1 rfl (Nat.le_of_ble_eq_true rfl) (fun _ => rfl) (fun v9 e => ?_)
      replace hF := vl_to e hF; clear e
      refine g_goto (Y := YX11_layStays) (pc := 40) (tgt := 12) dX11_layStays_40 rfl ?_
      refine g_loc [1, 2, 0] rfl ?_
      exact ih _ _ _ hF
def f_X11_layStays_2  : Nat → Int32 → Mem → Option (Int32 × Mem)
  | 0, _, _ => none
  | n + 1, x1, M =>
    if x1 < (M 174 3) then
      f_X11_layStays_12 (f_X11_layStays_2 n) FU x1 0 M
    else
      some (0, M)
set_option maxRecDepth 100000 in
theorem w_X11_layStays_2 {R : Int32} {M' : Mem}  : ∀ (n : Nat) (x1 : Int32) (M : Mem), f_X11_layStays_2 n x1 M = some (R, M') → RunF l D cy ad none YX11_layStays 405 0 0 none (lay X M') 0 0 2 [(0, .ref 174), (1, .int x1)] [] (lay X M) := by
  intro n
  induction n with
  | zero => intro x1 M hF; exact absurd hF (by unfold f_X11_layStays_2; exact fun h => nomatch h)
  | succ n ih =>
    intro x1 M hF
    unfold f_X11_layStays_2 at hF
    refine g_iload_n (Y := YX11_layStays) (pc := 2) 1 dX11_layStays_2 rfl ?_
    refine g_aload_n (Y := YX11_layStays) (pc := 3) 0 dX11_layStays_3 rfl ?_
    refine u_getI (Y := YX11_layStays) (pc := 4) dX11_layStays_4 fl_X11_113 k_174 ?_
    refine g_icmp_ge (Y := YX11_layStays) (pc := 7) (tgt := 49) dX11_layStays_7 rfl (fun c1 => ?_) (fun c1 => ?_)
    · replace hF := if_f c1 hF
      exact s_vret (Y := YX11_layStays) (pc := 49) dX11_layStays_49 rfl hF
    · replace hF := if_t c1 hF
      refine g_iconst (Y := YX11_layStays) (pc := 10) dX11_layStays_10 kI_0 ?_
      refine g_istore_n (Y := YX11_layStays) (pc := 11) (L' := [(2, .int 0), (0, .ref 174), (1, .int x1)]) dX11_layStays_11 (Nat.le_of_ble_eq_true rfl) rfl ?_
      refine g_loc [1, 2, 0] rfl ?_
      exact w_X11_layStays_12 ih _ _ _ _ hF
def f_X11_layStays_0  (M : Mem) : Option (Int32 × Mem) :=
  f_X11_layStays_2 FU 0 M
set_option maxRecDepth 100000 in
theorem w_X11_layStays_0 {R : Int32} {M' : Mem}  (M : Mem) (hF : f_X11_layStays_0  M = some (R, M')) : RunF l D cy ad none YX11_layStays 405 0 0 none (lay X M') 0 0 0 [(0, .ref 174)] [] (lay X M) := by
  unfold f_X11_layStays_0 at hF
  refine g_iconst (Y := YX11_layStays) (pc := 0) dX11_layStays_0 kI_0 ?_
  refine g_istore_n (Y := YX11_layStays) (pc := 1) (L' := [(1, .int 0), (0, .ref 174)]) dX11_layStays_1 (Nat.le_of_ble_eq_true rfl) rfl ?_
  refine g_loc [1, 0] rfl ?_
  exact w_X11_layStays_2  _ _ _ hF
def f_X11_layStays (M : Mem) : Option (Int32 × Mem) := f_X11_layStays_0 M
theorem r_X11_layStays {R : Int32} {M M' : Mem}  (hF : f_X11_layStays  M = some (R, M')) : RunS l D cy ad YX11_layStays 405 [.ref 174] X M none M' := Run.of 0 (miX11_layStays).1 (Nat.le_of_ble_eq_true rfl) (w_X11_layStays_0  _ hF)
def f_X11_isInside_20 (a1 : Nat) (t0 : Int32) (M : Mem) : Option (Int32 × Mem) :=
  gd (t0 = 0 ∨ t0 = 1) <|
  some (t0, M)
set_option maxRecDepth 100000 in
theorem w_X11_isInside_20 {R : Int32} {M' : Mem} {a1 : Nat} (ha1 : kinds[a1]? = some 14) (t0 : Int32) (M : Mem) (hF : f_X11_isInside_20 a1 t0 M = some (R, M')) : RunF l D cy ad none YX11_isInside 0 0 0 (some (.int R)) (lay X M') 0 0 20 [] [.int t0] (lay X M) := by
  unfold f_X11_isInside_20 at hF
  obtain ⟨g3, hF⟩ := gd_some hF
  exact s_zret (Y := YX11_isInside) (pc := 20) dX11_isInside_20 rfl g3 hF
def f_X11_isInside_19 (a1 : Nat) (M : Mem) : Option (Int32 × Mem) :=
  f_X11_isInside_20 a1 0 M
set_option maxRecDepth 100000 in
theorem w_X11_isInside_19 {R : Int32} {M' : Mem} {a1 : Nat} (ha1 : kinds[a1]? = some 14) (M : Mem) (hF : f_X11_isInside_19 a1  M = some (R, M')) : RunF l D cy ad none YX11_isInside 0 0 0 (some (.int R)) (lay X M') 0 0 19 [] [] (lay X M) := by
  unfold f_X11_isInside_19 at hF
  refine g_iconst (Y := YX11_isInside) (pc := 19) dX11_isInside_19 kI_0 ?_
  exact w_X11_isInside_20 ha1 _ _ hF
def f_X11_isInside_0 (a1 : Nat) (x2 : Int32) (M : Mem) : Option (Int32 × Mem) :=
  gd (0 ≤ x2 ∧ x2.toNatClampNeg < LN a1) <|
  if (M a1 x2.toNatClampNeg) = (-1) then
    f_X11_isInside_19 a1 M
  else
    gd (0 ≤ x2 ∧ x2.toNatClampNeg < LN a1) <|
    if (M a1 x2.toNatClampNeg) = 9 then
      f_X11_isInside_19 a1 M
    else
      f_X11_isInside_20 a1 1 M
set_option maxRecDepth 100000 in
theorem w_X11_isInside_0 {R : Int32} {M' : Mem} {a1 : Nat} (ha1 : kinds[a1]? = some 14) (x2 : Int32) (M : Mem) (hF : f_X11_isInside_0 a1 x2 M = some (R, M')) : RunF l D cy ad none YX11_isInside 0 0 0 (some (.int R)) (lay X M') 0 0 0 [(1, .ref a1), (2, .int x2)] [] (lay X M) := by
  unfold f_X11_isInside_0 at hF
  refine g_aload_n (Y := YX11_isInside) (pc := 0) 0 dX11_isInside_0 rfl ?_
  refine g_iload_n (Y := YX11_isInside) (pc := 1) 1 dX11_isInside_1 rfl ?_
  obtain ⟨g1, hF⟩ := gd_some hF
  refine s_iald (Y := YX11_isInside) (pc := 2) dX11_isInside_2 ha1 rfl g1 ?_
  refine g_iconst (Y := YX11_isInside) (pc := 3) dX11_isInside_3 kI_m1 ?_
  refine g_icmp_eq (Y := YX11_isInside) (pc := 4) (tgt := 19) dX11_isInside_4 rfl (fun c2 => ?_) (fun c2 => ?_)
  · replace hF := if_t c2 hF
    refine g_loc [] rfl ?_
    exact w_X11_isInside_19 ha1 _ hF
  · replace hF := if_f c2 hF
    refine g_aload_n (Y := YX11_isInside) (pc := 7) 0 dX11_isInside_7 rfl ?_
    refine g_iload_n (Y := YX11_isInside) (pc := 8) 1 dX11_isInside_8 rfl ?_
    obtain ⟨g4, hF⟩ := gd_some hF
    refine s_iald (Y := YX11_isInside) (pc := 9) dX11_isInside_9 ha1 rfl g4 ?_
    refine g_bipush (Y := YX11_isInside) (pc := 10) dX11_isInside_10 kB_9 ?_
    refine g_icmp_eq (Y := YX11_isInside) (pc := 12) (tgt := 19) dX11_isInside_12 rfl (fun c5 => ?_) (fun c5 => ?_)
    · replace hF := if_t c5 hF
      refine g_loc [] rfl ?_
      exact w_X11_isInside_19 ha1 _ hF
    · replace hF := if_f c5 hF
      refine g_iconst (Y := YX11_isInside) (pc := 15) dX11_isInside_15 kI_1 ?_
      refine g_goto (Y := YX11_isInside) (pc := 16) (tgt := 20) dX11_isInside_16 rfl ?_
      refine g_loc [] rfl ?_
      exact w_X11_isInside_20 ha1 _ _ hF
def f_X11_isInside (a1 : Nat) (x2 : Int32) (M : Mem) : Option (Int32 × Mem) := f_X11_isInside_0 a1 x2 M
theorem r_X11_isInside {a1 : Nat} {x2 R : Int32} {M M' : Mem} (ha1 : kinds[a1]? = some 14) (hF : f_X11_isInside a1 x2 M = some (R, M')) : RunS l D cy ad YX11_isInside 0 [.ref 174, .ref a1, .int x2] X M (some (.int R)) M' := Run.of 2 (miX11_isInside).1 (Nat.le_of_ble_eq_true rfl) (g_loc [1, 2] rfl (w_X11_isInside_0 ha1 _ _ hF))
def f_X11_inRoom_31 (K5 : Int32 → Int32 → Int32 → Mem → Option (Int32 × Mem)) (a1 : Nat) (x2 : Int32) (x4 : Int32) (t1 : Int32) (t0 : Int32) (M : Mem) : Option (Int32 × Mem) :=
  vl ((t1 ||| t0)) fun v4 =>
  vl (x4 + 1) fun v5 =>
  K5 x2 v4 v5 M
set_option maxRecDepth 100000 in
theorem w_X11_inRoom_31 {R : Int32} {M' : Mem} {a1 : Nat} {K5 : Int32 → Int32 → Int32 → Mem → Option (Int32 × Mem)} (ha1 : kinds[a1]? = some 14) (hK5 : ∀ (x2 x3 x4 : Int32) (M : Mem), K5 x2 x3 x4 M = some (R, M') → RunF l D cy ad none YX11_inRoom 0 0 0 (some (.int R)) (lay X M') 0 0 5 [(0, .ref 174), (1, .ref a1), (2, .int x2), (3, .int x3), (4, .int x4)] [] (lay X M)) (x2 x4 t1 t0 : Int32) (M : Mem) (hF : f_X11_inRoom_31 K5 a1 x2 x4 t1 t0 M = some (R, M')) : RunF l D cy ad none YX11_inRoom 0 0 0 (some (.int R)) (lay X M') 0 0 31 [(0, .ref 174), (1, .ref a1), (2, .int x2), (4, .int x4)] [.int t0, .int t1] (lay X M) := by
  unfold f_X11_inRoom_31 at hF
  refine g_ior (Y := YX11_inRoom) (pc := 31) dX11_inRoom_31 ?_
  refine g_nm (fun v4 e => ?_)
  replace hF := vl_to e hF; clear e
  refine g_istore_n (Y := YX11_inRoom) (pc := 32) (L' := [(3, .int v4), (0, .ref 174), (1, .ref a1), (2, .int x2), (4, .int x4)]) dX11_inRoom_32 (Nat.le_of_ble_eq_true rfl) rfl ?_
  refine s_iinc (Y := YX11_inRoom) (pc := 33) (j := 4) (L' := fun y => [(4, .int y), (3, .int v4), (0, .ref 174), (1, .ref a1), (2, .int x2)]) dX11_inRoom_33 kI_1 rfl (Nat.le_of_ble_eq_true rfl) (fun _ => rfl) (fun v5 e => ?_)
  replace hF := vl_to e hF; clear e
  refine g_goto (Y := YX11_inRoom) (pc := 36) (tgt := 5) dX11_inRoom_36 rfl ?_
  refine g_loc [2, 3, 4, 1, 0] rfl ?_
  exact hK5 _ _ _ _ hF
def f_X11_inRoom_5 (a1 : Nat) : Nat → Int32 → Int32 → Int32 → Mem → Option (Int32 × Mem)
  | 0, _, _, _, _ => none
  | n + 1, x2, x3, x4, M =>
    if x4 < (M 174 3) then
      gd (0 ≤ x4 ∧ x4.toNatClampNeg < LN a1) <|
      if (M a1 x4.toNatClampNeg) = x2 then
        f_X11_inRoom_31 (f_X11_inRoom_5 a1 n) a1 x2 x4 x3 (1 <<< (x4 &&& 31)) M
      else
        f_X11_inRoom_31 (f_X11_inRoom_5 a1 n) a1 x2 x4 x3 0 M
    else
      some (x3, M)
set_option maxRecDepth 100000 in
theorem w_X11_inRoom_5 {R : Int32} {M' : Mem} {a1 : Nat} (ha1 : kinds[a1]? = some 14) : ∀ (n : Nat) (x2 x3 x4 : Int32) (M : Mem), f_X11_inRoom_5 a1 n x2 x3 x4 M = some (R, M') → RunF l D cy ad none YX11_inRoom 0 0 0 (some (.int R)) (lay X M') 0 0 5 [(0, .ref 174), (1, .ref a1), (2, .int x2), (3, .int x3), (4, .int x4)] [] (lay X M) := by
  intro n
  induction n with
  | zero => intro x2 x3 x4 M hF; exact absurd hF (by unfold f_X11_inRoom_5; exact fun h => nomatch h)
  | succ n ih =>
    intro x2 x3 x4 M hF
    unfold f_X11_inRoom_5 at hF
    refine g_iload (Y := YX11_inRoom) (pc := 5) 4 dX11_inRoom_5 rfl ?_
    refine g_aload_n (Y := YX11_inRoom) (pc := 7) 0 dX11_inRoom_7 rfl ?_
    refine u_getI (Y := YX11_inRoom) (pc := 8) dX11_inRoom_8 fl_X11_113 k_174 ?_
    refine g_icmp_ge (Y := YX11_inRoom) (pc := 11) (tgt := 39) dX11_inRoom_11 rfl (fun c1 => ?_) (fun c1 => ?_)
    · replace hF := if_f c1 hF
      refine g_iload_n (Y := YX11_inRoom) (pc := 39) 3 dX11_inRoom_39 rfl ?_
      exact s_iret (Y := YX11_inRoom) (pc := 40) dX11_inRoom_40 rfl hF
    · replace hF := if_t c1 hF
      refine g_iload_n (Y := YX11_inRoom) (pc := 14) 3 dX11_inRoom_14 rfl ?_
      refine g_aload_n (Y := YX11_inRoom) (pc := 15) 1 dX11_inRoom_15 rfl ?_
      refine g_iload (Y := YX11_inRoom) (pc := 16) 4 dX11_inRoom_16 rfl ?_
      obtain ⟨g2, hF⟩ := gd_some hF
      refine s_iald (Y := YX11_inRoom) (pc := 18) dX11_inRoom_18 ha1 rfl g2 ?_
      refine g_iload_n (Y := YX11_inRoom) (pc := 19) 2 dX11_inRoom_19 rfl ?_
      refine g_icmp_ne (Y := YX11_inRoom) (pc := 20) (tgt := 30) dX11_inRoom_20 rfl (fun c3 => ?_) (fun c3 => ?_)
      · replace hF := if_f c3 hF
        refine g_iconst (Y := YX11_inRoom) (pc := 30) dX11_inRoom_30 kI_0 ?_
        refine g_loc [0, 1, 2, 4] rfl ?_
        exact w_X11_inRoom_31 ha1 ih _ _ _ _ _ hF
      · replace hF := if_t c3 hF
        refine g_iconst (Y := YX11_inRoom) (pc := 23) dX11_inRoom_23 kI_1 ?_
        refine g_iload (Y := YX11_inRoom) (pc := 24) 4 dX11_inRoom_24 rfl ?_
        refine g_ishl (Y := YX11_inRoom) (pc := 26) dX11_inRoom_26 ?_
        refine g_goto (Y := YX11_inRoom) (pc := 27) (tgt := 31) dX11_inRoom_27 rfl ?_
        refine g_loc [0, 1, 2, 4] rfl ?_
        exact w_X11_inRoom_31 ha1 ih _ _ _ _ _ hF
def f_X11_inRoom_0 (a1 : Nat) (x2 : Int32) (M : Mem) : Option (Int32 × Mem) :=
  f_X11_inRoom_5 a1 FU x2 0 0 M
set_option maxRecDepth 100000 in
theorem w_X11_inRoom_0 {R : Int32} {M' : Mem} {a1 : Nat} (ha1 : kinds[a1]? = some 14) (x2 : Int32) (M : Mem) (hF : f_X11_inRoom_0 a1 x2 M = some (R, M')) : RunF l D cy ad none YX11_inRoom 0 0 0 (some (.int R)) (lay X M') 0 0 0 [(0, .ref 174), (1, .ref a1), (2, .int x2)] [] (lay X M) := by
  unfold f_X11_inRoom_0 at hF
  refine g_iconst (Y := YX11_inRoom) (pc := 0) dX11_inRoom_0 kI_0 ?_
  refine g_istore_n (Y := YX11_inRoom) (pc := 1) (L' := [(3, .int 0), (0, .ref 174), (1, .ref a1), (2, .int x2)]) dX11_inRoom_1 (Nat.le_of_ble_eq_true rfl) rfl ?_
  refine g_iconst (Y := YX11_inRoom) (pc := 2) dX11_inRoom_2 kI_0 ?_
  refine g_istore (Y := YX11_inRoom) (pc := 3) (L' := [(4, .int 0), (3, .int 0), (0, .ref 174), (1, .ref a1), (2, .int x2)]) dX11_inRoom_3 (Nat.le_of_ble_eq_true rfl) rfl ?_
  refine g_loc [2, 3, 4, 1, 0] rfl ?_
  exact w_X11_inRoom_5 ha1 _ _ _ _ _ hF
def f_X11_inRoom (a1 : Nat) (x2 : Int32) (M : Mem) : Option (Int32 × Mem) := f_X11_inRoom_0 a1 x2 M
theorem r_X11_inRoom {a1 : Nat} {x2 R : Int32} {M M' : Mem} (ha1 : kinds[a1]? = some 14) (hF : f_X11_inRoom a1 x2 M = some (R, M')) : RunS l D cy ad YX11_inRoom 0 [.ref 174, .ref a1, .int x2] X M (some (.int R)) M' := Run.of 2 (miX11_inRoom).1 (Nat.le_of_ble_eq_true rfl) (w_X11_inRoom_0 ha1 _ _ hF)
def f_X11_inside_29 (K4 : Int32 → Int32 → Mem → Option (Int32 × Mem)) (a1 : Nat) (x3 : Int32) (t1 : Int32) (t0 : Int32) (M : Mem) : Option (Int32 × Mem) :=
  vl ((t1 ||| t0)) fun v6 =>
  vl (x3 + 1) fun v7 =>
  K4 v6 v7 M
set_option maxRecDepth 100000 in
theorem w_X11_inside_29 {R : Int32} {M' : Mem} {a1 : Nat} {K4 : Int32 → Int32 → Mem → Option (Int32 × Mem)} (ha1 : kinds[a1]? = some 14) (hK4 : ∀ (x2 x3 : Int32) (M : Mem), K4 x2 x3 M = some (R, M') → RunF l D cy ad none YX11_inside 1 0 0 (some (.int R)) (lay X M') 0 0 4 [(0, .ref 174), (1, .ref a1), (2, .int x2), (3, .int x3)] [] (lay X M)) (x3 t1 t0 : Int32) (M : Mem) (hF : f_X11_inside_29 K4 a1 x3 t1 t0 M = some (R, M')) : RunF l D cy ad none YX11_inside 1 0 0 (some (.int R)) (lay X M') 0 0 29 [(0, .ref 174), (1, .ref a1), (3, .int x3)] [.int t0, .int t1] (lay X M) := by
  unfold f_X11_inside_29 at hF
  refine g_ior (Y := YX11_inside) (pc := 29) dX11_inside_29 ?_
  refine g_nm (fun v6 e => ?_)
  replace hF := vl_to e hF; clear e
  refine g_istore_n (Y := YX11_inside) (pc := 30) (L' := [(2, .int v6), (0, .ref 174), (1, .ref a1), (3, .int x3)]) dX11_inside_30 (Nat.le_of_ble_eq_true rfl) rfl ?_
  refine s_iinc (Y := YX11_inside) (pc := 31) (j := 3) (L' := fun y => [(3, .int y), (2, .int v6), (0, .ref 174), (1, .ref a1)]) dX11_inside_31 kI_1 rfl (Nat.le_of_ble_eq_true rfl) (fun _ => rfl) (fun v7 e => ?_)
  replace hF := vl_to e hF; clear e
  refine g_goto (Y := YX11_inside) (pc := 34) (tgt := 4) dX11_inside_34 rfl ?_
  refine g_loc [2, 3, 1, 0] rfl ?_
  exact hK4 _ _ _ hF
def f_X11_inside_4 (a1 : Nat) : Nat → Int32 → Int32 → Mem → Option (Int32 × Mem)
  | 0, _, _, _ => none
  | n + 1, x2, x3, M =>
    if x3 < (M 174 3) then
      bd (f_X11_isInside a1 x3 M) fun r2 M3 =>
      if r2 = 0 then
        f_X11_inside_29 (f_X11_inside_4 a1 n) a1 x3 x2 0 M3
      else
        f_X11_inside_29 (f_X11_inside_4 a1 n) a1 x3 x2 (1 <<< (x3 &&& 31)) M3
    else
      some (x2, M)
set_option maxRecDepth 100000 in
theorem w_X11_inside_4 {R : Int32} {M' : Mem} {a1 : Nat} (ha1 : kinds[a1]? = some 14) : ∀ (n : Nat) (x2 x3 : Int32) (M : Mem), f_X11_inside_4 a1 n x2 x3 M = some (R, M') → RunF l D cy ad none YX11_inside 1 0 0 (some (.int R)) (lay X M') 0 0 4 [(0, .ref 174), (1, .ref a1), (2, .int x2), (3, .int x3)] [] (lay X M) := by
  intro n
  induction n with
  | zero => intro x2 x3 M hF; exact absurd hF (by unfold f_X11_inside_4; exact fun h => nomatch h)
  | succ n ih =>
    intro x2 x3 M hF
    unfold f_X11_inside_4 at hF
    refine g_iload_n (Y := YX11_inside) (pc := 4) 3 dX11_inside_4 rfl ?_
    refine g_aload_n (Y := YX11_inside) (pc := 5) 0 dX11_inside_5 rfl ?_
    refine u_getI (Y := YX11_inside) (pc := 6) dX11_inside_6 fl_X11_113 k_174 ?_
    refine g_icmp_ge (Y := YX11_inside) (pc := 9) (tgt := 37) dX11_inside_9 rfl (fun c1 => ?_) (fun c1 => ?_)
    · replace hF := if_f c1 hF
      refine g_iload_n (Y := YX11_inside) (pc := 37) 2 dX11_inside_37 rfl ?_
      exact s_iret (Y := YX11_inside) (pc := 38) dX11_inside_38 rfl hF
    · replace hF := if_t c1 hF
      refine g_iload_n (Y := YX11_inside) (pc := 12) 2 dX11_inside_12 rfl ?_
      refine g_aload_n (Y := YX11_inside) (pc := 13) 0 dX11_inside_13 rfl ?_
      refine g_aload_n (Y := YX11_inside) (pc := 14) 1 dX11_inside_14 rfl ?_
      refine g_iload_n (Y := YX11_inside) (pc := 15) 3 dX11_inside_15 rfl ?_
      obtain ⟨r2, M3, e4, hF⟩ := bd_some hF
      refine s_callVi (Y := YX11_inside) (pc := 16) (as := [.ref a1, .int x3]) (st := [.int x2]) (r_X11_isInside ha1 e4) miX11_isInside lk_X11_224 dX11_inside_16 k_174 rfl (Nat.le_of_ble_eq_true rfl) (Nat.le_of_ble_eq_true rfl) rfl ?_
      clear e4
      refine g_if_eq (Y := YX11_inside) (pc := 19) (tgt := 28) dX11_inside_19 rfl (fun c5 => ?_) (fun c5 => ?_)
      · replace hF := if_t c5 hF
        refine g_iconst (Y := YX11_inside) (pc := 28) dX11_inside_28 kI_0 ?_
        refine g_loc [0, 1, 3] rfl ?_
        exact w_X11_inside_29 ha1 ih _ _ _ _ hF
      · replace hF := if_f c5 hF
        refine g_iconst (Y := YX11_inside) (pc := 22) dX11_inside_22 kI_1 ?_
        refine g_iload_n (Y := YX11_inside) (pc := 23) 3 dX11_inside_23 rfl ?_
        refine g_ishl (Y := YX11_inside) (pc := 24) dX11_inside_24 ?_
        refine g_goto (Y := YX11_inside) (pc := 25) (tgt := 29) dX11_inside_25 rfl ?_
        refine g_loc [0, 1, 3] rfl ?_
        exact w_X11_inside_29 ha1 ih _ _ _ _ hF
def f_X11_inside_0 (a1 : Nat) (M : Mem) : Option (Int32 × Mem) :=
  f_X11_inside_4 a1 FU 0 0 M
set_option maxRecDepth 100000 in
theorem w_X11_inside_0 {R : Int32} {M' : Mem} {a1 : Nat} (ha1 : kinds[a1]? = some 14) (M : Mem) (hF : f_X11_inside_0 a1  M = some (R, M')) : RunF l D cy ad none YX11_inside 1 0 0 (some (.int R)) (lay X M') 0 0 0 [(0, .ref 174), (1, .ref a1)] [] (lay X M) := by
  unfold f_X11_inside_0 at hF
  refine g_iconst (Y := YX11_inside) (pc := 0) dX11_inside_0 kI_0 ?_
  refine g_istore_n (Y := YX11_inside) (pc := 1) (L' := [(2, .int 0), (0, .ref 174), (1, .ref a1)]) dX11_inside_1 (Nat.le_of_ble_eq_true rfl) rfl ?_
  refine g_iconst (Y := YX11_inside) (pc := 2) dX11_inside_2 kI_0 ?_
  refine g_istore_n (Y := YX11_inside) (pc := 3) (L' := [(3, .int 0), (2, .int 0), (0, .ref 174), (1, .ref a1)]) dX11_inside_3 (Nat.le_of_ble_eq_true rfl) rfl ?_
  refine g_loc [2, 3, 1, 0] rfl ?_
  exact w_X11_inside_4 ha1 _ _ _ _ hF
def f_X11_inside (a1 : Nat) (M : Mem) : Option (Int32 × Mem) := f_X11_inside_0 a1 M
theorem r_X11_inside {a1 : Nat} {R : Int32} {M M' : Mem} (ha1 : kinds[a1]? = some 14) (hF : f_X11_inside a1 M = some (R, M')) : RunS l D cy ad YX11_inside 1 [.ref 174, .ref a1] X M (some (.int R)) M' := Run.of 1 (miX11_inside).1 (Nat.le_of_ble_eq_true rfl) (w_X11_inside_0 ha1 _ hF)
def f_X11_group_23  (M : Mem) : Option (Int32 × Mem) :=
  bd (f_X11_lost M) fun r6 M7 =>
  some (r6, M7)
set_option maxRecDepth 100000 in
theorem w_X11_group_23 {R : Int32} {M' : Mem}  (M : Mem) (hF : f_X11_group_23  M = some (R, M')) : RunF l D cy ad none YX11_group 2 0 0 (some (.int R)) (lay X M') 0 0 23 [(0, .ref 174)] [] (lay X M) := by
  unfold f_X11_group_23 at hF
  refine g_aload_n (Y := YX11_group) (pc := 23) 0 dX11_group_23 rfl ?_
  obtain ⟨r6, M7, e8, hF⟩ := bd_some hF
  refine s_callVi (Y := YX11_group) (pc := 24) (as := []) (st := []) (r_X11_lost  e8) miX11_lost lk_X11_232 dX11_group_24 k_174 rfl (Nat.le_of_ble_eq_true rfl) (Nat.le_of_ble_eq_true rfl) rfl ?_
  clear e8
  exact s_iret (Y := YX11_group) (pc := 27) dX11_group_27 rfl hF
def f_X11_group_111  (t0 : Int32) (M : Mem) : Option (Int32 × Mem) :=
  some (t0, M)
set_option maxRecDepth 100000 in
theorem w_X11_group_111 {R : Int32} {M' : Mem}  (t0 : Int32) (M : Mem) (hF : f_X11_group_111 t0 M = some (R, M')) : RunF l D cy ad none YX11_group 2 0 0 (some (.int R)) (lay X M') 0 0 111 [] [.int t0] (lay X M) := by
  unfold f_X11_group_111 at hF
  exact s_iret (Y := YX11_group) (pc := 111) dX11_group_111 rfl hF
def f_X11_group_0  (x1 : Int32) (x2 : Int32) (M : Mem) : Option (Int32 × Mem) :=
  ml (up M 174 14 0) fun M1 =>
  bd (f_X11_isGroup x1 M1) fun r2 M3 =>
  if r2 = 0 then
    f_X11_group_23 M3
  else
    bd (f_X11_in x2 0 8 M3) fun r9 M10 =>
    if r9 = 0 then
      f_X11_group_23 M10
    else
      if x2 = 0 then
        gd (0 ≤ x1 ∧ x1.toNatClampNeg < 6) <|
        some ((M10 177 x1.toNatClampNeg), M10)
      else
        if x2 = 1 then
          gd (0 ≤ x1 ∧ x1.toNatClampNeg < 6) <|
          some ((M10 178 x1.toNatClampNeg), M10)
        else
          if x2 = 2 then
            gd (0 ≤ x1 ∧ x1.toNatClampNeg < 6) <|
            some ((M10 179 x1.toNatClampNeg), M10)
          else
            if x2 = 3 then
              gd (0 ≤ x1 ∧ x1.toNatClampNeg < 6) <|
              if (M10 180 x1.toNatClampNeg) = 0 then
                f_X11_group_111 0 M10
              else
                f_X11_group_111 1 M10
            else
              if x2 = 4 then
                gd (0 ≤ x1 ∧ x1.toNatClampNeg < 25) <|
                some ((M10 175 x1.toNatClampNeg), M10)
              else
                if x2 = 5 then
                  gd (0 ≤ (6 + x1) ∧ (6 + x1).toNatClampNeg < 25) <|
                  some ((M10 175 (6 + x1).toNatClampNeg), M10)
                else
                  if x2 = 6 then
                    gd (0 ≤ (12 + x1) ∧ (12 + x1).toNatClampNeg < 25) <|
                    some ((M10 175 (12 + x1).toNatClampNeg), M10)
                  else
                    if x2 = 7 then
                      gd (0 ≤ (18 + x1) ∧ (18 + x1).toNatClampNeg < 25) <|
                      some ((M10 175 (18 + x1).toNatClampNeg), M10)
                    else
                      gd (0 ≤ x1 ∧ x1.toNatClampNeg < 6) <|
                      some ((M10 182 x1.toNatClampNeg), M10)
set_option maxRecDepth 100000 in
theorem w_X11_group_0 {R : Int32} {M' : Mem}  (x1 x2 : Int32) (M : Mem) (hF : f_X11_group_0 x1 x2 M = some (R, M')) : RunF l D cy ad none YX11_group 2 0 0 (some (.int R)) (lay X M') 0 0 0 [(0, .ref 174), (1, .int x1), (2, .int x2)] [] (lay X M) := by
  unfold f_X11_group_0 at hF
  refine g_aload_n (Y := YX11_group) (pc := 0) 0 dX11_group_0 rfl ?_
  refine g_iconst (Y := YX11_group) (pc := 1) dX11_group_1 kI_0 ?_
  refine u_putI (Y := YX11_group) (pc := 2) dX11_group_2 fl_X11_99  k_174 ?_
  refine g_nmM (fun M1 e => ?_)
  replace hF := ml_to e hF; clear e
  refine g_aload_n (Y := YX11_group) (pc := 5) 0 dX11_group_5 rfl ?_
  refine g_iload_n (Y := YX11_group) (pc := 6) 1 dX11_group_6 rfl ?_
  obtain ⟨r2, M3, e4, hF⟩ := bd_some hF
  refine s_callVi (Y := YX11_group) (pc := 7) (as := [.int x1]) (st := []) (r_X11_isGroup  e4) miX11_isGroup lk_X11_228 dX11_group_7 k_174 rfl (Nat.le_of_ble_eq_true rfl) (Nat.le_of_ble_eq_true rfl) rfl ?_
  clear e4
  refine g_if_eq (Y := YX11_group) (pc := 10) (tgt := 23) dX11_group_10 rfl (fun c5 => ?_) (fun c5 => ?_)
  · replace hF := if_t c5 hF
    refine g_loc [0] rfl ?_
    exact w_X11_group_23  _ hF
  · replace hF := if_f c5 hF
    refine g_iload_n (Y := YX11_group) (pc := 13) 2 dX11_group_13 rfl ?_
    refine g_iconst (Y := YX11_group) (pc := 14) dX11_group_14 kI_0 ?_
    refine g_bipush (Y := YX11_group) (pc := 15) dX11_group_15 kB_8 ?_
    obtain ⟨r9, M10, e11, hF⟩ := bd_some hF
    refine s_callSi (Y := YX11_group) (pc := 17) (as := [.int x2, .int 0, .int 8]) (st := []) (r_X11_in  e11) msX11_in lk_X11_109 dX11_group_17 rfl (Nat.le_of_ble_eq_true rfl) (Nat.le_of_ble_eq_true rfl) rfl ?_
    clear e11
    refine g_if_ne (Y := YX11_group) (pc := 20) (tgt := 28) dX11_group_20 rfl (fun c12 => ?_) (fun c12 => ?_)
    · replace hF := if_f c12 hF
      refine g_iload_n (Y := YX11_group) (pc := 28) 2 dX11_group_28 rfl ?_
      by_cases c13 : x2 = 0
      · replace hF := if_t c13 hF
        refine g_tableIn (Y := YX11_group) (pc := 29) (tgt := 76) dX11_group_29 (by rw [c13]; decide) (by rw [c13]; decide) (off := 47) (by rw [c13]; decide) (by decide) ?_
        refine g_aload_n (Y := YX11_group) (pc := 76) 0 dX11_group_76 rfl ?_
        refine u_getR (Y := YX11_group) (pc := 77) (j := 177) dX11_group_77 fl_X11_17 k_174 rf_174_4 ?_
        refine g_iload_n (Y := YX11_group) (pc := 80) 1 dX11_group_80 rfl ?_
        obtain ⟨g14, hF⟩ := gd_some hF
        refine s_iald (Y := YX11_group) (pc := 81) dX11_group_81 k_177 n_177 g14 ?_
        exact s_iret (Y := YX11_group) (pc := 82) dX11_group_82 rfl hF
      replace hF := if_f c13 hF
      by_cases c15 : x2 = 1
      · replace hF := if_t c15 hF
        refine g_tableIn (Y := YX11_group) (pc := 29) (tgt := 83) dX11_group_29 (by rw [c15]; decide) (by rw [c15]; decide) (off := 54) (by rw [c15]; decide) (by decide) ?_
        refine g_aload_n (Y := YX11_group) (pc := 83) 0 dX11_group_83 rfl ?_
        refine u_getR (Y := YX11_group) (pc := 84) (j := 178) dX11_group_84 fl_X11_20 k_174 rf_174_5 ?_
        refine g_iload_n (Y := YX11_group) (pc := 87) 1 dX11_group_87 rfl ?_
        obtain ⟨g16, hF⟩ := gd_some hF
        refine s_iald (Y := YX11_group) (pc := 88) dX11_group_88 k_178 n_178 g16 ?_
        exact s_iret (Y := YX11_group) (pc := 89) dX11_group_89 rfl hF
      replace hF := if_f c15 hF
      by_cases c17 : x2 = 2
      · replace hF := if_t c17 hF
        refine g_tableIn (Y := YX11_group) (pc := 29) (tgt := 90) dX11_group_29 (by rw [c17]; decide) (by rw [c17]; decide) (off := 61) (by rw [c17]; decide) (by decide) ?_
        refine g_aload_n (Y := YX11_group) (pc := 90) 0 dX11_group_90 rfl ?_
        refine u_getR (Y := YX11_group) (pc := 91) (j := 179) dX11_group_91 fl_X11_23 k_174 rf_174_6 ?_
        refine g_iload_n (Y := YX11_group) (pc := 94) 1 dX11_group_94 rfl ?_
        obtain ⟨g18, hF⟩ := gd_some hF
        refine s_iald (Y := YX11_group) (pc := 95) dX11_group_95 k_179 n_179 g18 ?_
        exact s_iret (Y := YX11_group) (pc := 96) dX11_group_96 rfl hF
      replace hF := if_f c17 hF
      by_cases c19 : x2 = 3
      · replace hF := if_t c19 hF
        refine g_tableIn (Y := YX11_group) (pc := 29) (tgt := 97) dX11_group_29 (by rw [c19]; decide) (by rw [c19]; decide) (off := 68) (by rw [c19]; decide) (by decide) ?_
        refine g_aload_n (Y := YX11_group) (pc := 97) 0 dX11_group_97 rfl ?_
        refine u_getR (Y := YX11_group) (pc := 98) (j := 180) dX11_group_98 fl_X11_26 k_174 rf_174_7 ?_
        refine g_iload_n (Y := YX11_group) (pc := 101) 1 dX11_group_101 rfl ?_
        obtain ⟨g20, hF⟩ := gd_some hF
        refine s_zald (Y := YX11_group) (pc := 102) dX11_group_102 k_180 n_180 g20 ?_
        refine g_if_eq (Y := YX11_group) (pc := 103) (tgt := 110) dX11_group_103 rfl (fun c21 => ?_) (fun c21 => ?_)
        · replace hF := if_t c21 hF
          refine g_iconst (Y := YX11_group) (pc := 110) dX11_group_110 kI_0 ?_
          refine g_loc [] rfl ?_
          exact w_X11_group_111  _ _ hF
        · replace hF := if_f c21 hF
          refine g_iconst (Y := YX11_group) (pc := 106) dX11_group_106 kI_1 ?_
          refine g_goto (Y := YX11_group) (pc := 107) (tgt := 111) dX11_group_107 rfl ?_
          refine g_loc [] rfl ?_
          exact w_X11_group_111  _ _ hF
      replace hF := if_f c19 hF
      by_cases c22 : x2 = 4
      · replace hF := if_t c22 hF
        refine g_tableIn (Y := YX11_group) (pc := 29) (tgt := 112) dX11_group_29 (by rw [c22]; decide) (by rw [c22]; decide) (off := 83) (by rw [c22]; decide) (by decide) ?_
        refine g_aload_n (Y := YX11_group) (pc := 112) 0 dX11_group_112 rfl ?_
        refine u_getR (Y := YX11_group) (pc := 113) (j := 175) dX11_group_113 fl_X11_9 k_174 rf_174_0 ?_
        refine g_iload_n (Y := YX11_group) (pc := 116) 1 dX11_group_116 rfl ?_
        obtain ⟨g23, hF⟩ := gd_some hF
        refine s_iald (Y := YX11_group) (pc := 117) dX11_group_117 k_175 n_175 g23 ?_
        exact s_iret (Y := YX11_group) (pc := 118) dX11_group_118 rfl hF
      replace hF := if_f c22 hF
      by_cases c24 : x2 = 5
      · replace hF := if_t c24 hF
        refine g_tableIn (Y := YX11_group) (pc := 29) (tgt := 119) dX11_group_29 (by rw [c24]; decide) (by rw [c24]; decide) (off := 90) (by rw [c24]; decide) (by decide) ?_
        refine g_aload_n (Y := YX11_group) (pc := 119) 0 dX11_group_119 rfl ?_
        refine u_getR (Y := YX11_group) (pc := 120) (j := 175) dX11_group_120 fl_X11_9 k_174 rf_174_0 ?_
        refine g_bipush (Y := YX11_group) (pc := 123) dX11_group_123 kB_6 ?_
        refine g_iload_n (Y := YX11_group) (pc := 125) 1 dX11_group_125 rfl ?_
        refine g_iadd (Y := YX11_group) (pc := 126) dX11_group_126 ?_
        obtain ⟨g25, hF⟩ := gd_some hF
        refine s_iald (Y := YX11_group) (pc := 127) dX11_group_127 k_175 n_175 g25 ?_
        exact s_iret (Y := YX11_group) (pc := 128) dX11_group_128 rfl hF
      replace hF := if_f c24 hF
      by_cases c26 : x2 = 6
      · replace hF := if_t c26 hF
        refine g_tableIn (Y := YX11_group) (pc := 29) (tgt := 129) dX11_group_29 (by rw [c26]; decide) (by rw [c26]; decide) (off := 100) (by rw [c26]; decide) (by decide) ?_
        refine g_aload_n (Y := YX11_group) (pc := 129) 0 dX11_group_129 rfl ?_
        refine u_getR (Y := YX11_group) (pc := 130) (j := 175) dX11_group_130 fl_X11_9 k_174 rf_174_0 ?_
        refine g_bipush (Y := YX11_group) (pc := 133) dX11_group_133 kB_12 ?_
        refine g_iload_n (Y := YX11_group) (pc := 135) 1 dX11_group_135 rfl ?_
        refine g_iadd (Y := YX11_group) (pc := 136) dX11_group_136 ?_
        obtain ⟨g27, hF⟩ := gd_some hF
        refine s_iald (Y := YX11_group) (pc := 137) dX11_group_137 k_175 n_175 g27 ?_
        exact s_iret (Y := YX11_group) (pc := 138) dX11_group_138 rfl hF
      replace hF := if_f c26 hF
      by_cases c28 : x2 = 7
      · replace hF := if_t c28 hF
        refine g_tableIn (Y := YX11_group) (pc := 29) (tgt := 139) dX11_group_29 (by rw [c28]; decide) (by rw [c28]; decide) (off := 110) (by rw [c28]; decide) (by decide) ?_
        refine g_aload_n (Y := YX11_group) (pc := 139) 0 dX11_group_139 rfl ?_
        refine u_getR (Y := YX11_group) (pc := 140) (j := 175) dX11_group_140 fl_X11_9 k_174 rf_174_0 ?_
        refine g_bipush (Y := YX11_group) (pc := 143) dX11_group_143 kB_18 ?_
        refine g_iload_n (Y := YX11_group) (pc := 145) 1 dX11_group_145 rfl ?_
        refine g_iadd (Y := YX11_group) (pc := 146) dX11_group_146 ?_
        obtain ⟨g29, hF⟩ := gd_some hF
        refine s_iald (Y := YX11_group) (pc := 147) dX11_group_147 k_175 n_175 g29 ?_
        exact s_iret (Y := YX11_group) (pc := 148) dX11_group_148 rfl hF
      replace hF := if_f c28 hF
      refine g_tableOut (Y := YX11_group) (pc := 29) (tgt := 149) dX11_group_29 (tb_out (lo := 0) (hi := 7) (by decide) (fun k h8 hk => by match k, h8, hk with | 0, _, _ => exact c13 | 1, _, _ => exact c15 | 2, _, _ => exact c17 | 3, _, _ => exact c19 | 4, _, _ => exact c22 | 5, _, _ => exact c24 | 6, _, _ => exact c26 | 7, _, _ => exact c28 | k + 8, _, h9 => exact absurd h9 (by omega))) (by decide) ?_
      refine g_aload_n (Y := YX11_group) (pc := 149) 0 dX11_group_149 rfl ?_
      refine u_getR (Y := YX11_group) (pc := 150) (j := 182) dX11_group_150 fl_X11_32 k_174 rf_174_9 ?_
      refine g_iload_n (Y := YX11_group) (pc := 153) 1 dX11_group_153 rfl ?_
      obtain ⟨g30, hF⟩ := gd_some hF
      refine s_iald (Y := YX11_group) (pc := 154) dX11_group_154 k_182 n_182 g30 ?_
      exact s_iret (Y := YX11_group) (pc := 155) dX11_group_155 rfl hF
    · replace hF := if_t c12 hF
      refine g_loc [0] rfl ?_
      exact w_X11_group_23  _ hF
def f_X11_group (x1 : Int32) (x2 : Int32) (M : Mem) : Option (Int32 × Mem) := f_X11_group_0 x1 x2 M
theorem r_X11_group {x1 x2 R : Int32} {M M' : Mem}  (hF : f_X11_group x1 x2 M = some (R, M')) : RunS l D cy ad YX11_group 2 [.ref 174, .int x1, .int x2] X M (some (.int R)) M' := Run.of 2 (miX11_group).1 (Nat.le_of_ble_eq_true rfl) (w_X11_group_0  _ _ _ hF)
def f_X11_room_22  (M : Mem) : Option (Int32 × Mem) :=
  bd (f_X11_lost M) fun r6 M7 =>
  some (r6, M7)
set_option maxRecDepth 100000 in
theorem w_X11_room_22 {R : Int32} {M' : Mem}  (M : Mem) (hF : f_X11_room_22  M = some (R, M')) : RunF l D cy ad none YX11_room 405 0 0 (some (.int R)) (lay X M') 0 0 22 [(0, .ref 174)] [] (lay X M) := by
  unfold f_X11_room_22 at hF
  refine g_aload_n (Y := YX11_room) (pc := 22) 0 dX11_room_22 rfl ?_
  obtain ⟨r6, M7, e8, hF⟩ := bd_some hF
  refine s_callVi (Y := YX11_room) (pc := 23) (as := []) (st := []) (r_X11_lost  e8) miX11_lost lk_X11_232 dX11_room_23 k_174 rfl (Nat.le_of_ble_eq_true rfl) (Nat.le_of_ble_eq_true rfl) rfl ?_
  clear e8
  exact s_iret (Y := YX11_room) (pc := 26) dX11_room_26 rfl hF
def f_X11_room_66  : Nat → Int32 → Int32 → Int32 → Mem → Option (Int32 × Mem)
  | 0, _, _, _, _ => none
  | n + 1, x1, x3, x4, M =>
    if x4 < (M 174 3) then
      bd (f_X11_stayOf x4 x1 M) fun r16 M17 =>
      vl ((x3 + r16)) fun v19 =>
      vl (x4 + 1) fun v20 =>
      f_X11_room_66 n x1 v19 v20 M17
    else
      some (x3, M)
set_option maxRecDepth 100000 in
theorem w_X11_room_66 {R : Int32} {M' : Mem}  : ∀ (n : Nat) (x1 x3 x4 : Int32) (M : Mem), f_X11_room_66 n x1 x3 x4 M = some (R, M') → RunF l D cy ad none YX11_room 405 0 0 (some (.int R)) (lay X M') 0 0 66 [(0, .ref 174), (1, .int x1), (3, .int x3), (4, .int x4)] [] (lay X M) := by
  intro n
  induction n with
  | zero => intro x1 x3 x4 M hF; exact absurd hF (by unfold f_X11_room_66; exact fun h => nomatch h)
  | succ n ih =>
    intro x1 x3 x4 M hF
    unfold f_X11_room_66 at hF
    refine g_iload (Y := YX11_room) (pc := 66) 3 dX11_room_66 rfl ?_
    refine g_aload_n (Y := YX11_room) (pc := 68) 0 dX11_room_68 rfl ?_
    refine u_getI (Y := YX11_room) (pc := 69) dX11_room_69 fl_X11_113 k_174 ?_
    refine g_icmp_ge (Y := YX11_room) (pc := 72) (tgt := 91) dX11_room_72 rfl (fun c15 => ?_) (fun c15 => ?_)
    · replace hF := if_f c15 hF
      refine g_iload_n (Y := YX11_room) (pc := 91) 2 dX11_room_91 rfl ?_
      exact s_iret (Y := YX11_room) (pc := 92) dX11_room_92 rfl hF
    · replace hF := if_t c15 hF
      refine g_iload_n (Y := YX11_room) (pc := 75) 2 dX11_room_75 rfl ?_
      refine g_aload_n (Y := YX11_room) (pc := 76) 0 dX11_room_76 rfl ?_
      refine g_iload (Y := YX11_room) (pc := 77) 3 dX11_room_77 rfl ?_
      refine g_iload_n (Y := YX11_room) (pc := 79) 1 dX11_room_79 rfl ?_
      obtain ⟨r16, M17, e18, hF⟩ := bd_some hF
      refine s_callVi (Y := YX11_room) (pc := 80) (as := [.int x4, .int x1]) (st := [.int x3]) (r_X11_stayOf  e18) miX11_stayOf lk_X11_221 dX11_room_80 k_174 rfl (Nat.le_of_ble_eq_true rfl) (Nat.le_of_ble_eq_true rfl) rfl ?_
      clear e18
      refine g_iadd (Y := YX11_room) (pc := 83) dX11_room_83 ?_
      refine g_nm (fun v19 e => ?_)
      replace hF := vl_to e hF; clear e
      refine g_istore_n (Y := YX11_room) (pc := 84) (L' := [(3, .int v19), (0, .ref 174), (1, .int x1), (4, .int x4)]) dX11_room_84 (Nat.le_of_ble_eq_true rfl) rfl ?_
      refine s_iinc (Y := YX11_room) (pc := 85) (j := 3) (L' := fun y => [(4, .int y), (3, .int v19), (0, .ref 174), (1, .int x1)]) dX11_room_85 kI_1 rfl (Nat.le_of_ble_eq_true rfl) (fun _ => rfl) (fun v20 e => ?_)
      replace hF := vl_to e hF; clear e
      refine g_goto (Y := YX11_room) (pc := 88) (tgt := 66) dX11_room_88 rfl ?_
      refine g_loc [2, 3, 1, 0] rfl ?_
      exact ih _ _ _ _ hF
def f_X11_room_45  (t0 : Int32) (M : Mem) : Option (Int32 × Mem) :=
  some (t0, M)
set_option maxRecDepth 100000 in
theorem w_X11_room_45 {R : Int32} {M' : Mem}  (t0 : Int32) (M : Mem) (hF : f_X11_room_45 t0 M = some (R, M')) : RunF l D cy ad none YX11_room 405 0 0 (some (.int R)) (lay X M') 0 0 45 [] [.int t0] (lay X M) := by
  unfold f_X11_room_45 at hF
  exact s_iret (Y := YX11_room) (pc := 45) dX11_room_45 rfl hF
def f_X11_room_0  (x1 : Int32) (x2 : Int32) (M : Mem) : Option (Int32 × Mem) :=
  ml (up M 174 14 0) fun M1 =>
  bd (f_X11_isRoom x1 M1) fun r2 M3 =>
  if r2 = 0 then
    f_X11_room_22 M3
  else
    bd (f_X11_in x2 0 2 M3) fun r9 M10 =>
    if r9 = 0 then
      f_X11_room_22 M10
    else
      if x2 = 0 then
        gd (0 ≤ x1 ∧ x1.toNatClampNeg < 6) <|
        if (M10 176 x1.toNatClampNeg) = 0 then
          f_X11_room_45 0 M10
        else
          f_X11_room_45 1 M10
      else
        if x2 = 1 then
          bd (f_X11_inRoom 175 x1 M10) fun r21 M22 =>
          some (r21, M22)
        else
          f_X11_room_66 FU x1 0 0 M10
set_option maxRecDepth 100000 in
theorem w_X11_room_0 {R : Int32} {M' : Mem}  (x1 x2 : Int32) (M : Mem) (hF : f_X11_room_0 x1 x2 M = some (R, M')) : RunF l D cy ad none YX11_room 405 0 0 (some (.int R)) (lay X M') 0 0 0 [(0, .ref 174), (1, .int x1), (2, .int x2)] [] (lay X M) := by
  unfold f_X11_room_0 at hF
  refine g_aload_n (Y := YX11_room) (pc := 0) 0 dX11_room_0 rfl ?_
  refine g_iconst (Y := YX11_room) (pc := 1) dX11_room_1 kI_0 ?_
  refine u_putI (Y := YX11_room) (pc := 2) dX11_room_2 fl_X11_99  k_174 ?_
  refine g_nmM (fun M1 e => ?_)
  replace hF := ml_to e hF; clear e
  refine g_aload_n (Y := YX11_room) (pc := 5) 0 dX11_room_5 rfl ?_
  refine g_iload_n (Y := YX11_room) (pc := 6) 1 dX11_room_6 rfl ?_
  obtain ⟨r2, M3, e4, hF⟩ := bd_some hF
  refine s_callVi (Y := YX11_room) (pc := 7) (as := [.int x1]) (st := []) (r_X11_isRoom  e4) miX11_isRoom lk_X11_235 dX11_room_7 k_174 rfl (Nat.le_of_ble_eq_true rfl) (Nat.le_of_ble_eq_true rfl) rfl ?_
  clear e4
  refine g_if_eq (Y := YX11_room) (pc := 10) (tgt := 22) dX11_room_10 rfl (fun c5 => ?_) (fun c5 => ?_)
  · replace hF := if_t c5 hF
    refine g_loc [0] rfl ?_
    exact w_X11_room_22  _ hF
  · replace hF := if_f c5 hF
    refine g_iload_n (Y := YX11_room) (pc := 13) 2 dX11_room_13 rfl ?_
    refine g_iconst (Y := YX11_room) (pc := 14) dX11_room_14 kI_0 ?_
    refine g_iconst (Y := YX11_room) (pc := 15) dX11_room_15 kI_2 ?_
    obtain ⟨r9, M10, e11, hF⟩ := bd_some hF
    refine s_callSi (Y := YX11_room) (pc := 16) (as := [.int x2, .int 0, .int 2]) (st := []) (r_X11_in  e11) msX11_in lk_X11_109 dX11_room_16 rfl (Nat.le_of_ble_eq_true rfl) (Nat.le_of_ble_eq_true rfl) rfl ?_
    clear e11
    refine g_if_ne (Y := YX11_room) (pc := 19) (tgt := 27) dX11_room_19 rfl (fun c12 => ?_) (fun c12 => ?_)
    · replace hF := if_f c12 hF
      refine g_iload_n (Y := YX11_room) (pc := 27) 2 dX11_room_27 rfl ?_
      refine g_if_ne (Y := YX11_room) (pc := 28) (tgt := 46) dX11_room_28 rfl (fun c13 => ?_) (fun c13 => ?_)
      · replace hF := if_f c13 hF
        refine g_iload_n (Y := YX11_room) (pc := 46) 2 dX11_room_46 rfl ?_
        refine g_iconst (Y := YX11_room) (pc := 47) dX11_room_47 kI_1 ?_
        refine g_icmp_ne (Y := YX11_room) (pc := 48) (tgt := 61) dX11_room_48 rfl (fun c14 => ?_) (fun c14 => ?_)
        · replace hF := if_f c14 hF
          refine g_iconst (Y := YX11_room) (pc := 61) dX11_room_61 kI_0 ?_
          refine g_istore_n (Y := YX11_room) (pc := 62) (L' := [(3, .int 0), (0, .ref 174), (1, .int x1), (2, .int x2)]) dX11_room_62 (Nat.le_of_ble_eq_true rfl) rfl ?_
          refine g_iconst (Y := YX11_room) (pc := 63) dX11_room_63 kI_0 ?_
          refine g_istore (Y := YX11_room) (pc := 64) (L' := [(4, .int 0), (3, .int 0), (0, .ref 174), (1, .int x1), (2, .int x2)]) dX11_room_64 (Nat.le_of_ble_eq_true rfl) rfl ?_
          refine g_loc [2, 3, 1, 0] rfl ?_
          exact w_X11_room_66  _ _ _ _ _ hF
        · replace hF := if_t c14 hF
          refine g_aload_n (Y := YX11_room) (pc := 51) 0 dX11_room_51 rfl ?_
          refine g_aload_n (Y := YX11_room) (pc := 52) 0 dX11_room_52 rfl ?_
          refine u_getR (Y := YX11_room) (pc := 53) (j := 175) dX11_room_53 fl_X11_9 k_174 rf_174_0 ?_
          refine g_iload_n (Y := YX11_room) (pc := 56) 1 dX11_room_56 rfl ?_
          obtain ⟨r21, M22, e23, hF⟩ := bd_some hF
          refine s_callVi (Y := YX11_room) (pc := 57) (as := [.ref 175, .int x1]) (st := []) (r_X11_inRoom k_175 e23) miX11_inRoom lk_X11_238 dX11_room_57 k_174 rfl (Nat.le_of_ble_eq_true rfl) (Nat.le_of_ble_eq_true rfl) rfl ?_
          clear e23
          exact s_iret (Y := YX11_room) (pc := 60) dX11_room_60 rfl hF
      · replace hF := if_t c13 hF
        refine g_aload_n (Y := YX11_room) (pc := 31) 0 dX11_room_31 rfl ?_
        refine u_getR (Y := YX11_room) (pc := 32) (j := 176) dX11_room_32 fl_X11_13 k_174 rf_174_2 ?_
        refine g_iload_n (Y := YX11_room) (pc := 35) 1 dX11_room_35 rfl ?_
        obtain ⟨g24, hF⟩ := gd_some hF
        refine s_zald (Y := YX11_room) (pc := 36) dX11_room_36 k_176 n_176 g24 ?_
        refine g_if_eq (Y := YX11_room) (pc := 37) (tgt := 44) dX11_room_37 rfl (fun c25 => ?_) (fun c25 => ?_)
        · replace hF := if_t c25 hF
          refine g_iconst (Y := YX11_room) (pc := 44) dX11_room_44 kI_0 ?_
          refine g_loc [] rfl ?_
          exact w_X11_room_45  _ _ hF
        · replace hF := if_f c25 hF
          refine g_iconst (Y := YX11_room) (pc := 40) dX11_room_40 kI_1 ?_
          refine g_goto (Y := YX11_room) (pc := 41) (tgt := 45) dX11_room_41 rfl ?_
          refine g_loc [] rfl ?_
          exact w_X11_room_45  _ _ hF
    · replace hF := if_t c12 hF
      refine g_loc [0] rfl ?_
      exact w_X11_room_22  _ hF
def f_X11_room (x1 : Int32) (x2 : Int32) (M : Mem) : Option (Int32 × Mem) := f_X11_room_0 x1 x2 M
theorem r_X11_room {x1 x2 R : Int32} {M M' : Mem}  (hF : f_X11_room x1 x2 M = some (R, M')) : RunS l D cy ad YX11_room 405 [.ref 174, .int x1, .int x2] X M (some (.int R)) M' := Run.of 2 (miX11_room).1 (Nat.le_of_ble_eq_true rfl) (w_X11_room_0  _ _ _ hF)
def f_X11_stay_31  (t0 : Int32) (M : Mem) : Option (Int32 × Mem) :=
  some (t0, M)
set_option maxRecDepth 100000 in
theorem w_X11_stay_31 {R : Int32} {M' : Mem}  (t0 : Int32) (M : Mem) (hF : f_X11_stay_31 t0 M = some (R, M')) : RunF l D cy ad none YX11_stay 405 0 0 (some (.int R)) (lay X M') 0 0 31 [] [.int t0] (lay X M) := by
  unfold f_X11_stay_31 at hF
  exact s_iret (Y := YX11_stay) (pc := 31) dX11_stay_31 rfl hF
def f_X11_stay_30  (M : Mem) : Option (Int32 × Mem) :=
  f_X11_stay_31 (-1) M
set_option maxRecDepth 100000 in
theorem w_X11_stay_30 {R : Int32} {M' : Mem}  (M : Mem) (hF : f_X11_stay_30  M = some (R, M')) : RunF l D cy ad none YX11_stay 405 0 0 (some (.int R)) (lay X M') 0 0 30 [] [] (lay X M) := by
  unfold f_X11_stay_30 at hF
  refine g_iconst (Y := YX11_stay) (pc := 30) dX11_stay_30 kI_m1 ?_
  exact w_X11_stay_31  _ _ hF
def f_X11_stay_0  (x1 : Int32) (x2 : Int32) (M : Mem) : Option (Int32 × Mem) :=
  ml (up M 174 14 0) fun M1 =>
  bd (f_X11_isGroup x1 M1) fun r2 M3 =>
  if r2 = 0 then
    f_X11_stay_30 M3
  else
    bd (f_X11_isRoom x2 M3) fun r6 M7 =>
    if r6 = 0 then
      f_X11_stay_30 M7
    else
      bd (f_X11_stayOf x1 x2 M7) fun r10 M11 =>
      f_X11_stay_31 r10 M11
set_option maxRecDepth 100000 in
theorem w_X11_stay_0 {R : Int32} {M' : Mem}  (x1 x2 : Int32) (M : Mem) (hF : f_X11_stay_0 x1 x2 M = some (R, M')) : RunF l D cy ad none YX11_stay 405 0 0 (some (.int R)) (lay X M') 0 0 0 [(0, .ref 174), (1, .int x1), (2, .int x2)] [] (lay X M) := by
  unfold f_X11_stay_0 at hF
  refine g_aload_n (Y := YX11_stay) (pc := 0) 0 dX11_stay_0 rfl ?_
  refine g_iconst (Y := YX11_stay) (pc := 1) dX11_stay_1 kI_0 ?_
  refine u_putI (Y := YX11_stay) (pc := 2) dX11_stay_2 fl_X11_99  k_174 ?_
  refine g_nmM (fun M1 e => ?_)
  replace hF := ml_to e hF; clear e
  refine g_aload_n (Y := YX11_stay) (pc := 5) 0 dX11_stay_5 rfl ?_
  refine g_iload_n (Y := YX11_stay) (pc := 6) 1 dX11_stay_6 rfl ?_
  obtain ⟨r2, M3, e4, hF⟩ := bd_some hF
  refine s_callVi (Y := YX11_stay) (pc := 7) (as := [.int x1]) (st := []) (r_X11_isGroup  e4) miX11_isGroup lk_X11_228 dX11_stay_7 k_174 rfl (Nat.le_of_ble_eq_true rfl) (Nat.le_of_ble_eq_true rfl) rfl ?_
  clear e4
  refine g_if_eq (Y := YX11_stay) (pc := 10) (tgt := 30) dX11_stay_10 rfl (fun c5 => ?_) (fun c5 => ?_)
  · replace hF := if_t c5 hF
    refine g_loc [] rfl ?_
    exact w_X11_stay_30  _ hF
  · replace hF := if_f c5 hF
    refine g_aload_n (Y := YX11_stay) (pc := 13) 0 dX11_stay_13 rfl ?_
    refine g_iload_n (Y := YX11_stay) (pc := 14) 2 dX11_stay_14 rfl ?_
    obtain ⟨r6, M7, e8, hF⟩ := bd_some hF
    refine s_callVi (Y := YX11_stay) (pc := 15) (as := [.int x2]) (st := []) (r_X11_isRoom  e8) miX11_isRoom lk_X11_235 dX11_stay_15 k_174 rfl (Nat.le_of_ble_eq_true rfl) (Nat.le_of_ble_eq_true rfl) rfl ?_
    clear e8
    refine g_if_eq (Y := YX11_stay) (pc := 18) (tgt := 30) dX11_stay_18 rfl (fun c9 => ?_) (fun c9 => ?_)
    · replace hF := if_t c9 hF
      refine g_loc [] rfl ?_
      exact w_X11_stay_30  _ hF
    · replace hF := if_f c9 hF
      refine g_aload_n (Y := YX11_stay) (pc := 21) 0 dX11_stay_21 rfl ?_
      refine g_iload_n (Y := YX11_stay) (pc := 22) 1 dX11_stay_22 rfl ?_
      refine g_iload_n (Y := YX11_stay) (pc := 23) 2 dX11_stay_23 rfl ?_
      obtain ⟨r10, M11, e12, hF⟩ := bd_some hF
      refine s_callVi (Y := YX11_stay) (pc := 24) (as := [.int x1, .int x2]) (st := []) (r_X11_stayOf  e12) miX11_stayOf lk_X11_221 dX11_stay_24 k_174 rfl (Nat.le_of_ble_eq_true rfl) (Nat.le_of_ble_eq_true rfl) rfl ?_
      clear e12
      refine g_goto (Y := YX11_stay) (pc := 27) (tgt := 31) dX11_stay_27 rfl ?_
      refine g_loc [] rfl ?_
      exact w_X11_stay_31  _ _ hF
def f_X11_stay (x1 : Int32) (x2 : Int32) (M : Mem) : Option (Int32 × Mem) := f_X11_stay_0 x1 x2 M
theorem r_X11_stay {x1 x2 R : Int32} {M M' : Mem}  (hF : f_X11_stay x1 x2 M = some (R, M')) : RunS l D cy ad YX11_stay 405 [.ref 174, .int x1, .int x2] X M (some (.int R)) M' := Run.of 2 (miX11_stay).1 (Nat.le_of_ble_eq_true rfl) (w_X11_stay_0  _ _ _ hF)
def f_X11_leave_29  (M : Mem) : Option (Int32 × Mem) :=
  some ((-1), M)
set_option maxRecDepth 100000 in
theorem w_X11_leave_29 {R : Int32} {M' : Mem}  (M : Mem) (hF : f_X11_leave_29  M = some (R, M')) : RunF l D cy ad none YX11_leave 2 0 0 (some (.int R)) (lay X M') 0 0 29 [] [] (lay X M) := by
  unfold f_X11_leave_29 at hF
  refine g_iconst (Y := YX11_leave) (pc := 29) dX11_leave_29 kI_m1 ?_
  exact s_iret (Y := YX11_leave) (pc := 30) dX11_leave_30 rfl hF
def f_X11_leave_0  (x1 : Int32) (x2 : Int32) (M : Mem) : Option (Int32 × Mem) :=
  ml (up M 174 14 0) fun M1 =>
  bd (f_X11_isGroup x1 M1) fun r2 M3 =>
  if r2 = 0 then
    f_X11_leave_29 M3
  else
    bd (f_X11_in x2 0 ((1 <<< ((M3 174 1) &&& 31)) - 1) M3) fun r6 M7 =>
    if r6 = 0 then
      f_X11_leave_29 M7
    else
      gd (0 ≤ x1 ∧ x1.toNatClampNeg < 6) <|
      vl ((M7 182 x1.toNatClampNeg)) fun v11 =>
      gd (0 ≤ x1 ∧ x1.toNatClampNeg < 6) <|
      ml (up M7 182 x1.toNatClampNeg x2) fun M13 =>
      some (v11, M13)
set_option maxRecDepth 100000 in
theorem w_X11_leave_0 {R : Int32} {M' : Mem}  (x1 x2 : Int32) (M : Mem) (hF : f_X11_leave_0 x1 x2 M = some (R, M')) : RunF l D cy ad none YX11_leave 2 0 0 (some (.int R)) (lay X M') 0 0 0 [(0, .ref 174), (1, .int x1), (2, .int x2)] [] (lay X M) := by
  unfold f_X11_leave_0 at hF
  refine g_aload_n (Y := YX11_leave) (pc := 0) 0 dX11_leave_0 rfl ?_
  refine g_iconst (Y := YX11_leave) (pc := 1) dX11_leave_1 kI_0 ?_
  refine u_putI (Y := YX11_leave) (pc := 2) dX11_leave_2 fl_X11_99  k_174 ?_
  refine g_nmM (fun M1 e => ?_)
  replace hF := ml_to e hF; clear e
  refine g_aload_n (Y := YX11_leave) (pc := 5) 0 dX11_leave_5 rfl ?_
  refine g_iload_n (Y := YX11_leave) (pc := 6) 1 dX11_leave_6 rfl ?_
  obtain ⟨r2, M3, e4, hF⟩ := bd_some hF
  refine s_callVi (Y := YX11_leave) (pc := 7) (as := [.int x1]) (st := []) (r_X11_isGroup  e4) miX11_isGroup lk_X11_228 dX11_leave_7 k_174 rfl (Nat.le_of_ble_eq_true rfl) (Nat.le_of_ble_eq_true rfl) rfl ?_
  clear e4
  refine g_if_eq (Y := YX11_leave) (pc := 10) (tgt := 29) dX11_leave_10 rfl (fun c5 => ?_) (fun c5 => ?_)
  · replace hF := if_t c5 hF
    refine g_loc [] rfl ?_
    exact w_X11_leave_29  _ hF
  · replace hF := if_f c5 hF
    refine g_iload_n (Y := YX11_leave) (pc := 13) 2 dX11_leave_13 rfl ?_
    refine g_iconst (Y := YX11_leave) (pc := 14) dX11_leave_14 kI_0 ?_
    refine g_iconst (Y := YX11_leave) (pc := 15) dX11_leave_15 kI_1 ?_
    refine g_aload_n (Y := YX11_leave) (pc := 16) 0 dX11_leave_16 rfl ?_
    refine u_getI (Y := YX11_leave) (pc := 17) dX11_leave_17 fl_X11_106 k_174 ?_
    refine g_ishl (Y := YX11_leave) (pc := 20) dX11_leave_20 ?_
    refine g_iconst (Y := YX11_leave) (pc := 21) dX11_leave_21 kI_1 ?_
    refine g_isub (Y := YX11_leave) (pc := 22) dX11_leave_22 ?_
    obtain ⟨r6, M7, e8, hF⟩ := bd_some hF
    refine s_callSi (Y := YX11_leave) (pc := 23) (as := [.int x2, .int 0, .int ((1 <<< ((M3 174 1) &&& 31)) - 1)]) (st := []) (r_X11_in  e8) msX11_in lk_X11_109 dX11_leave_23 rfl (Nat.le_of_ble_eq_true rfl) (Nat.le_of_ble_eq_true rfl) rfl ?_
    clear e8
    refine g_if_ne (Y := YX11_leave) (pc := 26) (tgt := 31) dX11_leave_26 rfl (fun c9 => ?_) (fun c9 => ?_)
    · replace hF := if_f c9 hF
      refine g_aload_n (Y := YX11_leave) (pc := 31) 0 dX11_leave_31 rfl ?_
      refine u_getR (Y := YX11_leave) (pc := 32) (j := 182) dX11_leave_32 fl_X11_32 k_174 rf_174_9 ?_
      refine g_iload_n (Y := YX11_leave) (pc := 35) 1 dX11_leave_35 rfl ?_
      obtain ⟨g10, hF⟩ := gd_some hF
      refine s_iald (Y := YX11_leave) (pc := 36) dX11_leave_36 k_182 n_182 g10 ?_
      refine g_nm (fun v11 e => ?_)
      replace hF := vl_to e hF; clear e
      refine g_istore_n (Y := YX11_leave) (pc := 37) (L' := [(3, .int v11), (0, .ref 174), (1, .int x1), (2, .int x2)]) dX11_leave_37 (Nat.le_of_ble_eq_true rfl) rfl ?_
      refine g_aload_n (Y := YX11_leave) (pc := 38) 1 dX11_leave_38 rfl ?_
      refine u_getR (Y := YX11_leave) (pc := 39) (j := 182) dX11_leave_39 fl_X11_32 k_174 rf_174_9 ?_
      refine g_iload_n (Y := YX11_leave) (pc := 42) 2 dX11_leave_42 rfl ?_
      refine g_iload_n (Y := YX11_leave) (pc := 43) 3 dX11_leave_43 rfl ?_
      obtain ⟨g12, hF⟩ := gd_some hF
      refine s_iast (Y := YX11_leave) (pc := 44) dX11_leave_44 k_182 n_182 g12 ?_
      refine g_nmM (fun M13 e => ?_)
      replace hF := ml_to e hF; clear e
      refine g_iload_n (Y := YX11_leave) (pc := 45) 0 dX11_leave_45 rfl ?_
      exact s_iret (Y := YX11_leave) (pc := 46) dX11_leave_46 rfl hF
    · replace hF := if_t c9 hF
      refine g_loc [] rfl ?_
      exact w_X11_leave_29  _ hF
def f_X11_leave (x1 : Int32) (x2 : Int32) (M : Mem) : Option (Int32 × Mem) := f_X11_leave_0 x1 x2 M
theorem r_X11_leave {x1 x2 R : Int32} {M M' : Mem}  (hF : f_X11_leave x1 x2 M = some (R, M')) : RunS l D cy ad YX11_leave 2 [.ref 174, .int x1, .int x2] X M (some (.int R)) M' := Run.of 2 (miX11_leave).1 (Nat.le_of_ble_eq_true rfl) (w_X11_leave_0  _ _ _ hF)
def f_X11_sheet_28  (M : Mem) : Option (Int32 × Mem) :=
  some ((-1), M)
set_option maxRecDepth 100000 in
theorem w_X11_sheet_28 {R : Int32} {M' : Mem}  (M : Mem) (hF : f_X11_sheet_28  M = some (R, M')) : RunF l D cy ad none YX11_sheet 2 0 0 (some (.int R)) (lay X M') 0 0 28 [] [] (lay X M) := by
  unfold f_X11_sheet_28 at hF
  refine g_iconst (Y := YX11_sheet) (pc := 28) dX11_sheet_28 kI_m1 ?_
  exact s_iret (Y := YX11_sheet) (pc := 29) dX11_sheet_29 rfl hF
def f_X11_sheet_160  (t0 : Int32) (M : Mem) : Option (Int32 × Mem) :=
  some (t0, M)
set_option maxRecDepth 100000 in
theorem w_X11_sheet_160 {R : Int32} {M' : Mem}  (t0 : Int32) (M : Mem) (hF : f_X11_sheet_160 t0 M = some (R, M')) : RunF l D cy ad none YX11_sheet 2 0 0 (some (.int R)) (lay X M') 0 0 160 [] [.int t0] (lay X M) := by
  unfold f_X11_sheet_160 at hF
  exact s_iret (Y := YX11_sheet) (pc := 160) dX11_sheet_160 rfl hF
def f_X11_sheet_112 (K52 : Int32 → Int32 → Int32 → Int32 → Int32 → Int32 → Int32 → Mem → Option (Int32 × Mem)) (x1 : Int32) (x2 : Int32) (x3 : Int32) (x5 : Int32) (x6 : Int32) (x7 : Int32) (x8 : Int32) (t0 : Int32) (M : Mem) : Option (Int32 × Mem) :=
  gd (0 ≤ ((6 * x8) + x1) ∧ ((6 * x8) + x1).toNatClampNeg < 36) <|
  ml (up M 181 ((6 * x8) + x1).toNatClampNeg t0) fun M18 =>
  vl ((x6 + t0)) fun v19 =>
  vl ((x7 + x5)) fun v20 =>
  vl (x8 + 1) fun v21 =>
  K52 x1 x2 x3 x5 v19 v20 v21 M18
set_option maxRecDepth 100000 in
theorem w_X11_sheet_112 {R : Int32} {M' : Mem} {K52 : Int32 → Int32 → Int32 → Int32 → Int32 → Int32 → Int32 → Mem → Option (Int32 × Mem)} (hK52 : ∀ (x1 x2 x3 x5 x6 x7 x8 : Int32) (M : Mem), K52 x1 x2 x3 x5 x6 x7 x8 M = some (R, M') → RunF l D cy ad none YX11_sheet 2 0 0 (some (.int R)) (lay X M') 0 0 52 [(0, .ref 174), (1, .int x1), (2, .int x2), (3, .int x3), (5, .int x5), (6, .int x6), (7, .int x7), (8, .int x8)] [] (lay X M)) (x1 x2 x3 x5 x6 x7 x8 t0 : Int32) (M : Mem) (hF : f_X11_sheet_112 K52 x1 x2 x3 x5 x6 x7 x8 t0 M = some (R, M')) : RunF l D cy ad none YX11_sheet 2 0 0 (some (.int R)) (lay X M') 0 0 112 [(0, .ref 174), (1, .int x1), (2, .int x2), (3, .int x3), (5, .int x5), (6, .int x6), (7, .int x7), (8, .int x8)] [.int t0] (lay X M) := by
  unfold f_X11_sheet_112 at hF
  refine g_istore (Y := YX11_sheet) (pc := 112) (L' := [(10, .int t0), (0, .ref 174), (1, .int x1), (2, .int x2), (3, .int x3), (5, .int x5), (6, .int x6), (7, .int x7), (8, .int x8)]) dX11_sheet_112 (Nat.le_of_ble_eq_true rfl) rfl ?_
  refine g_aload_n (Y := YX11_sheet) (pc := 114) 1 dX11_sheet_114 rfl ?_
  refine u_getR (Y := YX11_sheet) (pc := 115) (j := 181) dX11_sheet_115 fl_X11_29 k_174 rf_174_8 ?_
  refine g_bipush (Y := YX11_sheet) (pc := 118) dX11_sheet_118 kB_6 ?_
  refine g_iload (Y := YX11_sheet) (pc := 120) 8 dX11_sheet_120 rfl ?_
  refine g_imul (Y := YX11_sheet) (pc := 122) dX11_sheet_122 ?_
  refine g_iload_n (Y := YX11_sheet) (pc := 123) 2 dX11_sheet_123 rfl ?_
  refine g_iadd (Y := YX11_sheet) (pc := 124) dX11_sheet_124 ?_
  refine g_iload (Y := YX11_sheet) (pc := 125) 0 dX11_sheet_125 rfl ?_
  obtain ⟨g17, hF⟩ := gd_some hF
  refine s_iast (Y := YX11_sheet) (pc := 127) dX11_sheet_127 k_181 n_181 g17 ?_
  refine g_nmM (fun M18 e => ?_)
  replace hF := ml_to e hF; clear e
  refine g_iload (Y := YX11_sheet) (pc := 128) 6 dX11_sheet_128 rfl ?_
  refine g_iload (Y := YX11_sheet) (pc := 130) 0 dX11_sheet_130 rfl ?_
  refine g_iadd (Y := YX11_sheet) (pc := 132) dX11_sheet_132 ?_
  refine g_nm (fun v19 e => ?_)
  replace hF := vl_to e hF; clear e
  refine g_istore (Y := YX11_sheet) (pc := 133) (L' := [(6, .int v19), (10, .int t0), (0, .ref 174), (1, .int x1), (2, .int x2), (3, .int x3), (5, .int x5), (7, .int x7), (8, .int x8)]) dX11_sheet_133 (Nat.le_of_ble_eq_true rfl) rfl ?_
  refine g_iload (Y := YX11_sheet) (pc := 135) 7 dX11_sheet_135 rfl ?_
  refine g_iload (Y := YX11_sheet) (pc := 137) 6 dX11_sheet_137 rfl ?_
  refine g_iadd (Y := YX11_sheet) (pc := 139) dX11_sheet_139 ?_
  refine g_nm (fun v20 e => ?_)
  replace hF := vl_to e hF; clear e
  refine g_istore (Y := YX11_sheet) (pc := 140) (L' := [(7, .int v20), (6, .int v19), (10, .int t0), (0, .ref 174), (1, .int x1), (2, .int x2), (3, .int x3), (5, .int x5), (8, .int x8)]) dX11_sheet_140 (Nat.le_of_ble_eq_true rfl) rfl ?_
  refine s_iinc (Y := YX11_sheet) (pc := 142) (j := 8) (L' := fun y => [(8, .int y), (7, .int v20), (6, .int v19), (10, .int t0), (0, .ref 174), (1, .int x1), (2, .int x2), (3, .int x3), (5, .int x5)]) dX11_sheet_142 kI_1 rfl (Nat.le_of_ble_eq_true rfl) (fun _ => rfl) (fun v21 e => ?_)
  replace hF := vl_to e hF; clear e
  refine g_goto (Y := YX11_sheet) (pc := 145) (tgt := 52) dX11_sheet_145 rfl ?_
  refine g_loc [4, 5, 6, 7, 8, 2, 1, 0] rfl ?_
  exact hK52 _ _ _ _ _ _ _ _ hF
def f_X11_sheet_97 (K52 : Int32 → Int32 → Int32 → Int32 → Int32 → Int32 → Int32 → Mem → Option (Int32 × Mem)) (x1 : Int32) (x2 : Int32) (x3 : Int32) (x5 : Int32) (x6 : Int32) (x7 : Int32) (x8 : Int32) (M : Mem) : Option (Int32 × Mem) :=
  f_X11_sheet_112 K52 x1 x2 x3 x5 x6 x7 x8 0 M
set_option maxRecDepth 100000 in
theorem w_X11_sheet_97 {R : Int32} {M' : Mem} {K52 : Int32 → Int32 → Int32 → Int32 → Int32 → Int32 → Int32 → Mem → Option (Int32 × Mem)} (hK52 : ∀ (x1 x2 x3 x5 x6 x7 x8 : Int32) (M : Mem), K52 x1 x2 x3 x5 x6 x7 x8 M = some (R, M') → RunF l D cy ad none YX11_sheet 2 0 0 (some (.int R)) (lay X M') 0 0 52 [(0, .ref 174), (1, .int x1), (2, .int x2), (3, .int x3), (5, .int x5), (6, .int x6), (7, .int x7), (8, .int x8)] [] (lay X M)) (x1 x2 x3 x5 x6 x7 x8 : Int32) (M : Mem) (hF : f_X11_sheet_97 K52 x1 x2 x3 x5 x6 x7 x8 M = some (R, M')) : RunF l D cy ad none YX11_sheet 2 0 0 (some (.int R)) (lay X M') 0 0 97 [(0, .ref 174), (1, .int x1), (2, .int x2), (3, .int x3), (5, .int x5), (6, .int x6), (7, .int x7), (8, .int x8)] [] (lay X M) := by
  unfold f_X11_sheet_97 at hF
  refine g_iconst (Y := YX11_sheet) (pc := 97) dX11_sheet_97 kI_0 ?_
  refine g_goto (Y := YX11_sheet) (pc := 98) (tgt := 112) dX11_sheet_98 rfl ?_
  exact w_X11_sheet_112 hK52 _ _ _ _ _ _ _ _ _ hF
def f_X11_sheet_84 (K52 : Int32 → Int32 → Int32 → Int32 → Int32 → Int32 → Int32 → Mem → Option (Int32 × Mem)) (x1 : Int32) (x2 : Int32) (x3 : Int32) (x5 : Int32) (x6 : Int32) (x7 : Int32) (x8 : Int32) (t0 : Int32) (M : Mem) : Option (Int32 × Mem) :=
  if x2 = 3 then
    f_X11_sheet_97 K52 x1 x2 x3 x5 x6 x7 x8 M
  else
    if x8 < x3 then
      vl ((if t0 < (9 : Int32) then t0 else (9 : Int32))) fun v23 =>
      vl ((if (0 : Int32) < v23 then v23 else (0 : Int32))) fun v24 =>
      f_X11_sheet_112 K52 x1 x2 x3 x5 x6 x7 x8 v24 M
    else
      f_X11_sheet_97 K52 x1 x2 x3 x5 x6 x7 x8 M
set_option maxRecDepth 100000 in
theorem w_X11_sheet_84 {R : Int32} {M' : Mem} {K52 : Int32 → Int32 → Int32 → Int32 → Int32 → Int32 → Int32 → Mem → Option (Int32 × Mem)} (hK52 : ∀ (x1 x2 x3 x5 x6 x7 x8 : Int32) (M : Mem), K52 x1 x2 x3 x5 x6 x7 x8 M = some (R, M') → RunF l D cy ad none YX11_sheet 2 0 0 (some (.int R)) (lay X M') 0 0 52 [(0, .ref 174), (1, .int x1), (2, .int x2), (3, .int x3), (5, .int x5), (6, .int x6), (7, .int x7), (8, .int x8)] [] (lay X M)) (x1 x2 x3 x5 x6 x7 x8 t0 : Int32) (M : Mem) (hF : f_X11_sheet_84 K52 x1 x2 x3 x5 x6 x7 x8 t0 M = some (R, M')) : RunF l D cy ad none YX11_sheet 2 0 0 (some (.int R)) (lay X M') 0 0 84 [(0, .ref 174), (1, .int x1), (2, .int x2), (3, .int x3), (5, .int x5), (6, .int x6), (7, .int x7), (8, .int x8)] [.int t0] (lay X M) := by
  unfold f_X11_sheet_84 at hF
  refine g_istore (Y := YX11_sheet) (pc := 84) (L' := [(9, .int t0), (0, .ref 174), (1, .int x1), (2, .int x2), (3, .int x3), (5, .int x5), (6, .int x6), (7, .int x7), (8, .int x8)]) dX11_sheet_84 (Nat.le_of_ble_eq_true rfl) rfl ?_
  refine g_iload_n (Y := YX11_sheet) (pc := 86) 3 dX11_sheet_86 rfl ?_
  refine g_iconst (Y := YX11_sheet) (pc := 87) dX11_sheet_87 kI_3 ?_
  refine g_icmp_eq (Y := YX11_sheet) (pc := 88) (tgt := 97) dX11_sheet_88 rfl (fun c16 => ?_) (fun c16 => ?_)
  · replace hF := if_t c16 hF
    refine g_loc [1, 2, 3, 4, 5, 6, 7, 8] rfl ?_
    exact w_X11_sheet_97 hK52 _ _ _ _ _ _ _ _ hF
  · replace hF := if_f c16 hF
    refine g_iload (Y := YX11_sheet) (pc := 91) 8 dX11_sheet_91 rfl ?_
    refine g_iload_n (Y := YX11_sheet) (pc := 93) 4 dX11_sheet_93 rfl ?_
    refine g_icmp_lt (Y := YX11_sheet) (pc := 94) (tgt := 101) dX11_sheet_94 rfl (fun c22 => ?_) (fun c22 => ?_)
    · replace hF := if_t c22 hF
      refine g_iconst (Y := YX11_sheet) (pc := 101) dX11_sheet_101 kI_0 ?_
      refine g_bipush (Y := YX11_sheet) (pc := 102) dX11_sheet_102 kB_9 ?_
      refine g_iload (Y := YX11_sheet) (pc := 104) 0 dX11_sheet_104 rfl ?_
      refine s_min (Y := YX11_sheet) (pc := 106) dX11_sheet_106 lk_X11_213 w_min (Nat.le_of_ble_eq_true rfl) (Nat.le_of_ble_eq_true rfl) ?_
      refine g_nm (fun v23 e => ?_)
      replace hF := vl_to e hF; clear e
      refine s_max (Y := YX11_sheet) (pc := 109) dX11_sheet_109 lk_X11_218 w_max (Nat.le_of_ble_eq_true rfl) (Nat.le_of_ble_eq_true rfl) ?_
      refine g_nm (fun v24 e => ?_)
      replace hF := vl_to e hF; clear e
      refine g_loc [1, 2, 3, 4, 5, 6, 7, 8] rfl ?_
      exact w_X11_sheet_112 hK52 _ _ _ _ _ _ _ _ _ hF
    · replace hF := if_f c22 hF
      refine g_loc [1, 2, 3, 4, 5, 6, 7, 8] rfl ?_
      exact w_X11_sheet_97 hK52 _ _ _ _ _ _ _ _ hF
def f_X11_sheet_52  : Nat → Int32 → Int32 → Int32 → Int32 → Int32 → Int32 → Int32 → Mem → Option (Int32 × Mem)
  | 0, _, _, _, _, _, _, _, _ => none
  | n + 1, x1, x2, x3, x5, x6, x7, x8, M =>
    if x8 < (M 174 3) then
      if x2 = 0 then
        f_X11_sheet_84 (f_X11_sheet_52 n) x1 x2 x3 x5 x6 x7 x8 (x7.toInt8.toInt32) M
      else
        if x2 = 1 then
          f_X11_sheet_84 (f_X11_sheet_52 n) x1 x2 x3 x5 x6 x7 x8 (x7.toInt16.toInt32) M
        else
          f_X11_sheet_84 (f_X11_sheet_52 n) x1 x2 x3 x5 x6 x7 x8 x7 M
    else
      if x2 = 3 then
        f_X11_sheet_160 (-3) M
      else
        f_X11_sheet_160 x6 M
set_option maxRecDepth 100000 in
theorem w_X11_sheet_52 {R : Int32} {M' : Mem}  : ∀ (n : Nat) (x1 x2 x3 x5 x6 x7 x8 : Int32) (M : Mem), f_X11_sheet_52 n x1 x2 x3 x5 x6 x7 x8 M = some (R, M') → RunF l D cy ad none YX11_sheet 2 0 0 (some (.int R)) (lay X M') 0 0 52 [(0, .ref 174), (1, .int x1), (2, .int x2), (3, .int x3), (5, .int x5), (6, .int x6), (7, .int x7), (8, .int x8)] [] (lay X M) := by
  intro n
  induction n with
  | zero => intro x1 x2 x3 x5 x6 x7 x8 M hF; exact absurd hF (by unfold f_X11_sheet_52; exact fun h => nomatch h)
  | succ n ih =>
    intro x1 x2 x3 x5 x6 x7 x8 M hF
    unfold f_X11_sheet_52 at hF
    refine g_iload (Y := YX11_sheet) (pc := 52) 7 dX11_sheet_52 rfl ?_
    refine g_aload_n (Y := YX11_sheet) (pc := 54) 0 dX11_sheet_54 rfl ?_
    refine u_getI (Y := YX11_sheet) (pc := 55) dX11_sheet_55 fl_X11_113 k_174 ?_
    refine g_icmp_ge (Y := YX11_sheet) (pc := 58) (tgt := 148) dX11_sheet_58 rfl (fun c12 => ?_) (fun c12 => ?_)
    · replace hF := if_f c12 hF
      refine g_iload_n (Y := YX11_sheet) (pc := 148) 2 dX11_sheet_148 rfl ?_
      refine g_iconst (Y := YX11_sheet) (pc := 149) dX11_sheet_149 kI_3 ?_
      refine g_icmp_ne (Y := YX11_sheet) (pc := 150) (tgt := 158) dX11_sheet_150 rfl (fun c13 => ?_) (fun c13 => ?_)
      · replace hF := if_f c13 hF
        refine g_iload (Y := YX11_sheet) (pc := 158) 5 dX11_sheet_158 rfl ?_
        refine g_loc [] rfl ?_
        exact w_X11_sheet_160  _ _ hF
      · replace hF := if_t c13 hF
        refine g_bipush (Y := YX11_sheet) (pc := 153) dX11_sheet_153 kB_m3 ?_
        refine g_goto (Y := YX11_sheet) (pc := 155) (tgt := 160) dX11_sheet_155 rfl ?_
        refine g_loc [] rfl ?_
        exact w_X11_sheet_160  _ _ hF
    · replace hF := if_t c12 hF
      refine g_iload_n (Y := YX11_sheet) (pc := 61) 2 dX11_sheet_61 rfl ?_
      refine g_if_ne (Y := YX11_sheet) (pc := 62) (tgt := 71) dX11_sheet_62 rfl (fun c14 => ?_) (fun c14 => ?_)
      · replace hF := if_f c14 hF
        refine g_iload_n (Y := YX11_sheet) (pc := 71) 2 dX11_sheet_71 rfl ?_
        refine g_iconst (Y := YX11_sheet) (pc := 72) dX11_sheet_72 kI_1 ?_
        refine g_icmp_ne (Y := YX11_sheet) (pc := 73) (tgt := 82) dX11_sheet_73 rfl (fun c15 => ?_) (fun c15 => ?_)
        · replace hF := if_f c15 hF
          refine g_iload (Y := YX11_sheet) (pc := 82) 6 dX11_sheet_82 rfl ?_
          exact w_X11_sheet_84 ih _ _ _ _ _ _ _ _ _ hF
        · replace hF := if_t c15 hF
          refine g_iload (Y := YX11_sheet) (pc := 76) 6 dX11_sheet_76 rfl ?_
          refine g_i2s (Y := YX11_sheet) (pc := 78) dX11_sheet_78 ?_
          refine g_goto (Y := YX11_sheet) (pc := 79) (tgt := 84) dX11_sheet_79 rfl ?_
          exact w_X11_sheet_84 ih _ _ _ _ _ _ _ _ _ hF
      · replace hF := if_t c14 hF
        refine g_iload (Y := YX11_sheet) (pc := 65) 6 dX11_sheet_65 rfl ?_
        refine g_i2b (Y := YX11_sheet) (pc := 67) dX11_sheet_67 ?_
        refine g_goto (Y := YX11_sheet) (pc := 68) (tgt := 84) dX11_sheet_68 rfl ?_
        exact w_X11_sheet_84 ih _ _ _ _ _ _ _ _ _ hF
def f_X11_sheet_42  (x1 : Int32) (x2 : Int32) (x3 : Int32) (x4 : Int32) (x5 : Int32) (M : Mem) : Option (Int32 × Mem) :=
  f_X11_sheet_52 FU x1 x2 x3 x5 0 x4 0 M
set_option maxRecDepth 100000 in
theorem w_X11_sheet_42 {R : Int32} {M' : Mem}  (x1 x2 x3 x4 x5 : Int32) (M : Mem) (hF : f_X11_sheet_42 x1 x2 x3 x4 x5 M = some (R, M')) : RunF l D cy ad none YX11_sheet 2 0 0 (some (.int R)) (lay X M') 0 0 42 [(0, .ref 174), (1, .int x1), (2, .int x2), (3, .int x3), (4, .int x4), (5, .int x5)] [] (lay X M) := by
  unfold f_X11_sheet_42 at hF
  refine g_iconst (Y := YX11_sheet) (pc := 42) dX11_sheet_42 kI_0 ?_
  refine g_istore (Y := YX11_sheet) (pc := 43) (L' := [(6, .int 0), (0, .ref 174), (1, .int x1), (2, .int x2), (3, .int x3), (4, .int x4), (5, .int x5)]) dX11_sheet_43 (Nat.le_of_ble_eq_true rfl) rfl ?_
  refine g_iload (Y := YX11_sheet) (pc := 45) 5 dX11_sheet_45 rfl ?_
  refine g_istore (Y := YX11_sheet) (pc := 47) (L' := [(7, .int x4), (6, .int 0), (0, .ref 174), (1, .int x1), (2, .int x2), (3, .int x3), (4, .int x4), (5, .int x5)]) dX11_sheet_47 (Nat.le_of_ble_eq_true rfl) rfl ?_
  refine g_iconst (Y := YX11_sheet) (pc := 49) dX11_sheet_49 kI_0 ?_
  refine g_istore (Y := YX11_sheet) (pc := 50) (L' := [(8, .int 0), (7, .int x4), (6, .int 0), (0, .ref 174), (1, .int x1), (2, .int x2), (3, .int x3), (4, .int x4), (5, .int x5)]) dX11_sheet_50 (Nat.le_of_ble_eq_true rfl) rfl ?_
  refine g_loc [3, 4, 5, 6, 8, 2, 1, 0] rfl ?_
  exact w_X11_sheet_52  _ _ _ _ _ _ _ _ _ hF
def f_X11_sheet_0  (x1 : Int32) (x2 : Int32) (x3 : Int32) (x4 : Int32) (x5 : Int32) (M : Mem) : Option (Int32 × Mem) :=
  ml (up M 174 14 0) fun M1 =>
  bd (f_X11_in x2 0 3 M1) fun r2 M3 =>
  if r2 = 0 then
    f_X11_sheet_28 M3
  else
    if 6 < x3 then
      f_X11_sheet_28 M3
    else
      bd (f_X11_isRoom x1 M3) fun r7 M8 =>
      if r7 = 0 then
        f_X11_sheet_28 M8
      else
        if x2 < 3 then
          if x3 < 0 then
            some ((-2), M8)
          else
            f_X11_sheet_42 x1 x2 x3 x4 x5 M8
        else
          f_X11_sheet_42 x1 x2 x3 x4 x5 M8
set_option maxRecDepth 100000 in
theorem w_X11_sheet_0 {R : Int32} {M' : Mem}  (x1 x2 x3 x4 x5 : Int32) (M : Mem) (hF : f_X11_sheet_0 x1 x2 x3 x4 x5 M = some (R, M')) : RunF l D cy ad none YX11_sheet 2 0 0 (some (.int R)) (lay X M') 0 0 0 [(0, .ref 174), (1, .int x1), (2, .int x2), (3, .int x3), (4, .int x4), (5, .int x5)] [] (lay X M) := by
  unfold f_X11_sheet_0 at hF
  refine g_aload_n (Y := YX11_sheet) (pc := 0) 0 dX11_sheet_0 rfl ?_
  refine g_iconst (Y := YX11_sheet) (pc := 1) dX11_sheet_1 kI_0 ?_
  refine u_putI (Y := YX11_sheet) (pc := 2) dX11_sheet_2 fl_X11_99  k_174 ?_
  refine g_nmM (fun M1 e => ?_)
  replace hF := ml_to e hF; clear e
  refine g_iload_n (Y := YX11_sheet) (pc := 5) 2 dX11_sheet_5 rfl ?_
  refine g_iconst (Y := YX11_sheet) (pc := 6) dX11_sheet_6 kI_0 ?_
  refine g_iconst (Y := YX11_sheet) (pc := 7) dX11_sheet_7 kI_3 ?_
  obtain ⟨r2, M3, e4, hF⟩ := bd_some hF
  refine s_callSi (Y := YX11_sheet) (pc := 8) (as := [.int x2, .int 0, .int 3]) (st := []) (r_X11_in  e4) msX11_in lk_X11_109 dX11_sheet_8 rfl (Nat.le_of_ble_eq_true rfl) (Nat.le_of_ble_eq_true rfl) rfl ?_
  clear e4
  refine g_if_eq (Y := YX11_sheet) (pc := 11) (tgt := 28) dX11_sheet_11 rfl (fun c5 => ?_) (fun c5 => ?_)
  · replace hF := if_t c5 hF
    refine g_loc [] rfl ?_
    exact w_X11_sheet_28  _ hF
  · replace hF := if_f c5 hF
    refine g_iload_n (Y := YX11_sheet) (pc := 14) 3 dX11_sheet_14 rfl ?_
    refine g_bipush (Y := YX11_sheet) (pc := 15) dX11_sheet_15 kB_6 ?_
    refine g_icmp_gt (Y := YX11_sheet) (pc := 17) (tgt := 28) dX11_sheet_17 rfl (fun c6 => ?_) (fun c6 => ?_)
    · replace hF := if_t c6 hF
      refine g_loc [] rfl ?_
      exact w_X11_sheet_28  _ hF
    · replace hF := if_f c6 hF
      refine g_aload_n (Y := YX11_sheet) (pc := 20) 0 dX11_sheet_20 rfl ?_
      refine g_iload_n (Y := YX11_sheet) (pc := 21) 1 dX11_sheet_21 rfl ?_
      obtain ⟨r7, M8, e9, hF⟩ := bd_some hF
      refine s_callVi (Y := YX11_sheet) (pc := 22) (as := [.int x1]) (st := []) (r_X11_isRoom  e9) miX11_isRoom lk_X11_235 dX11_sheet_22 k_174 rfl (Nat.le_of_ble_eq_true rfl) (Nat.le_of_ble_eq_true rfl) rfl ?_
      clear e9
      refine g_if_ne (Y := YX11_sheet) (pc := 25) (tgt := 30) dX11_sheet_25 rfl (fun c10 => ?_) (fun c10 => ?_)
      · replace hF := if_f c10 hF
        refine g_iload_n (Y := YX11_sheet) (pc := 30) 2 dX11_sheet_30 rfl ?_
        refine g_iconst (Y := YX11_sheet) (pc := 31) dX11_sheet_31 kI_3 ?_
        refine g_icmp_ge (Y := YX11_sheet) (pc := 32) (tgt := 42) dX11_sheet_32 rfl (fun c11 => ?_) (fun c11 => ?_)
        · replace hF := if_f c11 hF
          exact w_X11_sheet_42  _ _ _ _ _ _ hF
        · replace hF := if_t c11 hF
          refine g_iload_n (Y := YX11_sheet) (pc := 35) 3 dX11_sheet_35 rfl ?_
          refine g_if_ge (Y := YX11_sheet) (pc := 36) (tgt := 42) dX11_sheet_36 rfl (fun c25 => ?_) (fun c25 => ?_)
          · replace hF := if_f c25 hF
            exact w_X11_sheet_42  _ _ _ _ _ _ hF
          · replace hF := if_t c25 hF
            refine g_bipush (Y := YX11_sheet) (pc := 39) dX11_sheet_39 kB_m2 ?_
            exact s_iret (Y := YX11_sheet) (pc := 41) dX11_sheet_41 rfl hF
      · replace hF := if_t c10 hF
        refine g_loc [] rfl ?_
        exact w_X11_sheet_28  _ hF
def f_X11_sheet (x1 : Int32) (x2 : Int32) (x3 : Int32) (x4 : Int32) (x5 : Int32) (M : Mem) : Option (Int32 × Mem) := f_X11_sheet_0 x1 x2 x3 x4 x5 M
theorem r_X11_sheet {x1 x2 x3 x4 x5 R : Int32} {M M' : Mem}  (hF : f_X11_sheet x1 x2 x3 x4 x5 M = some (R, M')) : RunS l D cy ad YX11_sheet 2 [.ref 174, .int x1, .int x2, .int x3, .int x4, .int x5] X M (some (.int R)) M' := Run.of 5 (miX11_sheet).1 (Nat.le_of_ble_eq_true rfl) (w_X11_sheet_0  _ _ _ _ _ _ hF)
def f_X11_lay_2 (a0 : Nat) (a1 : Nat) : Nat → Int32 → Int32 → Mem → Option (Int32 × Mem)
  | 0, _, _, _ => none
  | n + 1, x2, x3, M =>
    if x3 < 25 then
      gd (0 ≤ x3 ∧ x3.toNatClampNeg < LN a0) <|
      gd (0 ≤ (x2 + x3) ∧ (x2 + x3).toNatClampNeg < LN a1) <|
      ml (up M a1 (x2 + x3).toNatClampNeg (M a0 x3.toNatClampNeg)) fun M4 =>
      vl (x3 + 1) fun v5 =>
      f_X11_lay_2 a0 a1 n x2 v5 M4
    else
      some (0, M)
set_option maxRecDepth 100000 in
theorem w_X11_lay_2 {R : Int32} {M' : Mem} {a0 : Nat} {a1 : Nat} (ha0 : kinds[a0]? = some 14) (ha1 : kinds[a1]? = some 14) : ∀ (n : Nat) (x2 x3 : Int32) (M : Mem), f_X11_lay_2 a0 a1 n x2 x3 M = some (R, M') → RunF l D cy ad none YX11_lay 0 0 0 none (lay X M') 0 0 2 [(0, .ref a0), (1, .ref a1), (2, .int x2), (3, .int x3)] [] (lay X M) := by
  intro n
  induction n with
  | zero => intro x2 x3 M hF; exact absurd hF (by unfold f_X11_lay_2; exact fun h => nomatch h)
  | succ n ih =>
    intro x2 x3 M hF
    unfold f_X11_lay_2 at hF
    refine g_iload_n (Y := YX11_lay) (pc := 2) 3 dX11_lay_2 rfl ?_
    refine g_bipush (Y := YX11_lay) (pc := 3) dX11_lay_3 kB_25 ?_
    refine g_icmp_ge (Y := YX11_lay) (pc := 5) (tgt := 22) dX11_lay_5 rfl (fun c1 => ?_) (fun c1 => ?_)
    · replace hF := if_f c1 hF
      exact s_vret (Y := YX11_lay) (pc := 22) dX11_lay_22 rfl hF
    · replace hF := if_t c1 hF
      refine g_aload_n (Y := YX11_lay) (pc := 8) 1 dX11_lay_8 rfl ?_
      refine g_iload_n (Y := YX11_lay) (pc := 9) 2 dX11_lay_9 rfl ?_
      refine g_iload_n (Y := YX11_lay) (pc := 10) 3 dX11_lay_10 rfl ?_
      refine g_iadd (Y := YX11_lay) (pc := 11) dX11_lay_11 ?_
      refine g_aload_n (Y := YX11_lay) (pc := 12) 0 dX11_lay_12 rfl ?_
      refine g_iload_n (Y := YX11_lay) (pc := 13) 3 dX11_lay_13 rfl ?_
      obtain ⟨g2, hF⟩ := gd_some hF
      refine s_iald (Y := YX11_lay) (pc := 14) dX11_lay_14 ha0 rfl g2 ?_
      obtain ⟨g3, hF⟩ := gd_some hF
      refine s_iast (Y := YX11_lay) (pc := 15) dX11_lay_15 ha1 rfl g3 ?_
      refine g_nmM (fun M4 e => ?_)
      replace hF := ml_to e hF; clear e
      refine s_iinc (Y := YX11_lay) (pc := 16) (j := 3) (L' := fun y => [(3, .int y), (0, .ref a0), (1, .ref a1), (2, .int x2)]) dX11_lay_16 kI_1 rfl (Nat.le_of_ble_eq_true rfl) (fun _ => rfl) (fun v5 e => ?_)
      replace hF := vl_to e hF; clear e
      refine g_goto (Y := YX11_lay) (pc := 19) (tgt := 2) dX11_lay_19 rfl ?_
      refine g_loc [1, 2, 3, 0] rfl ?_
      exact ih _ _ _ hF
def f_X11_lay_0 (a0 : Nat) (a1 : Nat) (x2 : Int32) (M : Mem) : Option (Int32 × Mem) :=
  f_X11_lay_2 a0 a1 FU x2 0 M
set_option maxRecDepth 100000 in
theorem w_X11_lay_0 {R : Int32} {M' : Mem} {a0 : Nat} {a1 : Nat} (ha0 : kinds[a0]? = some 14) (ha1 : kinds[a1]? = some 14) (x2 : Int32) (M : Mem) (hF : f_X11_lay_0 a0 a1 x2 M = some (R, M')) : RunF l D cy ad none YX11_lay 0 0 0 none (lay X M') 0 0 0 [(0, .ref a0), (1, .ref a1), (2, .int x2)] [] (lay X M) := by
  unfold f_X11_lay_0 at hF
  refine g_iconst (Y := YX11_lay) (pc := 0) dX11_lay_0 kI_0 ?_
  refine g_istore_n (Y := YX11_lay) (pc := 1) (L' := [(3, .int 0), (0, .ref a0), (1, .ref a1), (2, .int x2)]) dX11_lay_1 (Nat.le_of_ble_eq_true rfl) rfl ?_
  refine g_loc [1, 2, 3, 0] rfl ?_
  exact w_X11_lay_2 ha0 ha1 _ _ _ _ hF
def f_X11_lay (a0 : Nat) (a1 : Nat) (x2 : Int32) (M : Mem) : Option (Int32 × Mem) := f_X11_lay_0 a0 a1 x2 M
theorem r_X11_lay {a0 : Nat} {a1 : Nat} {x2 R : Int32} {M M' : Mem} (ha0 : kinds[a0]? = some 14) (ha1 : kinds[a1]? = some 14) (hF : f_X11_lay a0 a1 x2 M = some (R, M')) : RunS l D cy ad YX11_lay 0 [.ref a0, .ref a1, .int x2] X M none M' := Run.of 3 (msX11_lay).1 (Nat.le_of_ble_eq_true rfl) (w_X11_lay_0 ha0 ha1 _ _ hF)
def f_X11_remember_49 (a1 : Nat) (M : Mem) : Option (Int32 × Mem) :=
  bd (f_X11_lay a1 188 (25 * (M 174 28)) M) fun _ M3 =>
  ml (up M3 174 28 ((M3 174 28) + 1)) fun M5 =>
  some (0, M5)
set_option maxRecDepth 100000 in
theorem w_X11_remember_49 {R : Int32} {M' : Mem} {a1 : Nat} (ha1 : kinds[a1]? = some 14) (M : Mem) (hF : f_X11_remember_49 a1  M = some (R, M')) : RunF l D cy ad none YX11_remember 1 0 0 none (lay X M') 0 0 49 [(0, .ref 174), (1, .ref a1)] [] (lay X M) := by
  unfold f_X11_remember_49 at hF
  refine g_aload_n (Y := YX11_remember) (pc := 49) 1 dX11_remember_49 rfl ?_
  refine g_aload_n (Y := YX11_remember) (pc := 50) 0 dX11_remember_50 rfl ?_
  refine u_getR (Y := YX11_remember) (pc := 51) (j := 188) dX11_remember_51 fl_X11_51 k_174 rf_174_27 ?_
  refine g_bipush (Y := YX11_remember) (pc := 54) dX11_remember_54 kB_25 ?_
  refine g_aload_n (Y := YX11_remember) (pc := 56) 0 dX11_remember_56 rfl ?_
  refine u_getI (Y := YX11_remember) (pc := 57) dX11_remember_57 fl_X11_153 k_174 ?_
  refine g_imul (Y := YX11_remember) (pc := 60) dX11_remember_60 ?_
  obtain ⟨r2, M3, e4, hF⟩ := bd_some hF
  refine s_callSv (Y := YX11_remember) (pc := 61) (as := [.ref a1, .ref 188, .int (25 * (M 174 28))]) (st := []) (r_X11_lay ha1 k_188 e4) msX11_lay lk_X11_242 dX11_remember_61 rfl (Nat.le_of_ble_eq_true rfl) (Nat.le_of_ble_eq_true rfl) rfl ?_
  clear e4
  refine g_aload_n (Y := YX11_remember) (pc := 64) 0 dX11_remember_64 rfl ?_
  refine g_dup (Y := YX11_remember) (pc := 65) dX11_remember_65 rfl ?_
  refine u_getI (Y := YX11_remember) (pc := 66) dX11_remember_66 fl_X11_153 k_174 ?_
  refine g_iconst (Y := YX11_remember) (pc := 69) dX11_remember_69 kI_1 ?_
  refine g_iadd (Y := YX11_remember) (pc := 70) dX11_remember_70 ?_
  refine u_putI (Y := YX11_remember) (pc := 71) dX11_remember_71 fl_X11_153  k_174 ?_
  refine g_nmM (fun M5 e => ?_)
  replace hF := ml_to e hF; clear e
  exact s_vret (Y := YX11_remember) (pc := 74) dX11_remember_74 rfl hF
def f_X11_remember_11 (a1 : Nat) : Nat → Int32 → Mem → Option (Int32 × Mem)
  | 0, _, _ => none
  | n + 1, x2, M =>
    if x2 < 275 then
      gd (0 ≤ (x2 + 25) ∧ (x2 + 25).toNatClampNeg < 300) <|
      gd (0 ≤ x2 ∧ x2.toNatClampNeg < 300) <|
      ml (up M 188 x2.toNatClampNeg (M 188 (x2 + 25).toNatClampNeg)) fun M10 =>
      vl (x2 + 1) fun v11 =>
      f_X11_remember_11 a1 n v11 M10
    else
      ml (up M 174 28 ((M 174 28) - 1)) fun M7 =>
      f_X11_remember_49 a1 M7
set_option maxRecDepth 100000 in
theorem w_X11_remember_11 {R : Int32} {M' : Mem} {a1 : Nat} (ha1 : kinds[a1]? = some 14) : ∀ (n : Nat) (x2 : Int32) (M : Mem), f_X11_remember_11 a1 n x2 M = some (R, M') → RunF l D cy ad none YX11_remember 1 0 0 none (lay X M') 0 0 11 [(0, .ref 174), (1, .ref a1), (2, .int x2)] [] (lay X M) := by
  intro n
  induction n with
  | zero => intro x2 M hF; exact absurd hF (by unfold f_X11_remember_11; exact fun h => nomatch h)
  | succ n ih =>
    intro x2 M hF
    unfold f_X11_remember_11 at hF
    refine g_iload_n (Y := YX11_remember) (pc := 11) 2 dX11_remember_11 rfl ?_
    refine g_sipush (Y := YX11_remember) (pc := 12) dX11_remember_12 kS_275 ?_
    refine g_icmp_ge (Y := YX11_remember) (pc := 15) (tgt := 39) dX11_remember_15 rfl (fun c6 => ?_) (fun c6 => ?_)
    · replace hF := if_f c6 hF
      refine g_aload_n (Y := YX11_remember) (pc := 39) 0 dX11_remember_39 rfl ?_
      refine g_dup (Y := YX11_remember) (pc := 40) dX11_remember_40 rfl ?_
      refine u_getI (Y := YX11_remember) (pc := 41) dX11_remember_41 fl_X11_153 k_174 ?_
      refine g_iconst (Y := YX11_remember) (pc := 44) dX11_remember_44 kI_1 ?_
      refine g_isub (Y := YX11_remember) (pc := 45) dX11_remember_45 ?_
      refine u_putI (Y := YX11_remember) (pc := 46) dX11_remember_46 fl_X11_153  k_174 ?_
      refine g_nmM (fun M7 e => ?_)
      replace hF := ml_to e hF; clear e
      refine g_loc [0, 1] rfl ?_
      exact w_X11_remember_49 ha1 _ hF
    · replace hF := if_t c6 hF
      refine g_aload_n (Y := YX11_remember) (pc := 18) 0 dX11_remember_18 rfl ?_
      refine u_getR (Y := YX11_remember) (pc := 19) (j := 188) dX11_remember_19 fl_X11_51 k_174 rf_174_27 ?_
      refine g_iload_n (Y := YX11_remember) (pc := 22) 2 dX11_remember_22 rfl ?_
      refine g_aload_n (Y := YX11_remember) (pc := 23) 0 dX11_remember_23 rfl ?_
      refine u_getR (Y := YX11_remember) (pc := 24) (j := 188) dX11_remember_24 fl_X11_51 k_174 rf_174_27 ?_
      refine g_iload_n (Y := YX11_remember) (pc := 27) 2 dX11_remember_27 rfl ?_
      refine g_bipush (Y := YX11_remember) (pc := 28) dX11_remember_28 kB_25 ?_
      refine g_iadd (Y := YX11_remember) (pc := 30) dX11_remember_30 ?_
      obtain ⟨g8, hF⟩ := gd_some hF
      refine s_iald (Y := YX11_remember) (pc := 31) dX11_remember_31 k_188 n_188 g8 ?_
      obtain ⟨g9, hF⟩ := gd_some hF
      refine s_iast (Y := YX11_remember) (pc := 32) dX11_remember_32 k_188 n_188 g9 ?_
      refine g_nmM (fun M10 e => ?_)
      replace hF := ml_to e hF; clear e
      refine s_iinc (Y := YX11_remember) (pc := 33) (j := 2) (L' := fun y => [(2, .int y), (0, .ref 174), (1, .ref a1)]) dX11_remember_33 kI_1 rfl (Nat.le_of_ble_eq_true rfl) (fun _ => rfl) (fun v11 e => ?_)
      replace hF := vl_to e hF; clear e
      refine g_goto (Y := YX11_remember) (pc := 36) (tgt := 11) dX11_remember_36 rfl ?_
      refine g_loc [1, 2, 0] rfl ?_
      exact ih _ _ hF
def f_X11_remember_0 (a1 : Nat) (M : Mem) : Option (Int32 × Mem) :=
  if (M 174 28) = 12 then
    f_X11_remember_11 a1 FU 0 M
  else
    f_X11_remember_49 a1 M
set_option maxRecDepth 100000 in
theorem w_X11_remember_0 {R : Int32} {M' : Mem} {a1 : Nat} (ha1 : kinds[a1]? = some 14) (M : Mem) (hF : f_X11_remember_0 a1  M = some (R, M')) : RunF l D cy ad none YX11_remember 1 0 0 none (lay X M') 0 0 0 [(0, .ref 174), (1, .ref a1)] [] (lay X M) := by
  unfold f_X11_remember_0 at hF
  refine g_aload_n (Y := YX11_remember) (pc := 0) 0 dX11_remember_0 rfl ?_
  refine u_getI (Y := YX11_remember) (pc := 1) dX11_remember_1 fl_X11_153 k_174 ?_
  refine g_bipush (Y := YX11_remember) (pc := 4) dX11_remember_4 kB_12 ?_
  refine g_icmp_ne (Y := YX11_remember) (pc := 6) (tgt := 49) dX11_remember_6 rfl (fun c1 => ?_) (fun c1 => ?_)
  · replace hF := if_f c1 hF
    exact w_X11_remember_49 ha1 _ hF
  · replace hF := if_t c1 hF
    refine g_iconst (Y := YX11_remember) (pc := 9) dX11_remember_9 kI_0 ?_
    refine g_istore_n (Y := YX11_remember) (pc := 10) (L' := [(2, .int 0), (0, .ref 174), (1, .ref a1)]) dX11_remember_10 (Nat.le_of_ble_eq_true rfl) rfl ?_
    refine g_loc [1, 2, 0] rfl ?_
    exact w_X11_remember_11 ha1 _ _ _ hF
def f_X11_remember (a1 : Nat) (M : Mem) : Option (Int32 × Mem) := f_X11_remember_0 a1 M
theorem r_X11_remember {a1 : Nat} {R : Int32} {M M' : Mem} (ha1 : kinds[a1]? = some 14) (hF : f_X11_remember a1 M = some (R, M')) : RunS l D cy ad YX11_remember 1 [.ref 174, .ref a1] X M none M' := Run.of 1 (miX11_remember).1 (Nat.le_of_ble_eq_true rfl) (w_X11_remember_0 ha1 _ hF)
def f_X11_firstRoom_19  (t0 : Int32) (M : Mem) : Option (Int32 × Mem) :=
  some (t0, M)
set_option maxRecDepth 100000 in
theorem w_X11_firstRoom_19 {R : Int32} {M' : Mem}  (t0 : Int32) (M : Mem) (hF : f_X11_firstRoom_19 t0 M = some (R, M')) : RunF l D cy ad none YX11_firstRoom 0 0 0 (some (.int R)) (lay X M') 0 0 19 [] [.int t0] (lay X M) := by
  unfold f_X11_firstRoom_19 at hF
  exact s_iret (Y := YX11_firstRoom) (pc := 19) dX11_firstRoom_19 rfl hF
def f_X11_firstRoom_0  (x1 : Int32) (M : Mem) : Option (Int32 × Mem) :=
  gd (0 ≤ x1 ∧ x1.toNatClampNeg < 6) <|
  if (M 180 x1.toNatClampNeg) = 0 then
    f_X11_firstRoom_19 0 M
  else
    f_X11_firstRoom_19 ((M 174 1) - 1) M
set_option maxRecDepth 100000 in
theorem w_X11_firstRoom_0 {R : Int32} {M' : Mem}  (x1 : Int32) (M : Mem) (hF : f_X11_firstRoom_0 x1 M = some (R, M')) : RunF l D cy ad none YX11_firstRoom 0 0 0 (some (.int R)) (lay X M') 0 0 0 [(0, .ref 174), (1, .int x1)] [] (lay X M) := by
  unfold f_X11_firstRoom_0 at hF
  refine g_aload_n (Y := YX11_firstRoom) (pc := 0) 0 dX11_firstRoom_0 rfl ?_
  refine u_getR (Y := YX11_firstRoom) (pc := 1) (j := 180) dX11_firstRoom_1 fl_X11_26 k_174 rf_174_7 ?_
  refine g_iload_n (Y := YX11_firstRoom) (pc := 4) 1 dX11_firstRoom_4 rfl ?_
  obtain ⟨g1, hF⟩ := gd_some hF
  refine s_zald (Y := YX11_firstRoom) (pc := 5) dX11_firstRoom_5 k_180 n_180 g1 ?_
  refine g_if_eq (Y := YX11_firstRoom) (pc := 6) (tgt := 18) dX11_firstRoom_6 rfl (fun c2 => ?_) (fun c2 => ?_)
  · replace hF := if_t c2 hF
    refine g_iconst (Y := YX11_firstRoom) (pc := 18) dX11_firstRoom_18 kI_0 ?_
    refine g_loc [] rfl ?_
    exact w_X11_firstRoom_19  _ _ hF
  · replace hF := if_f c2 hF
    refine g_aload_n (Y := YX11_firstRoom) (pc := 9) 0 dX11_firstRoom_9 rfl ?_
    refine u_getI (Y := YX11_firstRoom) (pc := 10) dX11_firstRoom_10 fl_X11_106 k_174 ?_
    refine g_iconst (Y := YX11_firstRoom) (pc := 13) dX11_firstRoom_13 kI_1 ?_
    refine g_isub (Y := YX11_firstRoom) (pc := 14) dX11_firstRoom_14 ?_
    refine g_goto (Y := YX11_firstRoom) (pc := 15) (tgt := 19) dX11_firstRoom_15 rfl ?_
    refine g_loc [] rfl ?_
    exact w_X11_firstRoom_19  _ _ hF
def f_X11_firstRoom (x1 : Int32) (M : Mem) : Option (Int32 × Mem) := f_X11_firstRoom_0 x1 M
theorem r_X11_firstRoom {x1 R : Int32} {M M' : Mem}  (hF : f_X11_firstRoom x1 M = some (R, M')) : RunS l D cy ad YX11_firstRoom 0 [.ref 174, .int x1] X M (some (.int R)) M' := Run.of 1 (miX11_firstRoom).1 (Nat.le_of_ble_eq_true rfl) (w_X11_firstRoom_0  _ _ hF)
def f_X11_nextRoom_33  (t0 : Int32) (M : Mem) : Option (Int32 × Mem) :=
  some (t0, M)
set_option maxRecDepth 100000 in
theorem w_X11_nextRoom_33 {R : Int32} {M' : Mem}  (t0 : Int32) (M : Mem) (hF : f_X11_nextRoom_33 t0 M = some (R, M')) : RunF l D cy ad none YX11_nextRoom 2 0 0 (some (.int R)) (lay X M') 0 0 33 [] [.int t0] (lay X M) := by
  unfold f_X11_nextRoom_33 at hF
  exact s_iret (Y := YX11_nextRoom) (pc := 33) dX11_nextRoom_33 rfl hF
def f_X11_nextRoom_18  (t0 : Int32) (M : Mem) : Option (Int32 × Mem) :=
  bd (f_X11_isRoom t0 M) fun r3 M4 =>
  if r3 = 0 then
    f_X11_nextRoom_33 9 M4
  else
    f_X11_nextRoom_33 t0 M4
set_option maxRecDepth 100000 in
theorem w_X11_nextRoom_18 {R : Int32} {M' : Mem}  (t0 : Int32) (M : Mem) (hF : f_X11_nextRoom_18 t0 M = some (R, M')) : RunF l D cy ad none YX11_nextRoom 2 0 0 (some (.int R)) (lay X M') 0 0 18 [(0, .ref 174)] [.int t0] (lay X M) := by
  unfold f_X11_nextRoom_18 at hF
  refine g_istore_n (Y := YX11_nextRoom) (pc := 18) (L' := [(3, .int t0), (0, .ref 174)]) dX11_nextRoom_18 (Nat.le_of_ble_eq_true rfl) rfl ?_
  refine g_aload_n (Y := YX11_nextRoom) (pc := 19) 1 dX11_nextRoom_19 rfl ?_
  refine g_iload_n (Y := YX11_nextRoom) (pc := 20) 0 dX11_nextRoom_20 rfl ?_
  obtain ⟨r3, M4, e5, hF⟩ := bd_some hF
  refine s_callVi (Y := YX11_nextRoom) (pc := 21) (as := [.int t0]) (st := []) (r_X11_isRoom  e5) miX11_isRoom lk_X11_235 dX11_nextRoom_21 k_174 rfl (Nat.le_of_ble_eq_true rfl) (Nat.le_of_ble_eq_true rfl) rfl ?_
  clear e5
  refine g_if_eq (Y := YX11_nextRoom) (pc := 24) (tgt := 31) dX11_nextRoom_24 rfl (fun c6 => ?_) (fun c6 => ?_)
  · replace hF := if_t c6 hF
    refine g_bipush (Y := YX11_nextRoom) (pc := 31) dX11_nextRoom_31 kB_9 ?_
    refine g_loc [] rfl ?_
    exact w_X11_nextRoom_33  _ _ hF
  · replace hF := if_f c6 hF
    refine g_iload_n (Y := YX11_nextRoom) (pc := 27) 0 dX11_nextRoom_27 rfl ?_
    refine g_goto (Y := YX11_nextRoom) (pc := 28) (tgt := 33) dX11_nextRoom_28 rfl ?_
    refine g_loc [] rfl ?_
    exact w_X11_nextRoom_33  _ _ hF
def f_X11_nextRoom_0  (x1 : Int32) (x2 : Int32) (M : Mem) : Option (Int32 × Mem) :=
  gd (0 ≤ x1 ∧ x1.toNatClampNeg < 6) <|
  if (M 180 x1.toNatClampNeg) = 0 then
    f_X11_nextRoom_18 (x2 + 1) M
  else
    f_X11_nextRoom_18 (x2 - 1) M
set_option maxRecDepth 100000 in
theorem w_X11_nextRoom_0 {R : Int32} {M' : Mem}  (x1 x2 : Int32) (M : Mem) (hF : f_X11_nextRoom_0 x1 x2 M = some (R, M')) : RunF l D cy ad none YX11_nextRoom 2 0 0 (some (.int R)) (lay X M') 0 0 0 [(0, .ref 174), (1, .int x1), (2, .int x2)] [] (lay X M) := by
  unfold f_X11_nextRoom_0 at hF
  refine g_aload_n (Y := YX11_nextRoom) (pc := 0) 0 dX11_nextRoom_0 rfl ?_
  refine u_getR (Y := YX11_nextRoom) (pc := 1) (j := 180) dX11_nextRoom_1 fl_X11_26 k_174 rf_174_7 ?_
  refine g_iload_n (Y := YX11_nextRoom) (pc := 4) 1 dX11_nextRoom_4 rfl ?_
  obtain ⟨g1, hF⟩ := gd_some hF
  refine s_zald (Y := YX11_nextRoom) (pc := 5) dX11_nextRoom_5 k_180 n_180 g1 ?_
  refine g_if_eq (Y := YX11_nextRoom) (pc := 6) (tgt := 15) dX11_nextRoom_6 rfl (fun c2 => ?_) (fun c2 => ?_)
  · replace hF := if_t c2 hF
    refine g_iload_n (Y := YX11_nextRoom) (pc := 15) 2 dX11_nextRoom_15 rfl ?_
    refine g_iconst (Y := YX11_nextRoom) (pc := 16) dX11_nextRoom_16 kI_1 ?_
    refine g_iadd (Y := YX11_nextRoom) (pc := 17) dX11_nextRoom_17 ?_
    refine g_loc [0] rfl ?_
    exact w_X11_nextRoom_18  _ _ hF
  · replace hF := if_f c2 hF
    refine g_iload_n (Y := YX11_nextRoom) (pc := 9) 2 dX11_nextRoom_9 rfl ?_
    refine g_iconst (Y := YX11_nextRoom) (pc := 10) dX11_nextRoom_10 kI_1 ?_
    refine g_isub (Y := YX11_nextRoom) (pc := 11) dX11_nextRoom_11 ?_
    refine g_goto (Y := YX11_nextRoom) (pc := 12) (tgt := 18) dX11_nextRoom_12 rfl ?_
    refine g_loc [0] rfl ?_
    exact w_X11_nextRoom_18  _ _ hF
def f_X11_nextRoom (x1 : Int32) (x2 : Int32) (M : Mem) : Option (Int32 × Mem) := f_X11_nextRoom_0 x1 x2 M
theorem r_X11_nextRoom {x1 x2 R : Int32} {M M' : Mem}  (hF : f_X11_nextRoom x1 x2 M = some (R, M')) : RunS l D cy ad YX11_nextRoom 2 [.ref 174, .int x1, .int x2] X M (some (.int R)) M' := Run.of 2 (miX11_nextRoom).1 (Nat.le_of_ble_eq_true rfl) (w_X11_nextRoom_0  _ _ _ hF)
def f_X11_isFree_29 (a1 : Nat) (t0 : Int32) (M : Mem) : Option (Int32 × Mem) :=
  gd (t0 = 0 ∨ t0 = 1) <|
  some (t0, M)
set_option maxRecDepth 100000 in
theorem w_X11_isFree_29 {R : Int32} {M' : Mem} {a1 : Nat} (ha1 : kinds[a1]? = some 14) (t0 : Int32) (M : Mem) (hF : f_X11_isFree_29 a1 t0 M = some (R, M')) : RunF l D cy ad none YX11_isFree 1 0 0 (some (.int R)) (lay X M') 0 0 29 [] [.int t0] (lay X M) := by
  unfold f_X11_isFree_29 at hF
  obtain ⟨g2, hF⟩ := gd_some hF
  exact s_zret (Y := YX11_isFree) (pc := 29) dX11_isFree_29 rfl g2 hF
def f_X11_isFree_24 (a1 : Nat) (M : Mem) : Option (Int32 × Mem) :=
  f_X11_isFree_29 a1 1 M
set_option maxRecDepth 100000 in
theorem w_X11_isFree_24 {R : Int32} {M' : Mem} {a1 : Nat} (ha1 : kinds[a1]? = some 14) (M : Mem) (hF : f_X11_isFree_24 a1  M = some (R, M')) : RunF l D cy ad none YX11_isFree 1 0 0 (some (.int R)) (lay X M') 0 0 24 [] [] (lay X M) := by
  unfold f_X11_isFree_24 at hF
  refine g_iconst (Y := YX11_isFree) (pc := 24) dX11_isFree_24 kI_1 ?_
  refine g_goto (Y := YX11_isFree) (pc := 25) (tgt := 29) dX11_isFree_25 rfl ?_
  exact w_X11_isFree_29 ha1 _ _ hF
def f_X11_isFree_0 (a1 : Nat) (x2 : Int32) (M : Mem) : Option (Int32 × Mem) :=
  if x2 = 9 then
    f_X11_isFree_24 a1 M
  else
    gd (0 ≤ x2 ∧ x2.toNatClampNeg < 6) <|
    if (M 176 x2.toNatClampNeg) = 0 then
      bd (f_X11_inRoom a1 x2 M) fun r5 M6 =>
      if r5 = 0 then
        f_X11_isFree_24 a1 M6
      else
        f_X11_isFree_29 a1 0 M6
    else
      f_X11_isFree_24 a1 M
set_option maxRecDepth 100000 in
theorem w_X11_isFree_0 {R : Int32} {M' : Mem} {a1 : Nat} (ha1 : kinds[a1]? = some 14) (x2 : Int32) (M : Mem) (hF : f_X11_isFree_0 a1 x2 M = some (R, M')) : RunF l D cy ad none YX11_isFree 1 0 0 (some (.int R)) (lay X M') 0 0 0 [(0, .ref 174), (1, .ref a1), (2, .int x2)] [] (lay X M) := by
  unfold f_X11_isFree_0 at hF
  refine g_iload_n (Y := YX11_isFree) (pc := 0) 2 dX11_isFree_0 rfl ?_
  refine g_bipush (Y := YX11_isFree) (pc := 1) dX11_isFree_1 kB_9 ?_
  refine g_icmp_eq (Y := YX11_isFree) (pc := 3) (tgt := 24) dX11_isFree_3 rfl (fun c1 => ?_) (fun c1 => ?_)
  · replace hF := if_t c1 hF
    refine g_loc [] rfl ?_
    exact w_X11_isFree_24 ha1 _ hF
  · replace hF := if_f c1 hF
    refine g_aload_n (Y := YX11_isFree) (pc := 6) 0 dX11_isFree_6 rfl ?_
    refine u_getR (Y := YX11_isFree) (pc := 7) (j := 176) dX11_isFree_7 fl_X11_13 k_174 rf_174_2 ?_
    refine g_iload_n (Y := YX11_isFree) (pc := 10) 2 dX11_isFree_10 rfl ?_
    obtain ⟨g3, hF⟩ := gd_some hF
    refine s_zald (Y := YX11_isFree) (pc := 11) dX11_isFree_11 k_176 n_176 g3 ?_
    refine g_if_ne (Y := YX11_isFree) (pc := 12) (tgt := 24) dX11_isFree_12 rfl (fun c4 => ?_) (fun c4 => ?_)
    · replace hF := if_f c4 hF
      refine g_loc [] rfl ?_
      exact w_X11_isFree_24 ha1 _ hF
    · replace hF := if_t c4 hF
      refine g_aload_n (Y := YX11_isFree) (pc := 15) 0 dX11_isFree_15 rfl ?_
      refine g_aload_n (Y := YX11_isFree) (pc := 16) 1 dX11_isFree_16 rfl ?_
      refine g_iload_n (Y := YX11_isFree) (pc := 17) 2 dX11_isFree_17 rfl ?_
      obtain ⟨r5, M6, e7, hF⟩ := bd_some hF
      refine s_callVi (Y := YX11_isFree) (pc := 18) (as := [.ref a1, .int x2]) (st := []) (r_X11_inRoom ha1 e7) miX11_inRoom lk_X11_238 dX11_isFree_18 k_174 rfl (Nat.le_of_ble_eq_true rfl) (Nat.le_of_ble_eq_true rfl) rfl ?_
      clear e7
      refine g_if_ne (Y := YX11_isFree) (pc := 21) (tgt := 28) dX11_isFree_21 rfl (fun c8 => ?_) (fun c8 => ?_)
      · replace hF := if_f c8 hF
        refine g_iconst (Y := YX11_isFree) (pc := 28) dX11_isFree_28 kI_0 ?_
        refine g_loc [] rfl ?_
        exact w_X11_isFree_29 ha1 _ _ hF
      · replace hF := if_t c8 hF
        refine g_loc [] rfl ?_
        exact w_X11_isFree_24 ha1 _ hF
def f_X11_isFree (a1 : Nat) (x2 : Int32) (M : Mem) : Option (Int32 × Mem) := f_X11_isFree_0 a1 x2 M
theorem r_X11_isFree {a1 : Nat} {x2 R : Int32} {M M' : Mem} (ha1 : kinds[a1]? = some 14) (hF : f_X11_isFree a1 x2 M = some (R, M')) : RunS l D cy ad YX11_isFree 1 [.ref 174, .ref a1, .int x2] X M (some (.int R)) M' := Run.of 2 (miX11_isFree).1 (Nat.le_of_ble_eq_true rfl) (w_X11_isFree_0 ha1 _ _ hF)
def f_X11_refusesOff_55 (a1 : Nat) (t0 : Int32) (M : Mem) : Option (Int32 × Mem) :=
  some (t0, M)
set_option maxRecDepth 100000 in
theorem w_X11_refusesOff_55 {R : Int32} {M' : Mem} {a1 : Nat} (ha1 : kinds[a1]? = some 14) (t0 : Int32) (M : Mem) (hF : f_X11_refusesOff_55 a1 t0 M = some (R, M')) : RunF l D cy ad none YX11_refusesOff 2 0 0 (some (.int R)) (lay X M') 0 0 55 [] [.int t0] (lay X M) := by
  unfold f_X11_refusesOff_55 at hF
  exact s_iret (Y := YX11_refusesOff) (pc := 55) dX11_refusesOff_55 rfl hF
def f_X11_refusesOff_0 (a1 : Nat) (x2 : Int32) (M : Mem) : Option (Int32 × Mem) :=
  bd (f_X11_isGroup x2 M) fun r1 M2 =>
  if r1 = 0 then
    some ((-1), M2)
  else
    gd (0 ≤ x2 ∧ x2.toNatClampNeg < LN a1) <|
    if (M2 a1 x2.toNatClampNeg) = (-1) then
      gd (0 ≤ (24 : Int32) ∧ (24 : Int32).toNatClampNeg < LN a1) <|
      gd (0 ≤ x2 ∧ x2.toNatClampNeg < 6) <|
      if (M2 a1 (24 : Int32).toNatClampNeg) < (M2 177 x2.toNatClampNeg) then
        some ((-3), M2)
      else
        bd (f_X11_firstRoom x2 M2) fun r10 M11 =>
        bd (f_X11_isFree a1 r10 M11) fun r13 M14 =>
        if r13 = 0 then
          f_X11_refusesOff_55 a1 (-4) M14
        else
          f_X11_refusesOff_55 a1 0 M14
    else
      some ((-2), M2)
set_option maxRecDepth 100000 in
theorem w_X11_refusesOff_0 {R : Int32} {M' : Mem} {a1 : Nat} (ha1 : kinds[a1]? = some 14) (x2 : Int32) (M : Mem) (hF : f_X11_refusesOff_0 a1 x2 M = some (R, M')) : RunF l D cy ad none YX11_refusesOff 2 0 0 (some (.int R)) (lay X M') 0 0 0 [(0, .ref 174), (1, .ref a1), (2, .int x2)] [] (lay X M) := by
  unfold f_X11_refusesOff_0 at hF
  refine g_aload_n (Y := YX11_refusesOff) (pc := 0) 0 dX11_refusesOff_0 rfl ?_
  refine g_iload_n (Y := YX11_refusesOff) (pc := 1) 2 dX11_refusesOff_1 rfl ?_
  obtain ⟨r1, M2, e3, hF⟩ := bd_some hF
  refine s_callVi (Y := YX11_refusesOff) (pc := 2) (as := [.int x2]) (st := []) (r_X11_isGroup  e3) miX11_isGroup lk_X11_228 dX11_refusesOff_2 k_174 rfl (Nat.le_of_ble_eq_true rfl) (Nat.le_of_ble_eq_true rfl) rfl ?_
  clear e3
  refine g_if_ne (Y := YX11_refusesOff) (pc := 5) (tgt := 10) dX11_refusesOff_5 rfl (fun c4 => ?_) (fun c4 => ?_)
  · replace hF := if_f c4 hF
    refine g_aload_n (Y := YX11_refusesOff) (pc := 10) 1 dX11_refusesOff_10 rfl ?_
    refine g_iload_n (Y := YX11_refusesOff) (pc := 11) 2 dX11_refusesOff_11 rfl ?_
    obtain ⟨g5, hF⟩ := gd_some hF
    refine s_iald (Y := YX11_refusesOff) (pc := 12) dX11_refusesOff_12 ha1 rfl g5 ?_
    refine g_iconst (Y := YX11_refusesOff) (pc := 13) dX11_refusesOff_13 kI_m1 ?_
    refine g_icmp_eq (Y := YX11_refusesOff) (pc := 14) (tgt := 20) dX11_refusesOff_14 rfl (fun c6 => ?_) (fun c6 => ?_)
    · replace hF := if_t c6 hF
      refine g_aload_n (Y := YX11_refusesOff) (pc := 20) 1 dX11_refusesOff_20 rfl ?_
      refine g_bipush (Y := YX11_refusesOff) (pc := 21) dX11_refusesOff_21 kB_24 ?_
      obtain ⟨g7, hF⟩ := gd_some hF
      refine s_iald (Y := YX11_refusesOff) (pc := 23) dX11_refusesOff_23 ha1 rfl g7 ?_
      refine g_aload_n (Y := YX11_refusesOff) (pc := 24) 0 dX11_refusesOff_24 rfl ?_
      refine u_getR (Y := YX11_refusesOff) (pc := 25) (j := 177) dX11_refusesOff_25 fl_X11_17 k_174 rf_174_4 ?_
      refine g_iload_n (Y := YX11_refusesOff) (pc := 28) 2 dX11_refusesOff_28 rfl ?_
      obtain ⟨g8, hF⟩ := gd_some hF
      refine s_iald (Y := YX11_refusesOff) (pc := 29) dX11_refusesOff_29 k_177 n_177 g8 ?_
      refine g_icmp_ge (Y := YX11_refusesOff) (pc := 30) (tgt := 36) dX11_refusesOff_30 rfl (fun c9 => ?_) (fun c9 => ?_)
      · replace hF := if_f c9 hF
        refine g_aload_n (Y := YX11_refusesOff) (pc := 36) 0 dX11_refusesOff_36 rfl ?_
        refine g_aload_n (Y := YX11_refusesOff) (pc := 37) 1 dX11_refusesOff_37 rfl ?_
        refine g_aload_n (Y := YX11_refusesOff) (pc := 38) 0 dX11_refusesOff_38 rfl ?_
        refine g_iload_n (Y := YX11_refusesOff) (pc := 39) 2 dX11_refusesOff_39 rfl ?_
        obtain ⟨r10, M11, e12, hF⟩ := bd_some hF
        refine s_callVi (Y := YX11_refusesOff) (pc := 40) (as := [.int x2]) (st := [.ref a1, .ref 174]) (r_X11_firstRoom  e12) miX11_firstRoom lk_X11_246 dX11_refusesOff_40 k_174 rfl (Nat.le_of_ble_eq_true rfl) (Nat.le_of_ble_eq_true rfl) rfl ?_
        clear e12
        obtain ⟨r13, M14, e15, hF⟩ := bd_some hF
        refine s_callVi (Y := YX11_refusesOff) (pc := 43) (as := [.ref a1, .int r10]) (st := []) (r_X11_isFree ha1 e15) miX11_isFree lk_X11_249 dX11_refusesOff_43 k_174 rfl (Nat.le_of_ble_eq_true rfl) (Nat.le_of_ble_eq_true rfl) rfl ?_
        clear e15
        refine g_if_eq (Y := YX11_refusesOff) (pc := 46) (tgt := 53) dX11_refusesOff_46 rfl (fun c16 => ?_) (fun c16 => ?_)
        · replace hF := if_t c16 hF
          refine g_bipush (Y := YX11_refusesOff) (pc := 53) dX11_refusesOff_53 kB_m4 ?_
          refine g_loc [] rfl ?_
          exact w_X11_refusesOff_55 ha1 _ _ hF
        · replace hF := if_f c16 hF
          refine g_iconst (Y := YX11_refusesOff) (pc := 49) dX11_refusesOff_49 kI_0 ?_
          refine g_goto (Y := YX11_refusesOff) (pc := 50) (tgt := 55) dX11_refusesOff_50 rfl ?_
          refine g_loc [] rfl ?_
          exact w_X11_refusesOff_55 ha1 _ _ hF
      · replace hF := if_t c9 hF
        refine g_bipush (Y := YX11_refusesOff) (pc := 33) dX11_refusesOff_33 kB_m3 ?_
        exact s_iret (Y := YX11_refusesOff) (pc := 35) dX11_refusesOff_35 rfl hF
    · replace hF := if_f c6 hF
      refine g_bipush (Y := YX11_refusesOff) (pc := 17) dX11_refusesOff_17 kB_m2 ?_
      exact s_iret (Y := YX11_refusesOff) (pc := 19) dX11_refusesOff_19 rfl hF
  · replace hF := if_t c4 hF
    refine g_iconst (Y := YX11_refusesOff) (pc := 8) dX11_refusesOff_8 kI_m1 ?_
    exact s_iret (Y := YX11_refusesOff) (pc := 9) dX11_refusesOff_9 rfl hF
def f_X11_refusesOff (a1 : Nat) (x2 : Int32) (M : Mem) : Option (Int32 × Mem) := f_X11_refusesOff_0 a1 x2 M
theorem r_X11_refusesOff {a1 : Nat} {x2 R : Int32} {M M' : Mem} (ha1 : kinds[a1]? = some 14) (hF : f_X11_refusesOff a1 x2 M = some (R, M')) : RunS l D cy ad YX11_refusesOff 2 [.ref 174, .ref a1, .int x2] X M (some (.int R)) M' := Run.of 2 (miX11_refusesOff).1 (Nat.le_of_ble_eq_true rfl) (w_X11_refusesOff_0 ha1 _ _ hF)
def f_X11_goOff_0 (a1 : Nat) (x2 : Int32) (M : Mem) : Option (Int32 × Mem) :=
  bd (f_X11_firstRoom x2 M) fun r1 M2 =>
  gd (0 ≤ x2 ∧ x2.toNatClampNeg < LN a1) <|
  ml (up M2 a1 x2.toNatClampNeg r1) fun M5 =>
  gd (0 ≤ x2 ∧ x2.toNatClampNeg < LN a1) <|
  gd (0 ≤ ((6 * x2) + (M5 a1 x2.toNatClampNeg)) ∧ ((6 * x2) + (M5 a1 x2.toNatClampNeg)).toNatClampNeg < 36) <|
  vl ((M5 187 ((6 * x2) + (M5 a1 x2.toNatClampNeg)).toNatClampNeg)) fun v8 =>
  gd (0 ≤ (6 + x2) ∧ (6 + x2).toNatClampNeg < LN a1) <|
  ml (up M5 a1 (6 + x2).toNatClampNeg v8) fun M10 =>
  some (0, M10)
set_option maxRecDepth 100000 in
theorem w_X11_goOff_0 {R : Int32} {M' : Mem} {a1 : Nat} (ha1 : kinds[a1]? = some 14) (x2 : Int32) (M : Mem) (hF : f_X11_goOff_0 a1 x2 M = some (R, M')) : RunF l D cy ad none YX11_goOff 1 0 0 none (lay X M') 0 0 0 [(0, .ref 174), (1, .ref a1), (2, .int x2)] [] (lay X M) := by
  unfold f_X11_goOff_0 at hF
  refine g_aload_n (Y := YX11_goOff) (pc := 0) 1 dX11_goOff_0 rfl ?_
  refine g_iload_n (Y := YX11_goOff) (pc := 1) 2 dX11_goOff_1 rfl ?_
  refine g_aload_n (Y := YX11_goOff) (pc := 2) 0 dX11_goOff_2 rfl ?_
  refine g_iload_n (Y := YX11_goOff) (pc := 3) 2 dX11_goOff_3 rfl ?_
  obtain ⟨r1, M2, e3, hF⟩ := bd_some hF
  refine s_callVi (Y := YX11_goOff) (pc := 4) (as := [.int x2]) (st := [.int x2, .ref a1]) (r_X11_firstRoom  e3) miX11_firstRoom lk_X11_246 dX11_goOff_4 k_174 rfl (Nat.le_of_ble_eq_true rfl) (Nat.le_of_ble_eq_true rfl) rfl ?_
  clear e3
  obtain ⟨g4, hF⟩ := gd_some hF
  refine s_iast (Y := YX11_goOff) (pc := 7) dX11_goOff_7 ha1 rfl g4 ?_
  refine g_nmM (fun M5 e => ?_)
  replace hF := ml_to e hF; clear e
  refine g_aload_n (Y := YX11_goOff) (pc := 8) 1 dX11_goOff_8 rfl ?_
  refine g_bipush (Y := YX11_goOff) (pc := 9) dX11_goOff_9 kB_6 ?_
  refine g_iload_n (Y := YX11_goOff) (pc := 11) 2 dX11_goOff_11 rfl ?_
  refine g_iadd (Y := YX11_goOff) (pc := 12) dX11_goOff_12 ?_
  refine g_aload_n (Y := YX11_goOff) (pc := 13) 0 dX11_goOff_13 rfl ?_
  refine u_getR (Y := YX11_goOff) (pc := 14) (j := 187) dX11_goOff_14 fl_X11_48 k_174 rf_174_26 ?_
  refine g_bipush (Y := YX11_goOff) (pc := 17) dX11_goOff_17 kB_6 ?_
  refine g_iload_n (Y := YX11_goOff) (pc := 19) 2 dX11_goOff_19 rfl ?_
  refine g_imul (Y := YX11_goOff) (pc := 20) dX11_goOff_20 ?_
  refine g_aload_n (Y := YX11_goOff) (pc := 21) 1 dX11_goOff_21 rfl ?_
  refine g_iload_n (Y := YX11_goOff) (pc := 22) 2 dX11_goOff_22 rfl ?_
  obtain ⟨g6, hF⟩ := gd_some hF
  refine s_iald (Y := YX11_goOff) (pc := 23) dX11_goOff_23 ha1 rfl g6 ?_
  refine g_iadd (Y := YX11_goOff) (pc := 24) dX11_goOff_24 ?_
  obtain ⟨g7, hF⟩ := gd_some hF
  refine s_iald (Y := YX11_goOff) (pc := 25) dX11_goOff_25 k_187 n_187 g7 ?_
  refine g_nm (fun v8 e => ?_)
  replace hF := vl_to e hF; clear e
  obtain ⟨g9, hF⟩ := gd_some hF
  refine s_iast (Y := YX11_goOff) (pc := 26) dX11_goOff_26 ha1 rfl g9 ?_
  refine g_nmM (fun M10 e => ?_)
  replace hF := ml_to e hF; clear e
  exact s_vret (Y := YX11_goOff) (pc := 27) dX11_goOff_27 rfl hF
def f_X11_goOff (a1 : Nat) (x2 : Int32) (M : Mem) : Option (Int32 × Mem) := f_X11_goOff_0 a1 x2 M
theorem r_X11_goOff {a1 : Nat} {x2 R : Int32} {M M' : Mem} (ha1 : kinds[a1]? = some 14) (hF : f_X11_goOff a1 x2 M = some (R, M')) : RunS l D cy ad YX11_goOff 1 [.ref 174, .ref a1, .int x2] X M none M' := Run.of 2 (miX11_goOff).1 (Nat.le_of_ble_eq_true rfl) (w_X11_goOff_0 ha1 _ _ hF)
def f_X11_nextStep_46 (K2 : Int32 → Mem → Option (Int32 × Mem)) (a1 : Nat) (x2 : Int32) (M : Mem) : Option (Int32 × Mem) :=
  vl (x2 + 1) fun v6 =>
  K2 v6 M
set_option maxRecDepth 100000 in
theorem w_X11_nextStep_46 {R : Int32} {M' : Mem} {a1 : Nat} {K2 : Int32 → Mem → Option (Int32 × Mem)} (ha1 : kinds[a1]? = some 14) (hK2 : ∀ (x2 : Int32) (M : Mem), K2 x2 M = some (R, M') → RunF l D cy ad none YX11_nextStep 3 0 0 (some (.int R)) (lay X M') 0 0 2 [(0, .ref 174), (1, .ref a1), (2, .int x2)] [] (lay X M)) (x2 : Int32) (M : Mem) (hF : f_X11_nextStep_46 K2 a1 x2 M = some (R, M')) : RunF l D cy ad none YX11_nextStep 3 0 0 (some (.int R)) (lay X M') 0 0 46 [(0, .ref 174), (1, .ref a1), (2, .int x2)] [] (lay X M) := by
  unfold f_X11_nextStep_46 at hF
  refine s_iinc (Y := YX11_nextStep) (pc := 46) (j := 2) (L' := fun y => [(2, .int y), (0, .ref 174), (1, .ref a1)]) dX11_nextStep_46 kI_1 rfl (Nat.le_of_ble_eq_true rfl) (fun _ => rfl) (fun v6 e => ?_)
  replace hF := vl_to e hF; clear e
  refine g_goto (Y := YX11_nextStep) (pc := 49) (tgt := 2) dX11_nextStep_49 rfl ?_
  refine g_loc [1, 2, 0] rfl ?_
  exact hK2 _ _ hF
def f_X11_nextStep_2 (a1 : Nat) : Nat → Int32 → Mem → Option (Int32 × Mem)
  | 0, _, _ => none
  | n + 1, x2, M =>
    if x2 < (M 174 3) then
      bd (f_X11_isInside a1 x2 M) fun r2 M3 =>
      if r2 = 0 then
        f_X11_nextStep_46 (f_X11_nextStep_2 a1 n) a1 x2 M3
      else
        gd (0 ≤ (6 + x2) ∧ (6 + x2).toNatClampNeg < LN a1) <|
        if (M3 a1 (6 + x2).toNatClampNeg) = 0 then
          gd (0 ≤ x2 ∧ x2.toNatClampNeg < LN a1) <|
          bd (f_X11_nextRoom x2 (M3 a1 x2.toNatClampNeg) M3) fun r10 M11 =>
          bd (f_X11_isFree a1 r10 M11) fun r13 M14 =>
          if r13 = 0 then
            f_X11_nextStep_46 (f_X11_nextStep_2 a1 n) a1 x2 M14
          else
            some (x2, M14)
        else
          f_X11_nextStep_46 (f_X11_nextStep_2 a1 n) a1 x2 M3
    else
      some ((-1), M)
set_option maxRecDepth 100000 in
theorem w_X11_nextStep_2 {R : Int32} {M' : Mem} {a1 : Nat} (ha1 : kinds[a1]? = some 14) : ∀ (n : Nat) (x2 : Int32) (M : Mem), f_X11_nextStep_2 a1 n x2 M = some (R, M') → RunF l D cy ad none YX11_nextStep 3 0 0 (some (.int R)) (lay X M') 0 0 2 [(0, .ref 174), (1, .ref a1), (2, .int x2)] [] (lay X M) := by
  intro n
  induction n with
  | zero => intro x2 M hF; exact absurd hF (by unfold f_X11_nextStep_2; exact fun h => nomatch h)
  | succ n ih =>
    intro x2 M hF
    unfold f_X11_nextStep_2 at hF
    refine g_iload_n (Y := YX11_nextStep) (pc := 2) 2 dX11_nextStep_2 rfl ?_
    refine g_aload_n (Y := YX11_nextStep) (pc := 3) 0 dX11_nextStep_3 rfl ?_
    refine u_getI (Y := YX11_nextStep) (pc := 4) dX11_nextStep_4 fl_X11_113 k_174 ?_
    refine g_icmp_ge (Y := YX11_nextStep) (pc := 7) (tgt := 52) dX11_nextStep_7 rfl (fun c1 => ?_) (fun c1 => ?_)
    · replace hF := if_f c1 hF
      refine g_iconst (Y := YX11_nextStep) (pc := 52) dX11_nextStep_52 kI_m1 ?_
      exact s_iret (Y := YX11_nextStep) (pc := 53) dX11_nextStep_53 rfl hF
    · replace hF := if_t c1 hF
      refine g_aload_n (Y := YX11_nextStep) (pc := 10) 0 dX11_nextStep_10 rfl ?_
      refine g_aload_n (Y := YX11_nextStep) (pc := 11) 1 dX11_nextStep_11 rfl ?_
      refine g_iload_n (Y := YX11_nextStep) (pc := 12) 2 dX11_nextStep_12 rfl ?_
      obtain ⟨r2, M3, e4, hF⟩ := bd_some hF
      refine s_callVi (Y := YX11_nextStep) (pc := 13) (as := [.ref a1, .int x2]) (st := []) (r_X11_isInside ha1 e4) miX11_isInside lk_X11_224 dX11_nextStep_13 k_174 rfl (Nat.le_of_ble_eq_true rfl) (Nat.le_of_ble_eq_true rfl) rfl ?_
      clear e4
      refine g_if_eq (Y := YX11_nextStep) (pc := 16) (tgt := 46) dX11_nextStep_16 rfl (fun c5 => ?_) (fun c5 => ?_)
      · replace hF := if_t c5 hF
        exact w_X11_nextStep_46 ha1 ih _ _ hF
      · replace hF := if_f c5 hF
        refine g_aload_n (Y := YX11_nextStep) (pc := 19) 1 dX11_nextStep_19 rfl ?_
        refine g_bipush (Y := YX11_nextStep) (pc := 20) dX11_nextStep_20 kB_6 ?_
        refine g_iload_n (Y := YX11_nextStep) (pc := 22) 2 dX11_nextStep_22 rfl ?_
        refine g_iadd (Y := YX11_nextStep) (pc := 23) dX11_nextStep_23 ?_
        obtain ⟨g7, hF⟩ := gd_some hF
        refine s_iald (Y := YX11_nextStep) (pc := 24) dX11_nextStep_24 ha1 rfl g7 ?_
        refine g_if_ne (Y := YX11_nextStep) (pc := 25) (tgt := 46) dX11_nextStep_25 rfl (fun c8 => ?_) (fun c8 => ?_)
        · replace hF := if_f c8 hF
          exact w_X11_nextStep_46 ha1 ih _ _ hF
        · replace hF := if_t c8 hF
          refine g_aload_n (Y := YX11_nextStep) (pc := 28) 0 dX11_nextStep_28 rfl ?_
          refine g_aload_n (Y := YX11_nextStep) (pc := 29) 1 dX11_nextStep_29 rfl ?_
          refine g_aload_n (Y := YX11_nextStep) (pc := 30) 0 dX11_nextStep_30 rfl ?_
          refine g_iload_n (Y := YX11_nextStep) (pc := 31) 2 dX11_nextStep_31 rfl ?_
          refine g_aload_n (Y := YX11_nextStep) (pc := 32) 1 dX11_nextStep_32 rfl ?_
          refine g_iload_n (Y := YX11_nextStep) (pc := 33) 2 dX11_nextStep_33 rfl ?_
          obtain ⟨g9, hF⟩ := gd_some hF
          refine s_iald (Y := YX11_nextStep) (pc := 34) dX11_nextStep_34 ha1 rfl g9 ?_
          obtain ⟨r10, M11, e12, hF⟩ := bd_some hF
          refine s_callVi (Y := YX11_nextStep) (pc := 35) (as := [.int x2, .int (M3 a1 x2.toNatClampNeg)]) (st := [.ref a1, .ref 174]) (r_X11_nextRoom  e12) miX11_nextRoom lk_X11_252 dX11_nextStep_35 k_174 rfl (Nat.le_of_ble_eq_true rfl) (Nat.le_of_ble_eq_true rfl) rfl ?_
          clear e12
          obtain ⟨r13, M14, e15, hF⟩ := bd_some hF
          refine s_callVi (Y := YX11_nextStep) (pc := 38) (as := [.ref a1, .int r10]) (st := []) (r_X11_isFree ha1 e15) miX11_isFree lk_X11_249 dX11_nextStep_38 k_174 rfl (Nat.le_of_ble_eq_true rfl) (Nat.le_of_ble_eq_true rfl) rfl ?_
          clear e15
          refine g_if_eq (Y := YX11_nextStep) (pc := 41) (tgt := 46) dX11_nextStep_41 rfl (fun c16 => ?_) (fun c16 => ?_)
          · replace hF := if_t c16 hF
            exact w_X11_nextStep_46 ha1 ih _ _ hF
          · replace hF := if_f c16 hF
            refine g_iload_n (Y := YX11_nextStep) (pc := 44) 2 dX11_nextStep_44 rfl ?_
            exact s_iret (Y := YX11_nextStep) (pc := 45) dX11_nextStep_45 rfl hF
def f_X11_nextStep_0 (a1 : Nat) (M : Mem) : Option (Int32 × Mem) :=
  f_X11_nextStep_2 a1 FU 0 M
set_option maxRecDepth 100000 in
theorem w_X11_nextStep_0 {R : Int32} {M' : Mem} {a1 : Nat} (ha1 : kinds[a1]? = some 14) (M : Mem) (hF : f_X11_nextStep_0 a1  M = some (R, M')) : RunF l D cy ad none YX11_nextStep 3 0 0 (some (.int R)) (lay X M') 0 0 0 [(0, .ref 174), (1, .ref a1)] [] (lay X M) := by
  unfold f_X11_nextStep_0 at hF
  refine g_iconst (Y := YX11_nextStep) (pc := 0) dX11_nextStep_0 kI_0 ?_
  refine g_istore_n (Y := YX11_nextStep) (pc := 1) (L' := [(2, .int 0), (0, .ref 174), (1, .ref a1)]) dX11_nextStep_1 (Nat.le_of_ble_eq_true rfl) rfl ?_
  refine g_loc [1, 2, 0] rfl ?_
  exact w_X11_nextStep_2 ha1 _ _ _ hF
def f_X11_nextStep (a1 : Nat) (M : Mem) : Option (Int32 × Mem) := f_X11_nextStep_0 a1 M
theorem r_X11_nextStep {a1 : Nat} {R : Int32} {M M' : Mem} (ha1 : kinds[a1]? = some 14) (hF : f_X11_nextStep a1 M = some (R, M')) : RunS l D cy ad YX11_nextStep 3 [.ref 174, .ref a1] X M (some (.int R)) M' := Run.of 1 (miX11_nextStep).1 (Nat.le_of_ble_eq_true rfl) (w_X11_nextStep_0 ha1 _ hF)
def f_X11_goMinute_223 (K172 : Int32 → Mem → Option (Int32 × Mem)) (a1 : Nat) (x2 : Int32) (M : Mem) : Option (Int32 × Mem) :=
  vl (x2 + 1) fun v17 =>
  K172 v17 M
set_option maxRecDepth 100000 in
theorem w_X11_goMinute_223 {R : Int32} {M' : Mem} {a1 : Nat} {K172 : Int32 → Mem → Option (Int32 × Mem)} (ha1 : kinds[a1]? = some 14) (hK172 : ∀ (x2 : Int32) (M : Mem), K172 x2 M = some (R, M') → RunF l D cy ad none YX11_goMinute 4 0 0 none (lay X M') 0 0 172 [(0, .ref 174), (1, .ref a1), (2, .int x2)] [] (lay X M)) (x2 : Int32) (M : Mem) (hF : f_X11_goMinute_223 K172 a1 x2 M = some (R, M')) : RunF l D cy ad none YX11_goMinute 4 0 0 none (lay X M') 0 0 223 [(0, .ref 174), (1, .ref a1), (2, .int x2)] [] (lay X M) := by
  unfold f_X11_goMinute_223 at hF
  refine s_iinc (Y := YX11_goMinute) (pc := 223) (j := 2) (L' := fun y => [(2, .int y), (0, .ref 174), (1, .ref a1)]) dX11_goMinute_223 kI_1 rfl (Nat.le_of_ble_eq_true rfl) (fun _ => rfl) (fun v17 e => ?_)
  replace hF := vl_to e hF; clear e
  refine g_goto (Y := YX11_goMinute) (pc := 226) (tgt := 172) dX11_goMinute_226 rfl ?_
  refine g_loc [1, 2, 0] rfl ?_
  exact hK172 _ _ hF
def f_X11_goMinute_172 (a1 : Nat) : Nat → Int32 → Mem → Option (Int32 × Mem)
  | 0, _, _ => none
  | n + 1, x2, M =>
    if x2 < (M 174 3) then
      bd (f_X11_isInside a1 x2 M) fun r13 M14 =>
      if r13 = 0 then
        f_X11_goMinute_223 (f_X11_goMinute_172 a1 n) a1 x2 M14
      else
        gd (0 ≤ (6 + x2) ∧ (6 + x2).toNatClampNeg < LN a1) <|
        if 0 < (M14 a1 (6 + x2).toNatClampNeg) then
          f_X11_goMinute_223 (f_X11_goMinute_172 a1 n) a1 x2 M14
        else
          ml (up M14 174 31 ((M14 174 31) ||| (1 <<< (x2 &&& 31)))) fun M20 =>
          gd (0 ≤ (12 + x2) ∧ (12 + x2).toNatClampNeg < LN a1) <|
          gd (0 ≤ (12 + x2) ∧ (12 + x2).toNatClampNeg < LN a1) <|
          ml (up M20 a1 (12 + x2).toNatClampNeg ((M20 a1 (12 + x2).toNatClampNeg) + 1)) fun M23 =>
          f_X11_goMinute_223 (f_X11_goMinute_172 a1 n) a1 x2 M23
    else
      some (0, M)
set_option maxRecDepth 100000 in
theorem w_X11_goMinute_172 {R : Int32} {M' : Mem} {a1 : Nat} (ha1 : kinds[a1]? = some 14) : ∀ (n : Nat) (x2 : Int32) (M : Mem), f_X11_goMinute_172 a1 n x2 M = some (R, M') → RunF l D cy ad none YX11_goMinute 4 0 0 none (lay X M') 0 0 172 [(0, .ref 174), (1, .ref a1), (2, .int x2)] [] (lay X M) := by
  intro n
  induction n with
  | zero => intro x2 M hF; exact absurd hF (by unfold f_X11_goMinute_172; exact fun h => nomatch h)
  | succ n ih =>
    intro x2 M hF
    unfold f_X11_goMinute_172 at hF
    refine g_iload_n (Y := YX11_goMinute) (pc := 172) 2 dX11_goMinute_172 rfl ?_
    refine g_aload_n (Y := YX11_goMinute) (pc := 173) 0 dX11_goMinute_173 rfl ?_
    refine u_getI (Y := YX11_goMinute) (pc := 174) dX11_goMinute_174 fl_X11_113 k_174 ?_
    refine g_icmp_ge (Y := YX11_goMinute) (pc := 177) (tgt := 229) dX11_goMinute_177 rfl (fun c12 => ?_) (fun c12 => ?_)
    · replace hF := if_f c12 hF
      exact s_vret (Y := YX11_goMinute) (pc := 229) dX11_goMinute_229 rfl hF
    · replace hF := if_t c12 hF
      refine g_aload_n (Y := YX11_goMinute) (pc := 180) 0 dX11_goMinute_180 rfl ?_
      refine g_aload_n (Y := YX11_goMinute) (pc := 181) 1 dX11_goMinute_181 rfl ?_
      refine g_iload_n (Y := YX11_goMinute) (pc := 182) 2 dX11_goMinute_182 rfl ?_
      obtain ⟨r13, M14, e15, hF⟩ := bd_some hF
      refine s_callVi (Y := YX11_goMinute) (pc := 183) (as := [.ref a1, .int x2]) (st := []) (r_X11_isInside ha1 e15) miX11_isInside lk_X11_224 dX11_goMinute_183 k_174 rfl (Nat.le_of_ble_eq_true rfl) (Nat.le_of_ble_eq_true rfl) rfl ?_
      clear e15
      refine g_if_eq (Y := YX11_goMinute) (pc := 186) (tgt := 223) dX11_goMinute_186 rfl (fun c16 => ?_) (fun c16 => ?_)
      · replace hF := if_t c16 hF
        exact w_X11_goMinute_223 ha1 ih _ _ hF
      · replace hF := if_f c16 hF
        refine g_aload_n (Y := YX11_goMinute) (pc := 189) 1 dX11_goMinute_189 rfl ?_
        refine g_bipush (Y := YX11_goMinute) (pc := 190) dX11_goMinute_190 kB_6 ?_
        refine g_iload_n (Y := YX11_goMinute) (pc := 192) 2 dX11_goMinute_192 rfl ?_
        refine g_iadd (Y := YX11_goMinute) (pc := 193) dX11_goMinute_193 ?_
        obtain ⟨g18, hF⟩ := gd_some hF
        refine s_iald (Y := YX11_goMinute) (pc := 194) dX11_goMinute_194 ha1 rfl g18 ?_
        refine g_if_le (Y := YX11_goMinute) (pc := 195) (tgt := 201) dX11_goMinute_195 rfl (fun c19 => ?_) (fun c19 => ?_)
        · replace hF := if_f c19 hF
          refine g_aload_n (Y := YX11_goMinute) (pc := 201) 0 dX11_goMinute_201 rfl ?_
          refine g_dup (Y := YX11_goMinute) (pc := 202) dX11_goMinute_202 rfl ?_
          refine u_getI (Y := YX11_goMinute) (pc := 203) dX11_goMinute_203 fl_X11_258 k_174 ?_
          refine g_iconst (Y := YX11_goMinute) (pc := 206) dX11_goMinute_206 kI_1 ?_
          refine g_iload_n (Y := YX11_goMinute) (pc := 207) 2 dX11_goMinute_207 rfl ?_
          refine g_ishl (Y := YX11_goMinute) (pc := 208) dX11_goMinute_208 ?_
          refine g_ior (Y := YX11_goMinute) (pc := 209) dX11_goMinute_209 ?_
          refine u_putI (Y := YX11_goMinute) (pc := 210) dX11_goMinute_210 fl_X11_258  k_174 ?_
          refine g_nmM (fun M20 e => ?_)
          replace hF := ml_to e hF; clear e
          refine g_aload_n (Y := YX11_goMinute) (pc := 213) 1 dX11_goMinute_213 rfl ?_
          refine g_bipush (Y := YX11_goMinute) (pc := 214) dX11_goMinute_214 kB_12 ?_
          refine g_iload_n (Y := YX11_goMinute) (pc := 216) 2 dX11_goMinute_216 rfl ?_
          refine g_iadd (Y := YX11_goMinute) (pc := 217) dX11_goMinute_217 ?_
          refine g_dup2 (Y := YX11_goMinute) (pc := 218) dX11_goMinute_218 rfl rfl ?_
          obtain ⟨g21, hF⟩ := gd_some hF
          refine s_iald (Y := YX11_goMinute) (pc := 219) dX11_goMinute_219 ha1 rfl g21 ?_
          refine g_iconst (Y := YX11_goMinute) (pc := 220) dX11_goMinute_220 kI_1 ?_
          refine g_iadd (Y := YX11_goMinute) (pc := 221) dX11_goMinute_221 ?_
          obtain ⟨g22, hF⟩ := gd_some hF
          refine s_iast (Y := YX11_goMinute) (pc := 222) dX11_goMinute_222 ha1 rfl g22 ?_
          refine g_nmM (fun M23 e => ?_)
          replace hF := ml_to e hF; clear e
          exact w_X11_goMinute_223 ha1 ih _ _ hF
        · replace hF := if_t c19 hF
          refine g_goto (Y := YX11_goMinute) (pc := 198) (tgt := 223) dX11_goMinute_198 rfl ?_
          exact w_X11_goMinute_223 ha1 ih _ _ hF
def f_X11_goMinute_161 (K72 : Int32 → Mem → Option (Int32 × Mem)) (a1 : Nat) (M : Mem) : Option (Int32 × Mem) :=
  bd (f_X11_nextStep a1 M) fun r38 M39 =>
  K72 r38 M39
set_option maxRecDepth 100000 in
theorem w_X11_goMinute_161 {R : Int32} {M' : Mem} {a1 : Nat} {K72 : Int32 → Mem → Option (Int32 × Mem)} (ha1 : kinds[a1]? = some 14) (hK72 : ∀ (x2 : Int32) (M : Mem), K72 x2 M = some (R, M') → RunF l D cy ad none YX11_goMinute 4 0 0 none (lay X M') 0 0 72 [(0, .ref 174), (1, .ref a1), (2, .int x2)] [] (lay X M)) (M : Mem) (hF : f_X11_goMinute_161 K72 a1  M = some (R, M')) : RunF l D cy ad none YX11_goMinute 4 0 0 none (lay X M') 0 0 161 [(0, .ref 174), (1, .ref a1)] [] (lay X M) := by
  unfold f_X11_goMinute_161 at hF
  refine g_aload_n (Y := YX11_goMinute) (pc := 161) 0 dX11_goMinute_161 rfl ?_
  refine g_aload_n (Y := YX11_goMinute) (pc := 162) 1 dX11_goMinute_162 rfl ?_
  obtain ⟨r38, M39, e40, hF⟩ := bd_some hF
  refine s_callVi (Y := YX11_goMinute) (pc := 163) (as := [.ref a1]) (st := []) (r_X11_nextStep ha1 e40) miX11_nextStep lk_X11_264 dX11_goMinute_163 k_174 rfl (Nat.le_of_ble_eq_true rfl) (Nat.le_of_ble_eq_true rfl) rfl ?_
  clear e40
  refine g_istore_n (Y := YX11_goMinute) (pc := 166) (L' := [(2, .int r38), (0, .ref 174), (1, .ref a1)]) dX11_goMinute_166 (Nat.le_of_ble_eq_true rfl) rfl ?_
  refine g_goto (Y := YX11_goMinute) (pc := 167) (tgt := 72) dX11_goMinute_167 rfl ?_
  refine g_loc [1, 2, 0] rfl ?_
  exact hK72 _ _ hF
def f_X11_goMinute_72 (a1 : Nat) : Nat → Int32 → Mem → Option (Int32 × Mem)
  | 0, _, _ => none
  | n + 1, x2, M =>
    if x2 = (-1) then
      f_X11_goMinute_172 a1 FU 0 M
    else
      gd (0 ≤ x2 ∧ x2.toNatClampNeg < LN a1) <|
      bd (f_X11_nextRoom x2 (M a1 x2.toNatClampNeg) M) fun r25 M26 =>
      gd (0 ≤ x2 ∧ x2.toNatClampNeg < LN a1) <|
      ml (up M26 a1 x2.toNatClampNeg r25) fun M29 =>
      ml (up M29 174 30 ((M29 174 30) ||| (1 <<< (x2 &&& 31)))) fun M30 =>
      gd (0 ≤ x2 ∧ x2.toNatClampNeg < LN a1) <|
      if (M30 a1 x2.toNatClampNeg) = 9 then
        ml (up M30 174 32 ((M30 174 32) ||| (1 <<< (x2 &&& 31)))) fun M41 =>
        gd (0 ≤ (24 : Int32) ∧ (24 : Int32).toNatClampNeg < LN a1) <|
        gd (0 ≤ (18 + x2) ∧ (18 + x2).toNatClampNeg < LN a1) <|
        ml (up M41 a1 (18 + x2).toNatClampNeg ((M41 a1 (24 : Int32).toNatClampNeg) - 1)) fun M44 =>
        gd (0 ≤ (6 + x2) ∧ (6 + x2).toNatClampNeg < LN a1) <|
        ml (up M44 a1 (6 + x2).toNatClampNeg 0) fun M46 =>
        f_X11_goMinute_161 (f_X11_goMinute_72 a1 n) a1 M46
      else
        gd (0 ≤ x2 ∧ x2.toNatClampNeg < LN a1) <|
        gd (0 ≤ ((6 * x2) + (M30 a1 x2.toNatClampNeg)) ∧ ((6 * x2) + (M30 a1 x2.toNatClampNeg)).toNatClampNeg < 36) <|
        vl ((M30 187 ((6 * x2) + (M30 a1 x2.toNatClampNeg)).toNatClampNeg)) fun v35 =>
        gd (0 ≤ (6 + x2) ∧ (6 + x2).toNatClampNeg < LN a1) <|
        ml (up M30 a1 (6 + x2).toNatClampNeg v35) fun M37 =>
        f_X11_goMinute_161 (f_X11_goMinute_72 a1 n) a1 M37
set_option maxRecDepth 100000 in
theorem w_X11_goMinute_72 {R : Int32} {M' : Mem} {a1 : Nat} (ha1 : kinds[a1]? = some 14) : ∀ (n : Nat) (x2 : Int32) (M : Mem), f_X11_goMinute_72 a1 n x2 M = some (R, M') → RunF l D cy ad none YX11_goMinute 4 0 0 none (lay X M') 0 0 72 [(0, .ref 174), (1, .ref a1), (2, .int x2)] [] (lay X M) := by
  intro n
  induction n with
  | zero => intro x2 M hF; exact absurd hF (by unfold f_X11_goMinute_72; exact fun h => nomatch h)
  | succ n ih =>
    intro x2 M hF
    unfold f_X11_goMinute_72 at hF
    refine g_iload_n (Y := YX11_goMinute) (pc := 72) 2 dX11_goMinute_72 rfl ?_
    refine g_iconst (Y := YX11_goMinute) (pc := 73) dX11_goMinute_73 kI_m1 ?_
    refine g_icmp_eq (Y := YX11_goMinute) (pc := 74) (tgt := 170) dX11_goMinute_74 rfl (fun c11 => ?_) (fun c11 => ?_)
    · replace hF := if_t c11 hF
      refine g_iconst (Y := YX11_goMinute) (pc := 170) dX11_goMinute_170 kI_0 ?_
      refine g_istore_n (Y := YX11_goMinute) (pc := 171) (L' := [(2, .int 0), (0, .ref 174), (1, .ref a1)]) dX11_goMinute_171 (Nat.le_of_ble_eq_true rfl) rfl ?_
      refine g_loc [1, 2, 0] rfl ?_
      exact w_X11_goMinute_172 ha1 _ _ _ hF
    · replace hF := if_f c11 hF
      refine g_aload_n (Y := YX11_goMinute) (pc := 77) 1 dX11_goMinute_77 rfl ?_
      refine g_iload_n (Y := YX11_goMinute) (pc := 78) 2 dX11_goMinute_78 rfl ?_
      refine g_aload_n (Y := YX11_goMinute) (pc := 79) 0 dX11_goMinute_79 rfl ?_
      refine g_iload_n (Y := YX11_goMinute) (pc := 80) 2 dX11_goMinute_80 rfl ?_
      refine g_aload_n (Y := YX11_goMinute) (pc := 81) 1 dX11_goMinute_81 rfl ?_
      refine g_iload_n (Y := YX11_goMinute) (pc := 82) 2 dX11_goMinute_82 rfl ?_
      obtain ⟨g24, hF⟩ := gd_some hF
      refine s_iald (Y := YX11_goMinute) (pc := 83) dX11_goMinute_83 ha1 rfl g24 ?_
      obtain ⟨r25, M26, e27, hF⟩ := bd_some hF
      refine s_callVi (Y := YX11_goMinute) (pc := 84) (as := [.int x2, .int (M a1 x2.toNatClampNeg)]) (st := [.int x2, .ref a1]) (r_X11_nextRoom  e27) miX11_nextRoom lk_X11_252 dX11_goMinute_84 k_174 rfl (Nat.le_of_ble_eq_true rfl) (Nat.le_of_ble_eq_true rfl) rfl ?_
      clear e27
      obtain ⟨g28, hF⟩ := gd_some hF
      refine s_iast (Y := YX11_goMinute) (pc := 87) dX11_goMinute_87 ha1 rfl g28 ?_
      refine g_nmM (fun M29 e => ?_)
      replace hF := ml_to e hF; clear e
      refine g_aload_n (Y := YX11_goMinute) (pc := 88) 0 dX11_goMinute_88 rfl ?_
      refine g_dup (Y := YX11_goMinute) (pc := 89) dX11_goMinute_89 rfl ?_
      refine u_getI (Y := YX11_goMinute) (pc := 90) dX11_goMinute_90 fl_X11_255 k_174 ?_
      refine g_iconst (Y := YX11_goMinute) (pc := 93) dX11_goMinute_93 kI_1 ?_
      refine g_iload_n (Y := YX11_goMinute) (pc := 94) 2 dX11_goMinute_94 rfl ?_
      refine g_ishl (Y := YX11_goMinute) (pc := 95) dX11_goMinute_95 ?_
      refine g_ior (Y := YX11_goMinute) (pc := 96) dX11_goMinute_96 ?_
      refine u_putI (Y := YX11_goMinute) (pc := 97) dX11_goMinute_97 fl_X11_255  k_174 ?_
      refine g_nmM (fun M30 e => ?_)
      replace hF := ml_to e hF; clear e
      refine g_aload_n (Y := YX11_goMinute) (pc := 100) 1 dX11_goMinute_100 rfl ?_
      refine g_iload_n (Y := YX11_goMinute) (pc := 101) 2 dX11_goMinute_101 rfl ?_
      obtain ⟨g31, hF⟩ := gd_some hF
      refine s_iald (Y := YX11_goMinute) (pc := 102) dX11_goMinute_102 ha1 rfl g31 ?_
      refine g_bipush (Y := YX11_goMinute) (pc := 103) dX11_goMinute_103 kB_9 ?_
      refine g_icmp_ne (Y := YX11_goMinute) (pc := 105) (tgt := 142) dX11_goMinute_105 rfl (fun c32 => ?_) (fun c32 => ?_)
      · replace hF := if_f c32 hF
        refine g_aload_n (Y := YX11_goMinute) (pc := 142) 1 dX11_goMinute_142 rfl ?_
        refine g_bipush (Y := YX11_goMinute) (pc := 143) dX11_goMinute_143 kB_6 ?_
        refine g_iload_n (Y := YX11_goMinute) (pc := 145) 2 dX11_goMinute_145 rfl ?_
        refine g_iadd (Y := YX11_goMinute) (pc := 146) dX11_goMinute_146 ?_
        refine g_aload_n (Y := YX11_goMinute) (pc := 147) 0 dX11_goMinute_147 rfl ?_
        refine u_getR (Y := YX11_goMinute) (pc := 148) (j := 187) dX11_goMinute_148 fl_X11_48 k_174 rf_174_26 ?_
        refine g_bipush (Y := YX11_goMinute) (pc := 151) dX11_goMinute_151 kB_6 ?_
        refine g_iload_n (Y := YX11_goMinute) (pc := 153) 2 dX11_goMinute_153 rfl ?_
        refine g_imul (Y := YX11_goMinute) (pc := 154) dX11_goMinute_154 ?_
        refine g_aload_n (Y := YX11_goMinute) (pc := 155) 1 dX11_goMinute_155 rfl ?_
        refine g_iload_n (Y := YX11_goMinute) (pc := 156) 2 dX11_goMinute_156 rfl ?_
        obtain ⟨g33, hF⟩ := gd_some hF
        refine s_iald (Y := YX11_goMinute) (pc := 157) dX11_goMinute_157 ha1 rfl g33 ?_
        refine g_iadd (Y := YX11_goMinute) (pc := 158) dX11_goMinute_158 ?_
        obtain ⟨g34, hF⟩ := gd_some hF
        refine s_iald (Y := YX11_goMinute) (pc := 159) dX11_goMinute_159 k_187 n_187 g34 ?_
        refine g_nm (fun v35 e => ?_)
        replace hF := vl_to e hF; clear e
        obtain ⟨g36, hF⟩ := gd_some hF
        refine s_iast (Y := YX11_goMinute) (pc := 160) dX11_goMinute_160 ha1 rfl g36 ?_
        refine g_nmM (fun M37 e => ?_)
        replace hF := ml_to e hF; clear e
        refine g_loc [0, 1] rfl ?_
        exact w_X11_goMinute_161 ha1 ih _ hF
      · replace hF := if_t c32 hF
        refine g_aload_n (Y := YX11_goMinute) (pc := 108) 0 dX11_goMinute_108 rfl ?_
        refine g_dup (Y := YX11_goMinute) (pc := 109) dX11_goMinute_109 rfl ?_
        refine u_getI (Y := YX11_goMinute) (pc := 110) dX11_goMinute_110 fl_X11_261 k_174 ?_
        refine g_iconst (Y := YX11_goMinute) (pc := 113) dX11_goMinute_113 kI_1 ?_
        refine g_iload_n (Y := YX11_goMinute) (pc := 114) 2 dX11_goMinute_114 rfl ?_
        refine g_ishl (Y := YX11_goMinute) (pc := 115) dX11_goMinute_115 ?_
        refine g_ior (Y := YX11_goMinute) (pc := 116) dX11_goMinute_116 ?_
        refine u_putI (Y := YX11_goMinute) (pc := 117) dX11_goMinute_117 fl_X11_261  k_174 ?_
        refine g_nmM (fun M41 e => ?_)
        replace hF := ml_to e hF; clear e
        refine g_aload_n (Y := YX11_goMinute) (pc := 120) 1 dX11_goMinute_120 rfl ?_
        refine g_bipush (Y := YX11_goMinute) (pc := 121) dX11_goMinute_121 kB_18 ?_
        refine g_iload_n (Y := YX11_goMinute) (pc := 123) 2 dX11_goMinute_123 rfl ?_
        refine g_iadd (Y := YX11_goMinute) (pc := 124) dX11_goMinute_124 ?_
        refine g_aload_n (Y := YX11_goMinute) (pc := 125) 1 dX11_goMinute_125 rfl ?_
        refine g_bipush (Y := YX11_goMinute) (pc := 126) dX11_goMinute_126 kB_24 ?_
        obtain ⟨g42, hF⟩ := gd_some hF
        refine s_iald (Y := YX11_goMinute) (pc := 128) dX11_goMinute_128 ha1 rfl g42 ?_
        refine g_iconst (Y := YX11_goMinute) (pc := 129) dX11_goMinute_129 kI_1 ?_
        refine g_isub (Y := YX11_goMinute) (pc := 130) dX11_goMinute_130 ?_
        obtain ⟨g43, hF⟩ := gd_some hF
        refine s_iast (Y := YX11_goMinute) (pc := 131) dX11_goMinute_131 ha1 rfl g43 ?_
        refine g_nmM (fun M44 e => ?_)
        replace hF := ml_to e hF; clear e
        refine g_aload_n (Y := YX11_goMinute) (pc := 132) 1 dX11_goMinute_132 rfl ?_
        refine g_bipush (Y := YX11_goMinute) (pc := 133) dX11_goMinute_133 kB_6 ?_
        refine g_iload_n (Y := YX11_goMinute) (pc := 135) 2 dX11_goMinute_135 rfl ?_
        refine g_iadd (Y := YX11_goMinute) (pc := 136) dX11_goMinute_136 ?_
        refine g_iconst (Y := YX11_goMinute) (pc := 137) dX11_goMinute_137 kI_0 ?_
        obtain ⟨g45, hF⟩ := gd_some hF
        refine s_iast (Y := YX11_goMinute) (pc := 138) dX11_goMinute_138 ha1 rfl g45 ?_
        refine g_nmM (fun M46 e => ?_)
        replace hF := ml_to e hF; clear e
        refine g_goto (Y := YX11_goMinute) (pc := 139) (tgt := 161) dX11_goMinute_139 rfl ?_
        refine g_loc [0, 1] rfl ?_
        exact w_X11_goMinute_161 ha1 ih _ hF
def f_X11_goMinute_52 (K17 : Int32 → Mem → Option (Int32 × Mem)) (a1 : Nat) (x2 : Int32) (M : Mem) : Option (Int32 × Mem) :=
  vl (x2 + 1) fun v51 =>
  K17 v51 M
set_option maxRecDepth 100000 in
theorem w_X11_goMinute_52 {R : Int32} {M' : Mem} {a1 : Nat} {K17 : Int32 → Mem → Option (Int32 × Mem)} (ha1 : kinds[a1]? = some 14) (hK17 : ∀ (x2 : Int32) (M : Mem), K17 x2 M = some (R, M') → RunF l D cy ad none YX11_goMinute 4 0 0 none (lay X M') 0 0 17 [(0, .ref 174), (1, .ref a1), (2, .int x2)] [] (lay X M)) (x2 : Int32) (M : Mem) (hF : f_X11_goMinute_52 K17 a1 x2 M = some (R, M')) : RunF l D cy ad none YX11_goMinute 4 0 0 none (lay X M') 0 0 52 [(0, .ref 174), (1, .ref a1), (2, .int x2)] [] (lay X M) := by
  unfold f_X11_goMinute_52 at hF
  refine s_iinc (Y := YX11_goMinute) (pc := 52) (j := 2) (L' := fun y => [(2, .int y), (0, .ref 174), (1, .ref a1)]) dX11_goMinute_52 kI_1 rfl (Nat.le_of_ble_eq_true rfl) (fun _ => rfl) (fun v51 e => ?_)
  replace hF := vl_to e hF; clear e
  refine g_goto (Y := YX11_goMinute) (pc := 55) (tgt := 17) dX11_goMinute_55 rfl ?_
  refine g_loc [1, 2, 0] rfl ?_
  exact hK17 _ _ hF
def f_X11_goMinute_17 (a1 : Nat) : Nat → Int32 → Mem → Option (Int32 × Mem)
  | 0, _, _ => none
  | n + 1, x2, M =>
    if x2 < (M 174 3) then
      bd (f_X11_isInside a1 x2 M) fun r47 M48 =>
      if r47 = 0 then
        f_X11_goMinute_52 (f_X11_goMinute_17 a1 n) a1 x2 M48
      else
        gd (0 ≤ (6 + x2) ∧ (6 + x2).toNatClampNeg < LN a1) <|
        vl ((if (0 : Int32) < ((M48 a1 (6 + x2).toNatClampNeg) - 1) then ((M48 a1 (6 + x2).toNatClampNeg) - 1) else (0 : Int32))) fun v53 =>
        gd (0 ≤ (6 + x2) ∧ (6 + x2).toNatClampNeg < LN a1) <|
        ml (up M48 a1 (6 + x2).toNatClampNeg v53) fun M55 =>
        f_X11_goMinute_52 (f_X11_goMinute_17 a1 n) a1 x2 M55
    else
      gd (0 ≤ (24 : Int32) ∧ (24 : Int32).toNatClampNeg < LN a1) <|
      gd (0 ≤ (24 : Int32) ∧ (24 : Int32).toNatClampNeg < LN a1) <|
      ml (up M a1 (24 : Int32).toNatClampNeg ((M a1 (24 : Int32).toNatClampNeg) + 1)) fun M7 =>
      bd (f_X11_nextStep a1 M7) fun r8 M9 =>
      f_X11_goMinute_72 a1 FU r8 M9
set_option maxRecDepth 100000 in
theorem w_X11_goMinute_17 {R : Int32} {M' : Mem} {a1 : Nat} (ha1 : kinds[a1]? = some 14) : ∀ (n : Nat) (x2 : Int32) (M : Mem), f_X11_goMinute_17 a1 n x2 M = some (R, M') → RunF l D cy ad none YX11_goMinute 4 0 0 none (lay X M') 0 0 17 [(0, .ref 174), (1, .ref a1), (2, .int x2)] [] (lay X M) := by
  intro n
  induction n with
  | zero => intro x2 M hF; exact absurd hF (by unfold f_X11_goMinute_17; exact fun h => nomatch h)
  | succ n ih =>
    intro x2 M hF
    unfold f_X11_goMinute_17 at hF
    refine g_iload_n (Y := YX11_goMinute) (pc := 17) 2 dX11_goMinute_17 rfl ?_
    refine g_aload_n (Y := YX11_goMinute) (pc := 18) 0 dX11_goMinute_18 rfl ?_
    refine u_getI (Y := YX11_goMinute) (pc := 19) dX11_goMinute_19 fl_X11_113 k_174 ?_
    refine g_icmp_ge (Y := YX11_goMinute) (pc := 22) (tgt := 58) dX11_goMinute_22 rfl (fun c4 => ?_) (fun c4 => ?_)
    · replace hF := if_f c4 hF
      refine g_aload_n (Y := YX11_goMinute) (pc := 58) 1 dX11_goMinute_58 rfl ?_
      refine g_bipush (Y := YX11_goMinute) (pc := 59) dX11_goMinute_59 kB_24 ?_
      refine g_dup2 (Y := YX11_goMinute) (pc := 61) dX11_goMinute_61 rfl rfl ?_
      obtain ⟨g5, hF⟩ := gd_some hF
      refine s_iald (Y := YX11_goMinute) (pc := 62) dX11_goMinute_62 ha1 rfl g5 ?_
      refine g_iconst (Y := YX11_goMinute) (pc := 63) dX11_goMinute_63 kI_1 ?_
      refine g_iadd (Y := YX11_goMinute) (pc := 64) dX11_goMinute_64 ?_
      obtain ⟨g6, hF⟩ := gd_some hF
      refine s_iast (Y := YX11_goMinute) (pc := 65) dX11_goMinute_65 ha1 rfl g6 ?_
      refine g_nmM (fun M7 e => ?_)
      replace hF := ml_to e hF; clear e
      refine g_aload_n (Y := YX11_goMinute) (pc := 66) 0 dX11_goMinute_66 rfl ?_
      refine g_aload_n (Y := YX11_goMinute) (pc := 67) 1 dX11_goMinute_67 rfl ?_
      obtain ⟨r8, M9, e10, hF⟩ := bd_some hF
      refine s_callVi (Y := YX11_goMinute) (pc := 68) (as := [.ref a1]) (st := []) (r_X11_nextStep ha1 e10) miX11_nextStep lk_X11_264 dX11_goMinute_68 k_174 rfl (Nat.le_of_ble_eq_true rfl) (Nat.le_of_ble_eq_true rfl) rfl ?_
      clear e10
      refine g_istore_n (Y := YX11_goMinute) (pc := 71) (L' := [(2, .int r8), (0, .ref 174), (1, .ref a1)]) dX11_goMinute_71 (Nat.le_of_ble_eq_true rfl) rfl ?_
      refine g_loc [1, 2, 0] rfl ?_
      exact w_X11_goMinute_72 ha1 _ _ _ hF
    · replace hF := if_t c4 hF
      refine g_aload_n (Y := YX11_goMinute) (pc := 25) 0 dX11_goMinute_25 rfl ?_
      refine g_aload_n (Y := YX11_goMinute) (pc := 26) 1 dX11_goMinute_26 rfl ?_
      refine g_iload_n (Y := YX11_goMinute) (pc := 27) 2 dX11_goMinute_27 rfl ?_
      obtain ⟨r47, M48, e49, hF⟩ := bd_some hF
      refine s_callVi (Y := YX11_goMinute) (pc := 28) (as := [.ref a1, .int x2]) (st := []) (r_X11_isInside ha1 e49) miX11_isInside lk_X11_224 dX11_goMinute_28 k_174 rfl (Nat.le_of_ble_eq_true rfl) (Nat.le_of_ble_eq_true rfl) rfl ?_
      clear e49
      refine g_if_eq (Y := YX11_goMinute) (pc := 31) (tgt := 52) dX11_goMinute_31 rfl (fun c50 => ?_) (fun c50 => ?_)
      · replace hF := if_t c50 hF
        exact w_X11_goMinute_52 ha1 ih _ _ hF
      · replace hF := if_f c50 hF
        refine g_aload_n (Y := YX11_goMinute) (pc := 34) 1 dX11_goMinute_34 rfl ?_
        refine g_bipush (Y := YX11_goMinute) (pc := 35) dX11_goMinute_35 kB_6 ?_
        refine g_iload_n (Y := YX11_goMinute) (pc := 37) 2 dX11_goMinute_37 rfl ?_
        refine g_iadd (Y := YX11_goMinute) (pc := 38) dX11_goMinute_38 ?_
        refine g_iconst (Y := YX11_goMinute) (pc := 39) dX11_goMinute_39 kI_0 ?_
        refine g_aload_n (Y := YX11_goMinute) (pc := 40) 1 dX11_goMinute_40 rfl ?_
        refine g_bipush (Y := YX11_goMinute) (pc := 41) dX11_goMinute_41 kB_6 ?_
        refine g_iload_n (Y := YX11_goMinute) (pc := 43) 2 dX11_goMinute_43 rfl ?_
        refine g_iadd (Y := YX11_goMinute) (pc := 44) dX11_goMinute_44 ?_
        obtain ⟨g52, hF⟩ := gd_some hF
        refine s_iald (Y := YX11_goMinute) (pc := 45) dX11_goMinute_45 ha1 rfl g52 ?_
        refine g_iconst (Y := YX11_goMinute) (pc := 46) dX11_goMinute_46 kI_1 ?_
        refine g_isub (Y := YX11_goMinute) (pc := 47) dX11_goMinute_47 ?_
        refine s_max (Y := YX11_goMinute) (pc := 48) dX11_goMinute_48 lk_X11_218 w_max (Nat.le_of_ble_eq_true rfl) (Nat.le_of_ble_eq_true rfl) ?_
        refine g_nm (fun v53 e => ?_)
        replace hF := vl_to e hF; clear e
        obtain ⟨g54, hF⟩ := gd_some hF
        refine s_iast (Y := YX11_goMinute) (pc := 51) dX11_goMinute_51 ha1 rfl g54 ?_
        refine g_nmM (fun M55 e => ?_)
        replace hF := ml_to e hF; clear e
        exact w_X11_goMinute_52 ha1 ih _ _ hF
def f_X11_goMinute_0 (a1 : Nat) (M : Mem) : Option (Int32 × Mem) :=
  ml (up M 174 30 0) fun M1 =>
  ml (up M1 174 31 0) fun M2 =>
  ml (up M2 174 32 0) fun M3 =>
  f_X11_goMinute_17 a1 FU 0 M3
set_option maxRecDepth 100000 in
theorem w_X11_goMinute_0 {R : Int32} {M' : Mem} {a1 : Nat} (ha1 : kinds[a1]? = some 14) (M : Mem) (hF : f_X11_goMinute_0 a1  M = some (R, M')) : RunF l D cy ad none YX11_goMinute 4 0 0 none (lay X M') 0 0 0 [(0, .ref 174), (1, .ref a1)] [] (lay X M) := by
  unfold f_X11_goMinute_0 at hF
  refine g_aload_n (Y := YX11_goMinute) (pc := 0) 0 dX11_goMinute_0 rfl ?_
  refine g_iconst (Y := YX11_goMinute) (pc := 1) dX11_goMinute_1 kI_0 ?_
  refine u_putI (Y := YX11_goMinute) (pc := 2) dX11_goMinute_2 fl_X11_255  k_174 ?_
  refine g_nmM (fun M1 e => ?_)
  replace hF := ml_to e hF; clear e
  refine g_aload_n (Y := YX11_goMinute) (pc := 5) 0 dX11_goMinute_5 rfl ?_
  refine g_iconst (Y := YX11_goMinute) (pc := 6) dX11_goMinute_6 kI_0 ?_
  refine u_putI (Y := YX11_goMinute) (pc := 7) dX11_goMinute_7 fl_X11_258  k_174 ?_
  refine g_nmM (fun M2 e => ?_)
  replace hF := ml_to e hF; clear e
  refine g_aload_n (Y := YX11_goMinute) (pc := 10) 0 dX11_goMinute_10 rfl ?_
  refine g_iconst (Y := YX11_goMinute) (pc := 11) dX11_goMinute_11 kI_0 ?_
  refine u_putI (Y := YX11_goMinute) (pc := 12) dX11_goMinute_12 fl_X11_261  k_174 ?_
  refine g_nmM (fun M3 e => ?_)
  replace hF := ml_to e hF; clear e
  refine g_iconst (Y := YX11_goMinute) (pc := 15) dX11_goMinute_15 kI_0 ?_
  refine g_istore_n (Y := YX11_goMinute) (pc := 16) (L' := [(2, .int 0), (0, .ref 174), (1, .ref a1)]) dX11_goMinute_16 (Nat.le_of_ble_eq_true rfl) rfl ?_
  refine g_loc [1, 2, 0] rfl ?_
  exact w_X11_goMinute_17 ha1 _ _ _ hF
def f_X11_goMinute (a1 : Nat) (M : Mem) : Option (Int32 × Mem) := f_X11_goMinute_0 a1 M
theorem r_X11_goMinute {a1 : Nat} {R : Int32} {M M' : Mem} (ha1 : kinds[a1]? = some 14) (hF : f_X11_goMinute a1 M = some (R, M')) : RunS l D cy ad YX11_goMinute 4 [.ref 174, .ref a1] X M none M' := Run.of 1 (miX11_goMinute).1 (Nat.le_of_ble_eq_true rfl) (w_X11_goMinute_0 ha1 _ hF)
def f_X11_off_0  (x1 : Int32) (M : Mem) : Option (Int32 × Mem) :=
  ml (up M 174 14 0) fun M1 =>
  bd (f_X11_refusesOff 175 x1 M1) fun r2 M3 =>
  if r2 < 0 then
    some (r2, M3)
  else
    bd (f_X11_layStays M3) fun _ M7 =>
    bd (f_X11_remember 175 M7) fun _ M10 =>
    bd (f_X11_goOff 175 x1 M10) fun _ M13 =>
    bd (f_X11_inside 175 M13) fun r15 M16 =>
    bd (f_J6_bitCount_0f7a4 r15 M16) fun r18 M19 =>
    some (r18, M19)
set_option maxRecDepth 100000 in
theorem w_X11_off_0 {R : Int32} {M' : Mem}  (x1 : Int32) (M : Mem) (hF : f_X11_off_0 x1 M = some (R, M')) : RunF l D cy ad none YX11_off 406 0 0 (some (.int R)) (lay X M') 0 0 0 [(0, .ref 174), (1, .int x1)] [] (lay X M) := by
  unfold f_X11_off_0 at hF
  refine g_aload_n (Y := YX11_off) (pc := 0) 0 dX11_off_0 rfl ?_
  refine g_iconst (Y := YX11_off) (pc := 1) dX11_off_1 kI_0 ?_
  refine u_putI (Y := YX11_off) (pc := 2) dX11_off_2 fl_X11_99  k_174 ?_
  refine g_nmM (fun M1 e => ?_)
  replace hF := ml_to e hF; clear e
  refine g_aload_n (Y := YX11_off) (pc := 5) 0 dX11_off_5 rfl ?_
  refine g_aload_n (Y := YX11_off) (pc := 6) 0 dX11_off_6 rfl ?_
  refine u_getR (Y := YX11_off) (pc := 7) (j := 175) dX11_off_7 fl_X11_9 k_174 rf_174_0 ?_
  refine g_iload_n (Y := YX11_off) (pc := 10) 1 dX11_off_10 rfl ?_
  obtain ⟨r2, M3, e4, hF⟩ := bd_some hF
  refine s_callVi (Y := YX11_off) (pc := 11) (as := [.ref 175, .int x1]) (st := []) (r_X11_refusesOff k_175 e4) miX11_refusesOff lk_X11_268 dX11_off_11 k_174 rfl (Nat.le_of_ble_eq_true rfl) (Nat.le_of_ble_eq_true rfl) rfl ?_
  clear e4
  refine g_istore_n (Y := YX11_off) (pc := 14) (L' := [(2, .int r2), (0, .ref 174), (1, .int x1)]) dX11_off_14 (Nat.le_of_ble_eq_true rfl) rfl ?_
  refine g_iload_n (Y := YX11_off) (pc := 15) 0 dX11_off_15 rfl ?_
  refine g_if_ge (Y := YX11_off) (pc := 16) (tgt := 21) dX11_off_16 rfl (fun c5 => ?_) (fun c5 => ?_)
  · replace hF := if_f c5 hF
    refine g_aload_n (Y := YX11_off) (pc := 21) 1 dX11_off_21 rfl ?_
    obtain ⟨r6, M7, e8, hF⟩ := bd_some hF
    refine s_callVv (Y := YX11_off) (pc := 22) (as := []) (st := []) (r_X11_layStays  e8) miX11_layStays lk_X11_271 dX11_off_22 k_174 rfl (Nat.le_of_ble_eq_true rfl) (Nat.le_of_ble_eq_true rfl) rfl ?_
    clear e8
    refine g_aload_n (Y := YX11_off) (pc := 25) 1 dX11_off_25 rfl ?_
    refine g_aload_n (Y := YX11_off) (pc := 26) 1 dX11_off_26 rfl ?_
    refine u_getR (Y := YX11_off) (pc := 27) (j := 175) dX11_off_27 fl_X11_9 k_174 rf_174_0 ?_
    obtain ⟨r9, M10, e11, hF⟩ := bd_some hF
    refine s_callVv (Y := YX11_off) (pc := 30) (as := [.ref 175]) (st := []) (r_X11_remember k_175 e11) miX11_remember lk_X11_274 dX11_off_30 k_174 rfl (Nat.le_of_ble_eq_true rfl) (Nat.le_of_ble_eq_true rfl) rfl ?_
    clear e11
    refine g_aload_n (Y := YX11_off) (pc := 33) 1 dX11_off_33 rfl ?_
    refine g_aload_n (Y := YX11_off) (pc := 34) 1 dX11_off_34 rfl ?_
    refine u_getR (Y := YX11_off) (pc := 35) (j := 175) dX11_off_35 fl_X11_9 k_174 rf_174_0 ?_
    refine g_iload_n (Y := YX11_off) (pc := 38) 2 dX11_off_38 rfl ?_
    obtain ⟨r12, M13, e14, hF⟩ := bd_some hF
    refine s_callVv (Y := YX11_off) (pc := 39) (as := [.ref 175, .int x1]) (st := []) (r_X11_goOff k_175 e14) miX11_goOff lk_X11_278 dX11_off_39 k_174 rfl (Nat.le_of_ble_eq_true rfl) (Nat.le_of_ble_eq_true rfl) rfl ?_
    clear e14
    refine g_aload_n (Y := YX11_off) (pc := 42) 1 dX11_off_42 rfl ?_
    refine g_aload_n (Y := YX11_off) (pc := 43) 1 dX11_off_43 rfl ?_
    refine u_getR (Y := YX11_off) (pc := 44) (j := 175) dX11_off_44 fl_X11_9 k_174 rf_174_0 ?_
    obtain ⟨r15, M16, e17, hF⟩ := bd_some hF
    refine s_callVi (Y := YX11_off) (pc := 47) (as := [.ref 175]) (st := []) (r_X11_inside k_175 e17) miX11_inside lk_X11_282 dX11_off_47 k_174 rfl (Nat.le_of_ble_eq_true rfl) (Nat.le_of_ble_eq_true rfl) rfl ?_
    clear e17
    obtain ⟨r18, M19, e20, hF⟩ := bd_some hF
    refine s_callSi (Y := YX11_off) (pc := 50) (as := [.int r15]) (st := []) (r_J6_bitCount_0f7a4  e20) msJ6_bitCount_0f7a4 lk_X11_285 dX11_off_50 rfl (Nat.le_of_ble_eq_true rfl) (Nat.le_of_ble_eq_true rfl) rfl ?_
    clear e20
    exact s_iret (Y := YX11_off) (pc := 53) dX11_off_53 rfl hF
  · replace hF := if_t c5 hF
    refine g_iload_n (Y := YX11_off) (pc := 19) 0 dX11_off_19 rfl ?_
    exact s_iret (Y := YX11_off) (pc := 20) dX11_off_20 rfl hF
def f_X11_off (x1 : Int32) (M : Mem) : Option (Int32 × Mem) := f_X11_off_0 x1 M
theorem r_X11_off {x1 R : Int32} {M M' : Mem}  (hF : f_X11_off x1 M = some (R, M')) : RunS l D cy ad YX11_off 406 [.ref 174, .int x1] X M (some (.int R)) M' := Run.of 1 (miX11_off).1 (Nat.le_of_ble_eq_true rfl) (w_X11_off_0  _ _ hF)
def f_X11_canOver_35  (t0 : Int32) (M : Mem) : Option (Int32 × Mem) :=
  gd (t0 = 0 ∨ t0 = 1) <|
  some (t0, M)
set_option maxRecDepth 100000 in
theorem w_X11_canOver_35 {R : Int32} {M' : Mem}  (t0 : Int32) (M : Mem) (hF : f_X11_canOver_35 t0 M = some (R, M')) : RunF l D cy ad none YX11_canOver 2 0 0 (some (.int R)) (lay X M') 0 0 35 [] [.int t0] (lay X M) := by
  unfold f_X11_canOver_35 at hF
  obtain ⟨g5, hF⟩ := gd_some hF
  exact s_zret (Y := YX11_canOver) (pc := 35) dX11_canOver_35 rfl g5 hF
def f_X11_canOver_34  (M : Mem) : Option (Int32 × Mem) :=
  f_X11_canOver_35 0 M
set_option maxRecDepth 100000 in
theorem w_X11_canOver_34 {R : Int32} {M' : Mem}  (M : Mem) (hF : f_X11_canOver_34  M = some (R, M')) : RunF l D cy ad none YX11_canOver 2 0 0 (some (.int R)) (lay X M') 0 0 34 [] [] (lay X M) := by
  unfold f_X11_canOver_34 at hF
  refine g_iconst (Y := YX11_canOver) (pc := 34) dX11_canOver_34 kI_0 ?_
  exact w_X11_canOver_35  _ _ hF
def f_X11_canOver_0  (x1 : Int32) (x2 : Int32) (M : Mem) : Option (Int32 × Mem) :=
  bd (f_X11_isGroup x1 M) fun r1 M2 =>
  if r1 = 0 then
    f_X11_canOver_34 M2
  else
    bd (f_X11_isInside 175 x1 M2) fun r6 M7 =>
    if r6 = 0 then
      f_X11_canOver_34 M7
    else
      bd (f_X11_in x2 1 30 M7) fun r10 M11 =>
      if r10 = 0 then
        f_X11_canOver_34 M11
      else
        f_X11_canOver_35 1 M11
set_option maxRecDepth 100000 in
theorem w_X11_canOver_0 {R : Int32} {M' : Mem}  (x1 x2 : Int32) (M : Mem) (hF : f_X11_canOver_0 x1 x2 M = some (R, M')) : RunF l D cy ad none YX11_canOver 2 0 0 (some (.int R)) (lay X M') 0 0 0 [(0, .ref 174), (1, .int x1), (2, .int x2)] [] (lay X M) := by
  unfold f_X11_canOver_0 at hF
  refine g_aload_n (Y := YX11_canOver) (pc := 0) 0 dX11_canOver_0 rfl ?_
  refine g_iload_n (Y := YX11_canOver) (pc := 1) 1 dX11_canOver_1 rfl ?_
  obtain ⟨r1, M2, e3, hF⟩ := bd_some hF
  refine s_callVi (Y := YX11_canOver) (pc := 2) (as := [.int x1]) (st := []) (r_X11_isGroup  e3) miX11_isGroup lk_X11_228 dX11_canOver_2 k_174 rfl (Nat.le_of_ble_eq_true rfl) (Nat.le_of_ble_eq_true rfl) rfl ?_
  clear e3
  refine g_if_eq (Y := YX11_canOver) (pc := 5) (tgt := 34) dX11_canOver_5 rfl (fun c4 => ?_) (fun c4 => ?_)
  · replace hF := if_t c4 hF
    refine g_loc [] rfl ?_
    exact w_X11_canOver_34  _ hF
  · replace hF := if_f c4 hF
    refine g_aload_n (Y := YX11_canOver) (pc := 8) 0 dX11_canOver_8 rfl ?_
    refine g_aload_n (Y := YX11_canOver) (pc := 9) 0 dX11_canOver_9 rfl ?_
    refine u_getR (Y := YX11_canOver) (pc := 10) (j := 175) dX11_canOver_10 fl_X11_9 k_174 rf_174_0 ?_
    refine g_iload_n (Y := YX11_canOver) (pc := 13) 1 dX11_canOver_13 rfl ?_
    obtain ⟨r6, M7, e8, hF⟩ := bd_some hF
    refine s_callVi (Y := YX11_canOver) (pc := 14) (as := [.ref 175, .int x1]) (st := []) (r_X11_isInside k_175 e8) miX11_isInside lk_X11_224 dX11_canOver_14 k_174 rfl (Nat.le_of_ble_eq_true rfl) (Nat.le_of_ble_eq_true rfl) rfl ?_
    clear e8
    refine g_if_eq (Y := YX11_canOver) (pc := 17) (tgt := 34) dX11_canOver_17 rfl (fun c9 => ?_) (fun c9 => ?_)
    · replace hF := if_t c9 hF
      refine g_loc [] rfl ?_
      exact w_X11_canOver_34  _ hF
    · replace hF := if_f c9 hF
      refine g_iload_n (Y := YX11_canOver) (pc := 20) 2 dX11_canOver_20 rfl ?_
      refine g_iconst (Y := YX11_canOver) (pc := 21) dX11_canOver_21 kI_1 ?_
      refine g_bipush (Y := YX11_canOver) (pc := 22) dX11_canOver_22 kB_30 ?_
      obtain ⟨r10, M11, e12, hF⟩ := bd_some hF
      refine s_callSi (Y := YX11_canOver) (pc := 24) (as := [.int x2, .int 1, .int 30]) (st := []) (r_X11_in  e12) msX11_in lk_X11_109 dX11_canOver_24 rfl (Nat.le_of_ble_eq_true rfl) (Nat.le_of_ble_eq_true rfl) rfl ?_
      clear e12
      refine g_if_eq (Y := YX11_canOver) (pc := 27) (tgt := 34) dX11_canOver_27 rfl (fun c13 => ?_) (fun c13 => ?_)
      · replace hF := if_t c13 hF
        refine g_loc [] rfl ?_
        exact w_X11_canOver_34  _ hF
      · replace hF := if_f c13 hF
        refine g_iconst (Y := YX11_canOver) (pc := 30) dX11_canOver_30 kI_1 ?_
        refine g_goto (Y := YX11_canOver) (pc := 31) (tgt := 35) dX11_canOver_31 rfl ?_
        refine g_loc [] rfl ?_
        exact w_X11_canOver_35  _ _ hF
def f_X11_canOver (x1 : Int32) (x2 : Int32) (M : Mem) : Option (Int32 × Mem) := f_X11_canOver_0 x1 x2 M
theorem r_X11_canOver {x1 x2 R : Int32} {M M' : Mem}  (hF : f_X11_canOver x1 x2 M = some (R, M')) : RunS l D cy ad YX11_canOver 2 [.ref 174, .int x1, .int x2] X M (some (.int R)) M' := Run.of 2 (miX11_canOver).1 (Nat.le_of_ble_eq_true rfl) (w_X11_canOver_0  _ _ _ hF)
def f_X11_goOver_0 (a0 : Nat) (x1 : Int32) (x2 : Int32) (M : Mem) : Option (Int32 × Mem) :=
  gd (0 ≤ (6 + x1) ∧ (6 + x1).toNatClampNeg < LN a0) <|
  vl ((if ((M a0 (6 + x1).toNatClampNeg) + x2) < (99 : Int32) then ((M a0 (6 + x1).toNatClampNeg) + x2) else (99 : Int32))) fun v2 =>
  gd (0 ≤ (6 + x1) ∧ (6 + x1).toNatClampNeg < LN a0) <|
  ml (up M a0 (6 + x1).toNatClampNeg v2) fun M4 =>
  some (0, M4)
set_option maxRecDepth 100000 in
theorem w_X11_goOver_0 {R : Int32} {M' : Mem} {a0 : Nat} (ha0 : kinds[a0]? = some 14) (x1 x2 : Int32) (M : Mem) (hF : f_X11_goOver_0 a0 x1 x2 M = some (R, M')) : RunF l D cy ad none YX11_goOver 1 0 0 none (lay X M') 0 0 0 [(0, .ref a0), (1, .int x1), (2, .int x2)] [] (lay X M) := by
  unfold f_X11_goOver_0 at hF
  refine g_aload_n (Y := YX11_goOver) (pc := 0) 0 dX11_goOver_0 rfl ?_
  refine g_bipush (Y := YX11_goOver) (pc := 1) dX11_goOver_1 kB_6 ?_
  refine g_iload_n (Y := YX11_goOver) (pc := 3) 1 dX11_goOver_3 rfl ?_
  refine g_iadd (Y := YX11_goOver) (pc := 4) dX11_goOver_4 ?_
  refine g_bipush (Y := YX11_goOver) (pc := 5) dX11_goOver_5 kB_99 ?_
  refine g_aload_n (Y := YX11_goOver) (pc := 7) 0 dX11_goOver_7 rfl ?_
  refine g_bipush (Y := YX11_goOver) (pc := 8) dX11_goOver_8 kB_6 ?_
  refine g_iload_n (Y := YX11_goOver) (pc := 10) 1 dX11_goOver_10 rfl ?_
  refine g_iadd (Y := YX11_goOver) (pc := 11) dX11_goOver_11 ?_
  obtain ⟨g1, hF⟩ := gd_some hF
  refine s_iald (Y := YX11_goOver) (pc := 12) dX11_goOver_12 ha0 rfl g1 ?_
  refine g_iload_n (Y := YX11_goOver) (pc := 13) 2 dX11_goOver_13 rfl ?_
  refine g_iadd (Y := YX11_goOver) (pc := 14) dX11_goOver_14 ?_
  refine s_min (Y := YX11_goOver) (pc := 15) dX11_goOver_15 lk_X11_213 w_min (Nat.le_of_ble_eq_true rfl) (Nat.le_of_ble_eq_true rfl) ?_
  refine g_nm (fun v2 e => ?_)
  replace hF := vl_to e hF; clear e
  obtain ⟨g3, hF⟩ := gd_some hF
  refine s_iast (Y := YX11_goOver) (pc := 18) dX11_goOver_18 ha0 rfl g3 ?_
  refine g_nmM (fun M4 e => ?_)
  replace hF := ml_to e hF; clear e
  exact s_vret (Y := YX11_goOver) (pc := 19) dX11_goOver_19 rfl hF
def f_X11_goOver (a0 : Nat) (x1 : Int32) (x2 : Int32) (M : Mem) : Option (Int32 × Mem) := f_X11_goOver_0 a0 x1 x2 M
theorem r_X11_goOver {a0 : Nat} {x1 x2 R : Int32} {M M' : Mem} (ha0 : kinds[a0]? = some 14) (hF : f_X11_goOver a0 x1 x2 M = some (R, M')) : RunS l D cy ad YX11_goOver 1 [.ref a0, .int x1, .int x2] X M none M' := Run.of 3 (msX11_goOver).1 (Nat.le_of_ble_eq_true rfl) (w_X11_goOver_0 ha0 _ _ _ hF)
def f_X11_over_0  (x1 : Int32) (x2 : Int32) (M : Mem) : Option (Int32 × Mem) :=
  ml (up M 174 14 0) fun M1 =>
  bd (f_X11_canOver x1 x2 M1) fun r2 M3 =>
  if r2 = 0 then
    some ((-1), M3)
  else
    bd (f_X11_remember 175 M3) fun _ M7 =>
    bd (f_X11_goOver 175 x1 x2 M7) fun _ M10 =>
    gd (0 ≤ (6 + x1) ∧ (6 + x1).toNatClampNeg < 25) <|
    some ((M10 175 (6 + x1).toNatClampNeg), M10)
set_option maxRecDepth 100000 in
theorem w_X11_over_0 {R : Int32} {M' : Mem}  (x1 x2 : Int32) (M : Mem) (hF : f_X11_over_0 x1 x2 M = some (R, M')) : RunF l D cy ad none YX11_over 3 0 0 (some (.int R)) (lay X M') 0 0 0 [(0, .ref 174), (1, .int x1), (2, .int x2)] [] (lay X M) := by
  unfold f_X11_over_0 at hF
  refine g_aload_n (Y := YX11_over) (pc := 0) 0 dX11_over_0 rfl ?_
  refine g_iconst (Y := YX11_over) (pc := 1) dX11_over_1 kI_0 ?_
  refine u_putI (Y := YX11_over) (pc := 2) dX11_over_2 fl_X11_99  k_174 ?_
  refine g_nmM (fun M1 e => ?_)
  replace hF := ml_to e hF; clear e
  refine g_aload_n (Y := YX11_over) (pc := 5) 0 dX11_over_5 rfl ?_
  refine g_iload_n (Y := YX11_over) (pc := 6) 1 dX11_over_6 rfl ?_
  refine g_iload_n (Y := YX11_over) (pc := 7) 2 dX11_over_7 rfl ?_
  obtain ⟨r2, M3, e4, hF⟩ := bd_some hF
  refine s_callVi (Y := YX11_over) (pc := 8) (as := [.int x1, .int x2]) (st := []) (r_X11_canOver  e4) miX11_canOver lk_X11_290 dX11_over_8 k_174 rfl (Nat.le_of_ble_eq_true rfl) (Nat.le_of_ble_eq_true rfl) rfl ?_
  clear e4
  refine g_if_ne (Y := YX11_over) (pc := 11) (tgt := 16) dX11_over_11 rfl (fun c5 => ?_) (fun c5 => ?_)
  · replace hF := if_f c5 hF
    refine g_aload_n (Y := YX11_over) (pc := 16) 0 dX11_over_16 rfl ?_
    refine g_aload_n (Y := YX11_over) (pc := 17) 0 dX11_over_17 rfl ?_
    refine u_getR (Y := YX11_over) (pc := 18) (j := 175) dX11_over_18 fl_X11_9 k_174 rf_174_0 ?_
    obtain ⟨r6, M7, e8, hF⟩ := bd_some hF
    refine s_callVv (Y := YX11_over) (pc := 21) (as := [.ref 175]) (st := []) (r_X11_remember k_175 e8) miX11_remember lk_X11_274 dX11_over_21 k_174 rfl (Nat.le_of_ble_eq_true rfl) (Nat.le_of_ble_eq_true rfl) rfl ?_
    clear e8
    refine g_aload_n (Y := YX11_over) (pc := 24) 0 dX11_over_24 rfl ?_
    refine u_getR (Y := YX11_over) (pc := 25) (j := 175) dX11_over_25 fl_X11_9 k_174 rf_174_0 ?_
    refine g_iload_n (Y := YX11_over) (pc := 28) 1 dX11_over_28 rfl ?_
    refine g_iload_n (Y := YX11_over) (pc := 29) 2 dX11_over_29 rfl ?_
    obtain ⟨r9, M10, e11, hF⟩ := bd_some hF
    refine s_callSv (Y := YX11_over) (pc := 30) (as := [.ref 175, .int x1, .int x2]) (st := []) (r_X11_goOver k_175 e11) msX11_goOver lk_X11_293 dX11_over_30 rfl (Nat.le_of_ble_eq_true rfl) (Nat.le_of_ble_eq_true rfl) rfl ?_
    clear e11
    refine g_aload_n (Y := YX11_over) (pc := 33) 0 dX11_over_33 rfl ?_
    refine u_getR (Y := YX11_over) (pc := 34) (j := 175) dX11_over_34 fl_X11_9 k_174 rf_174_0 ?_
    refine g_bipush (Y := YX11_over) (pc := 37) dX11_over_37 kB_6 ?_
    refine g_iload_n (Y := YX11_over) (pc := 39) 1 dX11_over_39 rfl ?_
    refine g_iadd (Y := YX11_over) (pc := 40) dX11_over_40 ?_
    obtain ⟨g12, hF⟩ := gd_some hF
    refine s_iald (Y := YX11_over) (pc := 41) dX11_over_41 k_175 n_175 g12 ?_
    exact s_iret (Y := YX11_over) (pc := 42) dX11_over_42 rfl hF
  · replace hF := if_t c5 hF
    refine g_iconst (Y := YX11_over) (pc := 14) dX11_over_14 kI_m1 ?_
    exact s_iret (Y := YX11_over) (pc := 15) dX11_over_15 rfl hF
def f_X11_over (x1 : Int32) (x2 : Int32) (M : Mem) : Option (Int32 × Mem) := f_X11_over_0 x1 x2 M
theorem r_X11_over {x1 x2 R : Int32} {M M' : Mem}  (hF : f_X11_over x1 x2 M = some (R, M')) : RunS l D cy ad YX11_over 3 [.ref 174, .int x1, .int x2] X M (some (.int R)) M' := Run.of 2 (miX11_over).1 (Nat.le_of_ble_eq_true rfl) (w_X11_over_0  _ _ _ hF)
def f_X11_stand_0  (x1 : Int32) (M : Mem) : Option (Int32 × Mem) :=
  ml (up M 174 14 0) fun M1 =>
  bd (f_X11_in x1 1 60 M1) fun r2 M3 =>
  if r2 = 0 then
    some ((-1), M3)
  else
    bd (f_X11_remember 175 M3) fun _ M7 =>
    gd (0 ≤ (24 : Int32) ∧ (24 : Int32).toNatClampNeg < 25) <|
    gd (0 ≤ (24 : Int32) ∧ (24 : Int32).toNatClampNeg < 25) <|
    ml (up M7 175 (24 : Int32).toNatClampNeg ((M7 175 (24 : Int32).toNatClampNeg) + x1)) fun M11 =>
    gd (0 ≤ (24 : Int32) ∧ (24 : Int32).toNatClampNeg < 25) <|
    some ((M11 175 (24 : Int32).toNatClampNeg), M11)
set_option maxRecDepth 100000 in
theorem w_X11_stand_0 {R : Int32} {M' : Mem}  (x1 : Int32) (M : Mem) (hF : f_X11_stand_0 x1 M = some (R, M')) : RunF l D cy ad none YX11_stand 2 0 0 (some (.int R)) (lay X M') 0 0 0 [(0, .ref 174), (1, .int x1)] [] (lay X M) := by
  unfold f_X11_stand_0 at hF
  refine g_aload_n (Y := YX11_stand) (pc := 0) 0 dX11_stand_0 rfl ?_
  refine g_iconst (Y := YX11_stand) (pc := 1) dX11_stand_1 kI_0 ?_
  refine u_putI (Y := YX11_stand) (pc := 2) dX11_stand_2 fl_X11_99  k_174 ?_
  refine g_nmM (fun M1 e => ?_)
  replace hF := ml_to e hF; clear e
  refine g_iload_n (Y := YX11_stand) (pc := 5) 1 dX11_stand_5 rfl ?_
  refine g_iconst (Y := YX11_stand) (pc := 6) dX11_stand_6 kI_1 ?_
  refine g_bipush (Y := YX11_stand) (pc := 7) dX11_stand_7 kB_60 ?_
  obtain ⟨r2, M3, e4, hF⟩ := bd_some hF
  refine s_callSi (Y := YX11_stand) (pc := 9) (as := [.int x1, .int 1, .int 60]) (st := []) (r_X11_in  e4) msX11_in lk_X11_109 dX11_stand_9 rfl (Nat.le_of_ble_eq_true rfl) (Nat.le_of_ble_eq_true rfl) rfl ?_
  clear e4
  refine g_if_ne (Y := YX11_stand) (pc := 12) (tgt := 17) dX11_stand_12 rfl (fun c5 => ?_) (fun c5 => ?_)
  · replace hF := if_f c5 hF
    refine g_aload_n (Y := YX11_stand) (pc := 17) 0 dX11_stand_17 rfl ?_
    refine g_aload_n (Y := YX11_stand) (pc := 18) 0 dX11_stand_18 rfl ?_
    refine u_getR (Y := YX11_stand) (pc := 19) (j := 175) dX11_stand_19 fl_X11_9 k_174 rf_174_0 ?_
    obtain ⟨r6, M7, e8, hF⟩ := bd_some hF
    refine s_callVv (Y := YX11_stand) (pc := 22) (as := [.ref 175]) (st := []) (r_X11_remember k_175 e8) miX11_remember lk_X11_274 dX11_stand_22 k_174 rfl (Nat.le_of_ble_eq_true rfl) (Nat.le_of_ble_eq_true rfl) rfl ?_
    clear e8
    refine g_aload_n (Y := YX11_stand) (pc := 25) 0 dX11_stand_25 rfl ?_
    refine u_getR (Y := YX11_stand) (pc := 26) (j := 175) dX11_stand_26 fl_X11_9 k_174 rf_174_0 ?_
    refine g_bipush (Y := YX11_stand) (pc := 29) dX11_stand_29 kB_24 ?_
    refine g_dup2 (Y := YX11_stand) (pc := 31) dX11_stand_31 rfl rfl ?_
    obtain ⟨g9, hF⟩ := gd_some hF
    refine s_iald (Y := YX11_stand) (pc := 32) dX11_stand_32 k_175 n_175 g9 ?_
    refine g_iload_n (Y := YX11_stand) (pc := 33) 1 dX11_stand_33 rfl ?_
    refine g_iadd (Y := YX11_stand) (pc := 34) dX11_stand_34 ?_
    obtain ⟨g10, hF⟩ := gd_some hF
    refine s_iast (Y := YX11_stand) (pc := 35) dX11_stand_35 k_175 n_175 g10 ?_
    refine g_nmM (fun M11 e => ?_)
    replace hF := ml_to e hF; clear e
    refine g_aload_n (Y := YX11_stand) (pc := 36) 0 dX11_stand_36 rfl ?_
    refine u_getR (Y := YX11_stand) (pc := 37) (j := 175) dX11_stand_37 fl_X11_9 k_174 rf_174_0 ?_
    refine g_bipush (Y := YX11_stand) (pc := 40) dX11_stand_40 kB_24 ?_
    obtain ⟨g12, hF⟩ := gd_some hF
    refine s_iald (Y := YX11_stand) (pc := 42) dX11_stand_42 k_175 n_175 g12 ?_
    exact s_iret (Y := YX11_stand) (pc := 43) dX11_stand_43 rfl hF
  · replace hF := if_t c5 hF
    refine g_iconst (Y := YX11_stand) (pc := 15) dX11_stand_15 kI_m1 ?_
    exact s_iret (Y := YX11_stand) (pc := 16) dX11_stand_16 rfl hF
def f_X11_stand (x1 : Int32) (M : Mem) : Option (Int32 × Mem) := f_X11_stand_0 x1 M
theorem r_X11_stand {x1 R : Int32} {M M' : Mem}  (hF : f_X11_stand x1 M = some (R, M')) : RunS l D cy ad YX11_stand 2 [.ref 174, .int x1] X M (some (.int R)) M' := Run.of 1 (miX11_stand).1 (Nat.le_of_ble_eq_true rfl) (w_X11_stand_0  _ _ hF)
def f_X11_minute_0  (M : Mem) : Option (Int32 × Mem) :=
  ml (up M 174 14 0) fun M1 =>
  bd (f_X11_layStays M1) fun _ M3 =>
  bd (f_X11_remember 175 M3) fun _ M6 =>
  bd (f_X11_goMinute 175 M6) fun _ M9 =>
  ml (up M9 174 13 0) fun M11 =>
  bd (f_X11_tell (M11 174 30) M11) fun _ M13 =>
  bd (f_X11_tell (M13 174 31) M13) fun _ M16 =>
  bd (f_J6_bitCount_0f7a4 (M16 174 32) M16) fun r18 M19 =>
  some (r18, M19)
set_option maxRecDepth 100000 in
theorem w_X11_minute_0 {R : Int32} {M' : Mem}  (M : Mem) (hF : f_X11_minute_0  M = some (R, M')) : RunF l D cy ad none YX11_minute 406 0 0 (some (.int R)) (lay X M') 0 0 0 [(0, .ref 174)] [] (lay X M) := by
  unfold f_X11_minute_0 at hF
  refine g_aload_n (Y := YX11_minute) (pc := 0) 0 dX11_minute_0 rfl ?_
  refine g_iconst (Y := YX11_minute) (pc := 1) dX11_minute_1 kI_0 ?_
  refine u_putI (Y := YX11_minute) (pc := 2) dX11_minute_2 fl_X11_99  k_174 ?_
  refine g_nmM (fun M1 e => ?_)
  replace hF := ml_to e hF; clear e
  refine g_aload_n (Y := YX11_minute) (pc := 5) 0 dX11_minute_5 rfl ?_
  obtain ⟨r2, M3, e4, hF⟩ := bd_some hF
  refine s_callVv (Y := YX11_minute) (pc := 6) (as := []) (st := []) (r_X11_layStays  e4) miX11_layStays lk_X11_271 dX11_minute_6 k_174 rfl (Nat.le_of_ble_eq_true rfl) (Nat.le_of_ble_eq_true rfl) rfl ?_
  clear e4
  refine g_aload_n (Y := YX11_minute) (pc := 9) 0 dX11_minute_9 rfl ?_
  refine g_aload_n (Y := YX11_minute) (pc := 10) 0 dX11_minute_10 rfl ?_
  refine u_getR (Y := YX11_minute) (pc := 11) (j := 175) dX11_minute_11 fl_X11_9 k_174 rf_174_0 ?_
  obtain ⟨r5, M6, e7, hF⟩ := bd_some hF
  refine s_callVv (Y := YX11_minute) (pc := 14) (as := [.ref 175]) (st := []) (r_X11_remember k_175 e7) miX11_remember lk_X11_274 dX11_minute_14 k_174 rfl (Nat.le_of_ble_eq_true rfl) (Nat.le_of_ble_eq_true rfl) rfl ?_
  clear e7
  refine g_aload_n (Y := YX11_minute) (pc := 17) 0 dX11_minute_17 rfl ?_
  refine g_aload_n (Y := YX11_minute) (pc := 18) 0 dX11_minute_18 rfl ?_
  refine u_getR (Y := YX11_minute) (pc := 19) (j := 175) dX11_minute_19 fl_X11_9 k_174 rf_174_0 ?_
  obtain ⟨r8, M9, e10, hF⟩ := bd_some hF
  refine s_callVv (Y := YX11_minute) (pc := 22) (as := [.ref 175]) (st := []) (r_X11_goMinute k_175 e10) miX11_goMinute lk_X11_297 dX11_minute_22 k_174 rfl (Nat.le_of_ble_eq_true rfl) (Nat.le_of_ble_eq_true rfl) rfl ?_
  clear e10
  refine g_aload_n (Y := YX11_minute) (pc := 25) 0 dX11_minute_25 rfl ?_
  refine g_iconst (Y := YX11_minute) (pc := 26) dX11_minute_26 kI_0 ?_
  refine u_putI (Y := YX11_minute) (pc := 27) dX11_minute_27 fl_X11_103  k_174 ?_
  refine g_nmM (fun M11 e => ?_)
  replace hF := ml_to e hF; clear e
  refine g_aload_n (Y := YX11_minute) (pc := 30) 0 dX11_minute_30 rfl ?_
  refine g_aload_n (Y := YX11_minute) (pc := 31) 0 dX11_minute_31 rfl ?_
  refine u_getI (Y := YX11_minute) (pc := 32) dX11_minute_32 fl_X11_255 k_174 ?_
  obtain ⟨r12, M13, e14, hF⟩ := bd_some hF
  refine s_callVv (Y := YX11_minute) (pc := 35) (as := [.int (M11 174 30)]) (st := []) (r_X11_tell  e14) miX11_tell lk_X11_300 dX11_minute_35 k_174 rfl (Nat.le_of_ble_eq_true rfl) (Nat.le_of_ble_eq_true rfl) rfl ?_
  clear e14
  refine g_aload_n (Y := YX11_minute) (pc := 38) 0 dX11_minute_38 rfl ?_
  refine g_aload_n (Y := YX11_minute) (pc := 39) 0 dX11_minute_39 rfl ?_
  refine u_getI (Y := YX11_minute) (pc := 40) dX11_minute_40 fl_X11_258 k_174 ?_
  obtain ⟨r15, M16, e17, hF⟩ := bd_some hF
  refine s_callVv (Y := YX11_minute) (pc := 43) (as := [.int (M13 174 31)]) (st := []) (r_X11_tell  e17) miX11_tell lk_X11_300 dX11_minute_43 k_174 rfl (Nat.le_of_ble_eq_true rfl) (Nat.le_of_ble_eq_true rfl) rfl ?_
  clear e17
  refine g_aload_n (Y := YX11_minute) (pc := 46) 0 dX11_minute_46 rfl ?_
  refine u_getI (Y := YX11_minute) (pc := 47) dX11_minute_47 fl_X11_261 k_174 ?_
  obtain ⟨r18, M19, e20, hF⟩ := bd_some hF
  refine s_callSi (Y := YX11_minute) (pc := 50) (as := [.int (M16 174 32)]) (st := []) (r_J6_bitCount_0f7a4  e20) msJ6_bitCount_0f7a4 lk_X11_285 dX11_minute_50 rfl (Nat.le_of_ble_eq_true rfl) (Nat.le_of_ble_eq_true rfl) rfl ?_
  clear e20
  exact s_iret (Y := YX11_minute) (pc := 53) dX11_minute_53 rfl hF
def f_X11_minute (M : Mem) : Option (Int32 × Mem) := f_X11_minute_0 M
theorem r_X11_minute {R : Int32} {M M' : Mem}  (hF : f_X11_minute  M = some (R, M')) : RunS l D cy ad YX11_minute 406 [.ref 174] X M (some (.int R)) M' := Run.of 0 (miX11_minute).1 (Nat.le_of_ble_eq_true rfl) (w_X11_minute_0  _ hF)
def f_X11_minutes_40  : Nat → Int32 → Int32 → Int32 → Int32 → Mem → Option (Int32 × Mem)
  | 0, _, _, _, _, _ => none
  | n + 1, x1, x2, x3, x4, M =>
    if x4 < x1 then
      bd (f_X11_goMinute 175 M) fun _ M22 =>
      vl ((x2 ||| (M22 174 32))) fun v24 =>
      bd (f_J6_bitCount_0f7a4 (M22 174 31) M22) fun r25 M26 =>
      vl ((x3 + r25)) fun v28 =>
      vl (x4 + 1) fun v29 =>
      f_X11_minutes_40 n x1 v24 v28 v29 M26
    else
      ml (up M 174 13 0) fun M11 =>
      bd (f_X11_tell x2 M11) fun _ M13 =>
      bd (f_X11_tell x3 M13) fun _ M16 =>
      bd (f_J6_bitCount_0f7a4 x2 M16) fun r18 M19 =>
      some (r18, M19)
set_option maxRecDepth 100000 in
theorem w_X11_minutes_40 {R : Int32} {M' : Mem}  : ∀ (n : Nat) (x1 x2 x3 x4 : Int32) (M : Mem), f_X11_minutes_40 n x1 x2 x3 x4 M = some (R, M') → RunF l D cy ad none YX11_minutes 406 0 0 (some (.int R)) (lay X M') 0 0 40 [(0, .ref 174), (1, .int x1), (2, .int x2), (3, .int x3), (4, .int x4)] [] (lay X M) := by
  intro n
  induction n with
  | zero => intro x1 x2 x3 x4 M hF; exact absurd hF (by unfold f_X11_minutes_40; exact fun h => nomatch h)
  | succ n ih =>
    intro x1 x2 x3 x4 M hF
    unfold f_X11_minutes_40 at hF
    refine g_iload (Y := YX11_minutes) (pc := 40) 4 dX11_minutes_40 rfl ?_
    refine g_iload_n (Y := YX11_minutes) (pc := 42) 1 dX11_minutes_42 rfl ?_
    refine g_icmp_ge (Y := YX11_minutes) (pc := 43) (tgt := 77) dX11_minutes_43 rfl (fun c10 => ?_) (fun c10 => ?_)
    · replace hF := if_f c10 hF
      refine g_aload_n (Y := YX11_minutes) (pc := 77) 0 dX11_minutes_77 rfl ?_
      refine g_iconst (Y := YX11_minutes) (pc := 78) dX11_minutes_78 kI_0 ?_
      refine u_putI (Y := YX11_minutes) (pc := 79) dX11_minutes_79 fl_X11_103  k_174 ?_
      refine g_nmM (fun M11 e => ?_)
      replace hF := ml_to e hF; clear e
      refine g_aload_n (Y := YX11_minutes) (pc := 82) 0 dX11_minutes_82 rfl ?_
      refine g_iload_n (Y := YX11_minutes) (pc := 83) 2 dX11_minutes_83 rfl ?_
      obtain ⟨r12, M13, e14, hF⟩ := bd_some hF
      refine s_callVv (Y := YX11_minutes) (pc := 84) (as := [.int x2]) (st := []) (r_X11_tell  e14) miX11_tell lk_X11_300 dX11_minutes_84 k_174 rfl (Nat.le_of_ble_eq_true rfl) (Nat.le_of_ble_eq_true rfl) rfl ?_
      clear e14
      refine g_aload_n (Y := YX11_minutes) (pc := 87) 0 dX11_minutes_87 rfl ?_
      refine g_iload_n (Y := YX11_minutes) (pc := 88) 3 dX11_minutes_88 rfl ?_
      obtain ⟨r15, M16, e17, hF⟩ := bd_some hF
      refine s_callVv (Y := YX11_minutes) (pc := 89) (as := [.int x3]) (st := []) (r_X11_tell  e17) miX11_tell lk_X11_300 dX11_minutes_89 k_174 rfl (Nat.le_of_ble_eq_true rfl) (Nat.le_of_ble_eq_true rfl) rfl ?_
      clear e17
      refine g_iload_n (Y := YX11_minutes) (pc := 92) 2 dX11_minutes_92 rfl ?_
      obtain ⟨r18, M19, e20, hF⟩ := bd_some hF
      refine s_callSi (Y := YX11_minutes) (pc := 93) (as := [.int x2]) (st := []) (r_J6_bitCount_0f7a4  e20) msJ6_bitCount_0f7a4 lk_X11_285 dX11_minutes_93 rfl (Nat.le_of_ble_eq_true rfl) (Nat.le_of_ble_eq_true rfl) rfl ?_
      clear e20
      exact s_iret (Y := YX11_minutes) (pc := 96) dX11_minutes_96 rfl hF
    · replace hF := if_t c10 hF
      refine g_aload_n (Y := YX11_minutes) (pc := 46) 0 dX11_minutes_46 rfl ?_
      refine g_aload_n (Y := YX11_minutes) (pc := 47) 0 dX11_minutes_47 rfl ?_
      refine u_getR (Y := YX11_minutes) (pc := 48) (j := 175) dX11_minutes_48 fl_X11_9 k_174 rf_174_0 ?_
      obtain ⟨r21, M22, e23, hF⟩ := bd_some hF
      refine s_callVv (Y := YX11_minutes) (pc := 51) (as := [.ref 175]) (st := []) (r_X11_goMinute k_175 e23) miX11_goMinute lk_X11_297 dX11_minutes_51 k_174 rfl (Nat.le_of_ble_eq_true rfl) (Nat.le_of_ble_eq_true rfl) rfl ?_
      clear e23
      refine g_iload_n (Y := YX11_minutes) (pc := 54) 2 dX11_minutes_54 rfl ?_
      refine g_aload_n (Y := YX11_minutes) (pc := 55) 0 dX11_minutes_55 rfl ?_
      refine u_getI (Y := YX11_minutes) (pc := 56) dX11_minutes_56 fl_X11_261 k_174 ?_
      refine g_ior (Y := YX11_minutes) (pc := 59) dX11_minutes_59 ?_
      refine g_nm (fun v24 e => ?_)
      replace hF := vl_to e hF; clear e
      refine g_istore_n (Y := YX11_minutes) (pc := 60) (L' := [(2, .int v24), (0, .ref 174), (1, .int x1), (3, .int x3), (4, .int x4)]) dX11_minutes_60 (Nat.le_of_ble_eq_true rfl) rfl ?_
      refine g_iload_n (Y := YX11_minutes) (pc := 61) 3 dX11_minutes_61 rfl ?_
      refine g_aload_n (Y := YX11_minutes) (pc := 62) 1 dX11_minutes_62 rfl ?_
      refine u_getI (Y := YX11_minutes) (pc := 63) dX11_minutes_63 fl_X11_258 k_174 ?_
      obtain ⟨r25, M26, e27, hF⟩ := bd_some hF
      refine s_callSi (Y := YX11_minutes) (pc := 66) (as := [.int (M22 174 31)]) (st := [.int x3]) (r_J6_bitCount_0f7a4  e27) msJ6_bitCount_0f7a4 lk_X11_285 dX11_minutes_66 rfl (Nat.le_of_ble_eq_true rfl) (Nat.le_of_ble_eq_true rfl) rfl ?_
      clear e27
      refine g_iadd (Y := YX11_minutes) (pc := 69) dX11_minutes_69 ?_
      refine g_nm (fun v28 e => ?_)
      replace hF := vl_to e hF; clear e
      refine g_istore_n (Y := YX11_minutes) (pc := 70) (L' := [(3, .int v28), (2, .int v24), (0, .ref 174), (1, .int x1), (4, .int x4)]) dX11_minutes_70 (Nat.le_of_ble_eq_true rfl) rfl ?_
      refine s_iinc (Y := YX11_minutes) (pc := 71) (j := 4) (L' := fun y => [(4, .int y), (3, .int v28), (2, .int v24), (0, .ref 174), (1, .int x1)]) dX11_minutes_71 kI_1 rfl (Nat.le_of_ble_eq_true rfl) (fun _ => rfl) (fun v29 e => ?_)
      replace hF := vl_to e hF; clear e
      refine g_goto (Y := YX11_minutes) (pc := 74) (tgt := 40) dX11_minutes_74 rfl ?_
      refine g_loc [3, 4, 2, 1, 0] rfl ?_
      exact ih _ _ _ _ _ hF
def f_X11_minutes_33  (x1 : Int32) (M : Mem) : Option (Int32 × Mem) :=
  f_X11_minutes_40 FU x1 0 0 0 M
set_option maxRecDepth 100000 in
theorem w_X11_minutes_33 {R : Int32} {M' : Mem}  (x1 : Int32) (M : Mem) (hF : f_X11_minutes_33 x1 M = some (R, M')) : RunF l D cy ad none YX11_minutes 406 0 0 (some (.int R)) (lay X M') 0 0 33 [(0, .ref 174), (1, .int x1)] [] (lay X M) := by
  unfold f_X11_minutes_33 at hF
  refine g_iconst (Y := YX11_minutes) (pc := 33) dX11_minutes_33 kI_0 ?_
  refine g_istore_n (Y := YX11_minutes) (pc := 34) (L' := [(2, .int 0), (0, .ref 174), (1, .int x1)]) dX11_minutes_34 (Nat.le_of_ble_eq_true rfl) rfl ?_
  refine g_iconst (Y := YX11_minutes) (pc := 35) dX11_minutes_35 kI_0 ?_
  refine g_istore_n (Y := YX11_minutes) (pc := 36) (L' := [(3, .int 0), (2, .int 0), (0, .ref 174), (1, .int x1)]) dX11_minutes_36 (Nat.le_of_ble_eq_true rfl) rfl ?_
  refine g_iconst (Y := YX11_minutes) (pc := 37) dX11_minutes_37 kI_0 ?_
  refine g_istore (Y := YX11_minutes) (pc := 38) (L' := [(4, .int 0), (3, .int 0), (2, .int 0), (0, .ref 174), (1, .int x1)]) dX11_minutes_38 (Nat.le_of_ble_eq_true rfl) rfl ?_
  refine g_loc [3, 4, 2, 1, 0] rfl ?_
  exact w_X11_minutes_40  _ _ _ _ _ _ hF
def f_X11_minutes_0  (x1 : Int32) (M : Mem) : Option (Int32 × Mem) :=
  ml (up M 174 14 0) fun M1 =>
  bd (f_X11_in x1 0 90 M1) fun r2 M3 =>
  if r2 = 0 then
    some ((-1), M3)
  else
    bd (f_X11_layStays M3) fun _ M7 =>
    if 0 < x1 then
      bd (f_X11_remember 175 M7) fun _ M31 =>
      f_X11_minutes_33 x1 M31
    else
      f_X11_minutes_33 x1 M7
set_option maxRecDepth 100000 in
theorem w_X11_minutes_0 {R : Int32} {M' : Mem}  (x1 : Int32) (M : Mem) (hF : f_X11_minutes_0 x1 M = some (R, M')) : RunF l D cy ad none YX11_minutes 406 0 0 (some (.int R)) (lay X M') 0 0 0 [(0, .ref 174), (1, .int x1)] [] (lay X M) := by
  unfold f_X11_minutes_0 at hF
  refine g_aload_n (Y := YX11_minutes) (pc := 0) 0 dX11_minutes_0 rfl ?_
  refine g_iconst (Y := YX11_minutes) (pc := 1) dX11_minutes_1 kI_0 ?_
  refine u_putI (Y := YX11_minutes) (pc := 2) dX11_minutes_2 fl_X11_99  k_174 ?_
  refine g_nmM (fun M1 e => ?_)
  replace hF := ml_to e hF; clear e
  refine g_iload_n (Y := YX11_minutes) (pc := 5) 1 dX11_minutes_5 rfl ?_
  refine g_iconst (Y := YX11_minutes) (pc := 6) dX11_minutes_6 kI_0 ?_
  refine g_bipush (Y := YX11_minutes) (pc := 7) dX11_minutes_7 kB_90 ?_
  obtain ⟨r2, M3, e4, hF⟩ := bd_some hF
  refine s_callSi (Y := YX11_minutes) (pc := 9) (as := [.int x1, .int 0, .int 90]) (st := []) (r_X11_in  e4) msX11_in lk_X11_109 dX11_minutes_9 rfl (Nat.le_of_ble_eq_true rfl) (Nat.le_of_ble_eq_true rfl) rfl ?_
  clear e4
  refine g_if_ne (Y := YX11_minutes) (pc := 12) (tgt := 17) dX11_minutes_12 rfl (fun c5 => ?_) (fun c5 => ?_)
  · replace hF := if_f c5 hF
    refine g_aload_n (Y := YX11_minutes) (pc := 17) 0 dX11_minutes_17 rfl ?_
    obtain ⟨r6, M7, e8, hF⟩ := bd_some hF
    refine s_callVv (Y := YX11_minutes) (pc := 18) (as := []) (st := []) (r_X11_layStays  e8) miX11_layStays lk_X11_271 dX11_minutes_18 k_174 rfl (Nat.le_of_ble_eq_true rfl) (Nat.le_of_ble_eq_true rfl) rfl ?_
    clear e8
    refine g_iload_n (Y := YX11_minutes) (pc := 21) 1 dX11_minutes_21 rfl ?_
    refine g_if_le (Y := YX11_minutes) (pc := 22) (tgt := 33) dX11_minutes_22 rfl (fun c9 => ?_) (fun c9 => ?_)
    · replace hF := if_f c9 hF
      exact w_X11_minutes_33  _ _ hF
    · replace hF := if_t c9 hF
      refine g_aload_n (Y := YX11_minutes) (pc := 25) 0 dX11_minutes_25 rfl ?_
      refine g_aload_n (Y := YX11_minutes) (pc := 26) 0 dX11_minutes_26 rfl ?_
      refine u_getR (Y := YX11_minutes) (pc := 27) (j := 175) dX11_minutes_27 fl_X11_9 k_174 rf_174_0 ?_
      obtain ⟨r30, M31, e32, hF⟩ := bd_some hF
      refine s_callVv (Y := YX11_minutes) (pc := 30) (as := [.ref 175]) (st := []) (r_X11_remember k_175 e32) miX11_remember lk_X11_274 dX11_minutes_30 k_174 rfl (Nat.le_of_ble_eq_true rfl) (Nat.le_of_ble_eq_true rfl) rfl ?_
      clear e32
      exact w_X11_minutes_33  _ _ hF
  · replace hF := if_t c5 hF
    refine g_iconst (Y := YX11_minutes) (pc := 15) dX11_minutes_15 kI_m1 ?_
    exact s_iret (Y := YX11_minutes) (pc := 16) dX11_minutes_16 rfl hF
def f_X11_minutes (x1 : Int32) (M : Mem) : Option (Int32 × Mem) := f_X11_minutes_0 x1 M
theorem r_X11_minutes {x1 R : Int32} {M M' : Mem}  (hF : f_X11_minutes x1 M = some (R, M')) : RunS l D cy ad YX11_minutes 406 [.ref 174, .int x1] X M (some (.int R)) M' := Run.of 1 (miX11_minutes).1 (Nat.le_of_ble_eq_true rfl) (w_X11_minutes_0  _ _ hF)
def f_X11_readAct_143  (M : Mem) : Option (Int32 × Mem) :=
  some (0, M)
set_option maxRecDepth 100000 in
theorem w_X11_readAct_143 {R : Int32} {M' : Mem}  (M : Mem) (hF : f_X11_readAct_143  M = some (R, M')) : RunF l D cy ad none YX11_readAct 4 0 0 none (lay X M') 0 0 143 [] [] (lay X M) := by
  unfold f_X11_readAct_143 at hF
  exact s_vret (Y := YX11_readAct) (pc := 143) dX11_readAct_143 rfl hF
def f_X11_readAct_122  (x1 : Int32) (x2 : Int32) (M : Mem) : Option (Int32 × Mem) :=
  if x2 = 118 then
    bd (f_X11_digit 1 9 M) fun r17 M18 =>
    gd (0 ≤ (x1 + 2) ∧ (x1 + 2).toNatClampNeg < 240) <|
    ml (up M18 190 (x1 + 2).toNatClampNeg r17) fun M21 =>
    f_X11_readAct_143 M21
  else
    f_X11_readAct_143 M
set_option maxRecDepth 100000 in
theorem w_X11_readAct_122 {R : Int32} {M' : Mem}  (x1 x2 : Int32) (M : Mem) (hF : f_X11_readAct_122 x1 x2 M = some (R, M')) : RunF l D cy ad none YX11_readAct 4 0 0 none (lay X M') 0 0 122 [(0, .ref 174), (1, .int x1), (2, .int x2)] [] (lay X M) := by
  unfold f_X11_readAct_122 at hF
  refine g_iload_n (Y := YX11_readAct) (pc := 122) 2 dX11_readAct_122 rfl ?_
  refine g_bipush (Y := YX11_readAct) (pc := 123) dX11_readAct_123 kB_118 ?_
  refine g_icmp_ne (Y := YX11_readAct) (pc := 125) (tgt := 143) dX11_readAct_125 rfl (fun c16 => ?_) (fun c16 => ?_)
  · replace hF := if_f c16 hF
    refine g_loc [] rfl ?_
    exact w_X11_readAct_143  _ hF
  · replace hF := if_t c16 hF
    refine g_aload_n (Y := YX11_readAct) (pc := 128) 0 dX11_readAct_128 rfl ?_
    refine u_getR (Y := YX11_readAct) (pc := 129) (j := 190) dX11_readAct_129 fl_X11_57 k_174 rf_174_33 ?_
    refine g_iload_n (Y := YX11_readAct) (pc := 132) 1 dX11_readAct_132 rfl ?_
    refine g_iconst (Y := YX11_readAct) (pc := 133) dX11_readAct_133 kI_2 ?_
    refine g_iadd (Y := YX11_readAct) (pc := 134) dX11_readAct_134 ?_
    refine g_aload_n (Y := YX11_readAct) (pc := 135) 0 dX11_readAct_135 rfl ?_
    refine g_iconst (Y := YX11_readAct) (pc := 136) dX11_readAct_136 kI_1 ?_
    refine g_bipush (Y := YX11_readAct) (pc := 137) dX11_readAct_137 kB_9 ?_
    obtain ⟨r17, M18, e19, hF⟩ := bd_some hF
    refine s_callVi (Y := YX11_readAct) (pc := 139) (as := [.int 1, .int 9]) (st := [.int (x1 + 2), .ref 190]) (r_X11_digit  e19) miX11_digit lk_X11_146 dX11_readAct_139 k_174 rfl (Nat.le_of_ble_eq_true rfl) (Nat.le_of_ble_eq_true rfl) rfl ?_
    clear e19
    obtain ⟨g20, hF⟩ := gd_some hF
    refine s_iast (Y := YX11_readAct) (pc := 142) dX11_readAct_142 k_190 n_190 g20 ?_
    refine g_nmM (fun M21 e => ?_)
    replace hF := ml_to e hF; clear e
    refine g_loc [] rfl ?_
    exact w_X11_readAct_143  _ hF
def f_X11_readAct_106  (x1 : Int32) (x2 : Int32) (M : Mem) : Option (Int32 × Mem) :=
  bd (f_X11_letter 97 6 M) fun r11 M12 =>
  gd (0 ≤ (x1 + 1) ∧ (x1 + 1).toNatClampNeg < 240) <|
  ml (up M12 190 (x1 + 1).toNatClampNeg r11) fun M15 =>
  f_X11_readAct_122 x1 x2 M15
set_option maxRecDepth 100000 in
theorem w_X11_readAct_106 {R : Int32} {M' : Mem}  (x1 x2 : Int32) (M : Mem) (hF : f_X11_readAct_106 x1 x2 M = some (R, M')) : RunF l D cy ad none YX11_readAct 4 0 0 none (lay X M') 0 0 106 [(0, .ref 174), (1, .int x1), (2, .int x2)] [] (lay X M) := by
  unfold f_X11_readAct_106 at hF
  refine g_aload_n (Y := YX11_readAct) (pc := 106) 0 dX11_readAct_106 rfl ?_
  refine u_getR (Y := YX11_readAct) (pc := 107) (j := 190) dX11_readAct_107 fl_X11_57 k_174 rf_174_33 ?_
  refine g_iload_n (Y := YX11_readAct) (pc := 110) 1 dX11_readAct_110 rfl ?_
  refine g_iconst (Y := YX11_readAct) (pc := 111) dX11_readAct_111 kI_1 ?_
  refine g_iadd (Y := YX11_readAct) (pc := 112) dX11_readAct_112 ?_
  refine g_aload_n (Y := YX11_readAct) (pc := 113) 0 dX11_readAct_113 rfl ?_
  refine g_bipush (Y := YX11_readAct) (pc := 114) dX11_readAct_114 kB_97 ?_
  refine g_bipush (Y := YX11_readAct) (pc := 116) dX11_readAct_116 kB_6 ?_
  obtain ⟨r11, M12, e13, hF⟩ := bd_some hF
  refine s_callVi (Y := YX11_readAct) (pc := 118) (as := [.int 97, .int 6]) (st := [.int (x1 + 1), .ref 190]) (r_X11_letter  e13) miX11_letter lk_X11_160 dX11_readAct_118 k_174 rfl (Nat.le_of_ble_eq_true rfl) (Nat.le_of_ble_eq_true rfl) rfl ?_
  clear e13
  obtain ⟨g14, hF⟩ := gd_some hF
  refine s_iast (Y := YX11_readAct) (pc := 121) dX11_readAct_121 k_190 n_190 g14 ?_
  refine g_nmM (fun M15 e => ?_)
  replace hF := ml_to e hF; clear e
  exact w_X11_readAct_122  _ _ _ hF
def f_X11_readAct_94  (x1 : Int32) (x2 : Int32) (M : Mem) : Option (Int32 × Mem) :=
  if x2 = 111 then
    f_X11_readAct_106 x1 x2 M
  else
    if x2 = 118 then
      f_X11_readAct_106 x1 x2 M
    else
      f_X11_readAct_122 x1 x2 M
set_option maxRecDepth 100000 in
theorem w_X11_readAct_94 {R : Int32} {M' : Mem}  (x1 x2 : Int32) (M : Mem) (hF : f_X11_readAct_94 x1 x2 M = some (R, M')) : RunF l D cy ad none YX11_readAct 4 0 0 none (lay X M') 0 0 94 [(0, .ref 174), (1, .int x1), (2, .int x2)] [] (lay X M) := by
  unfold f_X11_readAct_94 at hF
  refine g_iload_n (Y := YX11_readAct) (pc := 94) 2 dX11_readAct_94 rfl ?_
  refine g_bipush (Y := YX11_readAct) (pc := 95) dX11_readAct_95 kB_111 ?_
  refine g_icmp_eq (Y := YX11_readAct) (pc := 97) (tgt := 106) dX11_readAct_97 rfl (fun c10 => ?_) (fun c10 => ?_)
  · replace hF := if_t c10 hF
    exact w_X11_readAct_106  _ _ _ hF
  · replace hF := if_f c10 hF
    refine g_iload_n (Y := YX11_readAct) (pc := 100) 2 dX11_readAct_100 rfl ?_
    refine g_bipush (Y := YX11_readAct) (pc := 101) dX11_readAct_101 kB_118 ?_
    refine g_icmp_ne (Y := YX11_readAct) (pc := 103) (tgt := 122) dX11_readAct_103 rfl (fun c22 => ?_) (fun c22 => ?_)
    · replace hF := if_f c22 hF
      exact w_X11_readAct_122  _ _ _ hF
    · replace hF := if_t c22 hF
      exact w_X11_readAct_106  _ _ _ hF
def f_X11_readAct_73  (x1 : Int32) (x2 : Int32) (M : Mem) : Option (Int32 × Mem) :=
  if x2 = 112 then
    bd (f_X11_digit 1 9 M) fun r23 M24 =>
    gd (0 ≤ (x1 + 1) ∧ (x1 + 1).toNatClampNeg < 240) <|
    ml (up M24 190 (x1 + 1).toNatClampNeg r23) fun M27 =>
    f_X11_readAct_94 x1 x2 M27
  else
    f_X11_readAct_94 x1 x2 M
set_option maxRecDepth 100000 in
theorem w_X11_readAct_73 {R : Int32} {M' : Mem}  (x1 x2 : Int32) (M : Mem) (hF : f_X11_readAct_73 x1 x2 M = some (R, M')) : RunF l D cy ad none YX11_readAct 4 0 0 none (lay X M') 0 0 73 [(0, .ref 174), (1, .int x1), (2, .int x2)] [] (lay X M) := by
  unfold f_X11_readAct_73 at hF
  refine g_iload_n (Y := YX11_readAct) (pc := 73) 2 dX11_readAct_73 rfl ?_
  refine g_bipush (Y := YX11_readAct) (pc := 74) dX11_readAct_74 kB_112 ?_
  refine g_icmp_ne (Y := YX11_readAct) (pc := 76) (tgt := 94) dX11_readAct_76 rfl (fun c9 => ?_) (fun c9 => ?_)
  · replace hF := if_f c9 hF
    exact w_X11_readAct_94  _ _ _ hF
  · replace hF := if_t c9 hF
    refine g_aload_n (Y := YX11_readAct) (pc := 79) 0 dX11_readAct_79 rfl ?_
    refine u_getR (Y := YX11_readAct) (pc := 80) (j := 190) dX11_readAct_80 fl_X11_57 k_174 rf_174_33 ?_
    refine g_iload_n (Y := YX11_readAct) (pc := 83) 1 dX11_readAct_83 rfl ?_
    refine g_iconst (Y := YX11_readAct) (pc := 84) dX11_readAct_84 kI_1 ?_
    refine g_iadd (Y := YX11_readAct) (pc := 85) dX11_readAct_85 ?_
    refine g_aload_n (Y := YX11_readAct) (pc := 86) 0 dX11_readAct_86 rfl ?_
    refine g_iconst (Y := YX11_readAct) (pc := 87) dX11_readAct_87 kI_1 ?_
    refine g_bipush (Y := YX11_readAct) (pc := 88) dX11_readAct_88 kB_9 ?_
    obtain ⟨r23, M24, e25, hF⟩ := bd_some hF
    refine s_callVi (Y := YX11_readAct) (pc := 90) (as := [.int 1, .int 9]) (st := [.int (x1 + 1), .ref 190]) (r_X11_digit  e25) miX11_digit lk_X11_146 dX11_readAct_90 k_174 rfl (Nat.le_of_ble_eq_true rfl) (Nat.le_of_ble_eq_true rfl) rfl ?_
    clear e25
    obtain ⟨g26, hF⟩ := gd_some hF
    refine s_iast (Y := YX11_readAct) (pc := 93) dX11_readAct_93 k_190 n_190 g26 ?_
    refine g_nmM (fun M27 e => ?_)
    replace hF := ml_to e hF; clear e
    exact w_X11_readAct_94  _ _ _ hF
def f_X11_readAct_37  (x1 : Int32) (x2 : Int32) (M : Mem) : Option (Int32 × Mem) :=
  ml (up M 174 18 ((M 174 18) + 1)) fun M5 =>
  gd (0 ≤ x1 ∧ x1.toNatClampNeg < 240) <|
  ml (up M5 190 x1.toNatClampNeg x2) fun M7 =>
  if x2 = 109 then
    bd (f_X11_number 2 M7) fun r28 M29 =>
    gd (0 ≤ (x1 + 1) ∧ (x1 + 1).toNatClampNeg < 240) <|
    ml (up M29 190 (x1 + 1).toNatClampNeg r28) fun M32 =>
    f_X11_readAct_73 x1 x2 M32
  else
    f_X11_readAct_73 x1 x2 M7
set_option maxRecDepth 100000 in
theorem w_X11_readAct_37 {R : Int32} {M' : Mem}  (x1 x2 : Int32) (M : Mem) (hF : f_X11_readAct_37 x1 x2 M = some (R, M')) : RunF l D cy ad none YX11_readAct 4 0 0 none (lay X M') 0 0 37 [(0, .ref 174), (1, .int x1), (2, .int x2)] [] (lay X M) := by
  unfold f_X11_readAct_37 at hF
  refine g_aload_n (Y := YX11_readAct) (pc := 37) 0 dX11_readAct_37 rfl ?_
  refine g_dup (Y := YX11_readAct) (pc := 38) dX11_readAct_38 rfl ?_
  refine u_getI (Y := YX11_readAct) (pc := 39) dX11_readAct_39 fl_X11_128 k_174 ?_
  refine g_iconst (Y := YX11_readAct) (pc := 42) dX11_readAct_42 kI_1 ?_
  refine g_iadd (Y := YX11_readAct) (pc := 43) dX11_readAct_43 ?_
  refine u_putI (Y := YX11_readAct) (pc := 44) dX11_readAct_44 fl_X11_128  k_174 ?_
  refine g_nmM (fun M5 e => ?_)
  replace hF := ml_to e hF; clear e
  refine g_aload_n (Y := YX11_readAct) (pc := 47) 0 dX11_readAct_47 rfl ?_
  refine u_getR (Y := YX11_readAct) (pc := 48) (j := 190) dX11_readAct_48 fl_X11_57 k_174 rf_174_33 ?_
  refine g_iload_n (Y := YX11_readAct) (pc := 51) 1 dX11_readAct_51 rfl ?_
  refine g_iload_n (Y := YX11_readAct) (pc := 52) 2 dX11_readAct_52 rfl ?_
  obtain ⟨g6, hF⟩ := gd_some hF
  refine s_iast (Y := YX11_readAct) (pc := 53) dX11_readAct_53 k_190 n_190 g6 ?_
  refine g_nmM (fun M7 e => ?_)
  replace hF := ml_to e hF; clear e
  refine g_iload_n (Y := YX11_readAct) (pc := 54) 2 dX11_readAct_54 rfl ?_
  refine g_bipush (Y := YX11_readAct) (pc := 55) dX11_readAct_55 kB_109 ?_
  refine g_icmp_ne (Y := YX11_readAct) (pc := 57) (tgt := 73) dX11_readAct_57 rfl (fun c8 => ?_) (fun c8 => ?_)
  · replace hF := if_f c8 hF
    exact w_X11_readAct_73  _ _ _ hF
  · replace hF := if_t c8 hF
    refine g_aload_n (Y := YX11_readAct) (pc := 60) 0 dX11_readAct_60 rfl ?_
    refine u_getR (Y := YX11_readAct) (pc := 61) (j := 190) dX11_readAct_61 fl_X11_57 k_174 rf_174_33 ?_
    refine g_iload_n (Y := YX11_readAct) (pc := 64) 1 dX11_readAct_64 rfl ?_
    refine g_iconst (Y := YX11_readAct) (pc := 65) dX11_readAct_65 kI_1 ?_
    refine g_iadd (Y := YX11_readAct) (pc := 66) dX11_readAct_66 ?_
    refine g_aload_n (Y := YX11_readAct) (pc := 67) 0 dX11_readAct_67 rfl ?_
    refine g_iconst (Y := YX11_readAct) (pc := 68) dX11_readAct_68 kI_2 ?_
    obtain ⟨r28, M29, e30, hF⟩ := bd_some hF
    refine s_callVi (Y := YX11_readAct) (pc := 69) (as := [.int 2]) (st := [.int (x1 + 1), .ref 190]) (r_X11_number  e30) miX11_number lk_X11_156 dX11_readAct_69 k_174 rfl (Nat.le_of_ble_eq_true rfl) (Nat.le_of_ble_eq_true rfl) rfl ?_
    clear e30
    obtain ⟨g31, hF⟩ := gd_some hF
    refine s_iast (Y := YX11_readAct) (pc := 72) dX11_readAct_72 k_190 n_190 g31 ?_
    refine g_nmM (fun M32 e => ?_)
    replace hF := ml_to e hF; clear e
    exact w_X11_readAct_73  _ _ _ hF
def f_X11_readAct_0  (x1 : Int32) (M : Mem) : Option (Int32 × Mem) :=
  bd (f_X11_here M) fun r1 M2 =>
  if r1 = 109 then
    f_X11_readAct_37 x1 r1 M2
  else
    if r1 = 111 then
      f_X11_readAct_37 x1 r1 M2
    else
      if r1 = 118 then
        f_X11_readAct_37 x1 r1 M2
      else
        if r1 = 112 then
          f_X11_readAct_37 x1 r1 M2
        else
          bd (f_X11_fault (M2 174 18) M2) fun _ M37 =>
          f_X11_readAct_37 x1 r1 M37
set_option maxRecDepth 100000 in
theorem w_X11_readAct_0 {R : Int32} {M' : Mem}  (x1 : Int32) (M : Mem) (hF : f_X11_readAct_0 x1 M = some (R, M')) : RunF l D cy ad none YX11_readAct 4 0 0 none (lay X M') 0 0 0 [(0, .ref 174), (1, .int x1)] [] (lay X M) := by
  unfold f_X11_readAct_0 at hF
  refine g_aload_n (Y := YX11_readAct) (pc := 0) 0 dX11_readAct_0 rfl ?_
  obtain ⟨r1, M2, e3, hF⟩ := bd_some hF
  refine s_callVi (Y := YX11_readAct) (pc := 1) (as := []) (st := []) (r_X11_here  e3) miX11_here lk_X11_138 dX11_readAct_1 k_174 rfl (Nat.le_of_ble_eq_true rfl) (Nat.le_of_ble_eq_true rfl) rfl ?_
  clear e3
  refine g_istore_n (Y := YX11_readAct) (pc := 4) (L' := [(2, .int r1), (0, .ref 174), (1, .int x1)]) dX11_readAct_4 (Nat.le_of_ble_eq_true rfl) rfl ?_
  refine g_iload_n (Y := YX11_readAct) (pc := 5) 0 dX11_readAct_5 rfl ?_
  refine g_bipush (Y := YX11_readAct) (pc := 6) dX11_readAct_6 kB_109 ?_
  refine g_icmp_eq (Y := YX11_readAct) (pc := 8) (tgt := 37) dX11_readAct_8 rfl (fun c4 => ?_) (fun c4 => ?_)
  · replace hF := if_t c4 hF
    refine g_loc [1, 2, 0] rfl ?_
    exact w_X11_readAct_37  _ _ _ hF
  · replace hF := if_f c4 hF
    refine g_iload_n (Y := YX11_readAct) (pc := 11) 0 dX11_readAct_11 rfl ?_
    refine g_bipush (Y := YX11_readAct) (pc := 12) dX11_readAct_12 kB_111 ?_
    refine g_icmp_eq (Y := YX11_readAct) (pc := 14) (tgt := 37) dX11_readAct_14 rfl (fun c33 => ?_) (fun c33 => ?_)
    · replace hF := if_t c33 hF
      refine g_loc [1, 2, 0] rfl ?_
      exact w_X11_readAct_37  _ _ _ hF
    · replace hF := if_f c33 hF
      refine g_iload_n (Y := YX11_readAct) (pc := 17) 0 dX11_readAct_17 rfl ?_
      refine g_bipush (Y := YX11_readAct) (pc := 18) dX11_readAct_18 kB_118 ?_
      refine g_icmp_eq (Y := YX11_readAct) (pc := 20) (tgt := 37) dX11_readAct_20 rfl (fun c34 => ?_) (fun c34 => ?_)
      · replace hF := if_t c34 hF
        refine g_loc [1, 2, 0] rfl ?_
        exact w_X11_readAct_37  _ _ _ hF
      · replace hF := if_f c34 hF
        refine g_iload_n (Y := YX11_readAct) (pc := 23) 0 dX11_readAct_23 rfl ?_
        refine g_bipush (Y := YX11_readAct) (pc := 24) dX11_readAct_24 kB_112 ?_
        refine g_icmp_eq (Y := YX11_readAct) (pc := 26) (tgt := 37) dX11_readAct_26 rfl (fun c35 => ?_) (fun c35 => ?_)
        · replace hF := if_t c35 hF
          refine g_loc [1, 2, 0] rfl ?_
          exact w_X11_readAct_37  _ _ _ hF
        · replace hF := if_f c35 hF
          refine g_aload_n (Y := YX11_readAct) (pc := 29) 1 dX11_readAct_29 rfl ?_
          refine g_aload_n (Y := YX11_readAct) (pc := 30) 1 dX11_readAct_30 rfl ?_
          refine u_getI (Y := YX11_readAct) (pc := 31) dX11_readAct_31 fl_X11_128 k_174 ?_
          obtain ⟨r36, M37, e38, hF⟩ := bd_some hF
          refine s_callVv (Y := YX11_readAct) (pc := 34) (as := [.int (M2 174 18)]) (st := []) (r_X11_fault  e38) miX11_fault lk_X11_142 dX11_readAct_34 k_174 rfl (Nat.le_of_ble_eq_true rfl) (Nat.le_of_ble_eq_true rfl) rfl ?_
          clear e38
          refine g_loc [1, 2, 0] rfl ?_
          exact w_X11_readAct_37  _ _ _ hF
def f_X11_readAct (x1 : Int32) (M : Mem) : Option (Int32 × Mem) := f_X11_readAct_0 x1 M
theorem r_X11_readAct {x1 R : Int32} {M M' : Mem}  (hF : f_X11_readAct x1 M = some (R, M')) : RunS l D cy ad YX11_readAct 4 [.ref 174, .int x1] X M none M' := Run.of 1 (miX11_readAct).1 (Nat.le_of_ble_eq_true rfl) (w_X11_readAct_0  _ _ hF)
end NXG
