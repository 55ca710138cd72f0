theorem dX1_hasGroup_0 : decode cX1_hasGroup 0 = .ok (.iload_n 1, 1) := by decide +kernel
theorem dX1_hasGroup_1 : decode cX1_hasGroup 1 = .ok (.ifCond .lt 15, 3) := by decide +kernel
theorem dX1_hasGroup_4 : decode cX1_hasGroup 4 = .ok (.iload_n 1, 1) := by decide +kernel
theorem dX1_hasGroup_5 : decode cX1_hasGroup 5 = .ok (.aload_n 0, 1) := by decide +kernel
theorem dX1_hasGroup_6 : decode cX1_hasGroup 6 = .ok (.getfield 18, 3) := by decide +kernel
theorem dX1_hasGroup_9 : decode cX1_hasGroup 9 = .ok (.if_icmp .ge 7, 3) := by decide +kernel
theorem dX1_hasGroup_12 : decode cX1_hasGroup 12 = .ok (.iconst 1, 1) := by decide +kernel
theorem dX1_hasGroup_13 : decode cX1_hasGroup 13 = .ok (.goto 4, 3) := by decide +kernel
theorem dX1_hasGroup_16 : decode cX1_hasGroup 16 = .ok (.iconst 0, 1) := by decide +kernel
theorem dX1_hasGroup_17 : decode cX1_hasGroup 17 = .ok (.ireturn, 1) := by decide +kernel
theorem dX1_hasRoom_0 : decode cX1_hasRoom 0 = .ok (.iload_n 1, 1) := by decide +kernel
theorem dX1_hasRoom_1 : decode cX1_hasRoom 1 = .ok (.ifCond .lt 15, 3) := by decide +kernel
theorem dX1_hasRoom_4 : decode cX1_hasRoom 4 = .ok (.iload_n 1, 1) := by decide +kernel
theorem dX1_hasRoom_5 : decode cX1_hasRoom 5 = .ok (.aload_n 0, 1) := by decide +kernel
theorem dX1_hasRoom_6 : decode cX1_hasRoom 6 = .ok (.getfield 9, 3) := by decide +kernel
theorem dX1_hasRoom_9 : decode cX1_hasRoom 9 = .ok (.if_icmp .ge 7, 3) := by decide +kernel
theorem dX1_hasRoom_12 : decode cX1_hasRoom 12 = .ok (.iconst 1, 1) := by decide +kernel
theorem dX1_hasRoom_13 : decode cX1_hasRoom 13 = .ok (.goto 4, 3) := by decide +kernel
theorem dX1_hasRoom_16 : decode cX1_hasRoom 16 = .ok (.iconst 0, 1) := by decide +kernel
theorem dX1_hasRoom_17 : decode cX1_hasRoom 17 = .ok (.ireturn, 1) := by decide +kernel
theorem dX1_isCorridor_0 : decode cX1_isCorridor 0 = .ok (.aload_n 0, 1) := by decide +kernel
theorem dX1_isCorridor_1 : decode cX1_isCorridor 1 = .ok (.getfield 15, 3) := by decide +kernel
theorem dX1_isCorridor_4 : decode cX1_isCorridor 4 = .ok (.iload_n 1, 1) := by decide +kernel
theorem dX1_isCorridor_5 : decode cX1_isCorridor 5 = .ok (.ishr, 1) := by decide +kernel
theorem dX1_isCorridor_6 : decode cX1_isCorridor 6 = .ok (.iconst 1, 1) := by decide +kernel
theorem dX1_isCorridor_7 : decode cX1_isCorridor 7 = .ok (.iand, 1) := by decide +kernel
theorem dX1_isCorridor_8 : decode cX1_isCorridor 8 = .ok (.iconst 1, 1) := by decide +kernel
theorem dX1_isCorridor_9 : decode cX1_isCorridor 9 = .ok (.if_icmp .ne 7, 3) := by decide +kernel
theorem dX1_isCorridor_12 : decode cX1_isCorridor 12 = .ok (.iconst 1, 1) := by decide +kernel
theorem dX1_isCorridor_13 : decode cX1_isCorridor 13 = .ok (.goto 4, 3) := by decide +kernel
theorem dX1_isCorridor_16 : decode cX1_isCorridor 16 = .ok (.iconst 0, 1) := by decide +kernel
theorem dX1_isCorridor_17 : decode cX1_isCorridor 17 = .ok (.ireturn, 1) := by decide +kernel
theorem dX7_bitsIn_0 : decode cX7_bitsIn 0 = .ok (.iconst 0, 1) := by decide +kernel
theorem dX7_bitsIn_1 : decode cX7_bitsIn 1 = .ok (.istore_n 2, 1) := by decide +kernel
theorem dX7_bitsIn_2 : decode cX7_bitsIn 2 = .ok (.iconst 0, 1) := by decide +kernel
theorem dX7_bitsIn_3 : decode cX7_bitsIn 3 = .ok (.istore_n 3, 1) := by decide +kernel
theorem dX7_bitsIn_4 : decode cX7_bitsIn 4 = .ok (.iload_n 3, 1) := by decide +kernel
theorem dX7_bitsIn_5 : decode cX7_bitsIn 5 = .ok (.bipush 6, 2) := by decide +kernel
theorem dX7_bitsIn_7 : decode cX7_bitsIn 7 = .ok (.if_icmp .ge 25, 3) := by decide +kernel
theorem dX7_bitsIn_10 : decode cX7_bitsIn 10 = .ok (.aload_n 0, 1) := by decide +kernel
theorem dX7_bitsIn_11 : decode cX7_bitsIn 11 = .ok (.getfield 9, 3) := by decide +kernel
theorem dX7_bitsIn_14 : decode cX7_bitsIn 14 = .ok (.iload_n 3, 1) := by decide +kernel
theorem dX7_bitsIn_15 : decode cX7_bitsIn 15 = .ok (.iaload, 1) := by decide +kernel
theorem dX7_bitsIn_16 : decode cX7_bitsIn 16 = .ok (.iload_n 1, 1) := by decide +kernel
theorem dX7_bitsIn_17 : decode cX7_bitsIn 17 = .ok (.if_icmp .ne 9, 3) := by decide +kernel
theorem dX7_bitsIn_20 : decode cX7_bitsIn 20 = .ok (.iload_n 2, 1) := by decide +kernel
theorem dX7_bitsIn_21 : decode cX7_bitsIn 21 = .ok (.iconst 1, 1) := by decide +kernel
theorem dX7_bitsIn_22 : decode cX7_bitsIn 22 = .ok (.iload_n 3, 1) := by decide +kernel
theorem dX7_bitsIn_23 : decode cX7_bitsIn 23 = .ok (.ishl, 1) := by decide +kernel
theorem dX7_bitsIn_24 : decode cX7_bitsIn 24 = .ok (.ior, 1) := by decide +kernel
theorem dX7_bitsIn_25 : decode cX7_bitsIn 25 = .ok (.istore_n 2, 1) := by decide +kernel
theorem dX7_bitsIn_26 : decode cX7_bitsIn 26 = .ok (.iinc 3 1, 3) := by decide +kernel
theorem dX7_bitsIn_29 : decode cX7_bitsIn 29 = .ok (.goto (-25), 3) := by decide +kernel
theorem dX7_bitsIn_32 : decode cX7_bitsIn 32 = .ok (.iload_n 2, 1) := by decide +kernel
theorem dX7_bitsIn_33 : decode cX7_bitsIn 33 = .ok (.ireturn, 1) := by decide +kernel
theorem dX10_has_0 : decode cX10_has 0 = .ok (.iload_n 0, 1) := by decide +kernel
theorem dX10_has_1 : decode cX10_has 1 = .ok (.iload_n 1, 1) := by decide +kernel
theorem dX10_has_2 : decode cX10_has 2 = .ok (.ishr, 1) := by decide +kernel
theorem dX10_has_3 : decode cX10_has 3 = .ok (.iconst 1, 1) := by decide +kernel
theorem dX10_has_4 : decode cX10_has 4 = .ok (.iand, 1) := by decide +kernel
theorem dX10_has_5 : decode cX10_has 5 = .ok (.iconst 1, 1) := by decide +kernel
theorem dX10_has_6 : decode cX10_has 6 = .ok (.if_icmp .ne 7, 3) := by decide +kernel
theorem dX10_has_9 : decode cX10_has 9 = .ok (.iconst 1, 1) := by decide +kernel
theorem dX10_has_10 : decode cX10_has 10 = .ok (.goto 4, 3) := by decide +kernel
theorem dX10_has_13 : decode cX10_has 13 = .ok (.iconst 0, 1) := by decide +kernel
theorem dX10_has_14 : decode cX10_has 14 = .ok (.ireturn, 1) := by decide +kernel
theorem dX1_togetherIn_0 : decode cX1_togetherIn 0 = .ok (.iconst 0, 1) := by decide +kernel
theorem dX1_togetherIn_1 : decode cX1_togetherIn 1 = .ok (.istore_n 3, 1) := by decide +kernel
theorem dX1_togetherIn_2 : decode cX1_togetherIn 2 = .ok (.iconst 0, 1) := by decide +kernel
theorem dX1_togetherIn_3 : decode cX1_togetherIn 3 = .ok (.istore 4, 2) := by decide +kernel
theorem dX1_togetherIn_5 : decode cX1_togetherIn 5 = .ok (.iload 4, 2) := by decide +kernel
theorem dX1_togetherIn_7 : decode cX1_togetherIn 7 = .ok (.aload_n 0, 1) := by decide +kernel
theorem dX1_togetherIn_8 : decode cX1_togetherIn 8 = .ok (.getfield 18, 3) := by decide +kernel
theorem dX1_togetherIn_11 : decode cX1_togetherIn 11 = .ok (.if_icmp .ge 30, 3) := by decide +kernel
theorem dX1_togetherIn_14 : decode cX1_togetherIn 14 = .ok (.iload_n 2, 1) := by decide +kernel
theorem dX1_togetherIn_15 : decode cX1_togetherIn 15 = .ok (.iload 4, 2) := by decide +kernel
theorem dX1_togetherIn_17 : decode cX1_togetherIn 17 = .ok (.invokestatic 65, 3) := by decide +kernel
theorem dX1_togetherIn_20 : decode cX1_togetherIn 20 = .ok (.ifCond .eq 15, 3) := by decide +kernel
theorem dX1_togetherIn_23 : decode cX1_togetherIn 23 = .ok (.iload_n 3, 1) := by decide +kernel
theorem dX1_togetherIn_24 : decode cX1_togetherIn 24 = .ok (.aload_n 0, 1) := by decide +kernel
theorem dX1_togetherIn_25 : decode cX1_togetherIn 25 = .ok (.getfield 42, 3) := by decide +kernel
theorem dX1_togetherIn_28 : decode cX1_togetherIn 28 = .ok (.iload 4, 2) := by decide +kernel
theorem dX1_togetherIn_30 : decode cX1_togetherIn 30 = .ok (.aaload, 1) := by decide +kernel
theorem dX1_togetherIn_31 : decode cX1_togetherIn 31 = .ok (.iload_n 1, 1) := by decide +kernel
theorem dX1_togetherIn_32 : decode cX1_togetherIn 32 = .ok (.iaload, 1) := by decide +kernel
theorem dX1_togetherIn_33 : decode cX1_togetherIn 33 = .ok (.iadd, 1) := by decide +kernel
theorem dX1_togetherIn_34 : decode cX1_togetherIn 34 = .ok (.istore_n 3, 1) := by decide +kernel
theorem dX1_togetherIn_35 : decode cX1_togetherIn 35 = .ok (.iinc 4 1, 3) := by decide +kernel
theorem dX1_togetherIn_38 : decode cX1_togetherIn 38 = .ok (.goto (-33), 3) := by decide +kernel
theorem dX1_togetherIn_41 : decode cX1_togetherIn 41 = .ok (.iload_n 3, 1) := by decide +kernel
theorem dX1_togetherIn_42 : decode cX1_togetherIn 42 = .ok (.ireturn, 1) := by decide +kernel
theorem dX1_everybody_0 : decode cX1_everybody 0 = .ok (.iconst 1, 1) := by decide +kernel
theorem dX1_everybody_1 : decode cX1_everybody 1 = .ok (.aload_n 0, 1) := by decide +kernel
theorem dX1_everybody_2 : decode cX1_everybody 2 = .ok (.getfield 18, 3) := by decide +kernel
theorem dX1_everybody_5 : decode cX1_everybody 5 = .ok (.ishl, 1) := by decide +kernel
theorem dX1_everybody_6 : decode cX1_everybody 6 = .ok (.iconst 1, 1) := by decide +kernel
theorem dX1_everybody_7 : decode cX1_everybody 7 = .ok (.isub, 1) := by decide +kernel
theorem dX1_everybody_8 : decode cX1_everybody 8 = .ok (.ireturn, 1) := by decide +kernel
theorem dX8_add_0 : decode cX8_add 0 = .ok (.aload_n 0, 1) := by decide +kernel
theorem dX8_add_1 : decode cX8_add 1 = .ok (.getfield 15, 3) := by decide +kernel
theorem dX8_add_4 : decode cX8_add 4 = .ok (.ifCond .lt 14, 3) := by decide +kernel
theorem dX8_add_7 : decode cX8_add 7 = .ok (.aload_n 0, 1) := by decide +kernel
theorem dX8_add_8 : decode cX8_add 8 = .ok (.getfield 15, 3) := by decide +kernel
theorem dX8_add_11 : decode cX8_add 11 = .ok (.iconst 4, 1) := by decide +kernel
theorem dX8_add_12 : decode cX8_add 12 = .ok (.iadd, 1) := by decide +kernel
theorem dX8_add_13 : decode cX8_add 13 = .ok (.bipush 80, 2) := by decide +kernel
theorem dX8_add_15 : decode cX8_add 15 = .ok (.if_icmp .le 5, 3) := by decide +kernel
theorem dX8_add_18 : decode cX8_add 18 = .ok (.iconst (-1), 1) := by decide +kernel
theorem dX8_add_19 : decode cX8_add 19 = .ok (.ireturn, 1) := by decide +kernel
theorem dX8_add_20 : decode cX8_add 20 = .ok (.bipush 24, 2) := by decide +kernel
theorem dX8_add_22 : decode cX8_add 22 = .ok (.istore_n 2, 1) := by decide +kernel
theorem dX8_add_23 : decode cX8_add 23 = .ok (.iload_n 2, 1) := by decide +kernel
theorem dX8_add_24 : decode cX8_add 24 = .ok (.ifCond .lt 36, 3) := by decide +kernel
theorem dX8_add_27 : decode cX8_add 27 = .ok (.aload_n 0, 1) := by decide +kernel
theorem dX8_add_28 : decode cX8_add 28 = .ok (.getfield 9, 3) := by decide +kernel
theorem dX8_add_31 : decode cX8_add 31 = .ok (.aload_n 0, 1) := by decide +kernel
theorem dX8_add_32 : decode cX8_add 32 = .ok (.getfield 15, 3) := by decide +kernel
theorem dX8_add_35 : decode cX8_add 35 = .ok (.iload_n 1, 1) := by decide +kernel
theorem dX8_add_36 : decode cX8_add 36 = .ok (.iload_n 2, 1) := by decide +kernel
theorem dX8_add_37 : decode cX8_add 37 = .ok (.iushr, 1) := by decide +kernel
theorem dX8_add_38 : decode cX8_add 38 = .ok (.sipush 255, 3) := by decide +kernel
theorem dX8_add_41 : decode cX8_add 41 = .ok (.iand, 1) := by decide +kernel
theorem dX8_add_42 : decode cX8_add 42 = .ok (.i2c, 1) := by decide +kernel
theorem dX8_add_43 : decode cX8_add 43 = .ok (.castore, 1) := by decide +kernel
theorem dX8_add_44 : decode cX8_add 44 = .ok (.aload_n 0, 1) := by decide +kernel
theorem dX8_add_45 : decode cX8_add 45 = .ok (.dup, 1) := by decide +kernel
theorem dX8_add_46 : decode cX8_add 46 = .ok (.getfield 15, 3) := by decide +kernel
theorem dX8_add_49 : decode cX8_add 49 = .ok (.iconst 1, 1) := by decide +kernel
theorem dX8_add_50 : decode cX8_add 50 = .ok (.iadd, 1) := by decide +kernel
theorem dX8_add_51 : decode cX8_add 51 = .ok (.putfield 15, 3) := by decide +kernel
theorem dX8_add_54 : decode cX8_add 54 = .ok (.iinc 2 (-8), 3) := by decide +kernel
theorem dX8_add_57 : decode cX8_add 57 = .ok (.goto (-34), 3) := by decide +kernel
theorem dX8_add_60 : decode cX8_add 60 = .ok (.aload_n 0, 1) := by decide +kernel
theorem dX8_add_61 : decode cX8_add 61 = .ok (.getfield 15, 3) := by decide +kernel
theorem dX8_add_64 : decode cX8_add 64 = .ok (.ireturn, 1) := by decide +kernel
theorem dX10_sign_0 : decode cX10_sign 0 = .ok (.aload_n 0, 1) := by decide +kernel
theorem dX10_sign_1 : decode cX10_sign 1 = .ok (.getfield 10, 3) := by decide +kernel
theorem dX10_sign_4 : decode cX10_sign 4 = .ok (.iload_n 1, 1) := by decide +kernel
theorem dX10_sign_5 : decode cX10_sign 5 = .ok (.invokevirtual 105, 3) := by decide +kernel
theorem dX10_sign_8 : decode cX10_sign 8 = .ok (.ireturn, 1) := by decide +kernel
theorem dX8_cut_0 : decode cX8_cut 0 = .ok (.iload_n 1, 1) := by decide +kernel
theorem dX8_cut_1 : decode cX8_cut 1 = .ok (.ifCond .lt 11, 3) := by decide +kernel
theorem dX8_cut_4 : decode cX8_cut 4 = .ok (.iload_n 1, 1) := by decide +kernel
theorem dX8_cut_5 : decode cX8_cut 5 = .ok (.aload_n 0, 1) := by decide +kernel
theorem dX8_cut_6 : decode cX8_cut 6 = .ok (.getfield 15, 3) := by decide +kernel
theorem dX8_cut_9 : decode cX8_cut 9 = .ok (.if_icmp .le 5, 3) := by decide +kernel
theorem dX8_cut_12 : decode cX8_cut 12 = .ok (.iconst 0, 1) := by decide +kernel
theorem dX8_cut_13 : decode cX8_cut 13 = .ok (.ireturn, 1) := by decide +kernel
theorem dX8_cut_14 : decode cX8_cut 14 = .ok (.aload_n 0, 1) := by decide +kernel
theorem dX8_cut_15 : decode cX8_cut 15 = .ok (.iload_n 1, 1) := by decide +kernel
theorem dX8_cut_16 : decode cX8_cut 16 = .ok (.putfield 15, 3) := by decide +kernel
theorem dX8_cut_19 : decode cX8_cut 19 = .ok (.iconst 1, 1) := by decide +kernel
theorem dX8_cut_20 : decode cX8_cut 20 = .ok (.ireturn, 1) := by decide +kernel
theorem dX10_end_0 : decode cX10_end 0 = .ok (.aload_n 0, 1) := by decide +kernel
theorem dX10_end_1 : decode cX10_end 1 = .ok (.getfield 10, 3) := by decide +kernel
theorem dX10_end_4 : decode cX10_end 4 = .ok (.iload_n 1, 1) := by decide +kernel
theorem dX10_end_5 : decode cX10_end 5 = .ok (.invokevirtual 109, 3) := by decide +kernel
theorem dX10_end_8 : decode cX10_end 8 = .ok (.ireturn, 1) := by decide +kernel
theorem dX8_at_0 : decode cX8_at 0 = .ok (.iload_n 1, 1) := by decide +kernel
theorem dX8_at_1 : decode cX8_at 1 = .ok (.ifCond .lt 17, 3) := by decide +kernel
theorem dX8_at_4 : decode cX8_at 4 = .ok (.iload_n 1, 1) := by decide +kernel
theorem dX8_at_5 : decode cX8_at 5 = .ok (.aload_n 0, 1) := by decide +kernel
theorem dX8_at_6 : decode cX8_at 6 = .ok (.getfield 15, 3) := by decide +kernel
theorem dX8_at_9 : decode cX8_at 9 = .ok (.if_icmp .ge 9, 3) := by decide +kernel
theorem dX8_at_12 : decode cX8_at 12 = .ok (.iload_n 1, 1) := by decide +kernel
theorem dX8_at_13 : decode cX8_at 13 = .ok (.bipush 80, 2) := by decide +kernel
theorem dX8_at_15 : decode cX8_at 15 = .ok (.if_icmp .lt 5, 3) := by decide +kernel
theorem dX8_at_18 : decode cX8_at 18 = .ok (.iconst (-1), 1) := by decide +kernel
theorem dX8_at_19 : decode cX8_at 19 = .ok (.ireturn, 1) := by decide +kernel
theorem dX8_at_20 : decode cX8_at 20 = .ok (.iload_n 1, 1) := by decide +kernel
theorem dX8_at_21 : decode cX8_at 21 = .ok (.aload_n 0, 1) := by decide +kernel
theorem dX8_at_22 : decode cX8_at 22 = .ok (.getfield 19, 3) := by decide +kernel
theorem dX8_at_25 : decode cX8_at 25 = .ok (.if_icmp .ge 12, 3) := by decide +kernel
theorem dX8_at_28 : decode cX8_at 28 = .ok (.aload_n 0, 1) := by decide +kernel
theorem dX8_at_29 : decode cX8_at 29 = .ok (.getfield 9, 3) := by decide +kernel
theorem dX8_at_32 : decode cX8_at 32 = .ok (.iload_n 1, 1) := by decide +kernel
theorem dX8_at_33 : decode cX8_at 33 = .ok (.caload, 1) := by decide +kernel
theorem dX8_at_34 : decode cX8_at 34 = .ok (.goto 5, 3) := by decide +kernel
theorem dX8_at_37 : decode cX8_at 37 = .ok (.bipush (-2), 2) := by decide +kernel
theorem dX8_at_39 : decode cX8_at 39 = .ok (.ireturn, 1) := by decide +kernel
theorem dX10_faultOfPalace_0 : decode cX10_faultOfPalace 0 = .ok (.aload_n 0, 1) := by decide +kernel
theorem dX10_faultOfPalace_1 : decode cX10_faultOfPalace 1 = .ok (.getfield 10, 3) := by decide +kernel
theorem dX10_faultOfPalace_4 : decode cX10_faultOfPalace 4 = .ok (.bipush 80, 2) := by decide +kernel
theorem dX10_faultOfPalace_6 : decode cX10_faultOfPalace 6 = .ok (.putfield 403, 3) := by decide +kernel
theorem dX10_faultOfPalace_9 : decode cX10_faultOfPalace 9 = .ok (.iconst 0, 1) := by decide +kernel
theorem dX10_faultOfPalace_10 : decode cX10_faultOfPalace 10 = .ok (.istore_n 1, 1) := by decide +kernel
theorem dX10_faultOfPalace_11 : decode cX10_faultOfPalace 11 = .ok (.iload_n 1, 1) := by decide +kernel
theorem dX10_faultOfPalace_12 : decode cX10_faultOfPalace 12 = .ok (.aload_n 0, 1) := by decide +kernel
theorem dX10_faultOfPalace_13 : decode cX10_faultOfPalace 13 = .ok (.getfield 10, 3) := by decide +kernel
theorem dX10_faultOfPalace_16 : decode cX10_faultOfPalace 16 = .ok (.getfield 120, 3) := by decide +kernel
theorem dX10_faultOfPalace_19 : decode cX10_faultOfPalace 19 = .ok (.if_icmp .ge 38, 3) := by decide +kernel
theorem dX10_faultOfPalace_22 : decode cX10_faultOfPalace 22 = .ok (.aload_n 0, 1) := by decide +kernel
theorem dX10_faultOfPalace_23 : decode cX10_faultOfPalace 23 = .ok (.getfield 10, 3) := by decide +kernel
theorem dX10_faultOfPalace_26 : decode cX10_faultOfPalace 26 = .ok (.iload_n 1, 1) := by decide +kernel
theorem dX10_faultOfPalace_27 : decode cX10_faultOfPalace 27 = .ok (.invokevirtual 406, 3) := by decide +kernel
theorem dX10_faultOfPalace_30 : decode cX10_faultOfPalace 30 = .ok (.istore_n 2, 1) := by decide +kernel
theorem dX10_faultOfPalace_31 : decode cX10_faultOfPalace 31 = .ok (.iload_n 1, 1) := by decide +kernel
theorem dX10_faultOfPalace_32 : decode cX10_faultOfPalace 32 = .ok (.bipush 6, 2) := by decide +kernel
theorem dX10_faultOfPalace_34 : decode cX10_faultOfPalace 34 = .ok (.if_icmp .ge 15, 3) := by decide +kernel
theorem dX10_faultOfPalace_37 : decode cX10_faultOfPalace 37 = .ok (.iload_n 2, 1) := by decide +kernel
theorem dX10_faultOfPalace_38 : decode cX10_faultOfPalace 38 = .ok (.bipush 114, 2) := by decide +kernel
theorem dX10_faultOfPalace_40 : decode cX10_faultOfPalace 40 = .ok (.if_icmp .eq 11, 3) := by decide +kernel
theorem dX10_faultOfPalace_43 : decode cX10_faultOfPalace 43 = .ok (.iload_n 2, 1) := by decide +kernel
theorem dX10_faultOfPalace_44 : decode cX10_faultOfPalace 44 = .ok (.bipush 99, 2) := by decide +kernel
theorem dX10_faultOfPalace_46 : decode cX10_faultOfPalace 46 = .ok (.if_icmp .eq 5, 3) := by decide +kernel
theorem dX10_faultOfPalace_49 : decode cX10_faultOfPalace 49 = .ok (.iload_n 1, 1) := by decide +kernel
theorem dX10_faultOfPalace_50 : decode cX10_faultOfPalace 50 = .ok (.ireturn, 1) := by decide +kernel
theorem dX10_faultOfPalace_51 : decode cX10_faultOfPalace 51 = .ok (.iinc 1 1, 3) := by decide +kernel
theorem dX10_faultOfPalace_54 : decode cX10_faultOfPalace 54 = .ok (.goto (-43), 3) := by decide +kernel
theorem dX10_faultOfPalace_57 : decode cX10_faultOfPalace 57 = .ok (.aload_n 0, 1) := by decide +kernel
theorem dX10_faultOfPalace_58 : decode cX10_faultOfPalace 58 = .ok (.getfield 10, 3) := by decide +kernel
theorem dX10_faultOfPalace_61 : decode cX10_faultOfPalace 61 = .ok (.getfield 120, 3) := by decide +kernel
theorem dX10_faultOfPalace_64 : decode cX10_faultOfPalace 64 = .ok (.ifCond .ne 7, 3) := by decide +kernel
theorem dX10_faultOfPalace_67 : decode cX10_faultOfPalace 67 = .ok (.iconst 0, 1) := by decide +kernel
theorem dX10_faultOfPalace_68 : decode cX10_faultOfPalace 68 = .ok (.goto 4, 3) := by decide +kernel
theorem dX10_faultOfPalace_71 : decode cX10_faultOfPalace 71 = .ok (.iconst (-1), 1) := by decide +kernel
theorem dX10_faultOfPalace_72 : decode cX10_faultOfPalace 72 = .ok (.ireturn, 1) := by decide +kernel
theorem dX7_clear_0 : decode cX7_clear 0 = .ok (.aload_n 0, 1) := by decide +kernel
theorem dX7_clear_1 : decode cX7_clear 1 = .ok (.iconst 0, 1) := by decide +kernel
theorem dX7_clear_2 : decode cX7_clear 2 = .ok (.putfield 27, 3) := by decide +kernel
theorem dX7_clear_5 : decode cX7_clear 5 = .ok (.aload_n 0, 1) := by decide +kernel
theorem dX7_clear_6 : decode cX7_clear 6 = .ok (.iconst 0, 1) := by decide +kernel
theorem dX7_clear_7 : decode cX7_clear 7 = .ok (.putfield 31, 3) := by decide +kernel
theorem dX7_clear_10 : decode cX7_clear 10 = .ok (.aload_n 0, 1) := by decide +kernel
theorem dX7_clear_11 : decode cX7_clear 11 = .ok (.iconst 0, 1) := by decide +kernel
theorem dX7_clear_12 : decode cX7_clear 12 = .ok (.putfield 34, 3) := by decide +kernel
theorem dX7_clear_15 : decode cX7_clear 15 = .ok (.aload_n 0, 1) := by decide +kernel
theorem dX7_clear_16 : decode cX7_clear 16 = .ok (.iconst 0, 1) := by decide +kernel
theorem dX7_clear_17 : decode cX7_clear 17 = .ok (.putfield 37, 3) := by decide +kernel
theorem dX7_clear_20 : decode cX7_clear 20 = .ok (.iconst 0, 1) := by decide +kernel
theorem dX7_clear_21 : decode cX7_clear 21 = .ok (.istore_n 1, 1) := by decide +kernel
theorem dX7_clear_22 : decode cX7_clear 22 = .ok (.iload_n 1, 1) := by decide +kernel
theorem dX7_clear_23 : decode cX7_clear 23 = .ok (.bipush 6, 2) := by decide +kernel
theorem dX7_clear_25 : decode cX7_clear 25 = .ok (.if_icmp .ge 37, 3) := by decide +kernel
theorem dX7_clear_28 : decode cX7_clear 28 = .ok (.aload_n 0, 1) := by decide +kernel
theorem dX7_clear_29 : decode cX7_clear 29 = .ok (.getfield 9, 3) := by decide +kernel
theorem dX7_clear_32 : decode cX7_clear 32 = .ok (.iload_n 1, 1) := by decide +kernel
theorem dX7_clear_33 : decode cX7_clear 33 = .ok (.iconst (-1), 1) := by decide +kernel
theorem dX7_clear_34 : decode cX7_clear 34 = .ok (.iastore, 1) := by decide +kernel
theorem dX7_clear_35 : decode cX7_clear 35 = .ok (.aload_n 0, 1) := by decide +kernel
theorem dX7_clear_36 : decode cX7_clear 36 = .ok (.getfield 15, 3) := by decide +kernel
theorem dX7_clear_39 : decode cX7_clear 39 = .ok (.iload_n 1, 1) := by decide +kernel
theorem dX7_clear_40 : decode cX7_clear 40 = .ok (.iconst 0, 1) := by decide +kernel
theorem dX7_clear_41 : decode cX7_clear 41 = .ok (.iastore, 1) := by decide +kernel
theorem dX7_clear_42 : decode cX7_clear 42 = .ok (.aload_n 0, 1) := by decide +kernel
theorem dX7_clear_43 : decode cX7_clear 43 = .ok (.getfield 18, 3) := by decide +kernel
theorem dX7_clear_46 : decode cX7_clear 46 = .ok (.iload_n 1, 1) := by decide +kernel
theorem dX7_clear_47 : decode cX7_clear 47 = .ok (.iconst 0, 1) := by decide +kernel
theorem dX7_clear_48 : decode cX7_clear 48 = .ok (.iastore, 1) := by decide +kernel
theorem dX7_clear_49 : decode cX7_clear 49 = .ok (.aload_n 0, 1) := by decide +kernel
theorem dX7_clear_50 : decode cX7_clear 50 = .ok (.getfield 21, 3) := by decide +kernel
theorem dX7_clear_53 : decode cX7_clear 53 = .ok (.iload_n 1, 1) := by decide +kernel
theorem dX7_clear_54 : decode cX7_clear 54 = .ok (.iconst (-1), 1) := by decide +kernel
theorem dX7_clear_55 : decode cX7_clear 55 = .ok (.iastore, 1) := by decide +kernel
theorem dX7_clear_56 : decode cX7_clear 56 = .ok (.iinc 1 1, 3) := by decide +kernel
theorem dX7_clear_59 : decode cX7_clear 59 = .ok (.goto (-37), 3) := by decide +kernel
theorem dX7_clear_62 : decode cX7_clear 62 = .ok (.return_, 1) := by decide +kernel
theorem dX6_clear_0 : decode cX6_clear 0 = .ok (.aload_n 0, 1) := by decide +kernel
theorem dX6_clear_1 : decode cX6_clear 1 = .ok (.iconst 0, 1) := by decide +kernel
theorem dX6_clear_2 : decode cX6_clear 2 = .ok (.putfield 22, 3) := by decide +kernel
theorem dX6_clear_5 : decode cX6_clear 5 = .ok (.return_, 1) := by decide +kernel
theorem dX10_buildPalace_0 : decode cX10_buildPalace 0 = .ok (.aload_n 0, 1) := by decide +kernel
theorem dX10_buildPalace_1 : decode cX10_buildPalace 1 = .ok (.getfield 19, 3) := by decide +kernel
theorem dX10_buildPalace_4 : decode cX10_buildPalace 4 = .ok (.aload_n 0, 1) := by decide +kernel
theorem dX10_buildPalace_5 : decode cX10_buildPalace 5 = .ok (.getfield 10, 3) := by decide +kernel
theorem dX10_buildPalace_8 : decode cX10_buildPalace 8 = .ok (.getfield 120, 3) := by decide +kernel
theorem dX10_buildPalace_11 : decode cX10_buildPalace 11 = .ok (.putfield 123, 3) := by decide +kernel
theorem dX10_buildPalace_14 : decode cX10_buildPalace 14 = .ok (.aload_n 0, 1) := by decide +kernel
theorem dX10_buildPalace_15 : decode cX10_buildPalace 15 = .ok (.getfield 19, 3) := by decide +kernel
theorem dX10_buildPalace_18 : decode cX10_buildPalace 18 = .ok (.iconst 0, 1) := by decide +kernel
theorem dX10_buildPalace_19 : decode cX10_buildPalace 19 = .ok (.putfield 408, 3) := by decide +kernel
theorem dX10_buildPalace_22 : decode cX10_buildPalace 22 = .ok (.aload_n 0, 1) := by decide +kernel
theorem dX10_buildPalace_23 : decode cX10_buildPalace 23 = .ok (.getfield 19, 3) := by decide +kernel
theorem dX10_buildPalace_26 : decode cX10_buildPalace 26 = .ok (.iconst 0, 1) := by decide +kernel
theorem dX10_buildPalace_27 : decode cX10_buildPalace 27 = .ok (.putfield 129, 3) := by decide +kernel
theorem dX10_buildPalace_30 : decode cX10_buildPalace 30 = .ok (.iconst 0, 1) := by decide +kernel
theorem dX10_buildPalace_31 : decode cX10_buildPalace 31 = .ok (.istore_n 1, 1) := by decide +kernel
theorem dX10_buildPalace_32 : decode cX10_buildPalace 32 = .ok (.iload_n 1, 1) := by decide +kernel
theorem dX10_buildPalace_33 : decode cX10_buildPalace 33 = .ok (.aload_n 0, 1) := by decide +kernel
theorem dX10_buildPalace_34 : decode cX10_buildPalace 34 = .ok (.getfield 10, 3) := by decide +kernel
theorem dX10_buildPalace_37 : decode cX10_buildPalace 37 = .ok (.getfield 120, 3) := by decide +kernel
theorem dX10_buildPalace_40 : decode cX10_buildPalace 40 = .ok (.if_icmp .ge 37, 3) := by decide +kernel
theorem dX10_buildPalace_43 : decode cX10_buildPalace 43 = .ok (.aload_n 0, 1) := by decide +kernel
theorem dX10_buildPalace_44 : decode cX10_buildPalace 44 = .ok (.getfield 10, 3) := by decide +kernel
theorem dX10_buildPalace_47 : decode cX10_buildPalace 47 = .ok (.iload_n 1, 1) := by decide +kernel
theorem dX10_buildPalace_48 : decode cX10_buildPalace 48 = .ok (.invokevirtual 406, 3) := by decide +kernel
theorem dX10_buildPalace_51 : decode cX10_buildPalace 51 = .ok (.bipush 99, 2) := by decide +kernel
theorem dX10_buildPalace_53 : decode cX10_buildPalace 53 = .ok (.if_icmp .ne 18, 3) := by decide +kernel
theorem dX10_buildPalace_56 : decode cX10_buildPalace 56 = .ok (.aload_n 0, 1) := by decide +kernel
theorem dX10_buildPalace_57 : decode cX10_buildPalace 57 = .ok (.getfield 19, 3) := by decide +kernel
theorem dX10_buildPalace_60 : decode cX10_buildPalace 60 = .ok (.dup, 1) := by decide +kernel
theorem dX10_buildPalace_61 : decode cX10_buildPalace 61 = .ok (.getfield 408, 3) := by decide +kernel
theorem dX10_buildPalace_64 : decode cX10_buildPalace 64 = .ok (.iconst 1, 1) := by decide +kernel
theorem dX10_buildPalace_65 : decode cX10_buildPalace 65 = .ok (.iload_n 1, 1) := by decide +kernel
theorem dX10_buildPalace_66 : decode cX10_buildPalace 66 = .ok (.ishl, 1) := by decide +kernel
theorem dX10_buildPalace_67 : decode cX10_buildPalace 67 = .ok (.ior, 1) := by decide +kernel
theorem dX10_buildPalace_68 : decode cX10_buildPalace 68 = .ok (.putfield 408, 3) := by decide +kernel
theorem dX10_buildPalace_71 : decode cX10_buildPalace 71 = .ok (.iinc 1 1, 3) := by decide +kernel
theorem dX10_buildPalace_74 : decode cX10_buildPalace 74 = .ok (.goto (-42), 3) := by decide +kernel
theorem dX10_buildPalace_77 : decode cX10_buildPalace 77 = .ok (.aload_n 0, 1) := by decide +kernel
theorem dX10_buildPalace_78 : decode cX10_buildPalace 78 = .ok (.getfield 35, 3) := by decide +kernel
theorem dX10_buildPalace_81 : decode cX10_buildPalace 81 = .ok (.invokevirtual 411, 3) := by decide +kernel
theorem dX10_buildPalace_84 : decode cX10_buildPalace 84 = .ok (.aload_n 0, 1) := by decide +kernel
theorem dX10_buildPalace_85 : decode cX10_buildPalace 85 = .ok (.getfield 51, 3) := by decide +kernel
theorem dX10_buildPalace_88 : decode cX10_buildPalace 88 = .ok (.invokevirtual 135, 3) := by decide +kernel
theorem dX10_buildPalace_91 : decode cX10_buildPalace 91 = .ok (.aload_n 0, 1) := by decide +kernel
theorem dX10_buildPalace_92 : decode cX10_buildPalace 92 = .ok (.getfield 66, 3) := by decide +kernel
theorem dX10_buildPalace_95 : decode cX10_buildPalace 95 = .ok (.iconst 0, 1) := by decide +kernel
theorem dX10_buildPalace_96 : decode cX10_buildPalace 96 = .ok (.putfield 396, 3) := by decide +kernel
theorem dX10_buildPalace_99 : decode cX10_buildPalace 99 = .ok (.iconst 0, 1) := by decide +kernel
theorem dX10_buildPalace_100 : decode cX10_buildPalace 100 = .ok (.istore_n 1, 1) := by decide +kernel
theorem dX10_buildPalace_101 : decode cX10_buildPalace 101 = .ok (.iload_n 1, 1) := by decide +kernel
theorem dX10_buildPalace_102 : decode cX10_buildPalace 102 = .ok (.iconst 2, 1) := by decide +kernel
theorem dX10_buildPalace_103 : decode cX10_buildPalace 103 = .ok (.if_icmp .ge 16, 3) := by decide +kernel
theorem dX10_buildPalace_106 : decode cX10_buildPalace 106 = .ok (.aload_n 0, 1) := by decide +kernel
theorem dX10_buildPalace_107 : decode cX10_buildPalace 107 = .ok (.getfield 59, 3) := by decide +kernel
theorem dX10_buildPalace_110 : decode cX10_buildPalace 110 = .ok (.iload_n 1, 1) := by decide +kernel
theorem dX10_buildPalace_111 : decode cX10_buildPalace 111 = .ok (.iconst (-1), 1) := by decide +kernel
theorem dX10_buildPalace_112 : decode cX10_buildPalace 112 = .ok (.iastore, 1) := by decide +kernel
theorem dX10_buildPalace_113 : decode cX10_buildPalace 113 = .ok (.iinc 1 1, 3) := by decide +kernel
theorem dX10_buildPalace_116 : decode cX10_buildPalace 116 = .ok (.goto (-15), 3) := by decide +kernel
theorem dX10_buildPalace_119 : decode cX10_buildPalace 119 = .ok (.return_, 1) := by decide +kernel
theorem dX10_palace_0 : decode cX10_palace 0 = .ok (.aload_n 0, 1) := by decide +kernel
theorem dX10_palace_1 : decode cX10_palace 1 = .ok (.invokevirtual 113, 3) := by decide +kernel
theorem dX10_palace_4 : decode cX10_palace 4 = .ok (.istore_n 1, 1) := by decide +kernel
theorem dX10_palace_5 : decode cX10_palace 5 = .ok (.iload_n 1, 1) := by decide +kernel
theorem dX10_palace_6 : decode cX10_palace 6 = .ok (.iconst (-1), 1) := by decide +kernel
theorem dX10_palace_7 : decode cX10_palace 7 = .ok (.if_icmp .ne 7, 3) := by decide +kernel
theorem dX10_palace_10 : decode cX10_palace 10 = .ok (.aload_n 0, 1) := by decide +kernel
theorem dX10_palace_11 : decode cX10_palace 11 = .ok (.invokevirtual 117, 3) := by decide +kernel
theorem dX10_palace_14 : decode cX10_palace 14 = .ok (.aload_n 0, 1) := by decide +kernel
theorem dX10_palace_15 : decode cX10_palace 15 = .ok (.getfield 10, 3) := by decide +kernel
theorem dX10_palace_18 : decode cX10_palace 18 = .ok (.iconst 0, 1) := by decide +kernel
theorem dX10_palace_19 : decode cX10_palace 19 = .ok (.putfield 120, 3) := by decide +kernel
theorem dX10_palace_22 : decode cX10_palace 22 = .ok (.iload_n 1, 1) := by decide +kernel
theorem dX10_palace_23 : decode cX10_palace 23 = .ok (.iconst (-1), 1) := by decide +kernel
theorem dX10_palace_24 : decode cX10_palace 24 = .ok (.if_icmp .ne 13, 3) := by decide +kernel
theorem dX10_palace_27 : decode cX10_palace 27 = .ok (.aload_n 0, 1) := by decide +kernel
theorem dX10_palace_28 : decode cX10_palace 28 = .ok (.getfield 19, 3) := by decide +kernel
theorem dX10_palace_31 : decode cX10_palace 31 = .ok (.getfield 123, 3) := by decide +kernel
theorem dX10_palace_34 : decode cX10_palace 34 = .ok (.goto 6, 3) := by decide +kernel
theorem dX10_palace_37 : decode cX10_palace 37 = .ok (.iconst (-1), 1) := by decide +kernel
theorem dX10_palace_38 : decode cX10_palace 38 = .ok (.iload_n 1, 1) := by decide +kernel
theorem dX10_palace_39 : decode cX10_palace 39 = .ok (.isub, 1) := by decide +kernel
theorem dX10_palace_40 : decode cX10_palace 40 = .ok (.ireturn, 1) := by decide +kernel
theorem dX8_digitAt_0 : decode cX8_digitAt 0 = .ok (.aload_n 0, 1) := by decide +kernel
theorem dX8_digitAt_1 : decode cX8_digitAt 1 = .ok (.iload_n 1, 1) := by decide +kernel
theorem dX8_digitAt_2 : decode cX8_digitAt 2 = .ok (.invokevirtual 22, 3) := by decide +kernel
theorem dX8_digitAt_5 : decode cX8_digitAt 5 = .ok (.istore_n 2, 1) := by decide +kernel
theorem dX8_digitAt_6 : decode cX8_digitAt 6 = .ok (.iload_n 2, 1) := by decide +kernel
theorem dX8_digitAt_7 : decode cX8_digitAt 7 = .ok (.bipush 48, 2) := by decide +kernel
theorem dX8_digitAt_9 : decode cX8_digitAt 9 = .ok (.if_icmp .lt 16, 3) := by decide +kernel
theorem dX8_digitAt_12 : decode cX8_digitAt 12 = .ok (.iload_n 2, 1) := by decide +kernel
theorem dX8_digitAt_13 : decode cX8_digitAt 13 = .ok (.bipush 57, 2) := by decide +kernel
theorem dX8_digitAt_15 : decode cX8_digitAt 15 = .ok (.if_icmp .gt 10, 3) := by decide +kernel
theorem dX8_digitAt_18 : decode cX8_digitAt 18 = .ok (.iload_n 2, 1) := by decide +kernel
theorem dX8_digitAt_19 : decode cX8_digitAt 19 = .ok (.bipush 48, 2) := by decide +kernel
theorem dX8_digitAt_21 : decode cX8_digitAt 21 = .ok (.isub, 1) := by decide +kernel
theorem dX8_digitAt_22 : decode cX8_digitAt 22 = .ok (.goto 4, 3) := by decide +kernel
theorem dX8_digitAt_25 : decode cX8_digitAt 25 = .ok (.iconst (-1), 1) := by decide +kernel
theorem dX8_digitAt_26 : decode cX8_digitAt 26 = .ok (.ireturn, 1) := by decide +kernel
theorem dX4_readNumber_0 : decode cX4_readNumber 0 = .ok (.aload_n 0, 1) := by decide +kernel
theorem dX4_readNumber_1 : decode cX4_readNumber 1 = .ok (.getfield 9, 3) := by decide +kernel
theorem dX4_readNumber_4 : decode cX4_readNumber 4 = .ok (.aload_n 0, 1) := by decide +kernel
theorem dX4_readNumber_5 : decode cX4_readNumber 5 = .ok (.getfield 19, 3) := by decide +kernel
theorem dX4_readNumber_8 : decode cX4_readNumber 8 = .ok (.invokevirtual 66, 3) := by decide +kernel
theorem dX4_readNumber_11 : decode cX4_readNumber 11 = .ok (.istore_n 1, 1) := by decide +kernel
theorem dX4_readNumber_12 : decode cX4_readNumber 12 = .ok (.iload_n 1, 1) := by decide +kernel
theorem dX4_readNumber_13 : decode cX4_readNumber 13 = .ok (.iconst (-1), 1) := by decide +kernel
theorem dX4_readNumber_14 : decode cX4_readNumber 14 = .ok (.if_icmp .ne 5, 3) := by decide +kernel
theorem dX4_readNumber_17 : decode cX4_readNumber 17 = .ok (.iconst (-1), 1) := by decide +kernel
theorem dX4_readNumber_18 : decode cX4_readNumber 18 = .ok (.ireturn, 1) := by decide +kernel
theorem dX4_readNumber_19 : decode cX4_readNumber 19 = .ok (.aload_n 0, 1) := by decide +kernel
theorem dX4_readNumber_20 : decode cX4_readNumber 20 = .ok (.dup, 1) := by decide +kernel
theorem dX4_readNumber_21 : decode cX4_readNumber 21 = .ok (.getfield 19, 3) := by decide +kernel
theorem dX4_readNumber_24 : decode cX4_readNumber 24 = .ok (.iconst 1, 1) := by decide +kernel
theorem dX4_readNumber_25 : decode cX4_readNumber 25 = .ok (.iadd, 1) := by decide +kernel
theorem dX4_readNumber_26 : decode cX4_readNumber 26 = .ok (.putfield 19, 3) := by decide +kernel
theorem dX4_readNumber_29 : decode cX4_readNumber 29 = .ok (.aload_n 0, 1) := by decide +kernel
theorem dX4_readNumber_30 : decode cX4_readNumber 30 = .ok (.getfield 9, 3) := by decide +kernel
theorem dX4_readNumber_33 : decode cX4_readNumber 33 = .ok (.aload_n 0, 1) := by decide +kernel
theorem dX4_readNumber_34 : decode cX4_readNumber 34 = .ok (.getfield 19, 3) := by decide +kernel
theorem dX4_readNumber_37 : decode cX4_readNumber 37 = .ok (.invokevirtual 66, 3) := by decide +kernel
theorem dX4_readNumber_40 : decode cX4_readNumber 40 = .ok (.istore_n 2, 1) := by decide +kernel
theorem dX4_readNumber_41 : decode cX4_readNumber 41 = .ok (.iload_n 2, 1) := by decide +kernel
theorem dX4_readNumber_42 : decode cX4_readNumber 42 = .ok (.iconst (-1), 1) := by decide +kernel
theorem dX4_readNumber_43 : decode cX4_readNumber 43 = .ok (.if_icmp .ne 5, 3) := by decide +kernel
theorem dX4_readNumber_46 : decode cX4_readNumber 46 = .ok (.iload_n 1, 1) := by decide +kernel
theorem dX4_readNumber_47 : decode cX4_readNumber 47 = .ok (.ireturn, 1) := by decide +kernel
theorem dX4_readNumber_48 : decode cX4_readNumber 48 = .ok (.aload_n 0, 1) := by decide +kernel
theorem dX4_readNumber_49 : decode cX4_readNumber 49 = .ok (.dup, 1) := by decide +kernel
theorem dX4_readNumber_50 : decode cX4_readNumber 50 = .ok (.getfield 19, 3) := by decide +kernel
theorem dX4_readNumber_53 : decode cX4_readNumber 53 = .ok (.iconst 1, 1) := by decide +kernel
theorem dX4_readNumber_54 : decode cX4_readNumber 54 = .ok (.iadd, 1) := by decide +kernel
theorem dX4_readNumber_55 : decode cX4_readNumber 55 = .ok (.putfield 19, 3) := by decide +kernel
theorem dX4_readNumber_58 : decode cX4_readNumber 58 = .ok (.iload_n 1, 1) := by decide +kernel
theorem dX4_readNumber_59 : decode cX4_readNumber 59 = .ok (.bipush 10, 2) := by decide +kernel
theorem dX4_readNumber_61 : decode cX4_readNumber 61 = .ok (.imul, 1) := by decide +kernel
theorem dX4_readNumber_62 : decode cX4_readNumber 62 = .ok (.iload_n 2, 1) := by decide +kernel
theorem dX4_readNumber_63 : decode cX4_readNumber 63 = .ok (.iadd, 1) := by decide +kernel
theorem dX4_readNumber_64 : decode cX4_readNumber 64 = .ok (.ireturn, 1) := by decide +kernel
theorem dX4_readComes_0 : decode cX4_readComes 0 = .ok (.aload_n 0, 1) := by decide +kernel
theorem dX4_readComes_1 : decode cX4_readComes 1 = .ok (.getfield 15, 3) := by decide +kernel
theorem dX4_readComes_4 : decode cX4_readComes 4 = .ok (.getfield 69, 3) := by decide +kernel
theorem dX4_readComes_7 : decode cX4_readComes 7 = .ok (.iload_n 1, 1) := by decide +kernel
theorem dX4_readComes_8 : decode cX4_readComes 8 = .ok (.aload_n 0, 1) := by decide +kernel
theorem dX4_readComes_9 : decode cX4_readComes 9 = .ok (.invokevirtual 72, 3) := by decide +kernel
theorem dX4_readComes_12 : decode cX4_readComes 12 = .ok (.iastore, 1) := by decide +kernel
theorem dX4_readComes_13 : decode cX4_readComes 13 = .ok (.aload_n 0, 1) := by decide +kernel
theorem dX4_readComes_14 : decode cX4_readComes 14 = .ok (.getfield 15, 3) := by decide +kernel
theorem dX4_readComes_17 : decode cX4_readComes 17 = .ok (.getfield 69, 3) := by decide +kernel
theorem dX4_readComes_20 : decode cX4_readComes 20 = .ok (.iload_n 1, 1) := by decide +kernel
theorem dX4_readComes_21 : decode cX4_readComes 21 = .ok (.iaload, 1) := by decide +kernel
theorem dX4_readComes_22 : decode cX4_readComes 22 = .ok (.iconst (-1), 1) := by decide +kernel
theorem dX4_readComes_23 : decode cX4_readComes 23 = .ok (.if_icmp .eq 7, 3) := by decide +kernel
theorem dX4_readComes_26 : decode cX4_readComes 26 = .ok (.iconst 1, 1) := by decide +kernel
theorem dX4_readComes_27 : decode cX4_readComes 27 = .ok (.goto 4, 3) := by decide +kernel
theorem dX4_readComes_30 : decode cX4_readComes 30 = .ok (.iconst 0, 1) := by decide +kernel
theorem dX4_readComes_31 : decode cX4_readComes 31 = .ok (.ireturn, 1) := by decide +kernel
theorem dX4_readTongue_0 : decode cX4_readTongue 0 = .ok (.aload_n 0, 1) := by decide +kernel
theorem dX4_readTongue_1 : decode cX4_readTongue 1 = .ok (.getfield 9, 3) := by decide +kernel
theorem dX4_readTongue_4 : decode cX4_readTongue 4 = .ok (.aload_n 0, 1) := by decide +kernel
theorem dX4_readTongue_5 : decode cX4_readTongue 5 = .ok (.getfield 19, 3) := by decide +kernel
theorem dX4_readTongue_8 : decode cX4_readTongue 8 = .ok (.invokevirtual 43, 3) := by decide +kernel
theorem dX4_readTongue_11 : decode cX4_readTongue 11 = .ok (.istore_n 2, 1) := by decide +kernel
theorem dX4_readTongue_12 : decode cX4_readTongue 12 = .ok (.iload_n 2, 1) := by decide +kernel
theorem dX4_readTongue_13 : decode cX4_readTongue 13 = .ok (.bipush 118, 2) := by decide +kernel
theorem dX4_readTongue_15 : decode cX4_readTongue 15 = .ok (.if_icmp .lt 9, 3) := by decide +kernel
theorem dX4_readTongue_18 : decode cX4_readTongue 18 = .ok (.iload_n 2, 1) := by decide +kernel
theorem dX4_readTongue_19 : decode cX4_readTongue 19 = .ok (.bipush 122, 2) := by decide +kernel
theorem dX4_readTongue_21 : decode cX4_readTongue 21 = .ok (.if_icmp .le 5, 3) := by decide +kernel
theorem dX4_readTongue_24 : decode cX4_readTongue 24 = .ok (.iconst 0, 1) := by decide +kernel
theorem dX4_readTongue_25 : decode cX4_readTongue 25 = .ok (.ireturn, 1) := by decide +kernel
theorem dX4_readTongue_26 : decode cX4_readTongue 26 = .ok (.aload_n 0, 1) := by decide +kernel
theorem dX4_readTongue_27 : decode cX4_readTongue 27 = .ok (.getfield 15, 3) := by decide +kernel
theorem dX4_readTongue_30 : decode cX4_readTongue 30 = .ok (.getfield 76, 3) := by decide +kernel
theorem dX4_readTongue_33 : decode cX4_readTongue 33 = .ok (.iload_n 1, 1) := by decide +kernel
theorem dX4_readTongue_34 : decode cX4_readTongue 34 = .ok (.iload_n 2, 1) := by decide +kernel
theorem dX4_readTongue_35 : decode cX4_readTongue 35 = .ok (.bipush 118, 2) := by decide +kernel
theorem dX4_readTongue_37 : decode cX4_readTongue 37 = .ok (.isub, 1) := by decide +kernel
theorem dX4_readTongue_38 : decode cX4_readTongue 38 = .ok (.iastore, 1) := by decide +kernel
theorem dX4_readTongue_39 : decode cX4_readTongue 39 = .ok (.aload_n 0, 1) := by decide +kernel
theorem dX4_readTongue_40 : decode cX4_readTongue 40 = .ok (.dup, 1) := by decide +kernel
theorem dX4_readTongue_41 : decode cX4_readTongue 41 = .ok (.getfield 19, 3) := by decide +kernel
theorem dX4_readTongue_44 : decode cX4_readTongue 44 = .ok (.iconst 1, 1) := by decide +kernel
theorem dX4_readTongue_45 : decode cX4_readTongue 45 = .ok (.iadd, 1) := by decide +kernel
theorem dX4_readTongue_46 : decode cX4_readTongue 46 = .ok (.putfield 19, 3) := by decide +kernel
theorem dX4_readTongue_49 : decode cX4_readTongue 49 = .ok (.iconst 1, 1) := by decide +kernel
theorem dX4_readTongue_50 : decode cX4_readTongue 50 = .ok (.ireturn, 1) := by decide +kernel
theorem dX4_readSize_0 : decode cX4_readSize 0 = .ok (.aload_n 0, 1) := by decide +kernel
theorem dX4_readSize_1 : decode cX4_readSize 1 = .ok (.invokevirtual 72, 3) := by decide +kernel
theorem dX4_readSize_4 : decode cX4_readSize 4 = .ok (.istore_n 2, 1) := by decide +kernel
theorem dX4_readSize_5 : decode cX4_readSize 5 = .ok (.iload_n 2, 1) := by decide +kernel
theorem dX4_readSize_6 : decode cX4_readSize 6 = .ok (.iconst (-1), 1) := by decide +kernel
theorem dX4_readSize_7 : decode cX4_readSize 7 = .ok (.if_icmp .ne 5, 3) := by decide +kernel
theorem dX4_readSize_10 : decode cX4_readSize 10 = .ok (.iconst 0, 1) := by decide +kernel
theorem dX4_readSize_11 : decode cX4_readSize 11 = .ok (.ireturn, 1) := by decide +kernel
theorem dX4_readSize_12 : decode cX4_readSize 12 = .ok (.iload_n 2, 1) := by decide +kernel
theorem dX4_readSize_13 : decode cX4_readSize 13 = .ok (.iconst 1, 1) := by decide +kernel
theorem dX4_readSize_14 : decode cX4_readSize 14 = .ok (.if_icmp .lt 9, 3) := by decide +kernel
theorem dX4_readSize_17 : decode cX4_readSize 17 = .ok (.iload_n 2, 1) := by decide +kernel
theorem dX4_readSize_18 : decode cX4_readSize 18 = .ok (.bipush 40, 2) := by decide +kernel
theorem dX4_readSize_20 : decode cX4_readSize 20 = .ok (.if_icmp .le 15, 3) := by decide +kernel
theorem dX4_readSize_23 : decode cX4_readSize 23 = .ok (.aload_n 0, 1) := by decide +kernel
theorem dX4_readSize_24 : decode cX4_readSize 24 = .ok (.dup, 1) := by decide +kernel
theorem dX4_readSize_25 : decode cX4_readSize 25 = .ok (.getfield 19, 3) := by decide +kernel
theorem dX4_readSize_28 : decode cX4_readSize 28 = .ok (.iconst 1, 1) := by decide +kernel
theorem dX4_readSize_29 : decode cX4_readSize 29 = .ok (.isub, 1) := by decide +kernel
theorem dX4_readSize_30 : decode cX4_readSize 30 = .ok (.putfield 19, 3) := by decide +kernel
theorem dX4_readSize_33 : decode cX4_readSize 33 = .ok (.iconst 0, 1) := by decide +kernel
theorem dX4_readSize_34 : decode cX4_readSize 34 = .ok (.ireturn, 1) := by decide +kernel
theorem dX4_readSize_35 : decode cX4_readSize 35 = .ok (.aload_n 0, 1) := by decide +kernel
theorem dX4_readSize_36 : decode cX4_readSize 36 = .ok (.getfield 15, 3) := by decide +kernel
theorem dX4_readSize_39 : decode cX4_readSize 39 = .ok (.getfield 79, 3) := by decide +kernel
theorem dX4_readSize_42 : decode cX4_readSize 42 = .ok (.iload_n 1, 1) := by decide +kernel
theorem dX4_readSize_43 : decode cX4_readSize 43 = .ok (.iload_n 2, 1) := by decide +kernel
theorem dX4_readSize_44 : decode cX4_readSize 44 = .ok (.iastore, 1) := by decide +kernel
theorem dX4_readSize_45 : decode cX4_readSize 45 = .ok (.iconst 1, 1) := by decide +kernel
theorem dX4_readSize_46 : decode cX4_readSize 46 = .ok (.ireturn, 1) := by decide +kernel
theorem dX4_readWay_0 : decode cX4_readWay 0 = .ok (.aload_n 0, 1) := by decide +kernel
theorem dX4_readWay_1 : decode cX4_readWay 1 = .ok (.getfield 9, 3) := by decide +kernel
theorem dX4_readWay_4 : decode cX4_readWay 4 = .ok (.aload_n 0, 1) := by decide +kernel
theorem dX4_readWay_5 : decode cX4_readWay 5 = .ok (.getfield 19, 3) := by decide +kernel
theorem dX4_readWay_8 : decode cX4_readWay 8 = .ok (.invokevirtual 43, 3) := by decide +kernel
theorem dX4_readWay_11 : decode cX4_readWay 11 = .ok (.istore_n 2, 1) := by decide +kernel
theorem dX4_readWay_12 : decode cX4_readWay 12 = .ok (.iload_n 2, 1) := by decide +kernel
theorem dX4_readWay_13 : decode cX4_readWay 13 = .ok (.bipush 62, 2) := by decide +kernel
theorem dX4_readWay_15 : decode cX4_readWay 15 = .ok (.if_icmp .eq 11, 3) := by decide +kernel
theorem dX4_readWay_18 : decode cX4_readWay 18 = .ok (.iload_n 2, 1) := by decide +kernel
theorem dX4_readWay_19 : decode cX4_readWay 19 = .ok (.bipush 60, 2) := by decide +kernel
theorem dX4_readWay_21 : decode cX4_readWay 21 = .ok (.if_icmp .eq 5, 3) := by decide +kernel
theorem dX4_readWay_24 : decode cX4_readWay 24 = .ok (.iconst 0, 1) := by decide +kernel
theorem dX4_readWay_25 : decode cX4_readWay 25 = .ok (.ireturn, 1) := by decide +kernel
theorem dX4_readWay_26 : decode cX4_readWay 26 = .ok (.aload_n 0, 1) := by decide +kernel
theorem dX4_readWay_27 : decode cX4_readWay 27 = .ok (.getfield 15, 3) := by decide +kernel
theorem dX4_readWay_30 : decode cX4_readWay 30 = .ok (.getfield 82, 3) := by decide +kernel
theorem dX4_readWay_33 : decode cX4_readWay 33 = .ok (.iload_n 1, 1) := by decide +kernel
theorem dX4_readWay_34 : decode cX4_readWay 34 = .ok (.iload_n 2, 1) := by decide +kernel
theorem dX4_readWay_35 : decode cX4_readWay 35 = .ok (.bipush 60, 2) := by decide +kernel
theorem dX4_readWay_37 : decode cX4_readWay 37 = .ok (.if_icmp .ne 7, 3) := by decide +kernel
theorem dX4_readWay_40 : decode cX4_readWay 40 = .ok (.iconst 1, 1) := by decide +kernel
theorem dX4_readWay_41 : decode cX4_readWay 41 = .ok (.goto 4, 3) := by decide +kernel
theorem dX4_readWay_44 : decode cX4_readWay 44 = .ok (.iconst 0, 1) := by decide +kernel
theorem dX4_readWay_45 : decode cX4_readWay 45 = .ok (.iastore, 1) := by decide +kernel
theorem dX4_readWay_46 : decode cX4_readWay 46 = .ok (.aload_n 0, 1) := by decide +kernel
theorem dX4_readWay_47 : decode cX4_readWay 47 = .ok (.dup, 1) := by decide +kernel
theorem dX4_readWay_48 : decode cX4_readWay 48 = .ok (.getfield 19, 3) := by decide +kernel
theorem dX4_readWay_51 : decode cX4_readWay 51 = .ok (.iconst 1, 1) := by decide +kernel
theorem dX4_readWay_52 : decode cX4_readWay 52 = .ok (.iadd, 1) := by decide +kernel
theorem dX4_readWay_53 : decode cX4_readWay 53 = .ok (.putfield 19, 3) := by decide +kernel
theorem dX4_readWay_56 : decode cX4_readWay 56 = .ok (.iconst 1, 1) := by decide +kernel
theorem dX4_readWay_57 : decode cX4_readWay 57 = .ok (.ireturn, 1) := by decide +kernel
theorem dX4_readTold_0 : decode cX4_readTold 0 = .ok (.iconst 0, 1) := by decide +kernel
theorem dX4_readTold_1 : decode cX4_readTold 1 = .ok (.istore_n 2, 1) := by decide +kernel
theorem dX4_readTold_2 : decode cX4_readTold 2 = .ok (.iload_n 2, 1) := by decide +kernel
theorem dX4_readTold_3 : decode cX4_readTold 3 = .ok (.aload_n 0, 1) := by decide +kernel
theorem dX4_readTold_4 : decode cX4_readTold 4 = .ok (.getfield 15, 3) := by decide +kernel
theorem dX4_readTold_7 : decode cX4_readTold 7 = .ok (.getfield 36, 3) := by decide +kernel
theorem dX4_readTold_10 : decode cX4_readTold 10 = .ok (.if_icmp .ge 50, 3) := by decide +kernel
theorem dX4_readTold_13 : decode cX4_readTold 13 = .ok (.aload_n 0, 1) := by decide +kernel
theorem dX4_readTold_14 : decode cX4_readTold 14 = .ok (.getfield 9, 3) := by decide +kernel
theorem dX4_readTold_17 : decode cX4_readTold 17 = .ok (.aload_n 0, 1) := by decide +kernel
theorem dX4_readTold_18 : decode cX4_readTold 18 = .ok (.getfield 19, 3) := by decide +kernel
theorem dX4_readTold_21 : decode cX4_readTold 21 = .ok (.invokevirtual 66, 3) := by decide +kernel
theorem dX4_readTold_24 : decode cX4_readTold 24 = .ok (.istore_n 3, 1) := by decide +kernel
theorem dX4_readTold_25 : decode cX4_readTold 25 = .ok (.iload_n 3, 1) := by decide +kernel
theorem dX4_readTold_26 : decode cX4_readTold 26 = .ok (.iconst (-1), 1) := by decide +kernel
theorem dX4_readTold_27 : decode cX4_readTold 27 = .ok (.if_icmp .ne 5, 3) := by decide +kernel
theorem dX4_readTold_30 : decode cX4_readTold 30 = .ok (.iconst 0, 1) := by decide +kernel
theorem dX4_readTold_31 : decode cX4_readTold 31 = .ok (.ireturn, 1) := by decide +kernel
theorem dX4_readTold_32 : decode cX4_readTold 32 = .ok (.aload_n 0, 1) := by decide +kernel
theorem dX4_readTold_33 : decode cX4_readTold 33 = .ok (.getfield 15, 3) := by decide +kernel
theorem dX4_readTold_36 : decode cX4_readTold 36 = .ok (.getfield 85, 3) := by decide +kernel
theorem dX4_readTold_39 : decode cX4_readTold 39 = .ok (.iload_n 1, 1) := by decide +kernel
theorem dX4_readTold_40 : decode cX4_readTold 40 = .ok (.aaload, 1) := by decide +kernel
theorem dX4_readTold_41 : decode cX4_readTold 41 = .ok (.iload_n 2, 1) := by decide +kernel
theorem dX4_readTold_42 : decode cX4_readTold 42 = .ok (.iload_n 3, 1) := by decide +kernel
theorem dX4_readTold_43 : decode cX4_readTold 43 = .ok (.iastore, 1) := by decide +kernel
theorem dX4_readTold_44 : decode cX4_readTold 44 = .ok (.aload_n 0, 1) := by decide +kernel
theorem dX4_readTold_45 : decode cX4_readTold 45 = .ok (.dup, 1) := by decide +kernel
theorem dX4_readTold_46 : decode cX4_readTold 46 = .ok (.getfield 19, 3) := by decide +kernel
theorem dX4_readTold_49 : decode cX4_readTold 49 = .ok (.iconst 1, 1) := by decide +kernel
theorem dX4_readTold_50 : decode cX4_readTold 50 = .ok (.iadd, 1) := by decide +kernel
theorem dX4_readTold_51 : decode cX4_readTold 51 = .ok (.putfield 19, 3) := by decide +kernel
theorem dX4_readTold_54 : decode cX4_readTold 54 = .ok (.iinc 2 1, 3) := by decide +kernel
theorem dX4_readTold_57 : decode cX4_readTold 57 = .ok (.goto (-55), 3) := by decide +kernel
theorem dX4_readTold_60 : decode cX4_readTold 60 = .ok (.iconst 1, 1) := by decide +kernel
theorem dX4_readTold_61 : decode cX4_readTold 61 = .ok (.ireturn, 1) := by decide +kernel
theorem dX4_readLine_0 : decode cX4_readLine 0 = .ok (.aload_n 0, 1) := by decide +kernel
theorem dX4_readLine_1 : decode cX4_readLine 1 = .ok (.getfield 15, 3) := by decide +kernel
theorem dX4_readLine_4 : decode cX4_readLine 4 = .ok (.getfield 47, 3) := by decide +kernel
theorem dX4_readLine_7 : decode cX4_readLine 7 = .ok (.iload_n 1, 1) := by decide +kernel
theorem dX4_readLine_8 : decode cX4_readLine 8 = .ok (.iconst 0, 1) := by decide +kernel
theorem dX4_readLine_9 : decode cX4_readLine 9 = .ok (.iastore, 1) := by decide +kernel
theorem dX4_readLine_10 : decode cX4_readLine 10 = .ok (.aload_n 0, 1) := by decide +kernel
theorem dX4_readLine_11 : decode cX4_readLine 11 = .ok (.iload_n 1, 1) := by decide +kernel
theorem dX4_readLine_12 : decode cX4_readLine 12 = .ok (.invokevirtual 51, 3) := by decide +kernel
theorem dX4_readLine_15 : decode cX4_readLine 15 = .ok (.ifCond .eq 39, 3) := by decide +kernel
theorem dX4_readLine_18 : decode cX4_readLine 18 = .ok (.aload_n 0, 1) := by decide +kernel
theorem dX4_readLine_19 : decode cX4_readLine 19 = .ok (.iload_n 1, 1) := by decide +kernel
theorem dX4_readLine_20 : decode cX4_readLine 20 = .ok (.invokevirtual 54, 3) := by decide +kernel
theorem dX4_readLine_23 : decode cX4_readLine 23 = .ok (.ifCond .eq 31, 3) := by decide +kernel
theorem dX4_readLine_26 : decode cX4_readLine 26 = .ok (.aload_n 0, 1) := by decide +kernel
theorem dX4_readLine_27 : decode cX4_readLine 27 = .ok (.iload_n 1, 1) := by decide +kernel
theorem dX4_readLine_28 : decode cX4_readLine 28 = .ok (.invokevirtual 57, 3) := by decide +kernel
theorem dX4_readLine_31 : decode cX4_readLine 31 = .ok (.ifCond .eq 23, 3) := by decide +kernel
theorem dX4_readLine_34 : decode cX4_readLine 34 = .ok (.aload_n 0, 1) := by decide +kernel
theorem dX4_readLine_35 : decode cX4_readLine 35 = .ok (.iload_n 1, 1) := by decide +kernel
theorem dX4_readLine_36 : decode cX4_readLine 36 = .ok (.invokevirtual 60, 3) := by decide +kernel
theorem dX4_readLine_39 : decode cX4_readLine 39 = .ok (.ifCond .eq 15, 3) := by decide +kernel
theorem dX4_readLine_42 : decode cX4_readLine 42 = .ok (.aload_n 0, 1) := by decide +kernel
theorem dX4_readLine_43 : decode cX4_readLine 43 = .ok (.iload_n 1, 1) := by decide +kernel
theorem dX4_readLine_44 : decode cX4_readLine 44 = .ok (.invokevirtual 63, 3) := by decide +kernel
theorem dX4_readLine_47 : decode cX4_readLine 47 = .ok (.ifCond .eq 7, 3) := by decide +kernel
theorem dX4_readLine_50 : decode cX4_readLine 50 = .ok (.iconst 1, 1) := by decide +kernel
theorem dX4_readLine_51 : decode cX4_readLine 51 = .ok (.goto 4, 3) := by decide +kernel
theorem dX4_readLine_54 : decode cX4_readLine 54 = .ok (.iconst 0, 1) := by decide +kernel
theorem dX4_readLine_55 : decode cX4_readLine 55 = .ok (.ireturn, 1) := by decide +kernel
theorem dX4_read_0 : decode cX4_read 0 = .ok (.aload_n 0, 1) := by decide +kernel
theorem dX4_read_1 : decode cX4_read 1 = .ok (.iconst 0, 1) := by decide +kernel
theorem dX4_read_2 : decode cX4_read 2 = .ok (.putfield 19, 3) := by decide +kernel
theorem dX4_read_5 : decode cX4_read 5 = .ok (.aload_n 0, 1) := by decide +kernel
theorem dX4_read_6 : decode cX4_read 6 = .ok (.getfield 9, 3) := by decide +kernel
theorem dX4_read_9 : decode cX4_read 9 = .ok (.bipush 76, 2) := by decide +kernel
theorem dX4_read_11 : decode cX4_read 11 = .ok (.putfield 23, 3) := by decide +kernel
theorem dX4_read_14 : decode cX4_read 14 = .ok (.aload_n 0, 1) := by decide +kernel
theorem dX4_read_15 : decode cX4_read 15 = .ok (.getfield 9, 3) := by decide +kernel
theorem dX4_read_18 : decode cX4_read 18 = .ok (.getfield 28, 3) := by decide +kernel
theorem dX4_read_21 : decode cX4_read 21 = .ok (.ifCond .ne 5, 3) := by decide +kernel
theorem dX4_read_24 : decode cX4_read 24 = .ok (.iconst 0, 1) := by decide +kernel
theorem dX4_read_25 : decode cX4_read 25 = .ok (.ireturn, 1) := by decide +kernel
theorem dX4_read_26 : decode cX4_read 26 = .ok (.iconst 0, 1) := by decide +kernel
theorem dX4_read_27 : decode cX4_read 27 = .ok (.istore_n 1, 1) := by decide +kernel
theorem dX4_read_28 : decode cX4_read 28 = .ok (.iload_n 1, 1) := by decide +kernel
theorem dX4_read_29 : decode cX4_read 29 = .ok (.bipush 6, 2) := by decide +kernel
theorem dX4_read_31 : decode cX4_read 31 = .ok (.if_icmp .gt 106, 3) := by decide +kernel
theorem dX4_read_34 : decode cX4_read 34 = .ok (.aload_n 0, 1) := by decide +kernel
theorem dX4_read_35 : decode cX4_read 35 = .ok (.getfield 15, 3) := by decide +kernel
theorem dX4_read_38 : decode cX4_read 38 = .ok (.getfield 31, 3) := by decide +kernel
theorem dX4_read_41 : decode cX4_read 41 = .ok (.iload_n 1, 1) := by decide +kernel
theorem dX4_read_42 : decode cX4_read 42 = .ok (.iadd, 1) := by decide +kernel
theorem dX4_read_43 : decode cX4_read 43 = .ok (.istore_n 2, 1) := by decide +kernel
theorem dX4_read_44 : decode cX4_read 44 = .ok (.aload_n 0, 1) := by decide +kernel
theorem dX4_read_45 : decode cX4_read 45 = .ok (.getfield 15, 3) := by decide +kernel
theorem dX4_read_48 : decode cX4_read 48 = .ok (.getfield 36, 3) := by decide +kernel
theorem dX4_read_51 : decode cX4_read 51 = .ok (.ifCond .eq 21, 3) := by decide +kernel
theorem dX4_read_54 : decode cX4_read 54 = .ok (.iload_n 2, 1) := by decide +kernel
theorem dX4_read_55 : decode cX4_read 55 = .ok (.ifCond .lt 17, 3) := by decide +kernel
theorem dX4_read_58 : decode cX4_read 58 = .ok (.iload_n 2, 1) := by decide +kernel
theorem dX4_read_59 : decode cX4_read 59 = .ok (.bipush 6, 2) := by decide +kernel
theorem dX4_read_61 : decode cX4_read 61 = .ok (.if_icmp .ge 11, 3) := by decide +kernel
theorem dX4_read_64 : decode cX4_read 64 = .ok (.aload_n 0, 1) := by decide +kernel
theorem dX4_read_65 : decode cX4_read 65 = .ok (.iload_n 2, 1) := by decide +kernel
theorem dX4_read_66 : decode cX4_read 66 = .ok (.invokevirtual 39, 3) := by decide +kernel
theorem dX4_read_69 : decode cX4_read 69 = .ok (.ifCond .ne 10, 3) := by decide +kernel
theorem dX4_read_72 : decode cX4_read 72 = .ok (.iconst (-1), 1) := by decide +kernel
theorem dX4_read_73 : decode cX4_read 73 = .ok (.aload_n 0, 1) := by decide +kernel
theorem dX4_read_74 : decode cX4_read 74 = .ok (.getfield 19, 3) := by decide +kernel
theorem dX4_read_77 : decode cX4_read 77 = .ok (.isub, 1) := by decide +kernel
theorem dX4_read_78 : decode cX4_read 78 = .ok (.ireturn, 1) := by decide +kernel
theorem dX4_read_79 : decode cX4_read 79 = .ok (.aload_n 0, 1) := by decide +kernel
theorem dX4_read_80 : decode cX4_read 80 = .ok (.getfield 9, 3) := by decide +kernel
theorem dX4_read_83 : decode cX4_read 83 = .ok (.aload_n 0, 1) := by decide +kernel
theorem dX4_read_84 : decode cX4_read 84 = .ok (.getfield 19, 3) := by decide +kernel
theorem dX4_read_87 : decode cX4_read 87 = .ok (.invokevirtual 43, 3) := by decide +kernel
theorem dX4_read_90 : decode cX4_read 90 = .ok (.iconst (-1), 1) := by decide +kernel
theorem dX4_read_91 : decode cX4_read 91 = .ok (.if_icmp .ne 7, 3) := by decide +kernel
theorem dX4_read_94 : decode cX4_read 94 = .ok (.iload_n 1, 1) := by decide +kernel
theorem dX4_read_95 : decode cX4_read 95 = .ok (.iconst 1, 1) := by decide +kernel
theorem dX4_read_96 : decode cX4_read 96 = .ok (.iadd, 1) := by decide +kernel
theorem dX4_read_97 : decode cX4_read 97 = .ok (.ireturn, 1) := by decide +kernel
theorem dX4_read_98 : decode cX4_read 98 = .ok (.aload_n 0, 1) := by decide +kernel
theorem dX4_read_99 : decode cX4_read 99 = .ok (.getfield 9, 3) := by decide +kernel
theorem dX4_read_102 : decode cX4_read 102 = .ok (.aload_n 0, 1) := by decide +kernel
theorem dX4_read_103 : decode cX4_read 103 = .ok (.getfield 19, 3) := by decide +kernel
theorem dX4_read_106 : decode cX4_read 106 = .ok (.invokevirtual 43, 3) := by decide +kernel
theorem dX4_read_109 : decode cX4_read 109 = .ok (.bipush 59, 2) := by decide +kernel
theorem dX4_read_111 : decode cX4_read 111 = .ok (.if_icmp .eq 10, 3) := by decide +kernel
theorem dX4_read_114 : decode cX4_read 114 = .ok (.iconst (-1), 1) := by decide +kernel
theorem dX4_read_115 : decode cX4_read 115 = .ok (.aload_n 0, 1) := by decide +kernel
theorem dX4_read_116 : decode cX4_read 116 = .ok (.getfield 19, 3) := by decide +kernel
theorem dX4_read_119 : decode cX4_read 119 = .ok (.isub, 1) := by decide +kernel
theorem dX4_read_120 : decode cX4_read 120 = .ok (.ireturn, 1) := by decide +kernel
theorem dX4_read_121 : decode cX4_read 121 = .ok (.aload_n 0, 1) := by decide +kernel
theorem dX4_read_122 : decode cX4_read 122 = .ok (.dup, 1) := by decide +kernel
theorem dX4_read_123 : decode cX4_read 123 = .ok (.getfield 19, 3) := by decide +kernel
theorem dX4_read_126 : decode cX4_read 126 = .ok (.iconst 1, 1) := by decide +kernel
theorem dX4_read_127 : decode cX4_read 127 = .ok (.iadd, 1) := by decide +kernel
theorem dX4_read_128 : decode cX4_read 128 = .ok (.putfield 19, 3) := by decide +kernel
theorem dX4_read_131 : decode cX4_read 131 = .ok (.iinc 1 1, 3) := by decide +kernel
theorem dX4_read_134 : decode cX4_read 134 = .ok (.goto (-106), 3) := by decide +kernel
theorem dX4_read_137 : decode cX4_read 137 = .ok (.iconst (-1), 1) := by decide +kernel
theorem dX4_read_138 : decode cX4_read 138 = .ok (.aload_n 0, 1) := by decide +kernel
theorem dX4_read_139 : decode cX4_read 139 = .ok (.getfield 19, 3) := by decide +kernel
theorem dX4_read_142 : decode cX4_read 142 = .ok (.isub, 1) := by decide +kernel
theorem dX4_read_143 : decode cX4_read 143 = .ok (.ireturn, 1) := by decide +kernel
theorem dX3_look_0 : decode cX3_look 0 = .ok (.aload_n 0, 1) := by decide +kernel
theorem dX3_look_1 : decode cX3_look 1 = .ok (.getfield 43, 3) := by decide +kernel
theorem dX3_look_4 : decode cX3_look 4 = .ok (.iconst (-1), 1) := by decide +kernel
theorem dX3_look_5 : decode cX3_look 5 = .ok (.if_icmp .ne 10, 3) := by decide +kernel
theorem dX3_look_8 : decode cX3_look 8 = .ok (.aload_n 0, 1) := by decide +kernel
theorem dX3_look_9 : decode cX3_look 9 = .ok (.getfield 85, 3) := by decide +kernel
theorem dX3_look_12 : decode cX3_look 12 = .ok (.ifCond .ge 5, 3) := by decide +kernel
theorem dX3_look_15 : decode cX3_look 15 = .ok (.iconst (-1), 1) := by decide +kernel
theorem dX3_look_16 : decode cX3_look 16 = .ok (.ireturn, 1) := by decide +kernel
theorem dX3_look_17 : decode cX3_look 17 = .ok (.aload_n 0, 1) := by decide +kernel
theorem dX3_look_18 : decode cX3_look 18 = .ok (.getfield 85, 3) := by decide +kernel
theorem dX3_look_21 : decode cX3_look 21 = .ok (.aload_n 0, 1) := by decide +kernel
theorem dX3_look_22 : decode cX3_look 22 = .ok (.getfield 32, 3) := by decide +kernel
theorem dX3_look_25 : decode cX3_look 25 = .ok (.if_icmp .ge 25, 3) := by decide +kernel
theorem dX3_look_28 : decode cX3_look 28 = .ok (.aload_n 0, 1) := by decide +kernel
theorem dX3_look_29 : decode cX3_look 29 = .ok (.getfield 85, 3) := by decide +kernel
theorem dX3_look_32 : decode cX3_look 32 = .ok (.aload_n 0, 1) := by decide +kernel
theorem dX3_look_33 : decode cX3_look 33 = .ok (.getfield 19, 3) := by decide +kernel
theorem dX3_look_36 : decode cX3_look 36 = .ok (.arraylength, 1) := by decide +kernel
theorem dX3_look_37 : decode cX3_look 37 = .ok (.if_icmp .ge 13, 3) := by decide +kernel
theorem dX3_look_40 : decode cX3_look 40 = .ok (.aload_n 0, 1) := by decide +kernel
theorem dX3_look_41 : decode cX3_look 41 = .ok (.getfield 19, 3) := by decide +kernel
theorem dX3_look_44 : decode cX3_look 44 = .ok (.aload_n 0, 1) := by decide +kernel
theorem dX3_look_45 : decode cX3_look 45 = .ok (.getfield 85, 3) := by decide +kernel
theorem dX3_look_48 : decode cX3_look 48 = .ok (.caload, 1) := by decide +kernel
theorem dX3_look_49 : decode cX3_look 49 = .ok (.ireturn, 1) := by decide +kernel
theorem dX3_look_50 : decode cX3_look 50 = .ok (.aload_n 0, 1) := by decide +kernel
theorem dX3_look_51 : decode cX3_look 51 = .ok (.getfield 35, 3) := by decide +kernel
theorem dX3_look_54 : decode cX3_look 54 = .ok (.ifCond .eq 8, 3) := by decide +kernel
theorem dX3_look_57 : decode cX3_look 57 = .ok (.bipush (-2), 2) := by decide +kernel
theorem dX3_look_59 : decode cX3_look 59 = .ok (.goto 4, 3) := by decide +kernel
theorem dX3_look_62 : decode cX3_look 62 = .ok (.iconst (-1), 1) := by decide +kernel
theorem dX3_look_63 : decode cX3_look 63 = .ok (.ireturn, 1) := by decide +kernel
theorem dX3_readDigits_0 : decode cX3_readDigits 0 = .ok (.iconst 0, 1) := by decide +kernel
theorem dX3_readDigits_1 : decode cX3_readDigits 1 = .ok (.istore_n 1, 1) := by decide +kernel
theorem dX3_readDigits_2 : decode cX3_readDigits 2 = .ok (.iconst 0, 1) := by decide +kernel
theorem dX3_readDigits_3 : decode cX3_readDigits 3 = .ok (.istore_n 2, 1) := by decide +kernel
theorem dX3_readDigits_4 : decode cX3_readDigits 4 = .ok (.iload_n 2, 1) := by decide +kernel
theorem dX3_readDigits_5 : decode cX3_readDigits 5 = .ok (.iconst 3, 1) := by decide +kernel
theorem dX3_readDigits_6 : decode cX3_readDigits 6 = .ok (.if_icmp .ge 49, 3) := by decide +kernel
theorem dX3_readDigits_9 : decode cX3_readDigits 9 = .ok (.aload_n 0, 1) := by decide +kernel
theorem dX3_readDigits_10 : decode cX3_readDigits 10 = .ok (.invokevirtual 92, 3) := by decide +kernel
theorem dX3_readDigits_13 : decode cX3_readDigits 13 = .ok (.istore_n 3, 1) := by decide +kernel
theorem dX3_readDigits_14 : decode cX3_readDigits 14 = .ok (.iload_n 3, 1) := by decide +kernel
theorem dX3_readDigits_15 : decode cX3_readDigits 15 = .ok (.bipush 48, 2) := by decide +kernel
theorem dX3_readDigits_17 : decode cX3_readDigits 17 = .ok (.if_icmp .lt 38, 3) := by decide +kernel
theorem dX3_readDigits_20 : decode cX3_readDigits 20 = .ok (.iload_n 3, 1) := by decide +kernel
theorem dX3_readDigits_21 : decode cX3_readDigits 21 = .ok (.bipush 57, 2) := by decide +kernel
theorem dX3_readDigits_23 : decode cX3_readDigits 23 = .ok (.if_icmp .le 6, 3) := by decide +kernel
theorem dX3_readDigits_26 : decode cX3_readDigits 26 = .ok (.goto 29, 3) := by decide +kernel
theorem dX3_readDigits_29 : decode cX3_readDigits 29 = .ok (.iload_n 1, 1) := by decide +kernel
theorem dX3_readDigits_30 : decode cX3_readDigits 30 = .ok (.bipush 10, 2) := by decide +kernel
theorem dX3_readDigits_32 : decode cX3_readDigits 32 = .ok (.imul, 1) := by decide +kernel
theorem dX3_readDigits_33 : decode cX3_readDigits 33 = .ok (.iload_n 3, 1) := by decide +kernel
theorem dX3_readDigits_34 : decode cX3_readDigits 34 = .ok (.iadd, 1) := by decide +kernel
theorem dX3_readDigits_35 : decode cX3_readDigits 35 = .ok (.bipush 48, 2) := by decide +kernel
theorem dX3_readDigits_37 : decode cX3_readDigits 37 = .ok (.isub, 1) := by decide +kernel
theorem dX3_readDigits_38 : decode cX3_readDigits 38 = .ok (.istore_n 1, 1) := by decide +kernel
theorem dX3_readDigits_39 : decode cX3_readDigits 39 = .ok (.aload_n 0, 1) := by decide +kernel
theorem dX3_readDigits_40 : decode cX3_readDigits 40 = .ok (.dup, 1) := by decide +kernel
theorem dX3_readDigits_41 : decode cX3_readDigits 41 = .ok (.getfield 85, 3) := by decide +kernel
theorem dX3_readDigits_44 : decode cX3_readDigits 44 = .ok (.iconst 1, 1) := by decide +kernel
theorem dX3_readDigits_45 : decode cX3_readDigits 45 = .ok (.iadd, 1) := by decide +kernel
theorem dX3_readDigits_46 : decode cX3_readDigits 46 = .ok (.putfield 85, 3) := by decide +kernel
theorem dX3_readDigits_49 : decode cX3_readDigits 49 = .ok (.iinc 2 1, 3) := by decide +kernel
theorem dX3_readDigits_52 : decode cX3_readDigits 52 = .ok (.goto (-48), 3) := by decide +kernel
theorem dX3_readDigits_55 : decode cX3_readDigits 55 = .ok (.iload_n 1, 1) := by decide +kernel
theorem dX3_readDigits_56 : decode cX3_readDigits 56 = .ok (.ireturn, 1) := by decide +kernel
theorem dX3_fail_0 : decode cX3_fail 0 = .ok (.aload_n 0, 1) := by decide +kernel
theorem dX3_fail_1 : decode cX3_fail 1 = .ok (.getfield 43, 3) := by decide +kernel
theorem dX3_fail_4 : decode cX3_fail 4 = .ok (.iconst (-1), 1) := by decide +kernel
theorem dX3_fail_5 : decode cX3_fail 5 = .ok (.if_icmp .ne 11, 3) := by decide +kernel
theorem dX3_fail_8 : decode cX3_fail 8 = .ok (.aload_n 0, 1) := by decide +kernel
theorem dX3_fail_9 : decode cX3_fail 9 = .ok (.aload_n 0, 1) := by decide +kernel
theorem dX3_fail_10 : decode cX3_fail 10 = .ok (.getfield 85, 3) := by decide +kernel
theorem dX3_fail_13 : decode cX3_fail 13 = .ok (.putfield 43, 3) := by decide +kernel
theorem dX3_fail_16 : decode cX3_fail 16 = .ok (.return_, 1) := by decide +kernel
theorem dX3_readLetter_0 : decode cX3_readLetter 0 = .ok (.iconst 0, 1) := by decide +kernel
theorem dX3_readLetter_1 : decode cX3_readLetter 1 = .ok (.istore_n 2, 1) := by decide +kernel
theorem dX3_readLetter_2 : decode cX3_readLetter 2 = .ok (.iload_n 1, 1) := by decide +kernel
theorem dX3_readLetter_3 : decode cX3_readLetter 3 = .ok (.lookupswitch 105 #[(99, 89), (105, 81), (111, 97), (114, 73), (115, 57), (122, 65)], 57) := by decide +kernel
theorem dX3_readLetter_60 : decode cX3_readLetter 60 = .ok (.aload_n 0, 1) := by decide +kernel
theorem dX3_readLetter_61 : decode cX3_readLetter 61 = .ok (.getfield 58, 3) := by decide +kernel
theorem dX3_readLetter_64 : decode cX3_readLetter 64 = .ok (.istore_n 2, 1) := by decide +kernel
theorem dX3_readLetter_65 : decode cX3_readLetter 65 = .ok (.goto 47, 3) := by decide +kernel
theorem dX3_readLetter_68 : decode cX3_readLetter 68 = .ok (.aload_n 0, 1) := by decide +kernel
theorem dX3_readLetter_69 : decode cX3_readLetter 69 = .ok (.getfield 65, 3) := by decide +kernel
theorem dX3_readLetter_72 : decode cX3_readLetter 72 = .ok (.istore_n 2, 1) := by decide +kernel
theorem dX3_readLetter_73 : decode cX3_readLetter 73 = .ok (.goto 39, 3) := by decide +kernel
theorem dX3_readLetter_76 : decode cX3_readLetter 76 = .ok (.aload_n 0, 1) := by decide +kernel
theorem dX3_readLetter_77 : decode cX3_readLetter 77 = .ok (.getfield 67, 3) := by decide +kernel
theorem dX3_readLetter_80 : decode cX3_readLetter 80 = .ok (.istore_n 2, 1) := by decide +kernel
theorem dX3_readLetter_81 : decode cX3_readLetter 81 = .ok (.goto 31, 3) := by decide +kernel
theorem dX3_readLetter_84 : decode cX3_readLetter 84 = .ok (.aload_n 0, 1) := by decide +kernel
theorem dX3_readLetter_85 : decode cX3_readLetter 85 = .ok (.getfield 70, 3) := by decide +kernel
theorem dX3_readLetter_88 : decode cX3_readLetter 88 = .ok (.istore_n 2, 1) := by decide +kernel
theorem dX3_readLetter_89 : decode cX3_readLetter 89 = .ok (.goto 23, 3) := by decide +kernel
theorem dX3_readLetter_92 : decode cX3_readLetter 92 = .ok (.aload_n 0, 1) := by decide +kernel
theorem dX3_readLetter_93 : decode cX3_readLetter 93 = .ok (.getfield 77, 3) := by decide +kernel
theorem dX3_readLetter_96 : decode cX3_readLetter 96 = .ok (.istore_n 2, 1) := by decide +kernel
theorem dX3_readLetter_97 : decode cX3_readLetter 97 = .ok (.goto 15, 3) := by decide +kernel
theorem dX3_readLetter_100 : decode cX3_readLetter 100 = .ok (.aload_n 0, 1) := by decide +kernel
theorem dX3_readLetter_101 : decode cX3_readLetter 101 = .ok (.getfield 83, 3) := by decide +kernel
theorem dX3_readLetter_104 : decode cX3_readLetter 104 = .ok (.istore_n 2, 1) := by decide +kernel
theorem dX3_readLetter_105 : decode cX3_readLetter 105 = .ok (.goto 7, 3) := by decide +kernel
theorem dX3_readLetter_108 : decode cX3_readLetter 108 = .ok (.aload_n 0, 1) := by decide +kernel
theorem dX3_readLetter_109 : decode cX3_readLetter 109 = .ok (.invokevirtual 95, 3) := by decide +kernel
theorem dX3_readLetter_112 : decode cX3_readLetter 112 = .ok (.aload_n 0, 1) := by decide +kernel
theorem dX3_readLetter_113 : decode cX3_readLetter 113 = .ok (.dup, 1) := by decide +kernel
theorem dX3_readLetter_114 : decode cX3_readLetter 114 = .ok (.getfield 85, 3) := by decide +kernel
theorem dX3_readLetter_117 : decode cX3_readLetter 117 = .ok (.iconst 1, 1) := by decide +kernel
theorem dX3_readLetter_118 : decode cX3_readLetter 118 = .ok (.iadd, 1) := by decide +kernel
theorem dX3_readLetter_119 : decode cX3_readLetter 119 = .ok (.putfield 85, 3) := by decide +kernel
theorem dX3_readLetter_122 : decode cX3_readLetter 122 = .ok (.iload_n 2, 1) := by decide +kernel
theorem dX3_readLetter_123 : decode cX3_readLetter 123 = .ok (.ireturn, 1) := by decide +kernel
theorem dX3_readSigned_0 : decode cX3_readSigned 0 = .ok (.iconst 0, 1) := by decide +kernel
theorem dX3_readSigned_1 : decode cX3_readSigned 1 = .ok (.istore_n 2, 1) := by decide +kernel
theorem dX3_readSigned_2 : decode cX3_readSigned 2 = .ok (.iconst 0, 1) := by decide +kernel
theorem dX3_readSigned_3 : decode cX3_readSigned 3 = .ok (.istore_n 3, 1) := by decide +kernel
theorem dX3_readSigned_4 : decode cX3_readSigned 4 = .ok (.iload_n 3, 1) := by decide +kernel
theorem dX3_readSigned_5 : decode cX3_readSigned 5 = .ok (.bipush 40, 2) := by decide +kernel
theorem dX3_readSigned_7 : decode cX3_readSigned 7 = .ok (.if_icmp .ge 38, 3) := by decide +kernel
theorem dX3_readSigned_10 : decode cX3_readSigned 10 = .ok (.aload_n 0, 1) := by decide +kernel
theorem dX3_readSigned_11 : decode cX3_readSigned 11 = .ok (.invokevirtual 92, 3) := by decide +kernel
theorem dX3_readSigned_14 : decode cX3_readSigned 14 = .ok (.bipush 45, 2) := by decide +kernel
theorem dX3_readSigned_16 : decode cX3_readSigned 16 = .ok (.if_icmp .ne 29, 3) := by decide +kernel
theorem dX3_readSigned_19 : decode cX3_readSigned 19 = .ok (.iload_n 2, 1) := by decide +kernel
theorem dX3_readSigned_20 : decode cX3_readSigned 20 = .ok (.ifCond .ne 7, 3) := by decide +kernel
theorem dX3_readSigned_23 : decode cX3_readSigned 23 = .ok (.iconst 1, 1) := by decide +kernel
theorem dX3_readSigned_24 : decode cX3_readSigned 24 = .ok (.goto 4, 3) := by decide +kernel
theorem dX3_readSigned_27 : decode cX3_readSigned 27 = .ok (.iconst 0, 1) := by decide +kernel
theorem dX3_readSigned_28 : decode cX3_readSigned 28 = .ok (.istore_n 2, 1) := by decide +kernel
theorem dX3_readSigned_29 : decode cX3_readSigned 29 = .ok (.aload_n 0, 1) := by decide +kernel
theorem dX3_readSigned_30 : decode cX3_readSigned 30 = .ok (.dup, 1) := by decide +kernel
theorem dX3_readSigned_31 : decode cX3_readSigned 31 = .ok (.getfield 85, 3) := by decide +kernel
theorem dX3_readSigned_34 : decode cX3_readSigned 34 = .ok (.iconst 1, 1) := by decide +kernel
theorem dX3_readSigned_35 : decode cX3_readSigned 35 = .ok (.iadd, 1) := by decide +kernel
theorem dX3_readSigned_36 : decode cX3_readSigned 36 = .ok (.putfield 85, 3) := by decide +kernel
theorem dX3_readSigned_39 : decode cX3_readSigned 39 = .ok (.iinc 3 1, 3) := by decide +kernel
theorem dX3_readSigned_42 : decode cX3_readSigned 42 = .ok (.goto (-38), 3) := by decide +kernel
theorem dX3_readSigned_45 : decode cX3_readSigned 45 = .ok (.aload_n 0, 1) := by decide +kernel
theorem dX3_readSigned_46 : decode cX3_readSigned 46 = .ok (.iload_n 1, 1) := by decide +kernel
theorem dX3_readSigned_47 : decode cX3_readSigned 47 = .ok (.invokevirtual 107, 3) := by decide +kernel
theorem dX3_readSigned_50 : decode cX3_readSigned 50 = .ok (.istore_n 3, 1) := by decide +kernel
theorem dX3_readSigned_51 : decode cX3_readSigned 51 = .ok (.iload_n 2, 1) := by decide +kernel
theorem dX3_readSigned_52 : decode cX3_readSigned 52 = .ok (.ifCond .eq 8, 3) := by decide +kernel
theorem dX3_readSigned_55 : decode cX3_readSigned 55 = .ok (.iload_n 3, 1) := by decide +kernel
theorem dX3_readSigned_56 : decode cX3_readSigned 56 = .ok (.ineg, 1) := by decide +kernel
theorem dX3_readSigned_57 : decode cX3_readSigned 57 = .ok (.goto 4, 3) := by decide +kernel
theorem dX3_readSigned_60 : decode cX3_readSigned 60 = .ok (.iload_n 3, 1) := by decide +kernel
theorem dX3_readSigned_61 : decode cX3_readSigned 61 = .ok (.ireturn, 1) := by decide +kernel
theorem dX3_readProduct_0 : decode cX3_readProduct 0 = .ok (.aload_n 0, 1) := by decide +kernel
theorem dX3_readProduct_1 : decode cX3_readProduct 1 = .ok (.iload_n 1, 1) := by decide +kernel
theorem dX3_readProduct_2 : decode cX3_readProduct 2 = .ok (.invokevirtual 104, 3) := by decide +kernel
theorem dX3_readProduct_5 : decode cX3_readProduct 5 = .ok (.istore_n 2, 1) := by decide +kernel
theorem dX3_readProduct_6 : decode cX3_readProduct 6 = .ok (.iconst 0, 1) := by decide +kernel
theorem dX3_readProduct_7 : decode cX3_readProduct 7 = .ok (.istore_n 3, 1) := by decide +kernel
theorem dX3_readProduct_8 : decode cX3_readProduct 8 = .ok (.iload_n 3, 1) := by decide +kernel
theorem dX3_readProduct_9 : decode cX3_readProduct 9 = .ok (.bipush 40, 2) := by decide +kernel
theorem dX3_readProduct_11 : decode cX3_readProduct 11 = .ok (.if_icmp .ge 78, 3) := by decide +kernel
theorem dX3_readProduct_14 : decode cX3_readProduct 14 = .ok (.aload_n 0, 1) := by decide +kernel
theorem dX3_readProduct_15 : decode cX3_readProduct 15 = .ok (.invokevirtual 92, 3) := by decide +kernel
theorem dX3_readProduct_18 : decode cX3_readProduct 18 = .ok (.istore 4, 2) := by decide +kernel
theorem dX3_readProduct_20 : decode cX3_readProduct 20 = .ok (.iload 4, 2) := by decide +kernel
theorem dX3_readProduct_22 : decode cX3_readProduct 22 = .ok (.bipush 42, 2) := by decide +kernel
theorem dX3_readProduct_24 : decode cX3_readProduct 24 = .ok (.if_icmp .eq 13, 3) := by decide +kernel
theorem dX3_readProduct_27 : decode cX3_readProduct 27 = .ok (.iload 4, 2) := by decide +kernel
theorem dX3_readProduct_29 : decode cX3_readProduct 29 = .ok (.bipush 47, 2) := by decide +kernel
theorem dX3_readProduct_31 : decode cX3_readProduct 31 = .ok (.if_icmp .eq 6, 3) := by decide +kernel
theorem dX3_readProduct_34 : decode cX3_readProduct 34 = .ok (.goto 55, 3) := by decide +kernel
theorem dX3_readProduct_37 : decode cX3_readProduct 37 = .ok (.aload_n 0, 1) := by decide +kernel
theorem dX3_readProduct_38 : decode cX3_readProduct 38 = .ok (.dup, 1) := by decide +kernel
theorem dX3_readProduct_39 : decode cX3_readProduct 39 = .ok (.getfield 85, 3) := by decide +kernel
theorem dX3_readProduct_42 : decode cX3_readProduct 42 = .ok (.iconst 1, 1) := by decide +kernel
theorem dX3_readProduct_43 : decode cX3_readProduct 43 = .ok (.iadd, 1) := by decide +kernel
theorem dX3_readProduct_44 : decode cX3_readProduct 44 = .ok (.putfield 85, 3) := by decide +kernel
theorem dX3_readProduct_47 : decode cX3_readProduct 47 = .ok (.aload_n 0, 1) := by decide +kernel
theorem dX3_readProduct_48 : decode cX3_readProduct 48 = .ok (.iload_n 1, 1) := by decide +kernel
theorem dX3_readProduct_49 : decode cX3_readProduct 49 = .ok (.invokevirtual 104, 3) := by decide +kernel
theorem dX3_readProduct_52 : decode cX3_readProduct 52 = .ok (.istore 5, 2) := by decide +kernel
theorem dX3_readProduct_54 : decode cX3_readProduct 54 = .ok (.iload 4, 2) := by decide +kernel
theorem dX3_readProduct_56 : decode cX3_readProduct 56 = .ok (.bipush 42, 2) := by decide +kernel
theorem dX3_readProduct_58 : decode cX3_readProduct 58 = .ok (.if_icmp .ne 11, 3) := by decide +kernel
theorem dX3_readProduct_61 : decode cX3_readProduct 61 = .ok (.iload_n 2, 1) := by decide +kernel
theorem dX3_readProduct_62 : decode cX3_readProduct 62 = .ok (.iload 5, 2) := by decide +kernel
theorem dX3_readProduct_64 : decode cX3_readProduct 64 = .ok (.imul, 1) := by decide +kernel
theorem dX3_readProduct_65 : decode cX3_readProduct 65 = .ok (.istore_n 2, 1) := by decide +kernel
theorem dX3_readProduct_66 : decode cX3_readProduct 66 = .ok (.goto 17, 3) := by decide +kernel
theorem dX3_readProduct_69 : decode cX3_readProduct 69 = .ok (.iload 5, 2) := by decide +kernel
theorem dX3_readProduct_71 : decode cX3_readProduct 71 = .ok (.ifCond .ne 7, 3) := by decide +kernel
theorem dX3_readProduct_74 : decode cX3_readProduct 74 = .ok (.iconst 0, 1) := by decide +kernel
theorem dX3_readProduct_75 : decode cX3_readProduct 75 = .ok (.goto 7, 3) := by decide +kernel
theorem dX3_readProduct_78 : decode cX3_readProduct 78 = .ok (.iload_n 2, 1) := by decide +kernel
theorem dX3_readProduct_79 : decode cX3_readProduct 79 = .ok (.iload 5, 2) := by decide +kernel
theorem dX3_readProduct_81 : decode cX3_readProduct 81 = .ok (.idiv, 1) := by decide +kernel
theorem dX3_readProduct_82 : decode cX3_readProduct 82 = .ok (.istore_n 2, 1) := by decide +kernel
theorem dX3_readProduct_83 : decode cX3_readProduct 83 = .ok (.iinc 3 1, 3) := by decide +kernel
theorem dX3_readProduct_86 : decode cX3_readProduct 86 = .ok (.goto (-78), 3) := by decide +kernel
theorem dX3_readProduct_89 : decode cX3_readProduct 89 = .ok (.iload_n 2, 1) := by decide +kernel
theorem dX3_readProduct_90 : decode cX3_readProduct 90 = .ok (.ireturn, 1) := by decide +kernel
theorem dX3_readSum_0 : decode cX3_readSum 0 = .ok (.aload_n 0, 1) := by decide +kernel
theorem dX3_readSum_1 : decode cX3_readSum 1 = .ok (.iload_n 1, 1) := by decide +kernel
theorem dX3_readSum_2 : decode cX3_readSum 2 = .ok (.invokevirtual 101, 3) := by decide +kernel
theorem dX3_readSum_5 : decode cX3_readSum 5 = .ok (.istore_n 2, 1) := by decide +kernel
theorem dX3_readSum_6 : decode cX3_readSum 6 = .ok (.iconst 0, 1) := by decide +kernel
theorem dX3_readSum_7 : decode cX3_readSum 7 = .ok (.istore_n 3, 1) := by decide +kernel
theorem dX3_readSum_8 : decode cX3_readSum 8 = .ok (.iload_n 3, 1) := by decide +kernel
theorem dX3_readSum_9 : decode cX3_readSum 9 = .ok (.bipush 40, 2) := by decide +kernel
theorem dX3_readSum_11 : decode cX3_readSum 11 = .ok (.if_icmp .ge 68, 3) := by decide +kernel
theorem dX3_readSum_14 : decode cX3_readSum 14 = .ok (.aload_n 0, 1) := by decide +kernel
theorem dX3_readSum_15 : decode cX3_readSum 15 = .ok (.invokevirtual 92, 3) := by decide +kernel
theorem dX3_readSum_18 : decode cX3_readSum 18 = .ok (.istore 4, 2) := by decide +kernel
theorem dX3_readSum_20 : decode cX3_readSum 20 = .ok (.iload 4, 2) := by decide +kernel
theorem dX3_readSum_22 : decode cX3_readSum 22 = .ok (.bipush 43, 2) := by decide +kernel
theorem dX3_readSum_24 : decode cX3_readSum 24 = .ok (.if_icmp .eq 13, 3) := by decide +kernel
theorem dX3_readSum_27 : decode cX3_readSum 27 = .ok (.iload 4, 2) := by decide +kernel
theorem dX3_readSum_29 : decode cX3_readSum 29 = .ok (.bipush 45, 2) := by decide +kernel
theorem dX3_readSum_31 : decode cX3_readSum 31 = .ok (.if_icmp .eq 6, 3) := by decide +kernel
theorem dX3_readSum_34 : decode cX3_readSum 34 = .ok (.goto 45, 3) := by decide +kernel
theorem dX3_readSum_37 : decode cX3_readSum 37 = .ok (.aload_n 0, 1) := by decide +kernel
theorem dX3_readSum_38 : decode cX3_readSum 38 = .ok (.dup, 1) := by decide +kernel
theorem dX3_readSum_39 : decode cX3_readSum 39 = .ok (.getfield 85, 3) := by decide +kernel
theorem dX3_readSum_42 : decode cX3_readSum 42 = .ok (.iconst 1, 1) := by decide +kernel
theorem dX3_readSum_43 : decode cX3_readSum 43 = .ok (.iadd, 1) := by decide +kernel
theorem dX3_readSum_44 : decode cX3_readSum 44 = .ok (.putfield 85, 3) := by decide +kernel
theorem dX3_readSum_47 : decode cX3_readSum 47 = .ok (.aload_n 0, 1) := by decide +kernel
theorem dX3_readSum_48 : decode cX3_readSum 48 = .ok (.iload_n 1, 1) := by decide +kernel
theorem dX3_readSum_49 : decode cX3_readSum 49 = .ok (.invokevirtual 101, 3) := by decide +kernel
theorem dX3_readSum_52 : decode cX3_readSum 52 = .ok (.istore 5, 2) := by decide +kernel
theorem dX3_readSum_54 : decode cX3_readSum 54 = .ok (.iload 4, 2) := by decide +kernel
theorem dX3_readSum_56 : decode cX3_readSum 56 = .ok (.bipush 43, 2) := by decide +kernel
theorem dX3_readSum_58 : decode cX3_readSum 58 = .ok (.if_icmp .ne 10, 3) := by decide +kernel
theorem dX3_readSum_61 : decode cX3_readSum 61 = .ok (.iload_n 2, 1) := by decide +kernel
theorem dX3_readSum_62 : decode cX3_readSum 62 = .ok (.iload 5, 2) := by decide +kernel
theorem dX3_readSum_64 : decode cX3_readSum 64 = .ok (.iadd, 1) := by decide +kernel
theorem dX3_readSum_65 : decode cX3_readSum 65 = .ok (.goto 7, 3) := by decide +kernel
theorem dX3_readSum_68 : decode cX3_readSum 68 = .ok (.iload_n 2, 1) := by decide +kernel
theorem dX3_readSum_69 : decode cX3_readSum 69 = .ok (.iload 5, 2) := by decide +kernel
theorem dX3_readSum_71 : decode cX3_readSum 71 = .ok (.isub, 1) := by decide +kernel
theorem dX3_readSum_72 : decode cX3_readSum 72 = .ok (.istore_n 2, 1) := by decide +kernel
theorem dX3_readSum_73 : decode cX3_readSum 73 = .ok (.iinc 3 1, 3) := by decide +kernel
theorem dX3_readSum_76 : decode cX3_readSum 76 = .ok (.goto (-68), 3) := by decide +kernel
theorem dX3_readSum_79 : decode cX3_readSum 79 = .ok (.iload_n 2, 1) := by decide +kernel
theorem dX3_readSum_80 : decode cX3_readSum 80 = .ok (.ireturn, 1) := by decide +kernel
theorem dX3_readExpression_0 : decode cX3_readExpression 0 = .ok (.aload_n 0, 1) := by decide +kernel
theorem dX3_readExpression_1 : decode cX3_readExpression 1 = .ok (.iload_n 1, 1) := by decide +kernel
theorem dX3_readExpression_2 : decode cX3_readExpression 2 = .ok (.invokevirtual 98, 3) := by decide +kernel
theorem dX3_readExpression_5 : decode cX3_readExpression 5 = .ok (.istore_n 2, 1) := by decide +kernel
theorem dX3_readExpression_6 : decode cX3_readExpression 6 = .ok (.aload_n 0, 1) := by decide +kernel
theorem dX3_readExpression_7 : decode cX3_readExpression 7 = .ok (.invokevirtual 92, 3) := by decide +kernel
theorem dX3_readExpression_10 : decode cX3_readExpression 10 = .ok (.istore_n 3, 1) := by decide +kernel
theorem dX3_readExpression_11 : decode cX3_readExpression 11 = .ok (.iload_n 3, 1) := by decide +kernel
theorem dX3_readExpression_12 : decode cX3_readExpression 12 = .ok (.bipush 60, 2) := by decide +kernel
theorem dX3_readExpression_14 : decode cX3_readExpression 14 = .ok (.if_icmp .eq 17, 3) := by decide +kernel
theorem dX3_readExpression_17 : decode cX3_readExpression 17 = .ok (.iload_n 3, 1) := by decide +kernel
theorem dX3_readExpression_18 : decode cX3_readExpression 18 = .ok (.bipush 62, 2) := by decide +kernel
theorem dX3_readExpression_20 : decode cX3_readExpression 20 = .ok (.if_icmp .eq 11, 3) := by decide +kernel
theorem dX3_readExpression_23 : decode cX3_readExpression 23 = .ok (.iload_n 3, 1) := by decide +kernel
theorem dX3_readExpression_24 : decode cX3_readExpression 24 = .ok (.bipush 61, 2) := by decide +kernel
theorem dX3_readExpression_26 : decode cX3_readExpression 26 = .ok (.if_icmp .eq 5, 3) := by decide +kernel
theorem dX3_readExpression_29 : decode cX3_readExpression 29 = .ok (.iload_n 2, 1) := by decide +kernel
theorem dX3_readExpression_30 : decode cX3_readExpression 30 = .ok (.ireturn, 1) := by decide +kernel
theorem dX3_readExpression_31 : decode cX3_readExpression 31 = .ok (.aload_n 0, 1) := by decide +kernel
theorem dX3_readExpression_32 : decode cX3_readExpression 32 = .ok (.dup, 1) := by decide +kernel
theorem dX3_readExpression_33 : decode cX3_readExpression 33 = .ok (.getfield 85, 3) := by decide +kernel
theorem dX3_readExpression_36 : decode cX3_readExpression 36 = .ok (.iconst 1, 1) := by decide +kernel
theorem dX3_readExpression_37 : decode cX3_readExpression 37 = .ok (.iadd, 1) := by decide +kernel
theorem dX3_readExpression_38 : decode cX3_readExpression 38 = .ok (.putfield 85, 3) := by decide +kernel
theorem dX3_readExpression_41 : decode cX3_readExpression 41 = .ok (.aload_n 0, 1) := by decide +kernel
theorem dX3_readExpression_42 : decode cX3_readExpression 42 = .ok (.iload_n 1, 1) := by decide +kernel
theorem dX3_readExpression_43 : decode cX3_readExpression 43 = .ok (.invokevirtual 98, 3) := by decide +kernel
theorem dX3_readExpression_46 : decode cX3_readExpression 46 = .ok (.istore 4, 2) := by decide +kernel
theorem dX3_readExpression_48 : decode cX3_readExpression 48 = .ok (.iload_n 3, 1) := by decide +kernel
theorem dX3_readExpression_49 : decode cX3_readExpression 49 = .ok (.bipush 60, 2) := by decide +kernel
theorem dX3_readExpression_51 : decode cX3_readExpression 51 = .ok (.if_icmp .ne 17, 3) := by decide +kernel
theorem dX3_readExpression_54 : decode cX3_readExpression 54 = .ok (.iload_n 2, 1) := by decide +kernel
theorem dX3_readExpression_55 : decode cX3_readExpression 55 = .ok (.iload 4, 2) := by decide +kernel
theorem dX3_readExpression_57 : decode cX3_readExpression 57 = .ok (.if_icmp .ge 7, 3) := by decide +kernel
theorem dX3_readExpression_60 : decode cX3_readExpression 60 = .ok (.iconst 1, 1) := by decide +kernel
theorem dX3_readExpression_61 : decode cX3_readExpression 61 = .ok (.goto 38, 3) := by decide +kernel
theorem dX3_readExpression_64 : decode cX3_readExpression 64 = .ok (.iconst 0, 1) := by decide +kernel
theorem dX3_readExpression_65 : decode cX3_readExpression 65 = .ok (.goto 34, 3) := by decide +kernel
theorem dX3_readExpression_68 : decode cX3_readExpression 68 = .ok (.iload_n 3, 1) := by decide +kernel
theorem dX3_readExpression_69 : decode cX3_readExpression 69 = .ok (.bipush 62, 2) := by decide +kernel
theorem dX3_readExpression_71 : decode cX3_readExpression 71 = .ok (.if_icmp .ne 17, 3) := by decide +kernel
theorem dX3_readExpression_74 : decode cX3_readExpression 74 = .ok (.iload_n 2, 1) := by decide +kernel
theorem dX3_readExpression_75 : decode cX3_readExpression 75 = .ok (.iload 4, 2) := by decide +kernel
theorem dX3_readExpression_77 : decode cX3_readExpression 77 = .ok (.if_icmp .le 7, 3) := by decide +kernel
theorem dX3_readExpression_80 : decode cX3_readExpression 80 = .ok (.iconst 1, 1) := by decide +kernel
theorem dX3_readExpression_81 : decode cX3_readExpression 81 = .ok (.goto 18, 3) := by decide +kernel
theorem dX3_readExpression_84 : decode cX3_readExpression 84 = .ok (.iconst 0, 1) := by decide +kernel
theorem dX3_readExpression_85 : decode cX3_readExpression 85 = .ok (.goto 14, 3) := by decide +kernel
theorem dX3_readExpression_88 : decode cX3_readExpression 88 = .ok (.iload_n 2, 1) := by decide +kernel
theorem dX3_readExpression_89 : decode cX3_readExpression 89 = .ok (.iload 4, 2) := by decide +kernel
theorem dX3_readExpression_91 : decode cX3_readExpression 91 = .ok (.if_icmp .ne 7, 3) := by decide +kernel
theorem dX3_readExpression_94 : decode cX3_readExpression 94 = .ok (.iconst 1, 1) := by decide +kernel
theorem dX3_readExpression_95 : decode cX3_readExpression 95 = .ok (.goto 4, 3) := by decide +kernel
theorem dX3_readExpression_98 : decode cX3_readExpression 98 = .ok (.iconst 0, 1) := by decide +kernel
theorem dX3_readExpression_99 : decode cX3_readExpression 99 = .ok (.istore 5, 2) := by decide +kernel
theorem dX3_readExpression_101 : decode cX3_readExpression 101 = .ok (.iload 5, 2) := by decide +kernel
theorem dX3_readExpression_103 : decode cX3_readExpression 103 = .ok (.ifCond .eq 7, 3) := by decide +kernel
theorem dX3_readExpression_106 : decode cX3_readExpression 106 = .ok (.iconst 1, 1) := by decide +kernel
theorem dX3_readExpression_107 : decode cX3_readExpression 107 = .ok (.goto 4, 3) := by decide +kernel
theorem dX3_readExpression_110 : decode cX3_readExpression 110 = .ok (.iconst 0, 1) := by decide +kernel
theorem dX3_readExpression_111 : decode cX3_readExpression 111 = .ok (.ireturn, 1) := by decide +kernel
theorem dX3_readThing_0 : decode cX3_readThing 0 = .ok (.aload_n 0, 1) := by decide +kernel
theorem dX3_readThing_1 : decode cX3_readThing 1 = .ok (.invokevirtual 92, 3) := by decide +kernel
theorem dX3_readThing_4 : decode cX3_readThing 4 = .ok (.istore_n 2, 1) := by decide +kernel
theorem dX3_readThing_5 : decode cX3_readThing 5 = .ok (.iload_n 2, 1) := by decide +kernel
theorem dX3_readThing_6 : decode cX3_readThing 6 = .ok (.bipush 48, 2) := by decide +kernel
theorem dX3_readThing_8 : decode cX3_readThing 8 = .ok (.if_icmp .lt 14, 3) := by decide +kernel
theorem dX3_readThing_11 : decode cX3_readThing 11 = .ok (.iload_n 2, 1) := by decide +kernel
theorem dX3_readThing_12 : decode cX3_readThing 12 = .ok (.bipush 57, 2) := by decide +kernel
theorem dX3_readThing_14 : decode cX3_readThing 14 = .ok (.if_icmp .gt 8, 3) := by decide +kernel
theorem dX3_readThing_17 : decode cX3_readThing 17 = .ok (.aload_n 0, 1) := by decide +kernel
theorem dX3_readThing_18 : decode cX3_readThing 18 = .ok (.invokevirtual 110, 3) := by decide +kernel
theorem dX3_readThing_21 : decode cX3_readThing 21 = .ok (.ireturn, 1) := by decide +kernel
theorem dX3_readThing_22 : decode cX3_readThing 22 = .ok (.iload_n 2, 1) := by decide +kernel
theorem dX3_readThing_23 : decode cX3_readThing 23 = .ok (.bipush 40, 2) := by decide +kernel
theorem dX3_readThing_25 : decode cX3_readThing 25 = .ok (.if_icmp .ne 54, 3) := by decide +kernel
theorem dX3_readThing_28 : decode cX3_readThing 28 = .ok (.iload_n 1, 1) := by decide +kernel
theorem dX3_readThing_29 : decode cX3_readThing 29 = .ok (.iconst 4, 1) := by decide +kernel
theorem dX3_readThing_30 : decode cX3_readThing 30 = .ok (.if_icmp .ge 49, 3) := by decide +kernel
theorem dX3_readThing_33 : decode cX3_readThing 33 = .ok (.aload_n 0, 1) := by decide +kernel
theorem dX3_readThing_34 : decode cX3_readThing 34 = .ok (.dup, 1) := by decide +kernel
theorem dX3_readThing_35 : decode cX3_readThing 35 = .ok (.getfield 85, 3) := by decide +kernel
theorem dX3_readThing_38 : decode cX3_readThing 38 = .ok (.iconst 1, 1) := by decide +kernel
theorem dX3_readThing_39 : decode cX3_readThing 39 = .ok (.iadd, 1) := by decide +kernel
theorem dX3_readThing_40 : decode cX3_readThing 40 = .ok (.putfield 85, 3) := by decide +kernel
theorem dX3_readThing_43 : decode cX3_readThing 43 = .ok (.aload_n 0, 1) := by decide +kernel
theorem dX3_readThing_44 : decode cX3_readThing 44 = .ok (.iload_n 1, 1) := by decide +kernel
theorem dX3_readThing_45 : decode cX3_readThing 45 = .ok (.iconst 1, 1) := by decide +kernel
theorem dX3_readThing_46 : decode cX3_readThing 46 = .ok (.iadd, 1) := by decide +kernel
theorem dX3_readThing_47 : decode cX3_readThing 47 = .ok (.invokevirtual 88, 3) := by decide +kernel
theorem dX3_readThing_50 : decode cX3_readThing 50 = .ok (.istore_n 3, 1) := by decide +kernel
theorem dX3_readThing_51 : decode cX3_readThing 51 = .ok (.aload_n 0, 1) := by decide +kernel
theorem dX3_readThing_52 : decode cX3_readThing 52 = .ok (.invokevirtual 92, 3) := by decide +kernel
theorem dX3_readThing_55 : decode cX3_readThing 55 = .ok (.bipush 41, 2) := by decide +kernel
theorem dX3_readThing_57 : decode cX3_readThing 57 = .ok (.if_icmp .ne 16, 3) := by decide +kernel
theorem dX3_readThing_60 : decode cX3_readThing 60 = .ok (.aload_n 0, 1) := by decide +kernel
theorem dX3_readThing_61 : decode cX3_readThing 61 = .ok (.dup, 1) := by decide +kernel
theorem dX3_readThing_62 : decode cX3_readThing 62 = .ok (.getfield 85, 3) := by decide +kernel
theorem dX3_readThing_65 : decode cX3_readThing 65 = .ok (.iconst 1, 1) := by decide +kernel
theorem dX3_readThing_66 : decode cX3_readThing 66 = .ok (.iadd, 1) := by decide +kernel
theorem dX3_readThing_67 : decode cX3_readThing 67 = .ok (.putfield 85, 3) := by decide +kernel
theorem dX3_readThing_70 : decode cX3_readThing 70 = .ok (.goto 7, 3) := by decide +kernel
theorem dX3_readThing_73 : decode cX3_readThing 73 = .ok (.aload_n 0, 1) := by decide +kernel
theorem dX3_readThing_74 : decode cX3_readThing 74 = .ok (.invokevirtual 95, 3) := by decide +kernel
theorem dX3_readThing_77 : decode cX3_readThing 77 = .ok (.iload_n 3, 1) := by decide +kernel
theorem dX3_readThing_78 : decode cX3_readThing 78 = .ok (.ireturn, 1) := by decide +kernel
theorem dX3_readThing_79 : decode cX3_readThing 79 = .ok (.aload_n 0, 1) := by decide +kernel
theorem dX3_readThing_80 : decode cX3_readThing 80 = .ok (.iload_n 2, 1) := by decide +kernel
theorem dX3_readThing_81 : decode cX3_readThing 81 = .ok (.invokevirtual 113, 3) := by decide +kernel
theorem dX3_readThing_84 : decode cX3_readThing 84 = .ok (.ireturn, 1) := by decide +kernel
theorem dX3_readAll_0 : decode cX3_readAll 0 = .ok (.aload_n 0, 1) := by decide +kernel
theorem dX3_readAll_1 : decode cX3_readAll 1 = .ok (.iconst 0, 1) := by decide +kernel
theorem dX3_readAll_2 : decode cX3_readAll 2 = .ok (.putfield 85, 3) := by decide +kernel
theorem dX3_readAll_5 : decode cX3_readAll 5 = .ok (.aload_n 0, 1) := by decide +kernel
theorem dX3_readAll_6 : decode cX3_readAll 6 = .ok (.iconst (-1), 1) := by decide +kernel
theorem dX3_readAll_7 : decode cX3_readAll 7 = .ok (.putfield 43, 3) := by decide +kernel
theorem dX3_readAll_10 : decode cX3_readAll 10 = .ok (.aload_n 0, 1) := by decide +kernel
theorem dX3_readAll_11 : decode cX3_readAll 11 = .ok (.iconst 0, 1) := by decide +kernel
theorem dX3_readAll_12 : decode cX3_readAll 12 = .ok (.invokevirtual 88, 3) := by decide +kernel
theorem dX3_readAll_15 : decode cX3_readAll 15 = .ok (.istore_n 1, 1) := by decide +kernel
theorem dX3_readAll_16 : decode cX3_readAll 16 = .ok (.aload_n 0, 1) := by decide +kernel
theorem dX3_readAll_17 : decode cX3_readAll 17 = .ok (.invokevirtual 92, 3) := by decide +kernel
theorem dX3_readAll_20 : decode cX3_readAll 20 = .ok (.iconst (-1), 1) := by decide +kernel
theorem dX3_readAll_21 : decode cX3_readAll 21 = .ok (.if_icmp .eq 7, 3) := by decide +kernel
theorem dX3_readAll_24 : decode cX3_readAll 24 = .ok (.aload_n 0, 1) := by decide +kernel
theorem dX3_readAll_25 : decode cX3_readAll 25 = .ok (.invokevirtual 95, 3) := by decide +kernel
theorem dX3_readAll_28 : decode cX3_readAll 28 = .ok (.iload_n 1, 1) := by decide +kernel
theorem dX3_readAll_29 : decode cX3_readAll 29 = .ok (.ireturn, 1) := by decide +kernel
theorem dX3_valueOf_0 : decode cX3_valueOf 0 = .ok (.aload_n 0, 1) := by decide +kernel
theorem dX3_valueOf_1 : decode cX3_valueOf 1 = .ok (.getfield 15, 3) := by decide +kernel
theorem dX3_valueOf_4 : decode cX3_valueOf 4 = .ok (.ifCond .ne 12, 3) := by decide +kernel
theorem dX3_valueOf_7 : decode cX3_valueOf 7 = .ok (.aload_n 1, 1) := by decide +kernel
theorem dX3_valueOf_8 : decode cX3_valueOf 8 = .ok (.getfield 52, 3) := by decide +kernel
theorem dX3_valueOf_11 : decode cX3_valueOf 11 = .ok (.iload_n 2, 1) := by decide +kernel
theorem dX3_valueOf_12 : decode cX3_valueOf 12 = .ok (.aaload, 1) := by decide +kernel
theorem dX3_valueOf_13 : decode cX3_valueOf 13 = .ok (.iload_n 3, 1) := by decide +kernel
theorem dX3_valueOf_14 : decode cX3_valueOf 14 = .ok (.iaload, 1) := by decide +kernel
theorem dX3_valueOf_15 : decode cX3_valueOf 15 = .ok (.ireturn, 1) := by decide +kernel
theorem dX3_valueOf_16 : decode cX3_valueOf 16 = .ok (.aload_n 0, 1) := by decide +kernel
theorem dX3_valueOf_17 : decode cX3_valueOf 17 = .ok (.aload_n 1, 1) := by decide +kernel
theorem dX3_valueOf_18 : decode cX3_valueOf 18 = .ok (.getfield 52, 3) := by decide +kernel
theorem dX3_valueOf_21 : decode cX3_valueOf 21 = .ok (.iload_n 2, 1) := by decide +kernel
theorem dX3_valueOf_22 : decode cX3_valueOf 22 = .ok (.aaload, 1) := by decide +kernel
theorem dX3_valueOf_23 : decode cX3_valueOf 23 = .ok (.iload_n 3, 1) := by decide +kernel
theorem dX3_valueOf_24 : decode cX3_valueOf 24 = .ok (.iaload, 1) := by decide +kernel
theorem dX3_valueOf_25 : decode cX3_valueOf 25 = .ok (.putfield 58, 3) := by decide +kernel
theorem dX3_valueOf_28 : decode cX3_valueOf 28 = .ok (.aload_n 0, 1) := by decide +kernel
theorem dX3_valueOf_29 : decode cX3_valueOf 29 = .ok (.aload_n 1, 1) := by decide +kernel
theorem dX3_valueOf_30 : decode cX3_valueOf 30 = .ok (.getfield 61, 3) := by decide +kernel
theorem dX3_valueOf_33 : decode cX3_valueOf 33 = .ok (.iload_n 2, 1) := by decide +kernel
theorem dX3_valueOf_34 : decode cX3_valueOf 34 = .ok (.iaload, 1) := by decide +kernel
theorem dX3_valueOf_35 : decode cX3_valueOf 35 = .ok (.putfield 65, 3) := by decide +kernel
theorem dX3_valueOf_38 : decode cX3_valueOf 38 = .ok (.aload_n 0, 1) := by decide +kernel
theorem dX3_valueOf_39 : decode cX3_valueOf 39 = .ok (.iload_n 3, 1) := by decide +kernel
theorem dX3_valueOf_40 : decode cX3_valueOf 40 = .ok (.putfield 67, 3) := by decide +kernel
theorem dX3_valueOf_43 : decode cX3_valueOf 43 = .ok (.aload_n 0, 1) := by decide +kernel
theorem dX3_valueOf_44 : decode cX3_valueOf 44 = .ok (.iload_n 2, 1) := by decide +kernel
theorem dX3_valueOf_45 : decode cX3_valueOf 45 = .ok (.putfield 70, 3) := by decide +kernel
theorem dX3_valueOf_48 : decode cX3_valueOf 48 = .ok (.aload_n 0, 1) := by decide +kernel
theorem dX3_valueOf_49 : decode cX3_valueOf 49 = .ok (.aload_n 1, 1) := by decide +kernel
theorem dX3_valueOf_50 : decode cX3_valueOf 50 = .ok (.iload_n 3, 1) := by decide +kernel
theorem dX3_valueOf_51 : decode cX3_valueOf 51 = .ok (.invokevirtual 73, 3) := by decide +kernel
theorem dX3_valueOf_54 : decode cX3_valueOf 54 = .ok (.ifCond .eq 7, 3) := by decide +kernel
theorem dX3_valueOf_57 : decode cX3_valueOf 57 = .ok (.iconst 1, 1) := by decide +kernel
theorem dX3_valueOf_58 : decode cX3_valueOf 58 = .ok (.goto 4, 3) := by decide +kernel
theorem dX3_valueOf_61 : decode cX3_valueOf 61 = .ok (.iconst 0, 1) := by decide +kernel
theorem dX3_valueOf_62 : decode cX3_valueOf 62 = .ok (.putfield 77, 3) := by decide +kernel
theorem dX3_valueOf_65 : decode cX3_valueOf 65 = .ok (.aload_n 0, 1) := by decide +kernel
theorem dX3_valueOf_66 : decode cX3_valueOf 66 = .ok (.aload_n 1, 1) := by decide +kernel
theorem dX3_valueOf_67 : decode cX3_valueOf 67 = .ok (.getfield 80, 3) := by decide +kernel
theorem dX3_valueOf_70 : decode cX3_valueOf 70 = .ok (.iload_n 2, 1) := by decide +kernel
theorem dX3_valueOf_71 : decode cX3_valueOf 71 = .ok (.iaload, 1) := by decide +kernel
theorem dX3_valueOf_72 : decode cX3_valueOf 72 = .ok (.putfield 83, 3) := by decide +kernel
theorem dX3_valueOf_75 : decode cX3_valueOf 75 = .ok (.aload_n 0, 1) := by decide +kernel
theorem dX3_valueOf_76 : decode cX3_valueOf 76 = .ok (.aload_n 0, 1) := by decide +kernel
theorem dX3_valueOf_77 : decode cX3_valueOf 77 = .ok (.getfield 11, 3) := by decide +kernel
theorem dX3_valueOf_80 : decode cX3_valueOf 80 = .ok (.putfield 19, 3) := by decide +kernel
theorem dX3_valueOf_83 : decode cX3_valueOf 83 = .ok (.aload_n 0, 1) := by decide +kernel
theorem dX3_valueOf_84 : decode cX3_valueOf 84 = .ok (.aload_n 0, 1) := by decide +kernel
theorem dX3_valueOf_85 : decode cX3_valueOf 85 = .ok (.getfield 15, 3) := by decide +kernel
theorem dX3_valueOf_88 : decode cX3_valueOf 88 = .ok (.putfield 32, 3) := by decide +kernel
theorem dX3_valueOf_91 : decode cX3_valueOf 91 = .ok (.aload_n 0, 1) := by decide +kernel
theorem dX3_valueOf_92 : decode cX3_valueOf 92 = .ok (.iconst 0, 1) := by decide +kernel
theorem dX3_valueOf_93 : decode cX3_valueOf 93 = .ok (.putfield 35, 3) := by decide +kernel
theorem dX3_valueOf_96 : decode cX3_valueOf 96 = .ok (.aload_n 0, 1) := by decide +kernel
theorem dX3_valueOf_97 : decode cX3_valueOf 97 = .ok (.invokevirtual 39, 3) := by decide +kernel
theorem dX3_valueOf_100 : decode cX3_valueOf 100 = .ok (.ireturn, 1) := by decide +kernel
section NXG
variable {l : Launch} {D : va_G} {cy : Nat → ClassId} {ad : Nat → Nat} {dT : Nat} {X : Mm}
def f_X1_hasGroup_17  (t0 : Int32) (M : Mem) : Option (Int32 × Mem) :=
  gd (t0 = 0 ∨ t0 = 1) <|
  some (t0, M)
set_option maxRecDepth 100000 in
theorem w_X1_hasGroup_17 {R : Int32} {M' : Mem}  (t0 : Int32) (M : Mem) (hF : f_X1_hasGroup_17 t0 M = some (R, M')) : RunF l D cy ad none YX1_hasGroup 0 0 0 (some (.int R)) (lay X M') 0 0 17 [] [.int t0] (lay X M) := by
  unfold f_X1_hasGroup_17 at hF
  obtain ⟨g2, hF⟩ := gd_some hF
  exact s_zret (Y := YX1_hasGroup) (pc := 17) dX1_hasGroup_17 rfl g2 hF
def f_X1_hasGroup_16  (M : Mem) : Option (Int32 × Mem) :=
  f_X1_hasGroup_17 0 M
set_option maxRecDepth 100000 in
theorem w_X1_hasGroup_16 {R : Int32} {M' : Mem}  (M : Mem) (hF : f_X1_hasGroup_16  M = some (R, M')) : RunF l D cy ad none YX1_hasGroup 0 0 0 (some (.int R)) (lay X M') 0 0 16 [] [] (lay X M) := by
  unfold f_X1_hasGroup_16 at hF
  refine g_iconst (Y := YX1_hasGroup) (pc := 16) dX1_hasGroup_16 kI_0 ?_
  exact w_X1_hasGroup_17  _ _ hF
def f_X1_hasGroup_0  (x1 : Int32) (M : Mem) : Option (Int32 × Mem) :=
  if x1 < 0 then
    f_X1_hasGroup_16 M
  else
    if x1 < (M 3 2) then
      f_X1_hasGroup_17 1 M
    else
      f_X1_hasGroup_16 M
set_option maxRecDepth 100000 in
theorem w_X1_hasGroup_0 {R : Int32} {M' : Mem}  (x1 : Int32) (M : Mem) (hF : f_X1_hasGroup_0 x1 M = some (R, M')) : RunF l D cy ad none YX1_hasGroup 0 0 0 (some (.int R)) (lay X M') 0 0 0 [(0, .ref 3), (1, .int x1)] [] (lay X M) := by
  unfold f_X1_hasGroup_0 at hF
  refine g_iload_n (Y := YX1_hasGroup) (pc := 0) 1 dX1_hasGroup_0 rfl ?_
  refine g_if_lt (Y := YX1_hasGroup) (pc := 1) (tgt := 16) dX1_hasGroup_1 rfl (fun c1 => ?_) (fun c1 => ?_)
  · replace hF := if_t c1 hF
    refine g_loc [] rfl ?_
    exact w_X1_hasGroup_16  _ hF
  · replace hF := if_f c1 hF
    refine g_iload_n (Y := YX1_hasGroup) (pc := 4) 1 dX1_hasGroup_4 rfl ?_
    refine g_aload_n (Y := YX1_hasGroup) (pc := 5) 0 dX1_hasGroup_5 rfl ?_
    refine u_getI (Y := YX1_hasGroup) (pc := 6) dX1_hasGroup_6 fl_X1_18 k_3 ?_
    refine g_icmp_ge (Y := YX1_hasGroup) (pc := 9) (tgt := 16) dX1_hasGroup_9 rfl (fun c3 => ?_) (fun c3 => ?_)
    · replace hF := if_f c3 hF
      refine g_loc [] rfl ?_
      exact w_X1_hasGroup_16  _ hF
    · replace hF := if_t c3 hF
      refine g_iconst (Y := YX1_hasGroup) (pc := 12) dX1_hasGroup_12 kI_1 ?_
      refine g_goto (Y := YX1_hasGroup) (pc := 13) (tgt := 17) dX1_hasGroup_13 rfl ?_
      refine g_loc [] rfl ?_
      exact w_X1_hasGroup_17  _ _ hF
def f_X1_hasGroup (x1 : Int32) (M : Mem) : Option (Int32 × Mem) := f_X1_hasGroup_0 x1 M
theorem r_X1_hasGroup {x1 R : Int32} {M M' : Mem}  (hF : f_X1_hasGroup x1 M = some (R, M')) : RunS l D cy ad YX1_hasGroup 0 [.ref 3, .int x1] X M (some (.int R)) M' := Run.of 1 (miX1_hasGroup).1 (Nat.le_of_ble_eq_true rfl) (w_X1_hasGroup_0  _ _ hF)
def f_X1_hasRoom_17  (t0 : Int32) (M : Mem) : Option (Int32 × Mem) :=
  gd (t0 = 0 ∨ t0 = 1) <|
  some (t0, M)
set_option maxRecDepth 100000 in
theorem w_X1_hasRoom_17 {R : Int32} {M' : Mem}  (t0 : Int32) (M : Mem) (hF : f_X1_hasRoom_17 t0 M = some (R, M')) : RunF l D cy ad none YX1_hasRoom 0 0 0 (some (.int R)) (lay X M') 0 0 17 [] [.int t0] (lay X M) := by
  unfold f_X1_hasRoom_17 at hF
  obtain ⟨g2, hF⟩ := gd_some hF
  exact s_zret (Y := YX1_hasRoom) (pc := 17) dX1_hasRoom_17 rfl g2 hF
def f_X1_hasRoom_16  (M : Mem) : Option (Int32 × Mem) :=
  f_X1_hasRoom_17 0 M
set_option maxRecDepth 100000 in
theorem w_X1_hasRoom_16 {R : Int32} {M' : Mem}  (M : Mem) (hF : f_X1_hasRoom_16  M = some (R, M')) : RunF l D cy ad none YX1_hasRoom 0 0 0 (some (.int R)) (lay X M') 0 0 16 [] [] (lay X M) := by
  unfold f_X1_hasRoom_16 at hF
  refine g_iconst (Y := YX1_hasRoom) (pc := 16) dX1_hasRoom_16 kI_0 ?_
  exact w_X1_hasRoom_17  _ _ hF
def f_X1_hasRoom_0  (x1 : Int32) (M : Mem) : Option (Int32 × Mem) :=
  if x1 < 0 then
    f_X1_hasRoom_16 M
  else
    if x1 < (M 3 0) then
      f_X1_hasRoom_17 1 M
    else
      f_X1_hasRoom_16 M
set_option maxRecDepth 100000 in
theorem w_X1_hasRoom_0 {R : Int32} {M' : Mem}  (x1 : Int32) (M : Mem) (hF : f_X1_hasRoom_0 x1 M = some (R, M')) : RunF l D cy ad none YX1_hasRoom 0 0 0 (some (.int R)) (lay X M') 0 0 0 [(0, .ref 3), (1, .int x1)] [] (lay X M) := by
  unfold f_X1_hasRoom_0 at hF
  refine g_iload_n (Y := YX1_hasRoom) (pc := 0) 1 dX1_hasRoom_0 rfl ?_
  refine g_if_lt (Y := YX1_hasRoom) (pc := 1) (tgt := 16) dX1_hasRoom_1 rfl (fun c1 => ?_) (fun c1 => ?_)
  · replace hF := if_t c1 hF
    refine g_loc [] rfl ?_
    exact w_X1_hasRoom_16  _ hF
  · replace hF := if_f c1 hF
    refine g_iload_n (Y := YX1_hasRoom) (pc := 4) 1 dX1_hasRoom_4 rfl ?_
    refine g_aload_n (Y := YX1_hasRoom) (pc := 5) 0 dX1_hasRoom_5 rfl ?_
    refine u_getI (Y := YX1_hasRoom) (pc := 6) dX1_hasRoom_6 fl_X1_9 k_3 ?_
    refine g_icmp_ge (Y := YX1_hasRoom) (pc := 9) (tgt := 16) dX1_hasRoom_9 rfl (fun c3 => ?_) (fun c3 => ?_)
    · replace hF := if_f c3 hF
      refine g_loc [] rfl ?_
      exact w_X1_hasRoom_16  _ hF
    · replace hF := if_t c3 hF
      refine g_iconst (Y := YX1_hasRoom) (pc := 12) dX1_hasRoom_12 kI_1 ?_
      refine g_goto (Y := YX1_hasRoom) (pc := 13) (tgt := 17) dX1_hasRoom_13 rfl ?_
      refine g_loc [] rfl ?_
      exact w_X1_hasRoom_17  _ _ hF
def f_X1_hasRoom (x1 : Int32) (M : Mem) : Option (Int32 × Mem) := f_X1_hasRoom_0 x1 M
theorem r_X1_hasRoom {x1 R : Int32} {M M' : Mem}  (hF : f_X1_hasRoom x1 M = some (R, M')) : RunS l D cy ad YX1_hasRoom 0 [.ref 3, .int x1] X M (some (.int R)) M' := Run.of 1 (miX1_hasRoom).1 (Nat.le_of_ble_eq_true rfl) (w_X1_hasRoom_0  _ _ hF)
def f_X1_isCorridor_17  (t0 : Int32) (M : Mem) : Option (Int32 × Mem) :=
  gd (t0 = 0 ∨ t0 = 1) <|
  some (t0, M)
set_option maxRecDepth 100000 in
theorem w_X1_isCorridor_17 {R : Int32} {M' : Mem}  (t0 : Int32) (M : Mem) (hF : f_X1_isCorridor_17 t0 M = some (R, M')) : RunF l D cy ad none YX1_isCorridor 0 0 0 (some (.int R)) (lay X M') 0 0 17 [] [.int t0] (lay X M) := by
  unfold f_X1_isCorridor_17 at hF
  obtain ⟨g2, hF⟩ := gd_some hF
  exact s_zret (Y := YX1_isCorridor) (pc := 17) dX1_isCorridor_17 rfl g2 hF
def f_X1_isCorridor_0  (x1 : Int32) (M : Mem) : Option (Int32 × Mem) :=
  if (((M 3 1) >>> (x1 &&& 31)) &&& 1) = 1 then
    f_X1_isCorridor_17 1 M
  else
    f_X1_isCorridor_17 0 M
set_option maxRecDepth 100000 in
theorem w_X1_isCorridor_0 {R : Int32} {M' : Mem}  (x1 : Int32) (M : Mem) (hF : f_X1_isCorridor_0 x1 M = some (R, M')) : RunF l D cy ad none YX1_isCorridor 0 0 0 (some (.int R)) (lay X M') 0 0 0 [(0, .ref 3), (1, .int x1)] [] (lay X M) := by
  unfold f_X1_isCorridor_0 at hF
  refine g_aload_n (Y := YX1_isCorridor) (pc := 0) 0 dX1_isCorridor_0 rfl ?_
  refine u_getI (Y := YX1_isCorridor) (pc := 1) dX1_isCorridor_1 fl_X1_15 k_3 ?_
  refine g_iload_n (Y := YX1_isCorridor) (pc := 4) 1 dX1_isCorridor_4 rfl ?_
  refine g_ishr (Y := YX1_isCorridor) (pc := 5) dX1_isCorridor_5 ?_
  refine g_iconst (Y := YX1_isCorridor) (pc := 6) dX1_isCorridor_6 kI_1 ?_
  refine g_iand (Y := YX1_isCorridor) (pc := 7) dX1_isCorridor_7 ?_
  refine g_iconst (Y := YX1_isCorridor) (pc := 8) dX1_isCorridor_8 kI_1 ?_
  refine g_icmp_ne (Y := YX1_isCorridor) (pc := 9) (tgt := 16) dX1_isCorridor_9 rfl (fun c1 => ?_) (fun c1 => ?_)
  · replace hF := if_f c1 hF
    refine g_iconst (Y := YX1_isCorridor) (pc := 16) dX1_isCorridor_16 kI_0 ?_
    refine g_loc [] rfl ?_
    exact w_X1_isCorridor_17  _ _ hF
  · replace hF := if_t c1 hF
    refine g_iconst (Y := YX1_isCorridor) (pc := 12) dX1_isCorridor_12 kI_1 ?_
    refine g_goto (Y := YX1_isCorridor) (pc := 13) (tgt := 17) dX1_isCorridor_13 rfl ?_
    refine g_loc [] rfl ?_
    exact w_X1_isCorridor_17  _ _ hF
def f_X1_isCorridor (x1 : Int32) (M : Mem) : Option (Int32 × Mem) := f_X1_isCorridor_0 x1 M
theorem r_X1_isCorridor {x1 R : Int32} {M M' : Mem}  (hF : f_X1_isCorridor x1 M = some (R, M')) : RunS l D cy ad YX1_isCorridor 0 [.ref 3, .int x1] X M (some (.int R)) M' := Run.of 1 (miX1_isCorridor).1 (Nat.le_of_ble_eq_true rfl) (w_X1_isCorridor_0  _ _ hF)
def f_X7_bitsIn_26 (K4 : Int32 → Int32 → Int32 → Mem → Option (Int32 × Mem)) (s : Nat) (x1 : Int32) (x2 : Int32) (x3 : Int32) (M : Mem) : Option (Int32 × Mem) :=
  vl (x3 + 1) fun v4 =>
  K4 x1 x2 v4 M
set_option maxRecDepth 100000 in
theorem w_X7_bitsIn_26 {R : Int32} {M' : Mem} {s : Nat} {K4 : Int32 → Int32 → Int32 → Mem → Option (Int32 × Mem)} (hs : isSt s) (hK4 : ∀ (x1 x2 x3 : Int32) (M : Mem), K4 x1 x2 x3 M = some (R, M') → RunF l D cy ad none YX7_bitsIn 0 0 0 (some (.int R)) (lay X M') 0 0 4 [(0, .ref s), (1, .int x1), (2, .int x2), (3, .int x3)] [] (lay X M)) (x1 x2 x3 : Int32) (M : Mem) (hF : f_X7_bitsIn_26 K4 s x1 x2 x3 M = some (R, M')) : RunF l D cy ad none YX7_bitsIn 0 0 0 (some (.int R)) (lay X M') 0 0 26 [(0, .ref s), (1, .int x1), (2, .int x2), (3, .int x3)] [] (lay X M) := by
  unfold f_X7_bitsIn_26 at hF
  refine s_iinc (Y := YX7_bitsIn) (pc := 26) (j := 3) (L' := fun y => [(3, .int y), (0, .ref s), (1, .int x1), (2, .int x2)]) dX7_bitsIn_26 kI_1 rfl (Nat.le_of_ble_eq_true rfl) (fun _ => rfl) (fun v4 e => ?_)
  replace hF := vl_to e hF; clear e
  refine g_goto (Y := YX7_bitsIn) (pc := 29) (tgt := 4) dX7_bitsIn_29 rfl ?_
  refine g_loc [1, 2, 3, 0] rfl ?_
  exact hK4 _ _ _ _ hF
def f_X7_bitsIn_4 (s : Nat) : Nat → Int32 → Int32 → Int32 → Mem → Option (Int32 × Mem)
  | 0, _, _, _, _ => none
  | n + 1, x1, x2, x3, M =>
    if x3 < 6 then
      gd (0 ≤ x3 ∧ x3.toNatClampNeg < 6) <|
      if (M (s + 1) x3.toNatClampNeg) = x1 then
        vl ((x2 ||| (1 <<< (x3 &&& 31)))) fun v5 =>
        f_X7_bitsIn_26 (f_X7_bitsIn_4 s n) s x1 v5 x3 M
      else
        f_X7_bitsIn_26 (f_X7_bitsIn_4 s n) s x1 x2 x3 M
    else
      some (x2, M)
set_option maxRecDepth 100000 in
theorem w_X7_bitsIn_4 {R : Int32} {M' : Mem} {s : Nat} (hs : isSt s) : ∀ (n : Nat) (x1 x2 x3 : Int32) (M : Mem), f_X7_bitsIn_4 s n x1 x2 x3 M = some (R, M') → RunF l D cy ad none YX7_bitsIn 0 0 0 (some (.int R)) (lay X M') 0 0 4 [(0, .ref s), (1, .int x1), (2, .int x2), (3, .int x3)] [] (lay X M) := by
  intro n
  induction n with
  | zero => intro x1 x2 x3 M hF; exact absurd hF (by unfold f_X7_bitsIn_4; exact fun h => nomatch h)
  | succ n ih =>
    intro x1 x2 x3 M hF
    unfold f_X7_bitsIn_4 at hF
    refine g_iload_n (Y := YX7_bitsIn) (pc := 4) 3 dX7_bitsIn_4 rfl ?_
    refine g_bipush (Y := YX7_bitsIn) (pc := 5) dX7_bitsIn_5 kB_6 ?_
    refine g_icmp_ge (Y := YX7_bitsIn) (pc := 7) (tgt := 32) dX7_bitsIn_7 rfl (fun c1 => ?_) (fun c1 => ?_)
    · replace hF := if_f c1 hF
      refine g_iload_n (Y := YX7_bitsIn) (pc := 32) 2 dX7_bitsIn_32 rfl ?_
      exact s_iret (Y := YX7_bitsIn) (pc := 33) dX7_bitsIn_33 rfl hF
    · replace hF := if_t c1 hF
      refine g_aload_n (Y := YX7_bitsIn) (pc := 10) 0 dX7_bitsIn_10 rfl ?_
      refine u_getR (Y := YX7_bitsIn) (pc := 11) (j := (s + 1)) dX7_bitsIn_11 fl_X7_9 (st_k hs) (st_r4 hs) ?_
      refine g_iload_n (Y := YX7_bitsIn) (pc := 14) 3 dX7_bitsIn_14 rfl ?_
      obtain ⟨g2, hF⟩ := gd_some hF
      refine s_iald (Y := YX7_bitsIn) (pc := 15) dX7_bitsIn_15 (st_k1 hs) (st_n1 hs) g2 ?_
      refine g_iload_n (Y := YX7_bitsIn) (pc := 16) 1 dX7_bitsIn_16 rfl ?_
      refine g_icmp_ne (Y := YX7_bitsIn) (pc := 17) (tgt := 26) dX7_bitsIn_17 rfl (fun c3 => ?_) (fun c3 => ?_)
      · replace hF := if_f c3 hF
        exact w_X7_bitsIn_26 hs ih _ _ _ _ hF
      · replace hF := if_t c3 hF
        refine g_iload_n (Y := YX7_bitsIn) (pc := 20) 2 dX7_bitsIn_20 rfl ?_
        refine g_iconst (Y := YX7_bitsIn) (pc := 21) dX7_bitsIn_21 kI_1 ?_
        refine g_iload_n (Y := YX7_bitsIn) (pc := 22) 3 dX7_bitsIn_22 rfl ?_
        refine g_ishl (Y := YX7_bitsIn) (pc := 23) dX7_bitsIn_23 ?_
        refine g_ior (Y := YX7_bitsIn) (pc := 24) dX7_bitsIn_24 ?_
        refine g_nm (fun v5 e => ?_)
        replace hF := vl_to e hF; clear e
        refine g_istore_n (Y := YX7_bitsIn) (pc := 25) (L' := [(2, .int v5), (0, .ref s), (1, .int x1), (3, .int x3)]) dX7_bitsIn_25 (Nat.le_of_ble_eq_true rfl) rfl ?_
        refine g_loc [1, 2, 0, 3] rfl ?_
        exact w_X7_bitsIn_26 hs ih _ _ _ _ hF
def f_X7_bitsIn_0 (s : Nat) (x1 : Int32) (M : Mem) : Option (Int32 × Mem) :=
  f_X7_bitsIn_4 s FU x1 0 0 M
set_option maxRecDepth 100000 in
theorem w_X7_bitsIn_0 {R : Int32} {M' : Mem} {s : Nat} (hs : isSt s) (x1 : Int32) (M : Mem) (hF : f_X7_bitsIn_0 s x1 M = some (R, M')) : RunF l D cy ad none YX7_bitsIn 0 0 0 (some (.int R)) (lay X M') 0 0 0 [(0, .ref s), (1, .int x1)] [] (lay X M) := by
  unfold f_X7_bitsIn_0 at hF
  refine g_iconst (Y := YX7_bitsIn) (pc := 0) dX7_bitsIn_0 kI_0 ?_
  refine g_istore_n (Y := YX7_bitsIn) (pc := 1) (L' := [(2, .int 0), (0, .ref s), (1, .int x1)]) dX7_bitsIn_1 (Nat.le_of_ble_eq_true rfl) rfl ?_
  refine g_iconst (Y := YX7_bitsIn) (pc := 2) dX7_bitsIn_2 kI_0 ?_
  refine g_istore_n (Y := YX7_bitsIn) (pc := 3) (L' := [(3, .int 0), (2, .int 0), (0, .ref s), (1, .int x1)]) dX7_bitsIn_3 (Nat.le_of_ble_eq_true rfl) rfl ?_
  refine g_loc [2, 3, 1, 0] rfl ?_
  exact w_X7_bitsIn_4 hs _ _ _ _ _ hF
def f_X7_bitsIn (s : Nat) (x1 : Int32) (M : Mem) : Option (Int32 × Mem) := f_X7_bitsIn_0 s x1 M
theorem r_X7_bitsIn {s : Nat} {x1 R : Int32} {M M' : Mem} (hs : isSt s) (hF : f_X7_bitsIn s x1 M = some (R, M')) : RunS l D cy ad YX7_bitsIn 0 [.ref s, .int x1] X M (some (.int R)) M' := Run.of 1 (miX7_bitsIn).1 (Nat.le_of_ble_eq_true rfl) (w_X7_bitsIn_0 hs _ _ hF)
def f_X10_has_14  (t0 : Int32) (M : Mem) : Option (Int32 × Mem) :=
  gd (t0 = 0 ∨ t0 = 1) <|
  some (t0, M)
set_option maxRecDepth 100000 in
theorem w_X10_has_14 {R : Int32} {M' : Mem}  (t0 : Int32) (M : Mem) (hF : f_X10_has_14 t0 M = some (R, M')) : RunF l D cy ad none YX10_has 0 0 0 (some (.int R)) (lay X M') 0 0 14 [] [.int t0] (lay X M) := by
  unfold f_X10_has_14 at hF
  obtain ⟨g2, hF⟩ := gd_some hF
  exact s_zret (Y := YX10_has) (pc := 14) dX10_has_14 rfl g2 hF
def f_X10_has_0  (x0 : Int32) (x1 : Int32) (M : Mem) : Option (Int32 × Mem) :=
  if ((x0 >>> (x1 &&& 31)) &&& 1) = 1 then
    f_X10_has_14 1 M
  else
    f_X10_has_14 0 M
set_option maxRecDepth 100000 in
theorem w_X10_has_0 {R : Int32} {M' : Mem}  (x0 x1 : Int32) (M : Mem) (hF : f_X10_has_0 x0 x1 M = some (R, M')) : RunF l D cy ad none YX10_has 0 0 0 (some (.int R)) (lay X M') 0 0 0 [(0, .int x0), (1, .int x1)] [] (lay X M) := by
  unfold f_X10_has_0 at hF
  refine g_iload_n (Y := YX10_has) (pc := 0) 0 dX10_has_0 rfl ?_
  refine g_iload_n (Y := YX10_has) (pc := 1) 1 dX10_has_1 rfl ?_
  refine g_ishr (Y := YX10_has) (pc := 2) dX10_has_2 ?_
  refine g_iconst (Y := YX10_has) (pc := 3) dX10_has_3 kI_1 ?_
  refine g_iand (Y := YX10_has) (pc := 4) dX10_has_4 ?_
  refine g_iconst (Y := YX10_has) (pc := 5) dX10_has_5 kI_1 ?_
  refine g_icmp_ne (Y := YX10_has) (pc := 6) (tgt := 13) dX10_has_6 rfl (fun c1 => ?_) (fun c1 => ?_)
  · replace hF := if_f c1 hF
    refine g_iconst (Y := YX10_has) (pc := 13) dX10_has_13 kI_0 ?_
    refine g_loc [] rfl ?_
    exact w_X10_has_14  _ _ hF
  · replace hF := if_t c1 hF
    refine g_iconst (Y := YX10_has) (pc := 9) dX10_has_9 kI_1 ?_
    refine g_goto (Y := YX10_has) (pc := 10) (tgt := 14) dX10_has_10 rfl ?_
    refine g_loc [] rfl ?_
    exact w_X10_has_14  _ _ hF
def f_X10_has (x0 : Int32) (x1 : Int32) (M : Mem) : Option (Int32 × Mem) := f_X10_has_0 x0 x1 M
theorem r_X10_has {x0 x1 R : Int32} {M M' : Mem}  (hF : f_X10_has x0 x1 M = some (R, M')) : RunS l D cy ad YX10_has 0 [.int x0, .int x1] X M (some (.int R)) M' := Run.of 2 (msX10_has).1 (Nat.le_of_ble_eq_true rfl) (w_X10_has_0  _ _ _ hF)
def f_X1_togetherIn_35 (K5 : Int32 → Int32 → Int32 → Int32 → Mem → Option (Int32 × Mem)) (x1 : Int32) (x2 : Int32) (x3 : Int32) (x4 : Int32) (M : Mem) : Option (Int32 × Mem) :=
  vl (x4 + 1) fun v6 =>
  K5 x1 x2 x3 v6 M
set_option maxRecDepth 100000 in
theorem w_X1_togetherIn_35 {R : Int32} {M' : Mem} {K5 : Int32 → Int32 → Int32 → Int32 → Mem → Option (Int32 × Mem)} (hK5 : ∀ (x1 x2 x3 x4 : Int32) (M : Mem), K5 x1 x2 x3 x4 M = some (R, M') → RunF l D cy ad none YX1_togetherIn 1 0 0 (some (.int R)) (lay X M') 0 0 5 [(0, .ref 3), (1, .int x1), (2, .int x2), (3, .int x3), (4, .int x4)] [] (lay X M)) (x1 x2 x3 x4 : Int32) (M : Mem) (hF : f_X1_togetherIn_35 K5 x1 x2 x3 x4 M = some (R, M')) : RunF l D cy ad none YX1_togetherIn 1 0 0 (some (.int R)) (lay X M') 0 0 35 [(0, .ref 3), (1, .int x1), (2, .int x2), (3, .int x3), (4, .int x4)] [] (lay X M) := by
  unfold f_X1_togetherIn_35 at hF
  refine s_iinc (Y := YX1_togetherIn) (pc := 35) (j := 4) (L' := fun y => [(4, .int y), (0, .ref 3), (1, .int x1), (2, .int x2), (3, .int x3)]) dX1_togetherIn_35 kI_1 rfl (Nat.le_of_ble_eq_true rfl) (fun _ => rfl) (fun v6 e => ?_)
  replace hF := vl_to e hF; clear e
  refine g_goto (Y := YX1_togetherIn) (pc := 38) (tgt := 5) dX1_togetherIn_38 rfl ?_
  refine g_loc [1, 2, 3, 4, 0] rfl ?_
  exact hK5 _ _ _ _ _ hF
def f_X1_togetherIn_5  : Nat → Int32 → Int32 → Int32 → Int32 → Mem → Option (Int32 × Mem)
  | 0, _, _, _, _, _ => none
  | n + 1, x1, x2, x3, x4, M =>
    if x4 < (M 3 2) then
      bd (f_X10_has x2 x4 M) fun r2 M3 =>
      if r2 = 0 then
        f_X1_togetherIn_35 (f_X1_togetherIn_5 n) x1 x2 x3 x4 M3
      else
        gd (0 ≤ x4 ∧ x4.toNatClampNeg < 6) <|
        gd (0 ≤ x1 ∧ x1.toNatClampNeg < 6) <|
        vl ((M3 (17 + x4.toNatClampNeg) x1.toNatClampNeg)) fun v9 =>
        vl ((x3 + v9)) fun v10 =>
        f_X1_togetherIn_35 (f_X1_togetherIn_5 n) x1 x2 v10 x4 M3
    else
      some (x3, M)
set_option maxRecDepth 100000 in
theorem w_X1_togetherIn_5 {R : Int32} {M' : Mem}  : ∀ (n : Nat) (x1 x2 x3 x4 : Int32) (M : Mem), f_X1_togetherIn_5 n x1 x2 x3 x4 M = some (R, M') → RunF l D cy ad none YX1_togetherIn 1 0 0 (some (.int R)) (lay X M') 0 0 5 [(0, .ref 3), (1, .int x1), (2, .int x2), (3, .int x3), (4, .int x4)] [] (lay X M) := by
  intro n
  induction n with
  | zero => intro x1 x2 x3 x4 M hF; exact absurd hF (by unfold f_X1_togetherIn_5; exact fun h => nomatch h)
  | succ n ih =>
    intro x1 x2 x3 x4 M hF
    unfold f_X1_togetherIn_5 at hF
    refine g_iload (Y := YX1_togetherIn) (pc := 5) 4 dX1_togetherIn_5 rfl ?_
    refine g_aload_n (Y := YX1_togetherIn) (pc := 7) 0 dX1_togetherIn_7 rfl ?_
    refine u_getI (Y := YX1_togetherIn) (pc := 8) dX1_togetherIn_8 fl_X1_18 k_3 ?_
    refine g_icmp_ge (Y := YX1_togetherIn) (pc := 11) (tgt := 41) dX1_togetherIn_11 rfl (fun c1 => ?_) (fun c1 => ?_)
    · replace hF := if_f c1 hF
      refine g_iload_n (Y := YX1_togetherIn) (pc := 41) 3 dX1_togetherIn_41 rfl ?_
      exact s_iret (Y := YX1_togetherIn) (pc := 42) dX1_togetherIn_42 rfl hF
    · replace hF := if_t c1 hF
      refine g_iload_n (Y := YX1_togetherIn) (pc := 14) 2 dX1_togetherIn_14 rfl ?_
      refine g_iload (Y := YX1_togetherIn) (pc := 15) 4 dX1_togetherIn_15 rfl ?_
      obtain ⟨r2, M3, e4, hF⟩ := bd_some hF
      refine s_callNi (Y := YX1_togetherIn) (pc := 17) (as := [.int x2, .int x4]) (st := []) (r_X10_has  e4) msX10_has nw_X1 dX1_togetherIn_17 rfl (Nat.le_of_ble_eq_true rfl) (Nat.le_of_ble_eq_true rfl) rfl ?_
      clear e4
      refine g_if_eq (Y := YX1_togetherIn) (pc := 20) (tgt := 35) dX1_togetherIn_20 rfl (fun c5 => ?_) (fun c5 => ?_)
      · replace hF := if_t c5 hF
        exact w_X1_togetherIn_35 ih _ _ _ _ _ hF
      · replace hF := if_f c5 hF
        refine g_iload_n (Y := YX1_togetherIn) (pc := 23) 3 dX1_togetherIn_23 rfl ?_
        refine g_aload_n (Y := YX1_togetherIn) (pc := 24) 0 dX1_togetherIn_24 rfl ?_
        refine u_getR (Y := YX1_togetherIn) (pc := 25) (j := 16) dX1_togetherIn_25 fl_X1_42 k_3 rf_3_9 ?_
        refine g_iload (Y := YX1_togetherIn) (pc := 28) 4 dX1_togetherIn_28 rfl ?_
        obtain ⟨g7, hF⟩ := gd_some hF
        refine s_aaldA (Y := YX1_togetherIn) (pc := 30) dX1_togetherIn_30 k_16 n_16 g7 (stay_r g7.2) ?_
        refine g_iload_n (Y := YX1_togetherIn) (pc := 31) 1 dX1_togetherIn_31 rfl ?_
        obtain ⟨g8, hF⟩ := gd_some hF
        refine s_iald (Y := YX1_togetherIn) (pc := 32) dX1_togetherIn_32 (stay_all _ g7.2).2.1 (stay_all _ g7.2).2.2 g8 ?_
        refine g_nm (fun v9 e => ?_)
        replace hF := vl_to e hF; clear e
        refine g_iadd (Y := YX1_togetherIn) (pc := 33) dX1_togetherIn_33 ?_
        refine g_nm (fun v10 e => ?_)
        replace hF := vl_to e hF; clear e
        refine g_istore_n (Y := YX1_togetherIn) (pc := 34) (L' := [(3, .int v10), (0, .ref 3), (1, .int x1), (2, .int x2), (4, .int x4)]) dX1_togetherIn_34 (Nat.le_of_ble_eq_true rfl) rfl ?_
        refine g_loc [1, 2, 3, 0, 4] rfl ?_
        exact w_X1_togetherIn_35 ih _ _ _ _ _ hF
def f_X1_togetherIn_0  (x1 : Int32) (x2 : Int32) (M : Mem) : Option (Int32 × Mem) :=
  f_X1_togetherIn_5 FU x1 x2 0 0 M
set_option maxRecDepth 100000 in
theorem w_X1_togetherIn_0 {R : Int32} {M' : Mem}  (x1 x2 : Int32) (M : Mem) (hF : f_X1_togetherIn_0 x1 x2 M = some (R, M')) : RunF l D cy ad none YX1_togetherIn 1 0 0 (some (.int R)) (lay X M') 0 0 0 [(0, .ref 3), (1, .int x1), (2, .int x2)] [] (lay X M) := by
  unfold f_X1_togetherIn_0 at hF
  refine g_iconst (Y := YX1_togetherIn) (pc := 0) dX1_togetherIn_0 kI_0 ?_
  refine g_istore_n (Y := YX1_togetherIn) (pc := 1) (L' := [(3, .int 0), (0, .ref 3), (1, .int x1), (2, .int x2)]) dX1_togetherIn_1 (Nat.le_of_ble_eq_true rfl) rfl ?_
  refine g_iconst (Y := YX1_togetherIn) (pc := 2) dX1_togetherIn_2 kI_0 ?_
  refine g_istore (Y := YX1_togetherIn) (pc := 3) (L' := [(4, .int 0), (3, .int 0), (0, .ref 3), (1, .int x1), (2, .int x2)]) dX1_togetherIn_3 (Nat.le_of_ble_eq_true rfl) rfl ?_
  refine g_loc [2, 3, 4, 1, 0] rfl ?_
  exact w_X1_togetherIn_5  _ _ _ _ _ _ hF
def f_X1_togetherIn (x1 : Int32) (x2 : Int32) (M : Mem) : Option (Int32 × Mem) := f_X1_togetherIn_0 x1 x2 M
theorem r_X1_togetherIn {x1 x2 R : Int32} {M M' : Mem}  (hF : f_X1_togetherIn x1 x2 M = some (R, M')) : RunS l D cy ad YX1_togetherIn 1 [.ref 3, .int x1, .int x2] X M (some (.int R)) M' := Run.of 2 (miX1_togetherIn).1 (Nat.le_of_ble_eq_true rfl) (w_X1_togetherIn_0  _ _ _ hF)
def f_X1_everybody_0  (M : Mem) : Option (Int32 × Mem) :=
  some (((1 <<< ((M 3 2) &&& 31)) - 1), M)
set_option maxRecDepth 100000 in
theorem w_X1_everybody_0 {R : Int32} {M' : Mem}  (M : Mem) (hF : f_X1_everybody_0  M = some (R, M')) : RunF l D cy ad none YX1_everybody 0 0 0 (some (.int R)) (lay X M') 0 0 0 [(0, .ref 3)] [] (lay X M) := by
  unfold f_X1_everybody_0 at hF
  refine g_iconst (Y := YX1_everybody) (pc := 0) dX1_everybody_0 kI_1 ?_
  refine g_aload_n (Y := YX1_everybody) (pc := 1) 0 dX1_everybody_1 rfl ?_
  refine u_getI (Y := YX1_everybody) (pc := 2) dX1_everybody_2 fl_X1_18 k_3 ?_
  refine g_ishl (Y := YX1_everybody) (pc := 5) dX1_everybody_5 ?_
  refine g_iconst (Y := YX1_everybody) (pc := 6) dX1_everybody_6 kI_1 ?_
  refine g_isub (Y := YX1_everybody) (pc := 7) dX1_everybody_7 ?_
  exact s_iret (Y := YX1_everybody) (pc := 8) dX1_everybody_8 rfl hF
def f_X1_everybody (M : Mem) : Option (Int32 × Mem) := f_X1_everybody_0 M
theorem r_X1_everybody {R : Int32} {M M' : Mem}  (hF : f_X1_everybody  M = some (R, M')) : RunS l D cy ad YX1_everybody 0 [.ref 3] X M (some (.int R)) M' := Run.of 0 (miX1_everybody).1 (Nat.le_of_ble_eq_true rfl) (w_X1_everybody_0  _ hF)
def f_X8_add_18  (M : Mem) : Option (Int32 × Mem) :=
  some ((-1), M)
set_option maxRecDepth 100000 in
theorem w_X8_add_18 {R : Int32} {M' : Mem}  (M : Mem) (hF : f_X8_add_18  M = some (R, M')) : RunF l D cy ad none YX8_add 0 0 0 (some (.int R)) (lay X M') 0 0 18 [] [] (lay X M) := by
  unfold f_X8_add_18 at hF
  refine g_iconst (Y := YX8_add) (pc := 18) dX8_add_18 kI_m1 ?_
  exact s_iret (Y := YX8_add) (pc := 19) dX8_add_19 rfl hF
def f_X8_add_23  : Nat → Int32 → Int32 → Mem → Option (Int32 × Mem)
  | 0, _, _, _ => none
  | n + 1, x1, x2, M =>
    if x2 < 0 then
      some ((M 1 1), M)
    else
      vl (((x1.toUInt32 >>> (x2.toUInt32 &&& Int32.toUInt32 31)).toInt32)) fun v4 =>
      gd (0 ≤ (M 1 1) ∧ (M 1 1).toNatClampNeg < 80) <|
      ml (up M 2 (M 1 1).toNatClampNeg (vp_nar .char (((v4 &&& 255).toUInt32 % 65536).toInt32))) fun M6 =>
      ml (up M6 1 1 ((M6 1 1) + 1)) fun M7 =>
      vl (x2 + (-8)) fun v8 =>
      f_X8_add_23 n x1 v8 M7
set_option maxRecDepth 100000 in
theorem w_X8_add_23 {R : Int32} {M' : Mem}  : ∀ (n : Nat) (x1 x2 : Int32) (M : Mem), f_X8_add_23 n x1 x2 M = some (R, M') → RunF l D cy ad none YX8_add 0 0 0 (some (.int R)) (lay X M') 0 0 23 [(0, .ref 1), (1, .int x1), (2, .int x2)] [] (lay X M) := by
  intro n
  induction n with
  | zero => intro x1 x2 M hF; exact absurd hF (by unfold f_X8_add_23; exact fun h => nomatch h)
  | succ n ih =>
    intro x1 x2 M hF
    unfold f_X8_add_23 at hF
    refine g_iload_n (Y := YX8_add) (pc := 23) 2 dX8_add_23 rfl ?_
    refine g_if_lt (Y := YX8_add) (pc := 24) (tgt := 60) dX8_add_24 rfl (fun c3 => ?_) (fun c3 => ?_)
    · replace hF := if_t c3 hF
      refine g_aload_n (Y := YX8_add) (pc := 60) 0 dX8_add_60 rfl ?_
      refine u_getI (Y := YX8_add) (pc := 61) dX8_add_61 fl_X8_15 k_1 ?_
      exact s_iret (Y := YX8_add) (pc := 64) dX8_add_64 rfl hF
    · replace hF := if_f c3 hF
      refine g_aload_n (Y := YX8_add) (pc := 27) 0 dX8_add_27 rfl ?_
      refine u_getR (Y := YX8_add) (pc := 28) (j := 2) dX8_add_28 fl_X8_9 k_1 rf_1_0 ?_
      refine g_aload_n (Y := YX8_add) (pc := 31) 0 dX8_add_31 rfl ?_
      refine u_getI (Y := YX8_add) (pc := 32) dX8_add_32 fl_X8_15 k_1 ?_
      refine g_iload_n (Y := YX8_add) (pc := 35) 1 dX8_add_35 rfl ?_
      refine g_iload_n (Y := YX8_add) (pc := 36) 2 dX8_add_36 rfl ?_
      refine g_iushr (Y := YX8_add) (pc := 37) dX8_add_37 ?_
      refine g_nm (fun v4 e => ?_)
      replace hF := vl_to e hF; clear e
      refine g_sipush (Y := YX8_add) (pc := 38) dX8_add_38 kS_255 ?_
      refine g_iand (Y := YX8_add) (pc := 41) dX8_add_41 ?_
      refine g_i2c (Y := YX8_add) (pc := 42) dX8_add_42 ?_
      obtain ⟨g5, hF⟩ := gd_some hF
      refine s_cast (Y := YX8_add) (pc := 43) dX8_add_43 k_2 n_2 g5 ?_
      refine g_nmM (fun M6 e => ?_)
      replace hF := ml_to e hF; clear e
      refine g_aload_n (Y := YX8_add) (pc := 44) 0 dX8_add_44 rfl ?_
      refine g_dup (Y := YX8_add) (pc := 45) dX8_add_45 rfl ?_
      refine u_getI (Y := YX8_add) (pc := 46) dX8_add_46 fl_X8_15 k_1 ?_
      refine g_iconst (Y := YX8_add) (pc := 49) dX8_add_49 kI_1 ?_
      refine g_iadd (Y := YX8_add) (pc := 50) dX8_add_50 ?_
      refine u_putI (Y := YX8_add) (pc := 51) dX8_add_51 fl_X8_15  k_1 ?_
      refine g_nmM (fun M7 e => ?_)
      replace hF := ml_to e hF; clear e
      refine s_iinc (Y := YX8_add) (pc := 54) (j := 2) (L' := fun y => [(2, .int y), (0, .ref 1), (1, .int x1)]) dX8_add_54 kI_m8 rfl (Nat.le_of_ble_eq_true rfl) (fun _ => rfl) (fun v8 e => ?_)
      replace hF := vl_to e hF; clear e
      refine g_goto (Y := YX8_add) (pc := 57) (tgt := 23) dX8_add_57 rfl ?_
      refine g_loc [1, 2, 0] rfl ?_
      exact ih _ _ _ hF
def f_X8_add_0  (x1 : Int32) (M : Mem) : Option (Int32 × Mem) :=
  if (M 1 1) < 0 then
    f_X8_add_18 M
  else
    if 80 < ((M 1 1) + 4) then
      f_X8_add_18 M
    else
      f_X8_add_23 FU x1 24 M
set_option maxRecDepth 100000 in
theorem w_X8_add_0 {R : Int32} {M' : Mem}  (x1 : Int32) (M : Mem) (hF : f_X8_add_0 x1 M = some (R, M')) : RunF l D cy ad none YX8_add 0 0 0 (some (.int R)) (lay X M') 0 0 0 [(0, .ref 1), (1, .int x1)] [] (lay X M) := by
  unfold f_X8_add_0 at hF
  refine g_aload_n (Y := YX8_add) (pc := 0) 0 dX8_add_0 rfl ?_
  refine u_getI (Y := YX8_add) (pc := 1) dX8_add_1 fl_X8_15 k_1 ?_
  refine g_if_lt (Y := YX8_add) (pc := 4) (tgt := 18) dX8_add_4 rfl (fun c1 => ?_) (fun c1 => ?_)
  · replace hF := if_t c1 hF
    refine g_loc [] rfl ?_
    exact w_X8_add_18  _ hF
  · replace hF := if_f c1 hF
    refine g_aload_n (Y := YX8_add) (pc := 7) 0 dX8_add_7 rfl ?_
    refine u_getI (Y := YX8_add) (pc := 8) dX8_add_8 fl_X8_15 k_1 ?_
    refine g_iconst (Y := YX8_add) (pc := 11) dX8_add_11 kI_4 ?_
    refine g_iadd (Y := YX8_add) (pc := 12) dX8_add_12 ?_
    refine g_bipush (Y := YX8_add) (pc := 13) dX8_add_13 kB_80 ?_
    refine g_icmp_le (Y := YX8_add) (pc := 15) (tgt := 20) dX8_add_15 rfl (fun c2 => ?_) (fun c2 => ?_)
    · replace hF := if_f c2 hF
      refine g_bipush (Y := YX8_add) (pc := 20) dX8_add_20 kB_24 ?_
      refine g_istore_n (Y := YX8_add) (pc := 22) (L' := [(2, .int 24), (0, .ref 1), (1, .int x1)]) dX8_add_22 (Nat.le_of_ble_eq_true rfl) rfl ?_
      refine g_loc [1, 2, 0] rfl ?_
      exact w_X8_add_23  _ _ _ _ hF
    · replace hF := if_t c2 hF
      refine g_loc [] rfl ?_
      exact w_X8_add_18  _ hF
def f_X8_add (x1 : Int32) (M : Mem) : Option (Int32 × Mem) := f_X8_add_0 x1 M
theorem r_X8_add {x1 R : Int32} {M M' : Mem}  (hF : f_X8_add x1 M = some (R, M')) : RunS l D cy ad YX8_add 0 [.ref 1, .int x1] X M (some (.int R)) M' := Run.of 1 (miX8_add).1 (Nat.le_of_ble_eq_true rfl) (w_X8_add_0  _ _ hF)
def f_X10_sign_0  (x1 : Int32) (M : Mem) : Option (Int32 × Mem) :=
  bd (f_X8_add x1 M) fun r1 M2 =>
  some (r1, M2)
set_option maxRecDepth 100000 in
theorem w_X10_sign_0 {R : Int32} {M' : Mem}  (x1 : Int32) (M : Mem) (hF : f_X10_sign_0 x1 M = some (R, M')) : RunF l D cy ad none YX10_sign 1 0 0 (some (.int R)) (lay X M') 0 0 0 [(0, .ref 0), (1, .int x1)] [] (lay X M) := by
  unfold f_X10_sign_0 at hF
  refine g_aload_n (Y := YX10_sign) (pc := 0) 0 dX10_sign_0 rfl ?_
  refine u_getR (Y := YX10_sign) (pc := 1) (j := 1) dX10_sign_1 fl_X10_10 k_0 rf_0_0 ?_
  refine g_iload_n (Y := YX10_sign) (pc := 4) 1 dX10_sign_4 rfl ?_
  obtain ⟨r1, M2, e3, hF⟩ := bd_some hF
  refine s_callVi (Y := YX10_sign) (pc := 5) (as := [.int x1]) (st := []) (r_X8_add  e3) miX8_add lk_X10_105 dX10_sign_5 k_1 rfl (Nat.le_of_ble_eq_true rfl) (Nat.le_of_ble_eq_true rfl) rfl ?_
  clear e3
  exact s_iret (Y := YX10_sign) (pc := 8) dX10_sign_8 rfl hF
def f_X10_sign (x1 : Int32) (M : Mem) : Option (Int32 × Mem) := f_X10_sign_0 x1 M
theorem r_X10_sign {x1 R : Int32} {M M' : Mem}  (hF : f_X10_sign x1 M = some (R, M')) : RunS l D cy ad YX10_sign 1 [.ref 0, .int x1] X M (some (.int R)) M' := Run.of 1 (miX10_sign).1 (Nat.le_of_ble_eq_true rfl) (w_X10_sign_0  _ _ hF)
def f_X8_cut_12  (M : Mem) : Option (Int32 × Mem) :=
  some (0, M)
set_option maxRecDepth 100000 in
theorem w_X8_cut_12 {R : Int32} {M' : Mem}  (M : Mem) (hF : f_X8_cut_12  M = some (R, M')) : RunF l D cy ad none YX8_cut 0 0 0 (some (.int R)) (lay X M') 0 0 12 [] [] (lay X M) := by
  unfold f_X8_cut_12 at hF
  refine g_iconst (Y := YX8_cut) (pc := 12) dX8_cut_12 kI_0 ?_
  exact s_zret (Y := YX8_cut) (pc := 13) dX8_cut_13 rfl (Or.inl rfl) hF
def f_X8_cut_0  (x1 : Int32) (M : Mem) : Option (Int32 × Mem) :=
  if x1 < 0 then
    f_X8_cut_12 M
  else
    if (M 1 1) < x1 then
      f_X8_cut_12 M
    else
      ml (up M 1 1 x1) fun M3 =>
      some (1, M3)
set_option maxRecDepth 100000 in
theorem w_X8_cut_0 {R : Int32} {M' : Mem}  (x1 : Int32) (M : Mem) (hF : f_X8_cut_0 x1 M = some (R, M')) : RunF l D cy ad none YX8_cut 0 0 0 (some (.int R)) (lay X M') 0 0 0 [(0, .ref 1), (1, .int x1)] [] (lay X M) := by
  unfold f_X8_cut_0 at hF
  refine g_iload_n (Y := YX8_cut) (pc := 0) 1 dX8_cut_0 rfl ?_
  refine g_if_lt (Y := YX8_cut) (pc := 1) (tgt := 12) dX8_cut_1 rfl (fun c1 => ?_) (fun c1 => ?_)
  · replace hF := if_t c1 hF
    refine g_loc [] rfl ?_
    exact w_X8_cut_12  _ hF
  · replace hF := if_f c1 hF
    refine g_iload_n (Y := YX8_cut) (pc := 4) 1 dX8_cut_4 rfl ?_
    refine g_aload_n (Y := YX8_cut) (pc := 5) 0 dX8_cut_5 rfl ?_
    refine u_getI (Y := YX8_cut) (pc := 6) dX8_cut_6 fl_X8_15 k_1 ?_
    refine g_icmp_le (Y := YX8_cut) (pc := 9) (tgt := 14) dX8_cut_9 rfl (fun c2 => ?_) (fun c2 => ?_)
    · replace hF := if_f c2 hF
      refine g_aload_n (Y := YX8_cut) (pc := 14) 0 dX8_cut_14 rfl ?_
      refine g_iload_n (Y := YX8_cut) (pc := 15) 1 dX8_cut_15 rfl ?_
      refine u_putI (Y := YX8_cut) (pc := 16) dX8_cut_16 fl_X8_15  k_1 ?_
      refine g_nmM (fun M3 e => ?_)
      replace hF := ml_to e hF; clear e
      refine g_iconst (Y := YX8_cut) (pc := 19) dX8_cut_19 kI_1 ?_
      exact s_zret (Y := YX8_cut) (pc := 20) dX8_cut_20 rfl (Or.inr rfl) hF
    · replace hF := if_t c2 hF
      refine g_loc [] rfl ?_
      exact w_X8_cut_12  _ hF
def f_X8_cut (x1 : Int32) (M : Mem) : Option (Int32 × Mem) := f_X8_cut_0 x1 M
theorem r_X8_cut {x1 R : Int32} {M M' : Mem}  (hF : f_X8_cut x1 M = some (R, M')) : RunS l D cy ad YX8_cut 0 [.ref 1, .int x1] X M (some (.int R)) M' := Run.of 1 (miX8_cut).1 (Nat.le_of_ble_eq_true rfl) (w_X8_cut_0  _ _ hF)
def f_X10_end_0  (x1 : Int32) (M : Mem) : Option (Int32 × Mem) :=
  bd (f_X8_cut x1 M) fun r1 M2 =>
  gd (r1 = 0 ∨ r1 = 1) <|
  some (r1, M2)
set_option maxRecDepth 100000 in
theorem w_X10_end_0 {R : Int32} {M' : Mem}  (x1 : Int32) (M : Mem) (hF : f_X10_end_0 x1 M = some (R, M')) : RunF l D cy ad none YX10_end 1 0 0 (some (.int R)) (lay X M') 0 0 0 [(0, .ref 0), (1, .int x1)] [] (lay X M) := by
  unfold f_X10_end_0 at hF
  refine g_aload_n (Y := YX10_end) (pc := 0) 0 dX10_end_0 rfl ?_
  refine u_getR (Y := YX10_end) (pc := 1) (j := 1) dX10_end_1 fl_X10_10 k_0 rf_0_0 ?_
  refine g_iload_n (Y := YX10_end) (pc := 4) 1 dX10_end_4 rfl ?_
  obtain ⟨r1, M2, e3, hF⟩ := bd_some hF
  refine s_callVi (Y := YX10_end) (pc := 5) (as := [.int x1]) (st := []) (r_X8_cut  e3) miX8_cut lk_X10_109 dX10_end_5 k_1 rfl (Nat.le_of_ble_eq_true rfl) (Nat.le_of_ble_eq_true rfl) rfl ?_
  clear e3
  obtain ⟨g4, hF⟩ := gd_some hF
  exact s_zret (Y := YX10_end) (pc := 8) dX10_end_8 rfl g4 hF
def f_X10_end (x1 : Int32) (M : Mem) : Option (Int32 × Mem) := f_X10_end_0 x1 M
theorem r_X10_end {x1 R : Int32} {M M' : Mem}  (hF : f_X10_end x1 M = some (R, M')) : RunS l D cy ad YX10_end 1 [.ref 0, .int x1] X M (some (.int R)) M' := Run.of 1 (miX10_end).1 (Nat.le_of_ble_eq_true rfl) (w_X10_end_0  _ _ hF)
def f_X8_at_18  (M : Mem) : Option (Int32 × Mem) :=
  some ((-1), M)
set_option maxRecDepth 100000 in
theorem w_X8_at_18 {R : Int32} {M' : Mem}  (M : Mem) (hF : f_X8_at_18  M = some (R, M')) : RunF l D cy ad none YX8_at 0 0 0 (some (.int R)) (lay X M') 0 0 18 [] [] (lay X M) := by
  unfold f_X8_at_18 at hF
  refine g_iconst (Y := YX8_at) (pc := 18) dX8_at_18 kI_m1 ?_
  exact s_iret (Y := YX8_at) (pc := 19) dX8_at_19 rfl hF
def f_X8_at_39  (t0 : Int32) (M : Mem) : Option (Int32 × Mem) :=
  some (t0, M)
set_option maxRecDepth 100000 in
theorem w_X8_at_39 {R : Int32} {M' : Mem}  (t0 : Int32) (M : Mem) (hF : f_X8_at_39 t0 M = some (R, M')) : RunF l D cy ad none YX8_at 0 0 0 (some (.int R)) (lay X M') 0 0 39 [] [.int t0] (lay X M) := by
  unfold f_X8_at_39 at hF
  exact s_iret (Y := YX8_at) (pc := 39) dX8_at_39 rfl hF
def f_X8_at_0  (x1 : Int32) (M : Mem) : Option (Int32 × Mem) :=
  if x1 < 0 then
    f_X8_at_18 M
  else
    if x1 < (M 1 1) then
      if x1 < 80 then
        if x1 < (M 1 2) then
          gd (0 ≤ x1 ∧ x1.toNatClampNeg < 80) <|
          f_X8_at_39 (M 2 x1.toNatClampNeg) M
        else
          f_X8_at_39 (-2) M
      else
        f_X8_at_18 M
    else
      f_X8_at_18 M
set_option maxRecDepth 100000 in
theorem w_X8_at_0 {R : Int32} {M' : Mem}  (x1 : Int32) (M : Mem) (hF : f_X8_at_0 x1 M = some (R, M')) : RunF l D cy ad none YX8_at 0 0 0 (some (.int R)) (lay X M') 0 0 0 [(0, .ref 1), (1, .int x1)] [] (lay X M) := by
  unfold f_X8_at_0 at hF
  refine g_iload_n (Y := YX8_at) (pc := 0) 1 dX8_at_0 rfl ?_
  refine g_if_lt (Y := YX8_at) (pc := 1) (tgt := 18) dX8_at_1 rfl (fun c1 => ?_) (fun c1 => ?_)
  · replace hF := if_t c1 hF
    refine g_loc [] rfl ?_
    exact w_X8_at_18  _ hF
  · replace hF := if_f c1 hF
    refine g_iload_n (Y := YX8_at) (pc := 4) 1 dX8_at_4 rfl ?_
    refine g_aload_n (Y := YX8_at) (pc := 5) 0 dX8_at_5 rfl ?_
    refine u_getI (Y := YX8_at) (pc := 6) dX8_at_6 fl_X8_15 k_1 ?_
    refine g_icmp_ge (Y := YX8_at) (pc := 9) (tgt := 18) dX8_at_9 rfl (fun c2 => ?_) (fun c2 => ?_)
    · replace hF := if_f c2 hF
      refine g_loc [] rfl ?_
      exact w_X8_at_18  _ hF
    · replace hF := if_t c2 hF
      refine g_iload_n (Y := YX8_at) (pc := 12) 1 dX8_at_12 rfl ?_
      refine g_bipush (Y := YX8_at) (pc := 13) dX8_at_13 kB_80 ?_
      refine g_icmp_lt (Y := YX8_at) (pc := 15) (tgt := 20) dX8_at_15 rfl (fun c3 => ?_) (fun c3 => ?_)
      · replace hF := if_t c3 hF
        refine g_iload_n (Y := YX8_at) (pc := 20) 1 dX8_at_20 rfl ?_
        refine g_aload_n (Y := YX8_at) (pc := 21) 0 dX8_at_21 rfl ?_
        refine u_getI (Y := YX8_at) (pc := 22) dX8_at_22 fl_X8_19 k_1 ?_
        refine g_icmp_ge (Y := YX8_at) (pc := 25) (tgt := 37) dX8_at_25 rfl (fun c4 => ?_) (fun c4 => ?_)
        · replace hF := if_f c4 hF
          refine g_bipush (Y := YX8_at) (pc := 37) dX8_at_37 kB_m2 ?_
          refine g_loc [] rfl ?_
          exact w_X8_at_39  _ _ hF
        · replace hF := if_t c4 hF
          refine g_aload_n (Y := YX8_at) (pc := 28) 0 dX8_at_28 rfl ?_
          refine u_getR (Y := YX8_at) (pc := 29) (j := 2) dX8_at_29 fl_X8_9 k_1 rf_1_0 ?_
          refine g_iload_n (Y := YX8_at) (pc := 32) 1 dX8_at_32 rfl ?_
          obtain ⟨g5, hF⟩ := gd_some hF
          refine s_cald (Y := YX8_at) (pc := 33) dX8_at_33 k_2 n_2 g5 ?_
          refine g_goto (Y := YX8_at) (pc := 34) (tgt := 39) dX8_at_34 rfl ?_
          refine g_loc [] rfl ?_
          exact w_X8_at_39  _ _ hF
      · replace hF := if_f c3 hF
        refine g_loc [] rfl ?_
        exact w_X8_at_18  _ hF
def f_X8_at (x1 : Int32) (M : Mem) : Option (Int32 × Mem) := f_X8_at_0 x1 M
theorem r_X8_at {x1 R : Int32} {M M' : Mem}  (hF : f_X8_at x1 M = some (R, M')) : RunS l D cy ad YX8_at 0 [.ref 1, .int x1] X M (some (.int R)) M' := Run.of 1 (miX8_at).1 (Nat.le_of_ble_eq_true rfl) (w_X8_at_0  _ _ hF)
def f_X10_faultOfPalace_72  (t0 : Int32) (M : Mem) : Option (Int32 × Mem) :=
  some (t0, M)
set_option maxRecDepth 100000 in
theorem w_X10_faultOfPalace_72 {R : Int32} {M' : Mem}  (t0 : Int32) (M : Mem) (hF : f_X10_faultOfPalace_72 t0 M = some (R, M')) : RunF l D cy ad none YX10_faultOfPalace 1 0 0 (some (.int R)) (lay X M') 0 0 72 [] [.int t0] (lay X M) := by
  unfold f_X10_faultOfPalace_72 at hF
  exact s_iret (Y := YX10_faultOfPalace) (pc := 72) dX10_faultOfPalace_72 rfl hF
def f_X10_faultOfPalace_49  (x1 : Int32) (M : Mem) : Option (Int32 × Mem) :=
  some (x1, M)
set_option maxRecDepth 100000 in
theorem w_X10_faultOfPalace_49 {R : Int32} {M' : Mem}  (x1 : Int32) (M : Mem) (hF : f_X10_faultOfPalace_49 x1 M = some (R, M')) : RunF l D cy ad none YX10_faultOfPalace 1 0 0 (some (.int R)) (lay X M') 0 0 49 [(1, .int x1)] [] (lay X M) := by
  unfold f_X10_faultOfPalace_49 at hF
  refine g_iload_n (Y := YX10_faultOfPalace) (pc := 49) 0 dX10_faultOfPalace_49 rfl ?_
  exact s_iret (Y := YX10_faultOfPalace) (pc := 50) dX10_faultOfPalace_50 rfl hF
def f_X10_faultOfPalace_51 (K11 : Int32 → Mem → Option (Int32 × Mem)) (x1 : Int32) (M : Mem) : Option (Int32 × Mem) :=
  vl (x1 + 1) fun v9 =>
  K11 v9 M
set_option maxRecDepth 100000 in
theorem w_X10_faultOfPalace_51 {R : Int32} {M' : Mem} {K11 : Int32 → Mem → Option (Int32 × Mem)} (hK11 : ∀ (x1 : Int32) (M : Mem), K11 x1 M = some (R, M') → RunF l D cy ad none YX10_faultOfPalace 1 0 0 (some (.int R)) (lay X M') 0 0 11 [(0, .ref 0), (1, .int x1)] [] (lay X M)) (x1 : Int32) (M : Mem) (hF : f_X10_faultOfPalace_51 K11 x1 M = some (R, M')) : RunF l D cy ad none YX10_faultOfPalace 1 0 0 (some (.int R)) (lay X M') 0 0 51 [(0, .ref 0), (1, .int x1)] [] (lay X M) := by
  unfold f_X10_faultOfPalace_51 at hF
  refine s_iinc (Y := YX10_faultOfPalace) (pc := 51) (j := 1) (L' := fun y => [(1, .int y), (0, .ref 0)]) dX10_faultOfPalace_51 kI_1 rfl (Nat.le_of_ble_eq_true rfl) (fun _ => rfl) (fun v9 e => ?_)
  replace hF := vl_to e hF; clear e
  refine g_goto (Y := YX10_faultOfPalace) (pc := 54) (tgt := 11) dX10_faultOfPalace_54 rfl ?_
  refine g_loc [1, 0] rfl ?_
  exact hK11 _ _ hF
def f_X10_faultOfPalace_11  : Nat → Int32 → Mem → Option (Int32 × Mem)
  | 0, _, _ => none
  | n + 1, x1, M =>
    if x1 < (M 1 1) then
      bd (f_X8_at x1 M) fun r4 M5 =>
      if x1 < 6 then
        if r4 = 114 then
          f_X10_faultOfPalace_51 (f_X10_faultOfPalace_11 n) x1 M5
        else
          if r4 = 99 then
            f_X10_faultOfPalace_51 (f_X10_faultOfPalace_11 n) x1 M5
          else
            f_X10_faultOfPalace_49 x1 M5
      else
        f_X10_faultOfPalace_49 x1 M5
    else
      if (M 1 1) = 0 then
        f_X10_faultOfPalace_72 0 M
      else
        f_X10_faultOfPalace_72 (-1) M
set_option maxRecDepth 100000 in
theorem w_X10_faultOfPalace_11 {R : Int32} {M' : Mem}  : ∀ (n : Nat) (x1 : Int32) (M : Mem), f_X10_faultOfPalace_11 n x1 M = some (R, M') → RunF l D cy ad none YX10_faultOfPalace 1 0 0 (some (.int R)) (lay X M') 0 0 11 [(0, .ref 0), (1, .int x1)] [] (lay X M) := by
  intro n
  induction n with
  | zero => intro x1 M hF; exact absurd hF (by unfold f_X10_faultOfPalace_11; exact fun h => nomatch h)
  | succ n ih =>
    intro x1 M hF
    unfold f_X10_faultOfPalace_11 at hF
    refine g_iload_n (Y := YX10_faultOfPalace) (pc := 11) 1 dX10_faultOfPalace_11 rfl ?_
    refine g_aload_n (Y := YX10_faultOfPalace) (pc := 12) 0 dX10_faultOfPalace_12 rfl ?_
    refine u_getR (Y := YX10_faultOfPalace) (pc := 13) (j := 1) dX10_faultOfPalace_13 fl_X10_10 k_0 rf_0_0 ?_
    refine u_getI (Y := YX10_faultOfPalace) (pc := 16) dX10_faultOfPalace_16 fl_X10_120 k_1 ?_
    refine g_icmp_ge (Y := YX10_faultOfPalace) (pc := 19) (tgt := 57) dX10_faultOfPalace_19 rfl (fun c2 => ?_) (fun c2 => ?_)
    · replace hF := if_f c2 hF
      refine g_aload_n (Y := YX10_faultOfPalace) (pc := 57) 0 dX10_faultOfPalace_57 rfl ?_
      refine u_getR (Y := YX10_faultOfPalace) (pc := 58) (j := 1) dX10_faultOfPalace_58 fl_X10_10 k_0 rf_0_0 ?_
      refine u_getI (Y := YX10_faultOfPalace) (pc := 61) dX10_faultOfPalace_61 fl_X10_120 k_1 ?_
      refine g_if_ne (Y := YX10_faultOfPalace) (pc := 64) (tgt := 71) dX10_faultOfPalace_64 rfl (fun c3 => ?_) (fun c3 => ?_)
      · replace hF := if_f c3 hF
        refine g_iconst (Y := YX10_faultOfPalace) (pc := 71) dX10_faultOfPalace_71 kI_m1 ?_
        refine g_loc [] rfl ?_
        exact w_X10_faultOfPalace_72  _ _ hF
      · replace hF := if_t c3 hF
        refine g_iconst (Y := YX10_faultOfPalace) (pc := 67) dX10_faultOfPalace_67 kI_0 ?_
        refine g_goto (Y := YX10_faultOfPalace) (pc := 68) (tgt := 72) dX10_faultOfPalace_68 rfl ?_
        refine g_loc [] rfl ?_
        exact w_X10_faultOfPalace_72  _ _ hF
    · replace hF := if_t c2 hF
      refine g_aload_n (Y := YX10_faultOfPalace) (pc := 22) 0 dX10_faultOfPalace_22 rfl ?_
      refine u_getR (Y := YX10_faultOfPalace) (pc := 23) (j := 1) dX10_faultOfPalace_23 fl_X10_10 k_0 rf_0_0 ?_
      refine g_iload_n (Y := YX10_faultOfPalace) (pc := 26) 1 dX10_faultOfPalace_26 rfl ?_
      obtain ⟨r4, M5, e6, hF⟩ := bd_some hF
      refine s_callVi (Y := YX10_faultOfPalace) (pc := 27) (as := [.int x1]) (st := []) (r_X8_at  e6) miX8_at lk_X10_406 dX10_faultOfPalace_27 k_1 rfl (Nat.le_of_ble_eq_true rfl) (Nat.le_of_ble_eq_true rfl) rfl ?_
      clear e6
      refine g_istore_n (Y := YX10_faultOfPalace) (pc := 30) (L' := [(2, .int r4), (0, .ref 0), (1, .int x1)]) dX10_faultOfPalace_30 (Nat.le_of_ble_eq_true rfl) rfl ?_
      refine g_iload_n (Y := YX10_faultOfPalace) (pc := 31) 2 dX10_faultOfPalace_31 rfl ?_
      refine g_bipush (Y := YX10_faultOfPalace) (pc := 32) dX10_faultOfPalace_32 kB_6 ?_
      refine g_icmp_ge (Y := YX10_faultOfPalace) (pc := 34) (tgt := 49) dX10_faultOfPalace_34 rfl (fun c7 => ?_) (fun c7 => ?_)
      · replace hF := if_f c7 hF
        refine g_loc [2] rfl ?_
        exact w_X10_faultOfPalace_49  _ _ hF
      · replace hF := if_t c7 hF
        refine g_iload_n (Y := YX10_faultOfPalace) (pc := 37) 0 dX10_faultOfPalace_37 rfl ?_
        refine g_bipush (Y := YX10_faultOfPalace) (pc := 38) dX10_faultOfPalace_38 kB_114 ?_
        refine g_icmp_eq (Y := YX10_faultOfPalace) (pc := 40) (tgt := 51) dX10_faultOfPalace_40 rfl (fun c8 => ?_) (fun c8 => ?_)
        · replace hF := if_t c8 hF
          refine g_loc [1, 2] rfl ?_
          exact w_X10_faultOfPalace_51 ih _ _ hF
        · replace hF := if_f c8 hF
          refine g_iload_n (Y := YX10_faultOfPalace) (pc := 43) 0 dX10_faultOfPalace_43 rfl ?_
          refine g_bipush (Y := YX10_faultOfPalace) (pc := 44) dX10_faultOfPalace_44 kB_99 ?_
          refine g_icmp_eq (Y := YX10_faultOfPalace) (pc := 46) (tgt := 51) dX10_faultOfPalace_46 rfl (fun c10 => ?_) (fun c10 => ?_)
          · replace hF := if_t c10 hF
            refine g_loc [1, 2] rfl ?_
            exact w_X10_faultOfPalace_51 ih _ _ hF
          · replace hF := if_f c10 hF
            refine g_loc [2] rfl ?_
            exact w_X10_faultOfPalace_49  _ _ hF
def f_X10_faultOfPalace_0  (M : Mem) : Option (Int32 × Mem) :=
  ml (up M 1 2 80) fun M1 =>
  f_X10_faultOfPalace_11 FU 0 M1
set_option maxRecDepth 100000 in
theorem w_X10_faultOfPalace_0 {R : Int32} {M' : Mem}  (M : Mem) (hF : f_X10_faultOfPalace_0  M = some (R, M')) : RunF l D cy ad none YX10_faultOfPalace 1 0 0 (some (.int R)) (lay X M') 0 0 0 [(0, .ref 0)] [] (lay X M) := by
  unfold f_X10_faultOfPalace_0 at hF
  refine g_aload_n (Y := YX10_faultOfPalace) (pc := 0) 0 dX10_faultOfPalace_0 rfl ?_
  refine u_getR (Y := YX10_faultOfPalace) (pc := 1) (j := 1) dX10_faultOfPalace_1 fl_X10_10 k_0 rf_0_0 ?_
  refine g_bipush (Y := YX10_faultOfPalace) (pc := 4) dX10_faultOfPalace_4 kB_80 ?_
  refine u_putI (Y := YX10_faultOfPalace) (pc := 6) dX10_faultOfPalace_6 fl_X10_403  k_1 ?_
  refine g_nmM (fun M1 e => ?_)
  replace hF := ml_to e hF; clear e
  refine g_iconst (Y := YX10_faultOfPalace) (pc := 9) dX10_faultOfPalace_9 kI_0 ?_
  refine g_istore_n (Y := YX10_faultOfPalace) (pc := 10) (L' := [(1, .int 0), (0, .ref 0)]) dX10_faultOfPalace_10 (Nat.le_of_ble_eq_true rfl) rfl ?_
  refine g_loc [1, 0] rfl ?_
  exact w_X10_faultOfPalace_11  _ _ _ hF
def f_X10_faultOfPalace (M : Mem) : Option (Int32 × Mem) := f_X10_faultOfPalace_0 M
theorem r_X10_faultOfPalace {R : Int32} {M M' : Mem}  (hF : f_X10_faultOfPalace  M = some (R, M')) : RunS l D cy ad YX10_faultOfPalace 1 [.ref 0] X M (some (.int R)) M' := Run.of 0 (miX10_faultOfPalace).1 (Nat.le_of_ble_eq_true rfl) (w_X10_faultOfPalace_0  _ hF)
def f_X7_clear_22 (s : Nat) : Nat → Int32 → Mem → Option (Int32 × Mem)
  | 0, _, _ => none
  | n + 1, x1, M =>
    if x1 < 6 then
      gd (0 ≤ x1 ∧ x1.toNatClampNeg < 6) <|
      ml (up M (s + 1) x1.toNatClampNeg (-1)) fun M7 =>
      gd (0 ≤ x1 ∧ x1.toNatClampNeg < 6) <|
      ml (up M7 (s + 2) x1.toNatClampNeg 0) fun M9 =>
      gd (0 ≤ x1 ∧ x1.toNatClampNeg < 6) <|
      ml (up M9 (s + 3) x1.toNatClampNeg 0) fun M11 =>
      gd (0 ≤ x1 ∧ x1.toNatClampNeg < 6) <|
      ml (up M11 (s + 4) x1.toNatClampNeg (-1)) fun M13 =>
      vl (x1 + 1) fun v14 =>
      f_X7_clear_22 s n v14 M13
    else
      some (0, M)
set_option maxRecDepth 100000 in
theorem w_X7_clear_22 {R : Int32} {M' : Mem} {s : Nat} (hs : isSt s) : ∀ (n : Nat) (x1 : Int32) (M : Mem), f_X7_clear_22 s n x1 M = some (R, M') → RunF l D cy ad none YX7_clear 0 0 0 none (lay X M') 0 0 22 [(0, .ref s), (1, .int x1)] [] (lay X M) := by
  intro n
  induction n with
  | zero => intro x1 M hF; exact absurd hF (by unfold f_X7_clear_22; exact fun h => nomatch h)
  | succ n ih =>
    intro x1 M hF
    unfold f_X7_clear_22 at hF
    refine g_iload_n (Y := YX7_clear) (pc := 22) 1 dX7_clear_22 rfl ?_
    refine g_bipush (Y := YX7_clear) (pc := 23) dX7_clear_23 kB_6 ?_
    refine g_icmp_ge (Y := YX7_clear) (pc := 25) (tgt := 62) dX7_clear_25 rfl (fun c5 => ?_) (fun c5 => ?_)
    · replace hF := if_f c5 hF
      exact s_vret (Y := YX7_clear) (pc := 62) dX7_clear_62 rfl hF
    · replace hF := if_t c5 hF
      refine g_aload_n (Y := YX7_clear) (pc := 28) 0 dX7_clear_28 rfl ?_
      refine u_getR (Y := YX7_clear) (pc := 29) (j := (s + 1)) dX7_clear_29 fl_X7_9 (st_k hs) (st_r4 hs) ?_
      refine g_iload_n (Y := YX7_clear) (pc := 32) 1 dX7_clear_32 rfl ?_
      refine g_iconst (Y := YX7_clear) (pc := 33) dX7_clear_33 kI_m1 ?_
      obtain ⟨g6, hF⟩ := gd_some hF
      refine s_iast (Y := YX7_clear) (pc := 34) dX7_clear_34 (st_k1 hs) (st_n1 hs) g6 ?_
      refine g_nmM (fun M7 e => ?_)
      replace hF := ml_to e hF; clear e
      refine g_aload_n (Y := YX7_clear) (pc := 35) 0 dX7_clear_35 rfl ?_
      refine u_getR (Y := YX7_clear) (pc := 36) (j := (s + 2)) dX7_clear_36 fl_X7_15 (st_k hs) (st_r5 hs) ?_
      refine g_iload_n (Y := YX7_clear) (pc := 39) 1 dX7_clear_39 rfl ?_
      refine g_iconst (Y := YX7_clear) (pc := 40) dX7_clear_40 kI_0 ?_
      obtain ⟨g8, hF⟩ := gd_some hF
      refine s_iast (Y := YX7_clear) (pc := 41) dX7_clear_41 (st_k2 hs) (st_n2 hs) g8 ?_
      refine g_nmM (fun M9 e => ?_)
      replace hF := ml_to e hF; clear e
      refine g_aload_n (Y := YX7_clear) (pc := 42) 0 dX7_clear_42 rfl ?_
      refine u_getR (Y := YX7_clear) (pc := 43) (j := (s + 3)) dX7_clear_43 fl_X7_18 (st_k hs) (st_r6 hs) ?_
      refine g_iload_n (Y := YX7_clear) (pc := 46) 1 dX7_clear_46 rfl ?_
      refine g_iconst (Y := YX7_clear) (pc := 47) dX7_clear_47 kI_0 ?_
      obtain ⟨g10, hF⟩ := gd_some hF
      refine s_iast (Y := YX7_clear) (pc := 48) dX7_clear_48 (st_k3 hs) (st_n3 hs) g10 ?_
      refine g_nmM (fun M11 e => ?_)
      replace hF := ml_to e hF; clear e
      refine g_aload_n (Y := YX7_clear) (pc := 49) 0 dX7_clear_49 rfl ?_
      refine u_getR (Y := YX7_clear) (pc := 50) (j := (s + 4)) dX7_clear_50 fl_X7_21 (st_k hs) (st_r7 hs) ?_
      refine g_iload_n (Y := YX7_clear) (pc := 53) 1 dX7_clear_53 rfl ?_
      refine g_iconst (Y := YX7_clear) (pc := 54) dX7_clear_54 kI_m1 ?_
      obtain ⟨g12, hF⟩ := gd_some hF
      refine s_iast (Y := YX7_clear) (pc := 55) dX7_clear_55 (st_k4 hs) (st_n4 hs) g12 ?_
      refine g_nmM (fun M13 e => ?_)
      replace hF := ml_to e hF; clear e
      refine s_iinc (Y := YX7_clear) (pc := 56) (j := 1) (L' := fun y => [(1, .int y), (0, .ref s)]) dX7_clear_56 kI_1 rfl (Nat.le_of_ble_eq_true rfl) (fun _ => rfl) (fun v14 e => ?_)
      replace hF := vl_to e hF; clear e
      refine g_goto (Y := YX7_clear) (pc := 59) (tgt := 22) dX7_clear_59 rfl ?_
      refine g_loc [1, 0] rfl ?_
      exact ih _ _ hF
def f_X7_clear_0 (s : Nat) (M : Mem) : Option (Int32 × Mem) :=
  ml (up M s 0 0) fun M1 =>
  ml (up M1 s 1 0) fun M2 =>
  ml (up M2 s 2 0) fun M3 =>
  ml (up M3 s 3 0) fun M4 =>
  f_X7_clear_22 s FU 0 M4
set_option maxRecDepth 100000 in
theorem w_X7_clear_0 {R : Int32} {M' : Mem} {s : Nat} (hs : isSt s) (M : Mem) (hF : f_X7_clear_0 s  M = some (R, M')) : RunF l D cy ad none YX7_clear 0 0 0 none (lay X M') 0 0 0 [(0, .ref s)] [] (lay X M) := by
  unfold f_X7_clear_0 at hF
  refine g_aload_n (Y := YX7_clear) (pc := 0) 0 dX7_clear_0 rfl ?_
  refine g_iconst (Y := YX7_clear) (pc := 1) dX7_clear_1 kI_0 ?_
  refine u_putI (Y := YX7_clear) (pc := 2) dX7_clear_2 fl_X7_27  (st_k hs) ?_
  refine g_nmM (fun M1 e => ?_)
  replace hF := ml_to e hF; clear e
  refine g_aload_n (Y := YX7_clear) (pc := 5) 0 dX7_clear_5 rfl ?_
  refine g_iconst (Y := YX7_clear) (pc := 6) dX7_clear_6 kI_0 ?_
  refine u_putI (Y := YX7_clear) (pc := 7) dX7_clear_7 fl_X7_31  (st_k hs) ?_
  refine g_nmM (fun M2 e => ?_)
  replace hF := ml_to e hF; clear e
  refine g_aload_n (Y := YX7_clear) (pc := 10) 0 dX7_clear_10 rfl ?_
  refine g_iconst (Y := YX7_clear) (pc := 11) dX7_clear_11 kI_0 ?_
  refine u_putI (Y := YX7_clear) (pc := 12) dX7_clear_12 fl_X7_34  (st_k hs) ?_
  refine g_nmM (fun M3 e => ?_)
  replace hF := ml_to e hF; clear e
  refine g_aload_n (Y := YX7_clear) (pc := 15) 0 dX7_clear_15 rfl ?_
  refine g_iconst (Y := YX7_clear) (pc := 16) dX7_clear_16 kI_0 ?_
  refine u_putI (Y := YX7_clear) (pc := 17) dX7_clear_17 fl_X7_37  (st_k hs) ?_
  refine g_nmM (fun M4 e => ?_)
  replace hF := ml_to e hF; clear e
  refine g_iconst (Y := YX7_clear) (pc := 20) dX7_clear_20 kI_0 ?_
  refine g_istore_n (Y := YX7_clear) (pc := 21) (L' := [(1, .int 0), (0, .ref s)]) dX7_clear_21 (Nat.le_of_ble_eq_true rfl) rfl ?_
  refine g_loc [1, 0] rfl ?_
  exact w_X7_clear_22 hs _ _ _ hF
def f_X7_clear (s : Nat) (M : Mem) : Option (Int32 × Mem) := f_X7_clear_0 s M
theorem r_X7_clear {s : Nat} {R : Int32} {M M' : Mem} (hs : isSt s) (hF : f_X7_clear s M = some (R, M')) : RunS l D cy ad YX7_clear 0 [.ref s] X M none M' := Run.of 0 (miX7_clear).1 (Nat.le_of_ble_eq_true rfl) (w_X7_clear_0 hs _ hF)
def f_X6_clear_0  (M : Mem) : Option (Int32 × Mem) :=
  ml (up M 46 2 0) fun M1 =>
  some (0, M1)
set_option maxRecDepth 100000 in
theorem w_X6_clear_0 {R : Int32} {M' : Mem}  (M : Mem) (hF : f_X6_clear_0  M = some (R, M')) : RunF l D cy ad none YX6_clear 0 0 0 none (lay X M') 0 0 0 [(0, .ref 46)] [] (lay X M) := by
  unfold f_X6_clear_0 at hF
  refine g_aload_n (Y := YX6_clear) (pc := 0) 0 dX6_clear_0 rfl ?_
  refine g_iconst (Y := YX6_clear) (pc := 1) dX6_clear_1 kI_0 ?_
  refine u_putI (Y := YX6_clear) (pc := 2) dX6_clear_2 fl_X6_22  k_46 ?_
  refine g_nmM (fun M1 e => ?_)
  replace hF := ml_to e hF; clear e
  exact s_vret (Y := YX6_clear) (pc := 5) dX6_clear_5 rfl hF
def f_X6_clear (M : Mem) : Option (Int32 × Mem) := f_X6_clear_0 M
theorem r_X6_clear {R : Int32} {M M' : Mem}  (hF : f_X6_clear  M = some (R, M')) : RunS l D cy ad YX6_clear 0 [.ref 46] X M none M' := Run.of 0 (miX6_clear).1 (Nat.le_of_ble_eq_true rfl) (w_X6_clear_0  _ hF)
def f_X10_buildPalace_101  : Nat → Int32 → Mem → Option (Int32 × Mem)
  | 0, _, _ => none
  | n + 1, x1, M =>
    if x1 < 2 then
      gd (0 ≤ x1 ∧ x1.toNatClampNeg < 2) <|
      ml (up M 109 x1.toNatClampNeg (-1)) fun M14 =>
      vl (x1 + 1) fun v15 =>
      f_X10_buildPalace_101 n v15 M14
    else
      some (0, M)
set_option maxRecDepth 100000 in
theorem w_X10_buildPalace_101 {R : Int32} {M' : Mem}  : ∀ (n : Nat) (x1 : Int32) (M : Mem), f_X10_buildPalace_101 n x1 M = some (R, M') → RunF l D cy ad none YX10_buildPalace 1 0 0 none (lay X M') 0 0 101 [(0, .ref 0), (1, .int x1)] [] (lay X M) := by
  intro n
  induction n with
  | zero => intro x1 M hF; exact absurd hF (by unfold f_X10_buildPalace_101; exact fun h => nomatch h)
  | succ n ih =>
    intro x1 M hF
    unfold f_X10_buildPalace_101 at hF
    refine g_iload_n (Y := YX10_buildPalace) (pc := 101) 1 dX10_buildPalace_101 rfl ?_
    refine g_iconst (Y := YX10_buildPalace) (pc := 102) dX10_buildPalace_102 kI_2 ?_
    refine g_icmp_ge (Y := YX10_buildPalace) (pc := 103) (tgt := 119) dX10_buildPalace_103 rfl (fun c12 => ?_) (fun c12 => ?_)
    · replace hF := if_f c12 hF
      exact s_vret (Y := YX10_buildPalace) (pc := 119) dX10_buildPalace_119 rfl hF
    · replace hF := if_t c12 hF
      refine g_aload_n (Y := YX10_buildPalace) (pc := 106) 0 dX10_buildPalace_106 rfl ?_
      refine u_getR (Y := YX10_buildPalace) (pc := 107) (j := 109) dX10_buildPalace_107 fl_X10_59 k_0 rf_0_9 ?_
      refine g_iload_n (Y := YX10_buildPalace) (pc := 110) 1 dX10_buildPalace_110 rfl ?_
      refine g_iconst (Y := YX10_buildPalace) (pc := 111) dX10_buildPalace_111 kI_m1 ?_
      obtain ⟨g13, hF⟩ := gd_some hF
      refine s_iast (Y := YX10_buildPalace) (pc := 112) dX10_buildPalace_112 k_109 n_109 g13 ?_
      refine g_nmM (fun M14 e => ?_)
      replace hF := ml_to e hF; clear e
      refine s_iinc (Y := YX10_buildPalace) (pc := 113) (j := 1) (L' := fun y => [(1, .int y), (0, .ref 0)]) dX10_buildPalace_113 kI_1 rfl (Nat.le_of_ble_eq_true rfl) (fun _ => rfl) (fun v15 e => ?_)
      replace hF := vl_to e hF; clear e
      refine g_goto (Y := YX10_buildPalace) (pc := 116) (tgt := 101) dX10_buildPalace_116 rfl ?_
      refine g_loc [1, 0] rfl ?_
      exact ih _ _ hF
def f_X10_buildPalace_71 (K32 : Int32 → Mem → Option (Int32 × Mem)) (x1 : Int32) (M : Mem) : Option (Int32 × Mem) :=
  vl (x1 + 1) fun v20 =>
  K32 v20 M
set_option maxRecDepth 100000 in
theorem w_X10_buildPalace_71 {R : Int32} {M' : Mem} {K32 : Int32 → Mem → Option (Int32 × Mem)} (hK32 : ∀ (x1 : Int32) (M : Mem), K32 x1 M = some (R, M') → RunF l D cy ad none YX10_buildPalace 1 0 0 none (lay X M') 0 0 32 [(0, .ref 0), (1, .int x1)] [] (lay X M)) (x1 : Int32) (M : Mem) (hF : f_X10_buildPalace_71 K32 x1 M = some (R, M')) : RunF l D cy ad none YX10_buildPalace 1 0 0 none (lay X M') 0 0 71 [(0, .ref 0), (1, .int x1)] [] (lay X M) := by
  unfold f_X10_buildPalace_71 at hF
  refine s_iinc (Y := YX10_buildPalace) (pc := 71) (j := 1) (L' := fun y => [(1, .int y), (0, .ref 0)]) dX10_buildPalace_71 kI_1 rfl (Nat.le_of_ble_eq_true rfl) (fun _ => rfl) (fun v20 e => ?_)
  replace hF := vl_to e hF; clear e
  refine g_goto (Y := YX10_buildPalace) (pc := 74) (tgt := 32) dX10_buildPalace_74 rfl ?_
  refine g_loc [1, 0] rfl ?_
  exact hK32 _ _ hF
def f_X10_buildPalace_32  : Nat → Int32 → Mem → Option (Int32 × Mem)
  | 0, _, _ => none
  | n + 1, x1, M =>
    if x1 < (M 1 1) then
      bd (f_X8_at x1 M) fun r16 M17 =>
      if r16 = 99 then
        ml (up M17 3 1 ((M17 3 1) ||| (1 <<< (x1 &&& 31)))) fun M21 =>
        f_X10_buildPalace_71 (f_X10_buildPalace_32 n) x1 M21
      else
        f_X10_buildPalace_71 (f_X10_buildPalace_32 n) x1 M17
    else
      bd (f_X7_clear 26 M) fun _ M6 =>
      bd (f_X6_clear M6) fun _ M9 =>
      ml (up M9 120 3 0) fun M11 =>
      f_X10_buildPalace_101 FU 0 M11
set_option maxRecDepth 100000 in
theorem w_X10_buildPalace_32 {R : Int32} {M' : Mem}  : ∀ (n : Nat) (x1 : Int32) (M : Mem), f_X10_buildPalace_32 n x1 M = some (R, M') → RunF l D cy ad none YX10_buildPalace 1 0 0 none (lay X M') 0 0 32 [(0, .ref 0), (1, .int x1)] [] (lay X M) := by
  intro n
  induction n with
  | zero => intro x1 M hF; exact absurd hF (by unfold f_X10_buildPalace_32; exact fun h => nomatch h)
  | succ n ih =>
    intro x1 M hF
    unfold f_X10_buildPalace_32 at hF
    refine g_iload_n (Y := YX10_buildPalace) (pc := 32) 1 dX10_buildPalace_32 rfl ?_
    refine g_aload_n (Y := YX10_buildPalace) (pc := 33) 0 dX10_buildPalace_33 rfl ?_
    refine u_getR (Y := YX10_buildPalace) (pc := 34) (j := 1) dX10_buildPalace_34 fl_X10_10 k_0 rf_0_0 ?_
    refine u_getI (Y := YX10_buildPalace) (pc := 37) dX10_buildPalace_37 fl_X10_120 k_1 ?_
    refine g_icmp_ge (Y := YX10_buildPalace) (pc := 40) (tgt := 77) dX10_buildPalace_40 rfl (fun c4 => ?_) (fun c4 => ?_)
    · replace hF := if_f c4 hF
      refine g_aload_n (Y := YX10_buildPalace) (pc := 77) 0 dX10_buildPalace_77 rfl ?_
      refine u_getR (Y := YX10_buildPalace) (pc := 78) (j := 26) dX10_buildPalace_78 fl_X10_35 k_0 rf_0_3 ?_
      obtain ⟨r5, M6, e7, hF⟩ := bd_some hF
      refine s_callVv (Y := YX10_buildPalace) (pc := 81) (as := []) (st := []) (r_X7_clear isSt_26 e7) miX7_clear lk_X10_411 dX10_buildPalace_81 k_26 rfl (Nat.le_of_ble_eq_true rfl) (Nat.le_of_ble_eq_true rfl) rfl ?_
      clear e7
      refine g_aload_n (Y := YX10_buildPalace) (pc := 84) 0 dX10_buildPalace_84 rfl ?_
      refine u_getR (Y := YX10_buildPalace) (pc := 85) (j := 46) dX10_buildPalace_85 fl_X10_51 k_0 rf_0_7 ?_
      obtain ⟨r8, M9, e10, hF⟩ := bd_some hF
      refine s_callVv (Y := YX10_buildPalace) (pc := 88) (as := []) (st := []) (r_X6_clear  e10) miX6_clear lk_X10_135 dX10_buildPalace_88 k_46 rfl (Nat.le_of_ble_eq_true rfl) (Nat.le_of_ble_eq_true rfl) rfl ?_
      clear e10
      refine g_aload_n (Y := YX10_buildPalace) (pc := 91) 0 dX10_buildPalace_91 rfl ?_
      refine u_getR (Y := YX10_buildPalace) (pc := 92) (j := 120) dX10_buildPalace_92 fl_X10_66 k_0 rf_0_10 ?_
      refine g_iconst (Y := YX10_buildPalace) (pc := 95) dX10_buildPalace_95 kI_0 ?_
      refine u_putI (Y := YX10_buildPalace) (pc := 96) dX10_buildPalace_96 fl_X10_396  k_120 ?_
      refine g_nmM (fun M11 e => ?_)
      replace hF := ml_to e hF; clear e
      refine g_iconst (Y := YX10_buildPalace) (pc := 99) dX10_buildPalace_99 kI_0 ?_
      refine g_istore_n (Y := YX10_buildPalace) (pc := 100) (L' := [(1, .int 0), (0, .ref 0)]) dX10_buildPalace_100 (Nat.le_of_ble_eq_true rfl) rfl ?_
      refine g_loc [1, 0] rfl ?_
      exact w_X10_buildPalace_101  _ _ _ hF
    · replace hF := if_t c4 hF
      refine g_aload_n (Y := YX10_buildPalace) (pc := 43) 0 dX10_buildPalace_43 rfl ?_
      refine u_getR (Y := YX10_buildPalace) (pc := 44) (j := 1) dX10_buildPalace_44 fl_X10_10 k_0 rf_0_0 ?_
      refine g_iload_n (Y := YX10_buildPalace) (pc := 47) 1 dX10_buildPalace_47 rfl ?_
      obtain ⟨r16, M17, e18, hF⟩ := bd_some hF
      refine s_callVi (Y := YX10_buildPalace) (pc := 48) (as := [.int x1]) (st := []) (r_X8_at  e18) miX8_at lk_X10_406 dX10_buildPalace_48 k_1 rfl (Nat.le_of_ble_eq_true rfl) (Nat.le_of_ble_eq_true rfl) rfl ?_
      clear e18
      refine g_bipush (Y := YX10_buildPalace) (pc := 51) dX10_buildPalace_51 kB_99 ?_
      refine g_icmp_ne (Y := YX10_buildPalace) (pc := 53) (tgt := 71) dX10_buildPalace_53 rfl (fun c19 => ?_) (fun c19 => ?_)
      · replace hF := if_f c19 hF
        exact w_X10_buildPalace_71 ih _ _ hF
      · replace hF := if_t c19 hF
        refine g_aload_n (Y := YX10_buildPalace) (pc := 56) 0 dX10_buildPalace_56 rfl ?_
        refine u_getR (Y := YX10_buildPalace) (pc := 57) (j := 3) dX10_buildPalace_57 fl_X10_19 k_0 rf_0_1 ?_
        refine g_dup (Y := YX10_buildPalace) (pc := 60) dX10_buildPalace_60 rfl ?_
        refine u_getI (Y := YX10_buildPalace) (pc := 61) dX10_buildPalace_61 fl_X10_408 k_3 ?_
        refine g_iconst (Y := YX10_buildPalace) (pc := 64) dX10_buildPalace_64 kI_1 ?_
        refine g_iload_n (Y := YX10_buildPalace) (pc := 65) 1 dX10_buildPalace_65 rfl ?_
        refine g_ishl (Y := YX10_buildPalace) (pc := 66) dX10_buildPalace_66 ?_
        refine g_ior (Y := YX10_buildPalace) (pc := 67) dX10_buildPalace_67 ?_
        refine u_putI (Y := YX10_buildPalace) (pc := 68) dX10_buildPalace_68 fl_X10_408  k_3 ?_
        refine g_nmM (fun M21 e => ?_)
        replace hF := ml_to e hF; clear e
        exact w_X10_buildPalace_71 ih _ _ hF
def f_X10_buildPalace_0  (M : Mem) : Option (Int32 × Mem) :=
  ml (up M 3 0 (M 1 1)) fun M1 =>
  ml (up M1 3 1 0) fun M2 =>
  ml (up M2 3 2 0) fun M3 =>
  f_X10_buildPalace_32 FU 0 M3
set_option maxRecDepth 100000 in
theorem w_X10_buildPalace_0 {R : Int32} {M' : Mem}  (M : Mem) (hF : f_X10_buildPalace_0  M = some (R, M')) : RunF l D cy ad none YX10_buildPalace 1 0 0 none (lay X M') 0 0 0 [(0, .ref 0)] [] (lay X M) := by
  unfold f_X10_buildPalace_0 at hF
  refine g_aload_n (Y := YX10_buildPalace) (pc := 0) 0 dX10_buildPalace_0 rfl ?_
  refine u_getR (Y := YX10_buildPalace) (pc := 1) (j := 3) dX10_buildPalace_1 fl_X10_19 k_0 rf_0_1 ?_
  refine g_aload_n (Y := YX10_buildPalace) (pc := 4) 0 dX10_buildPalace_4 rfl ?_
  refine u_getR (Y := YX10_buildPalace) (pc := 5) (j := 1) dX10_buildPalace_5 fl_X10_10 k_0 rf_0_0 ?_
  refine u_getI (Y := YX10_buildPalace) (pc := 8) dX10_buildPalace_8 fl_X10_120 k_1 ?_
  refine u_putI (Y := YX10_buildPalace) (pc := 11) dX10_buildPalace_11 fl_X10_123  k_3 ?_
  refine g_nmM (fun M1 e => ?_)
  replace hF := ml_to e hF; clear e
  refine g_aload_n (Y := YX10_buildPalace) (pc := 14) 0 dX10_buildPalace_14 rfl ?_
  refine u_getR (Y := YX10_buildPalace) (pc := 15) (j := 3) dX10_buildPalace_15 fl_X10_19 k_0 rf_0_1 ?_
  refine g_iconst (Y := YX10_buildPalace) (pc := 18) dX10_buildPalace_18 kI_0 ?_
  refine u_putI (Y := YX10_buildPalace) (pc := 19) dX10_buildPalace_19 fl_X10_408  k_3 ?_
  refine g_nmM (fun M2 e => ?_)
  replace hF := ml_to e hF; clear e
  refine g_aload_n (Y := YX10_buildPalace) (pc := 22) 0 dX10_buildPalace_22 rfl ?_
  refine u_getR (Y := YX10_buildPalace) (pc := 23) (j := 3) dX10_buildPalace_23 fl_X10_19 k_0 rf_0_1 ?_
  refine g_iconst (Y := YX10_buildPalace) (pc := 26) dX10_buildPalace_26 kI_0 ?_
  refine u_putI (Y := YX10_buildPalace) (pc := 27) dX10_buildPalace_27 fl_X10_129  k_3 ?_
  refine g_nmM (fun M3 e => ?_)
  replace hF := ml_to e hF; clear e
  refine g_iconst (Y := YX10_buildPalace) (pc := 30) dX10_buildPalace_30 kI_0 ?_
  refine g_istore_n (Y := YX10_buildPalace) (pc := 31) (L' := [(1, .int 0), (0, .ref 0)]) dX10_buildPalace_31 (Nat.le_of_ble_eq_true rfl) rfl ?_
  refine g_loc [1, 0] rfl ?_
  exact w_X10_buildPalace_32  _ _ _ hF
def f_X10_buildPalace (M : Mem) : Option (Int32 × Mem) := f_X10_buildPalace_0 M
theorem r_X10_buildPalace {R : Int32} {M M' : Mem}  (hF : f_X10_buildPalace  M = some (R, M')) : RunS l D cy ad YX10_buildPalace 1 [.ref 0] X M none M' := Run.of 0 (miX10_buildPalace).1 (Nat.le_of_ble_eq_true rfl) (w_X10_buildPalace_0  _ hF)
def f_X10_palace_40  (t0 : Int32) (M : Mem) : Option (Int32 × Mem) :=
  some (t0, M)
set_option maxRecDepth 100000 in
theorem w_X10_palace_40 {R : Int32} {M' : Mem}  (t0 : Int32) (M : Mem) (hF : f_X10_palace_40 t0 M = some (R, M')) : RunF l D cy ad none YX10_palace 2 0 0 (some (.int R)) (lay X M') 0 0 40 [] [.int t0] (lay X M) := by
  unfold f_X10_palace_40 at hF
  exact s_iret (Y := YX10_palace) (pc := 40) dX10_palace_40 rfl hF
def f_X10_palace_14  (x1 : Int32) (M : Mem) : Option (Int32 × Mem) :=
  ml (up M 1 1 0) fun M5 =>
  if x1 = (-1) then
    f_X10_palace_40 (M5 3 0) M5
  else
    f_X10_palace_40 ((-1) - x1) M5
set_option maxRecDepth 100000 in
theorem w_X10_palace_14 {R : Int32} {M' : Mem}  (x1 : Int32) (M : Mem) (hF : f_X10_palace_14 x1 M = some (R, M')) : RunF l D cy ad none YX10_palace 2 0 0 (some (.int R)) (lay X M') 0 0 14 [(0, .ref 0), (1, .int x1)] [] (lay X M) := by
  unfold f_X10_palace_14 at hF
  refine g_aload_n (Y := YX10_palace) (pc := 14) 0 dX10_palace_14 rfl ?_
  refine u_getR (Y := YX10_palace) (pc := 15) (j := 1) dX10_palace_15 fl_X10_10 k_0 rf_0_0 ?_
  refine g_iconst (Y := YX10_palace) (pc := 18) dX10_palace_18 kI_0 ?_
  refine u_putI (Y := YX10_palace) (pc := 19) dX10_palace_19 fl_X10_120  k_1 ?_
  refine g_nmM (fun M5 e => ?_)
  replace hF := ml_to e hF; clear e
  refine g_iload_n (Y := YX10_palace) (pc := 22) 1 dX10_palace_22 rfl ?_
  refine g_iconst (Y := YX10_palace) (pc := 23) dX10_palace_23 kI_m1 ?_
  refine g_icmp_ne (Y := YX10_palace) (pc := 24) (tgt := 37) dX10_palace_24 rfl (fun c6 => ?_) (fun c6 => ?_)
  · replace hF := if_f c6 hF
    refine g_iconst (Y := YX10_palace) (pc := 37) dX10_palace_37 kI_m1 ?_
    refine g_iload_n (Y := YX10_palace) (pc := 38) 1 dX10_palace_38 rfl ?_
    refine g_isub (Y := YX10_palace) (pc := 39) dX10_palace_39 ?_
    refine g_loc [] rfl ?_
    exact w_X10_palace_40  _ _ hF
  · replace hF := if_t c6 hF
    refine g_aload_n (Y := YX10_palace) (pc := 27) 0 dX10_palace_27 rfl ?_
    refine u_getR (Y := YX10_palace) (pc := 28) (j := 3) dX10_palace_28 fl_X10_19 k_0 rf_0_1 ?_
    refine u_getI (Y := YX10_palace) (pc := 31) dX10_palace_31 fl_X10_123 k_3 ?_
    refine g_goto (Y := YX10_palace) (pc := 34) (tgt := 40) dX10_palace_34 rfl ?_
    refine g_loc [] rfl ?_
    exact w_X10_palace_40  _ _ hF
def f_X10_palace_0  (M : Mem) : Option (Int32 × Mem) :=
  bd (f_X10_faultOfPalace M) fun r1 M2 =>
  if r1 = (-1) then
    bd (f_X10_buildPalace M2) fun _ M8 =>
    f_X10_palace_14 r1 M8
  else
    f_X10_palace_14 r1 M2
set_option maxRecDepth 100000 in
theorem w_X10_palace_0 {R : Int32} {M' : Mem}  (M : Mem) (hF : f_X10_palace_0  M = some (R, M')) : RunF l D cy ad none YX10_palace 2 0 0 (some (.int R)) (lay X M') 0 0 0 [(0, .ref 0)] [] (lay X M) := by
  unfold f_X10_palace_0 at hF
  refine g_aload_n (Y := YX10_palace) (pc := 0) 0 dX10_palace_0 rfl ?_
  obtain ⟨r1, M2, e3, hF⟩ := bd_some hF
  refine s_callVi (Y := YX10_palace) (pc := 1) (as := []) (st := []) (r_X10_faultOfPalace  e3) miX10_faultOfPalace lk_X10_113 dX10_palace_1 k_0 rfl (Nat.le_of_ble_eq_true rfl) (Nat.le_of_ble_eq_true rfl) rfl ?_
  clear e3
  refine g_istore_n (Y := YX10_palace) (pc := 4) (L' := [(1, .int r1), (0, .ref 0)]) dX10_palace_4 (Nat.le_of_ble_eq_true rfl) rfl ?_
  refine g_iload_n (Y := YX10_palace) (pc := 5) 0 dX10_palace_5 rfl ?_
  refine g_iconst (Y := YX10_palace) (pc := 6) dX10_palace_6 kI_m1 ?_
  refine g_icmp_ne (Y := YX10_palace) (pc := 7) (tgt := 14) dX10_palace_7 rfl (fun c4 => ?_) (fun c4 => ?_)
  · replace hF := if_f c4 hF
    refine g_loc [1, 0] rfl ?_
    exact w_X10_palace_14  _ _ hF
  · replace hF := if_t c4 hF
    refine g_aload_n (Y := YX10_palace) (pc := 10) 1 dX10_palace_10 rfl ?_
    obtain ⟨r7, M8, e9, hF⟩ := bd_some hF
    refine s_callVv (Y := YX10_palace) (pc := 11) (as := []) (st := []) (r_X10_buildPalace  e9) miX10_buildPalace lk_X10_117 dX10_palace_11 k_0 rfl (Nat.le_of_ble_eq_true rfl) (Nat.le_of_ble_eq_true rfl) rfl ?_
    clear e9
    refine g_loc [1, 0] rfl ?_
    exact w_X10_palace_14  _ _ hF
def f_X10_palace (M : Mem) : Option (Int32 × Mem) := f_X10_palace_0 M
theorem r_X10_palace {R : Int32} {M M' : Mem}  (hF : f_X10_palace  M = some (R, M')) : RunS l D cy ad YX10_palace 2 [.ref 0] X M (some (.int R)) M' := Run.of 0 (miX10_palace).1 (Nat.le_of_ble_eq_true rfl) (w_X10_palace_0  _ hF)
def f_X8_digitAt_26  (t0 : Int32) (M : Mem) : Option (Int32 × Mem) :=
  some (t0, M)
set_option maxRecDepth 100000 in
theorem w_X8_digitAt_26 {R : Int32} {M' : Mem}  (t0 : Int32) (M : Mem) (hF : f_X8_digitAt_26 t0 M = some (R, M')) : RunF l D cy ad none YX8_digitAt 1 0 0 (some (.int R)) (lay X M') 0 0 26 [] [.int t0] (lay X M) := by
  unfold f_X8_digitAt_26 at hF
  exact s_iret (Y := YX8_digitAt) (pc := 26) dX8_digitAt_26 rfl hF
def f_X8_digitAt_25  (M : Mem) : Option (Int32 × Mem) :=
  f_X8_digitAt_26 (-1) M
set_option maxRecDepth 100000 in
theorem w_X8_digitAt_25 {R : Int32} {M' : Mem}  (M : Mem) (hF : f_X8_digitAt_25  M = some (R, M')) : RunF l D cy ad none YX8_digitAt 1 0 0 (some (.int R)) (lay X M') 0 0 25 [] [] (lay X M) := by
  unfold f_X8_digitAt_25 at hF
  refine g_iconst (Y := YX8_digitAt) (pc := 25) dX8_digitAt_25 kI_m1 ?_
  exact w_X8_digitAt_26  _ _ hF
def f_X8_digitAt_0  (x1 : Int32) (M : Mem) : Option (Int32 × Mem) :=
  bd (f_X8_at x1 M) fun r1 M2 =>
  if r1 < 48 then
    f_X8_digitAt_25 M2
  else
    if 57 < r1 then
      f_X8_digitAt_25 M2
    else
      f_X8_digitAt_26 (r1 - 48) M2
set_option maxRecDepth 100000 in
theorem w_X8_digitAt_0 {R : Int32} {M' : Mem}  (x1 : Int32) (M : Mem) (hF : f_X8_digitAt_0 x1 M = some (R, M')) : RunF l D cy ad none YX8_digitAt 1 0 0 (some (.int R)) (lay X M') 0 0 0 [(0, .ref 1), (1, .int x1)] [] (lay X M) := by
  unfold f_X8_digitAt_0 at hF
  refine g_aload_n (Y := YX8_digitAt) (pc := 0) 0 dX8_digitAt_0 rfl ?_
  refine g_iload_n (Y := YX8_digitAt) (pc := 1) 1 dX8_digitAt_1 rfl ?_
  obtain ⟨r1, M2, e3, hF⟩ := bd_some hF
  refine s_callVi (Y := YX8_digitAt) (pc := 2) (as := [.int x1]) (st := []) (r_X8_at  e3) miX8_at lk_X8_22 dX8_digitAt_2 k_1 rfl (Nat.le_of_ble_eq_true rfl) (Nat.le_of_ble_eq_true rfl) rfl ?_
  clear e3
  refine g_istore_n (Y := YX8_digitAt) (pc := 5) (L' := [(2, .int r1), (0, .ref 1), (1, .int x1)]) dX8_digitAt_5 (Nat.le_of_ble_eq_true rfl) rfl ?_
  refine g_iload_n (Y := YX8_digitAt) (pc := 6) 0 dX8_digitAt_6 rfl ?_
  refine g_bipush (Y := YX8_digitAt) (pc := 7) dX8_digitAt_7 kB_48 ?_
  refine g_icmp_lt (Y := YX8_digitAt) (pc := 9) (tgt := 25) dX8_digitAt_9 rfl (fun c4 => ?_) (fun c4 => ?_)
  · replace hF := if_t c4 hF
    refine g_loc [] rfl ?_
    exact w_X8_digitAt_25  _ hF
  · replace hF := if_f c4 hF
    refine g_iload_n (Y := YX8_digitAt) (pc := 12) 0 dX8_digitAt_12 rfl ?_
    refine g_bipush (Y := YX8_digitAt) (pc := 13) dX8_digitAt_13 kB_57 ?_
    refine g_icmp_gt (Y := YX8_digitAt) (pc := 15) (tgt := 25) dX8_digitAt_15 rfl (fun c5 => ?_) (fun c5 => ?_)
    · replace hF := if_t c5 hF
      refine g_loc [] rfl ?_
      exact w_X8_digitAt_25  _ hF
    · replace hF := if_f c5 hF
      refine g_iload_n (Y := YX8_digitAt) (pc := 18) 0 dX8_digitAt_18 rfl ?_
      refine g_bipush (Y := YX8_digitAt) (pc := 19) dX8_digitAt_19 kB_48 ?_
      refine g_isub (Y := YX8_digitAt) (pc := 21) dX8_digitAt_21 ?_
      refine g_goto (Y := YX8_digitAt) (pc := 22) (tgt := 26) dX8_digitAt_22 rfl ?_
      refine g_loc [] rfl ?_
      exact w_X8_digitAt_26  _ _ hF
def f_X8_digitAt (x1 : Int32) (M : Mem) : Option (Int32 × Mem) := f_X8_digitAt_0 x1 M
theorem r_X8_digitAt {x1 R : Int32} {M M' : Mem}  (hF : f_X8_digitAt x1 M = some (R, M')) : RunS l D cy ad YX8_digitAt 1 [.ref 1, .int x1] X M (some (.int R)) M' := Run.of 1 (miX8_digitAt).1 (Nat.le_of_ble_eq_true rfl) (w_X8_digitAt_0  _ _ hF)
def f_X4_readNumber_0  (M : Mem) : Option (Int32 × Mem) :=
  bd (f_X8_digitAt (M 25 2) M) fun r1 M2 =>
  if r1 = (-1) then
    some ((-1), M2)
  else
    ml (up M2 25 2 ((M2 25 2) + 1)) fun M5 =>
    bd (f_X8_digitAt (M5 25 2) M5) fun r6 M7 =>
    if r6 = (-1) then
      some (r1, M7)
    else
      ml (up M7 25 2 ((M7 25 2) + 1)) fun M10 =>
      some (((r1 * 10) + r6), M10)
set_option maxRecDepth 100000 in
theorem w_X4_readNumber_0 {R : Int32} {M' : Mem}  (M : Mem) (hF : f_X4_readNumber_0  M = some (R, M')) : RunF l D cy ad none YX4_readNumber 2 0 0 (some (.int R)) (lay X M') 0 0 0 [(0, .ref 25)] [] (lay X M) := by
  unfold f_X4_readNumber_0 at hF
  refine g_aload_n (Y := YX4_readNumber) (pc := 0) 0 dX4_readNumber_0 rfl ?_
  refine u_getR (Y := YX4_readNumber) (pc := 1) (j := 1) dX4_readNumber_1 fl_X4_9 k_25 rf_25_0 ?_
  refine g_aload_n (Y := YX4_readNumber) (pc := 4) 0 dX4_readNumber_4 rfl ?_
  refine u_getI (Y := YX4_readNumber) (pc := 5) dX4_readNumber_5 fl_X4_19 k_25 ?_
  obtain ⟨r1, M2, e3, hF⟩ := bd_some hF
  refine s_callVi (Y := YX4_readNumber) (pc := 8) (as := [.int (M 25 2)]) (st := []) (r_X8_digitAt  e3) miX8_digitAt lk_X4_66 dX4_readNumber_8 k_1 rfl (Nat.le_of_ble_eq_true rfl) (Nat.le_of_ble_eq_true rfl) rfl ?_
  clear e3
  refine g_istore_n (Y := YX4_readNumber) (pc := 11) (L' := [(1, .int r1), (0, .ref 25)]) dX4_readNumber_11 (Nat.le_of_ble_eq_true rfl) rfl ?_
  refine g_iload_n (Y := YX4_readNumber) (pc := 12) 0 dX4_readNumber_12 rfl ?_
  refine g_iconst (Y := YX4_readNumber) (pc := 13) dX4_readNumber_13 kI_m1 ?_
  refine g_icmp_ne (Y := YX4_readNumber) (pc := 14) (tgt := 19) dX4_readNumber_14 rfl (fun c4 => ?_) (fun c4 => ?_)
  · replace hF := if_f c4 hF
    refine g_aload_n (Y := YX4_readNumber) (pc := 19) 1 dX4_readNumber_19 rfl ?_
    refine g_dup (Y := YX4_readNumber) (pc := 20) dX4_readNumber_20 rfl ?_
    refine u_getI (Y := YX4_readNumber) (pc := 21) dX4_readNumber_21 fl_X4_19 k_25 ?_
    refine g_iconst (Y := YX4_readNumber) (pc := 24) dX4_readNumber_24 kI_1 ?_
    refine g_iadd (Y := YX4_readNumber) (pc := 25) dX4_readNumber_25 ?_
    refine u_putI (Y := YX4_readNumber) (pc := 26) dX4_readNumber_26 fl_X4_19  k_25 ?_
    refine g_nmM (fun M5 e => ?_)
    replace hF := ml_to e hF; clear e
    refine g_aload_n (Y := YX4_readNumber) (pc := 29) 1 dX4_readNumber_29 rfl ?_
    refine u_getR (Y := YX4_readNumber) (pc := 30) (j := 1) dX4_readNumber_30 fl_X4_9 k_25 rf_25_0 ?_
    refine g_aload_n (Y := YX4_readNumber) (pc := 33) 1 dX4_readNumber_33 rfl ?_
    refine u_getI (Y := YX4_readNumber) (pc := 34) dX4_readNumber_34 fl_X4_19 k_25 ?_
    obtain ⟨r6, M7, e8, hF⟩ := bd_some hF
    refine s_callVi (Y := YX4_readNumber) (pc := 37) (as := [.int (M5 25 2)]) (st := []) (r_X8_digitAt  e8) miX8_digitAt lk_X4_66 dX4_readNumber_37 k_1 rfl (Nat.le_of_ble_eq_true rfl) (Nat.le_of_ble_eq_true rfl) rfl ?_
    clear e8
    refine g_istore_n (Y := YX4_readNumber) (pc := 40) (L' := [(2, .int r6), (1, .int r1), (0, .ref 25)]) dX4_readNumber_40 (Nat.le_of_ble_eq_true rfl) rfl ?_
    refine g_iload_n (Y := YX4_readNumber) (pc := 41) 0 dX4_readNumber_41 rfl ?_
    refine g_iconst (Y := YX4_readNumber) (pc := 42) dX4_readNumber_42 kI_m1 ?_
    refine g_icmp_ne (Y := YX4_readNumber) (pc := 43) (tgt := 48) dX4_readNumber_43 rfl (fun c9 => ?_) (fun c9 => ?_)
    · replace hF := if_f c9 hF
      refine g_aload_n (Y := YX4_readNumber) (pc := 48) 2 dX4_readNumber_48 rfl ?_
      refine g_dup (Y := YX4_readNumber) (pc := 49) dX4_readNumber_49 rfl ?_
      refine u_getI (Y := YX4_readNumber) (pc := 50) dX4_readNumber_50 fl_X4_19 k_25 ?_
      refine g_iconst (Y := YX4_readNumber) (pc := 53) dX4_readNumber_53 kI_1 ?_
      refine g_iadd (Y := YX4_readNumber) (pc := 54) dX4_readNumber_54 ?_
      refine u_putI (Y := YX4_readNumber) (pc := 55) dX4_readNumber_55 fl_X4_19  k_25 ?_
      refine g_nmM (fun M10 e => ?_)
      replace hF := ml_to e hF; clear e
      refine g_iload_n (Y := YX4_readNumber) (pc := 58) 1 dX4_readNumber_58 rfl ?_
      refine g_bipush (Y := YX4_readNumber) (pc := 59) dX4_readNumber_59 kB_10 ?_
      refine g_imul (Y := YX4_readNumber) (pc := 61) dX4_readNumber_61 ?_
      refine g_iload_n (Y := YX4_readNumber) (pc := 62) 0 dX4_readNumber_62 rfl ?_
      refine g_iadd (Y := YX4_readNumber) (pc := 63) dX4_readNumber_63 ?_
      exact s_iret (Y := YX4_readNumber) (pc := 64) dX4_readNumber_64 rfl hF
    · replace hF := if_t c9 hF
      refine g_iload_n (Y := YX4_readNumber) (pc := 46) 1 dX4_readNumber_46 rfl ?_
      exact s_iret (Y := YX4_readNumber) (pc := 47) dX4_readNumber_47 rfl hF
  · replace hF := if_t c4 hF
    refine g_iconst (Y := YX4_readNumber) (pc := 17) dX4_readNumber_17 kI_m1 ?_
    exact s_iret (Y := YX4_readNumber) (pc := 18) dX4_readNumber_18 rfl hF
def f_X4_readNumber (M : Mem) : Option (Int32 × Mem) := f_X4_readNumber_0 M
theorem r_X4_readNumber {R : Int32} {M M' : Mem}  (hF : f_X4_readNumber  M = some (R, M')) : RunS l D cy ad YX4_readNumber 2 [.ref 25] X M (some (.int R)) M' := Run.of 0 (miX4_readNumber).1 (Nat.le_of_ble_eq_true rfl) (w_X4_readNumber_0  _ hF)
def f_X4_readComes_31  (t0 : Int32) (M : Mem) : Option (Int32 × Mem) :=
  gd (t0 = 0 ∨ t0 = 1) <|
  some (t0, M)
set_option maxRecDepth 100000 in
theorem w_X4_readComes_31 {R : Int32} {M' : Mem}  (t0 : Int32) (M : Mem) (hF : f_X4_readComes_31 t0 M = some (R, M')) : RunF l D cy ad none YX4_readComes 3 0 0 (some (.int R)) (lay X M') 0 0 31 [] [.int t0] (lay X M) := by
  unfold f_X4_readComes_31 at hF
  obtain ⟨g8, hF⟩ := gd_some hF
  exact s_zret (Y := YX4_readComes) (pc := 31) dX4_readComes_31 rfl g8 hF
def f_X4_readComes_0  (x1 : Int32) (M : Mem) : Option (Int32 × Mem) :=
  bd (f_X4_readNumber M) fun r1 M2 =>
  gd (0 ≤ x1 ∧ x1.toNatClampNeg < 6) <|
  ml (up M2 4 x1.toNatClampNeg r1) fun M5 =>
  gd (0 ≤ x1 ∧ x1.toNatClampNeg < 6) <|
  if (M5 4 x1.toNatClampNeg) = (-1) then
    f_X4_readComes_31 0 M5
  else
    f_X4_readComes_31 1 M5
set_option maxRecDepth 100000 in
theorem w_X4_readComes_0 {R : Int32} {M' : Mem}  (x1 : Int32) (M : Mem) (hF : f_X4_readComes_0 x1 M = some (R, M')) : RunF l D cy ad none YX4_readComes 3 0 0 (some (.int R)) (lay X M') 0 0 0 [(0, .ref 25), (1, .int x1)] [] (lay X M) := by
  unfold f_X4_readComes_0 at hF
  refine g_aload_n (Y := YX4_readComes) (pc := 0) 0 dX4_readComes_0 rfl ?_
  refine u_getR (Y := YX4_readComes) (pc := 1) (j := 3) dX4_readComes_1 fl_X4_15 k_25 rf_25_1 ?_
  refine u_getR (Y := YX4_readComes) (pc := 4) (j := 4) dX4_readComes_4 fl_X4_69 k_3 rf_3_3 ?_
  refine g_iload_n (Y := YX4_readComes) (pc := 7) 1 dX4_readComes_7 rfl ?_
  refine g_aload_n (Y := YX4_readComes) (pc := 8) 0 dX4_readComes_8 rfl ?_
  obtain ⟨r1, M2, e3, hF⟩ := bd_some hF
  refine s_callVi (Y := YX4_readComes) (pc := 9) (as := []) (st := [.int x1, .ref 4]) (r_X4_readNumber  e3) miX4_readNumber lk_X4_72 dX4_readComes_9 k_25 rfl (Nat.le_of_ble_eq_true rfl) (Nat.le_of_ble_eq_true rfl) rfl ?_
  clear e3
  obtain ⟨g4, hF⟩ := gd_some hF
  refine s_iast (Y := YX4_readComes) (pc := 12) dX4_readComes_12 k_4 n_4 g4 ?_
  refine g_nmM (fun M5 e => ?_)
  replace hF := ml_to e hF; clear e
  refine g_aload_n (Y := YX4_readComes) (pc := 13) 0 dX4_readComes_13 rfl ?_
  refine u_getR (Y := YX4_readComes) (pc := 14) (j := 3) dX4_readComes_14 fl_X4_15 k_25 rf_25_1 ?_
  refine u_getR (Y := YX4_readComes) (pc := 17) (j := 4) dX4_readComes_17 fl_X4_69 k_3 rf_3_3 ?_
  refine g_iload_n (Y := YX4_readComes) (pc := 20) 1 dX4_readComes_20 rfl ?_
  obtain ⟨g6, hF⟩ := gd_some hF
  refine s_iald (Y := YX4_readComes) (pc := 21) dX4_readComes_21 k_4 n_4 g6 ?_
  refine g_iconst (Y := YX4_readComes) (pc := 22) dX4_readComes_22 kI_m1 ?_
  refine g_icmp_eq (Y := YX4_readComes) (pc := 23) (tgt := 30) dX4_readComes_23 rfl (fun c7 => ?_) (fun c7 => ?_)
  · replace hF := if_t c7 hF
    refine g_iconst (Y := YX4_readComes) (pc := 30) dX4_readComes_30 kI_0 ?_
    refine g_loc [] rfl ?_
    exact w_X4_readComes_31  _ _ hF
  · replace hF := if_f c7 hF
    refine g_iconst (Y := YX4_readComes) (pc := 26) dX4_readComes_26 kI_1 ?_
    refine g_goto (Y := YX4_readComes) (pc := 27) (tgt := 31) dX4_readComes_27 rfl ?_
    refine g_loc [] rfl ?_
    exact w_X4_readComes_31  _ _ hF
def f_X4_readComes (x1 : Int32) (M : Mem) : Option (Int32 × Mem) := f_X4_readComes_0 x1 M
theorem r_X4_readComes {x1 R : Int32} {M M' : Mem}  (hF : f_X4_readComes x1 M = some (R, M')) : RunS l D cy ad YX4_readComes 3 [.ref 25, .int x1] X M (some (.int R)) M' := Run.of 1 (miX4_readComes).1 (Nat.le_of_ble_eq_true rfl) (w_X4_readComes_0  _ _ hF)
def f_X4_readTongue_24  (M : Mem) : Option (Int32 × Mem) :=
  some (0, M)
set_option maxRecDepth 100000 in
theorem w_X4_readTongue_24 {R : Int32} {M' : Mem}  (M : Mem) (hF : f_X4_readTongue_24  M = some (R, M')) : RunF l D cy ad none YX4_readTongue 1 0 0 (some (.int R)) (lay X M') 0 0 24 [] [] (lay X M) := by
  unfold f_X4_readTongue_24 at hF
  refine g_iconst (Y := YX4_readTongue) (pc := 24) dX4_readTongue_24 kI_0 ?_
  exact s_zret (Y := YX4_readTongue) (pc := 25) dX4_readTongue_25 rfl (Or.inl rfl) hF
def f_X4_readTongue_0  (x1 : Int32) (M : Mem) : Option (Int32 × Mem) :=
  bd (f_X8_at (M 25 2) M) fun r1 M2 =>
  if r1 < 118 then
    f_X4_readTongue_24 M2
  else
    if 122 < r1 then
      f_X4_readTongue_24 M2
    else
      gd (0 ≤ x1 ∧ x1.toNatClampNeg < 6) <|
      ml (up M2 5 x1.toNatClampNeg (r1 - 118)) fun M7 =>
      ml (up M7 25 2 ((M7 25 2) + 1)) fun M8 =>
      some (1, M8)
set_option maxRecDepth 100000 in
theorem w_X4_readTongue_0 {R : Int32} {M' : Mem}  (x1 : Int32) (M : Mem) (hF : f_X4_readTongue_0 x1 M = some (R, M')) : RunF l D cy ad none YX4_readTongue 1 0 0 (some (.int R)) (lay X M') 0 0 0 [(0, .ref 25), (1, .int x1)] [] (lay X M) := by
  unfold f_X4_readTongue_0 at hF
  refine g_aload_n (Y := YX4_readTongue) (pc := 0) 0 dX4_readTongue_0 rfl ?_
  refine u_getR (Y := YX4_readTongue) (pc := 1) (j := 1) dX4_readTongue_1 fl_X4_9 k_25 rf_25_0 ?_
  refine g_aload_n (Y := YX4_readTongue) (pc := 4) 0 dX4_readTongue_4 rfl ?_
  refine u_getI (Y := YX4_readTongue) (pc := 5) dX4_readTongue_5 fl_X4_19 k_25 ?_
  obtain ⟨r1, M2, e3, hF⟩ := bd_some hF
  refine s_callVi (Y := YX4_readTongue) (pc := 8) (as := [.int (M 25 2)]) (st := []) (r_X8_at  e3) miX8_at lk_X4_43 dX4_readTongue_8 k_1 rfl (Nat.le_of_ble_eq_true rfl) (Nat.le_of_ble_eq_true rfl) rfl ?_
  clear e3
  refine g_istore_n (Y := YX4_readTongue) (pc := 11) (L' := [(2, .int r1), (0, .ref 25), (1, .int x1)]) dX4_readTongue_11 (Nat.le_of_ble_eq_true rfl) rfl ?_
  refine g_iload_n (Y := YX4_readTongue) (pc := 12) 0 dX4_readTongue_12 rfl ?_
  refine g_bipush (Y := YX4_readTongue) (pc := 13) dX4_readTongue_13 kB_118 ?_
  refine g_icmp_lt (Y := YX4_readTongue) (pc := 15) (tgt := 24) dX4_readTongue_15 rfl (fun c4 => ?_) (fun c4 => ?_)
  · replace hF := if_t c4 hF
    refine g_loc [] rfl ?_
    exact w_X4_readTongue_24  _ hF
  · replace hF := if_f c4 hF
    refine g_iload_n (Y := YX4_readTongue) (pc := 18) 0 dX4_readTongue_18 rfl ?_
    refine g_bipush (Y := YX4_readTongue) (pc := 19) dX4_readTongue_19 kB_122 ?_
    refine g_icmp_le (Y := YX4_readTongue) (pc := 21) (tgt := 26) dX4_readTongue_21 rfl (fun c5 => ?_) (fun c5 => ?_)
    · replace hF := if_f c5 hF
      refine g_aload_n (Y := YX4_readTongue) (pc := 26) 1 dX4_readTongue_26 rfl ?_
      refine u_getR (Y := YX4_readTongue) (pc := 27) (j := 3) dX4_readTongue_27 fl_X4_15 k_25 rf_25_1 ?_
      refine u_getR (Y := YX4_readTongue) (pc := 30) (j := 5) dX4_readTongue_30 fl_X4_76 k_3 rf_3_4 ?_
      refine g_iload_n (Y := YX4_readTongue) (pc := 33) 2 dX4_readTongue_33 rfl ?_
      refine g_iload_n (Y := YX4_readTongue) (pc := 34) 0 dX4_readTongue_34 rfl ?_
      refine g_bipush (Y := YX4_readTongue) (pc := 35) dX4_readTongue_35 kB_118 ?_
      refine g_isub (Y := YX4_readTongue) (pc := 37) dX4_readTongue_37 ?_
      obtain ⟨g6, hF⟩ := gd_some hF
      refine s_iast (Y := YX4_readTongue) (pc := 38) dX4_readTongue_38 k_5 n_5 g6 ?_
      refine g_nmM (fun M7 e => ?_)
      replace hF := ml_to e hF; clear e
      refine g_aload_n (Y := YX4_readTongue) (pc := 39) 1 dX4_readTongue_39 rfl ?_
      refine g_dup (Y := YX4_readTongue) (pc := 40) dX4_readTongue_40 rfl ?_
      refine u_getI (Y := YX4_readTongue) (pc := 41) dX4_readTongue_41 fl_X4_19 k_25 ?_
      refine g_iconst (Y := YX4_readTongue) (pc := 44) dX4_readTongue_44 kI_1 ?_
      refine g_iadd (Y := YX4_readTongue) (pc := 45) dX4_readTongue_45 ?_
      refine u_putI (Y := YX4_readTongue) (pc := 46) dX4_readTongue_46 fl_X4_19  k_25 ?_
      refine g_nmM (fun M8 e => ?_)
      replace hF := ml_to e hF; clear e
      refine g_iconst (Y := YX4_readTongue) (pc := 49) dX4_readTongue_49 kI_1 ?_
      exact s_zret (Y := YX4_readTongue) (pc := 50) dX4_readTongue_50 rfl (Or.inr rfl) hF
    · replace hF := if_t c5 hF
      refine g_loc [] rfl ?_
      exact w_X4_readTongue_24  _ hF
def f_X4_readTongue (x1 : Int32) (M : Mem) : Option (Int32 × Mem) := f_X4_readTongue_0 x1 M
theorem r_X4_readTongue {x1 R : Int32} {M M' : Mem}  (hF : f_X4_readTongue x1 M = some (R, M')) : RunS l D cy ad YX4_readTongue 1 [.ref 25, .int x1] X M (some (.int R)) M' := Run.of 1 (miX4_readTongue).1 (Nat.le_of_ble_eq_true rfl) (w_X4_readTongue_0  _ _ hF)
def f_X4_readSize_23  (M : Mem) : Option (Int32 × Mem) :=
  ml (up M 25 2 ((M 25 2) - 1)) fun M6 =>
  some (0, M6)
set_option maxRecDepth 100000 in
theorem w_X4_readSize_23 {R : Int32} {M' : Mem}  (M : Mem) (hF : f_X4_readSize_23  M = some (R, M')) : RunF l D cy ad none YX4_readSize 3 0 0 (some (.int R)) (lay X M') 0 0 23 [(0, .ref 25)] [] (lay X M) := by
  unfold f_X4_readSize_23 at hF
  refine g_aload_n (Y := YX4_readSize) (pc := 23) 0 dX4_readSize_23 rfl ?_
  refine g_dup (Y := YX4_readSize) (pc := 24) dX4_readSize_24 rfl ?_
  refine u_getI (Y := YX4_readSize) (pc := 25) dX4_readSize_25 fl_X4_19 k_25 ?_
  refine g_iconst (Y := YX4_readSize) (pc := 28) dX4_readSize_28 kI_1 ?_
  refine g_isub (Y := YX4_readSize) (pc := 29) dX4_readSize_29 ?_
  refine u_putI (Y := YX4_readSize) (pc := 30) dX4_readSize_30 fl_X4_19  k_25 ?_
  refine g_nmM (fun M6 e => ?_)
  replace hF := ml_to e hF; clear e
  refine g_iconst (Y := YX4_readSize) (pc := 33) dX4_readSize_33 kI_0 ?_
  exact s_zret (Y := YX4_readSize) (pc := 34) dX4_readSize_34 rfl (Or.inl rfl) hF
def f_X4_readSize_0  (x1 : Int32) (M : Mem) : Option (Int32 × Mem) :=
  bd (f_X4_readNumber M) fun r1 M2 =>
  if r1 = (-1) then
    some (0, M2)
  else
    if r1 < 1 then
      f_X4_readSize_23 M2
    else
      if 40 < r1 then
        f_X4_readSize_23 M2
      else
        gd (0 ≤ x1 ∧ x1.toNatClampNeg < 6) <|
        ml (up M2 6 x1.toNatClampNeg r1) fun M9 =>
        some (1, M9)
set_option maxRecDepth 100000 in
theorem w_X4_readSize_0 {R : Int32} {M' : Mem}  (x1 : Int32) (M : Mem) (hF : f_X4_readSize_0 x1 M = some (R, M')) : RunF l D cy ad none YX4_readSize 3 0 0 (some (.int R)) (lay X M') 0 0 0 [(0, .ref 25), (1, .int x1)] [] (lay X M) := by
  unfold f_X4_readSize_0 at hF
  refine g_aload_n (Y := YX4_readSize) (pc := 0) 0 dX4_readSize_0 rfl ?_
  obtain ⟨r1, M2, e3, hF⟩ := bd_some hF
  refine s_callVi (Y := YX4_readSize) (pc := 1) (as := []) (st := []) (r_X4_readNumber  e3) miX4_readNumber lk_X4_72 dX4_readSize_1 k_25 rfl (Nat.le_of_ble_eq_true rfl) (Nat.le_of_ble_eq_true rfl) rfl ?_
  clear e3
  refine g_istore_n (Y := YX4_readSize) (pc := 4) (L' := [(2, .int r1), (0, .ref 25), (1, .int x1)]) dX4_readSize_4 (Nat.le_of_ble_eq_true rfl) rfl ?_
  refine g_iload_n (Y := YX4_readSize) (pc := 5) 0 dX4_readSize_5 rfl ?_
  refine g_iconst (Y := YX4_readSize) (pc := 6) dX4_readSize_6 kI_m1 ?_
  refine g_icmp_ne (Y := YX4_readSize) (pc := 7) (tgt := 12) dX4_readSize_7 rfl (fun c4 => ?_) (fun c4 => ?_)
  · replace hF := if_f c4 hF
    refine g_iload_n (Y := YX4_readSize) (pc := 12) 0 dX4_readSize_12 rfl ?_
    refine g_iconst (Y := YX4_readSize) (pc := 13) dX4_readSize_13 kI_1 ?_
    refine g_icmp_lt (Y := YX4_readSize) (pc := 14) (tgt := 23) dX4_readSize_14 rfl (fun c5 => ?_) (fun c5 => ?_)
    · replace hF := if_t c5 hF
      refine g_loc [1] rfl ?_
      exact w_X4_readSize_23  _ hF
    · replace hF := if_f c5 hF
      refine g_iload_n (Y := YX4_readSize) (pc := 17) 0 dX4_readSize_17 rfl ?_
      refine g_bipush (Y := YX4_readSize) (pc := 18) dX4_readSize_18 kB_40 ?_
      refine g_icmp_le (Y := YX4_readSize) (pc := 20) (tgt := 35) dX4_readSize_20 rfl (fun c7 => ?_) (fun c7 => ?_)
      · replace hF := if_f c7 hF
        refine g_aload_n (Y := YX4_readSize) (pc := 35) 1 dX4_readSize_35 rfl ?_
        refine u_getR (Y := YX4_readSize) (pc := 36) (j := 3) dX4_readSize_36 fl_X4_15 k_25 rf_25_1 ?_
        refine u_getR (Y := YX4_readSize) (pc := 39) (j := 6) dX4_readSize_39 fl_X4_79 k_3 rf_3_5 ?_
        refine g_iload_n (Y := YX4_readSize) (pc := 42) 2 dX4_readSize_42 rfl ?_
        refine g_iload_n (Y := YX4_readSize) (pc := 43) 0 dX4_readSize_43 rfl ?_
        obtain ⟨g8, hF⟩ := gd_some hF
        refine s_iast (Y := YX4_readSize) (pc := 44) dX4_readSize_44 k_6 n_6 g8 ?_
        refine g_nmM (fun M9 e => ?_)
        replace hF := ml_to e hF; clear e
        refine g_iconst (Y := YX4_readSize) (pc := 45) dX4_readSize_45 kI_1 ?_
        exact s_zret (Y := YX4_readSize) (pc := 46) dX4_readSize_46 rfl (Or.inr rfl) hF
      · replace hF := if_t c7 hF
        refine g_loc [1] rfl ?_
        exact w_X4_readSize_23  _ hF
  · replace hF := if_t c4 hF
    refine g_iconst (Y := YX4_readSize) (pc := 10) dX4_readSize_10 kI_0 ?_
    exact s_zret (Y := YX4_readSize) (pc := 11) dX4_readSize_11 rfl (Or.inl rfl) hF
def f_X4_readSize (x1 : Int32) (M : Mem) : Option (Int32 × Mem) := f_X4_readSize_0 x1 M
theorem r_X4_readSize {x1 R : Int32} {M M' : Mem}  (hF : f_X4_readSize x1 M = some (R, M')) : RunS l D cy ad YX4_readSize 3 [.ref 25, .int x1] X M (some (.int R)) M' := Run.of 1 (miX4_readSize).1 (Nat.le_of_ble_eq_true rfl) (w_X4_readSize_0  _ _ hF)
def f_X4_readWay_45  (t1 : Int32) (t0 : Int32) (M : Mem) : Option (Int32 × Mem) :=
  gd (0 ≤ t1 ∧ t1.toNatClampNeg < 6) <|
  ml (up M 7 t1.toNatClampNeg t0) fun M7 =>
  ml (up M7 25 2 ((M7 25 2) + 1)) fun M8 =>
  some (1, M8)
set_option maxRecDepth 100000 in
theorem w_X4_readWay_45 {R : Int32} {M' : Mem}  (t1 t0 : Int32) (M : Mem) (hF : f_X4_readWay_45 t1 t0 M = some (R, M')) : RunF l D cy ad none YX4_readWay 1 0 0 (some (.int R)) (lay X M') 0 0 45 [(0, .ref 25)] [.int t0, .int t1, .ref 7] (lay X M) := by
  unfold f_X4_readWay_45 at hF
  obtain ⟨g6, hF⟩ := gd_some hF
  refine s_iast (Y := YX4_readWay) (pc := 45) dX4_readWay_45 k_7 n_7 g6 ?_
  refine g_nmM (fun M7 e => ?_)
  replace hF := ml_to e hF; clear e
  refine g_aload_n (Y := YX4_readWay) (pc := 46) 0 dX4_readWay_46 rfl ?_
  refine g_dup (Y := YX4_readWay) (pc := 47) dX4_readWay_47 rfl ?_
  refine u_getI (Y := YX4_readWay) (pc := 48) dX4_readWay_48 fl_X4_19 k_25 ?_
  refine g_iconst (Y := YX4_readWay) (pc := 51) dX4_readWay_51 kI_1 ?_
  refine g_iadd (Y := YX4_readWay) (pc := 52) dX4_readWay_52 ?_
  refine u_putI (Y := YX4_readWay) (pc := 53) dX4_readWay_53 fl_X4_19  k_25 ?_
  refine g_nmM (fun M8 e => ?_)
  replace hF := ml_to e hF; clear e
  refine g_iconst (Y := YX4_readWay) (pc := 56) dX4_readWay_56 kI_1 ?_
  exact s_zret (Y := YX4_readWay) (pc := 57) dX4_readWay_57 rfl (Or.inr rfl) hF
def f_X4_readWay_26  (x1 : Int32) (x2 : Int32) (M : Mem) : Option (Int32 × Mem) :=
  if x2 = 60 then
    f_X4_readWay_45 x1 1 M
  else
    f_X4_readWay_45 x1 0 M
set_option maxRecDepth 100000 in
theorem w_X4_readWay_26 {R : Int32} {M' : Mem}  (x1 x2 : Int32) (M : Mem) (hF : f_X4_readWay_26 x1 x2 M = some (R, M')) : RunF l D cy ad none YX4_readWay 1 0 0 (some (.int R)) (lay X M') 0 0 26 [(0, .ref 25), (1, .int x1), (2, .int x2)] [] (lay X M) := by
  unfold f_X4_readWay_26 at hF
  refine g_aload_n (Y := YX4_readWay) (pc := 26) 0 dX4_readWay_26 rfl ?_
  refine u_getR (Y := YX4_readWay) (pc := 27) (j := 3) dX4_readWay_27 fl_X4_15 k_25 rf_25_1 ?_
  refine u_getR (Y := YX4_readWay) (pc := 30) (j := 7) dX4_readWay_30 fl_X4_82 k_3 rf_3_6 ?_
  refine g_iload_n (Y := YX4_readWay) (pc := 33) 1 dX4_readWay_33 rfl ?_
  refine g_iload_n (Y := YX4_readWay) (pc := 34) 2 dX4_readWay_34 rfl ?_
  refine g_bipush (Y := YX4_readWay) (pc := 35) dX4_readWay_35 kB_60 ?_
  refine g_icmp_ne (Y := YX4_readWay) (pc := 37) (tgt := 44) dX4_readWay_37 rfl (fun c5 => ?_) (fun c5 => ?_)
  · replace hF := if_f c5 hF
    refine g_iconst (Y := YX4_readWay) (pc := 44) dX4_readWay_44 kI_0 ?_
    refine g_loc [0] rfl ?_
    exact w_X4_readWay_45  _ _ _ hF
  · replace hF := if_t c5 hF
    refine g_iconst (Y := YX4_readWay) (pc := 40) dX4_readWay_40 kI_1 ?_
    refine g_goto (Y := YX4_readWay) (pc := 41) (tgt := 45) dX4_readWay_41 rfl ?_
    refine g_loc [0] rfl ?_
    exact w_X4_readWay_45  _ _ _ hF
def f_X4_readWay_0  (x1 : Int32) (M : Mem) : Option (Int32 × Mem) :=
  bd (f_X8_at (M 25 2) M) fun r1 M2 =>
  if r1 = 62 then
    f_X4_readWay_26 x1 r1 M2
  else
    if r1 = 60 then
      f_X4_readWay_26 x1 r1 M2
    else
      some (0, M2)
set_option maxRecDepth 100000 in
theorem w_X4_readWay_0 {R : Int32} {M' : Mem}  (x1 : Int32) (M : Mem) (hF : f_X4_readWay_0 x1 M = some (R, M')) : RunF l D cy ad none YX4_readWay 1 0 0 (some (.int R)) (lay X M') 0 0 0 [(0, .ref 25), (1, .int x1)] [] (lay X M) := by
  unfold f_X4_readWay_0 at hF
  refine g_aload_n (Y := YX4_readWay) (pc := 0) 0 dX4_readWay_0 rfl ?_
  refine u_getR (Y := YX4_readWay) (pc := 1) (j := 1) dX4_readWay_1 fl_X4_9 k_25 rf_25_0 ?_
  refine g_aload_n (Y := YX4_readWay) (pc := 4) 0 dX4_readWay_4 rfl ?_
  refine u_getI (Y := YX4_readWay) (pc := 5) dX4_readWay_5 fl_X4_19 k_25 ?_
  obtain ⟨r1, M2, e3, hF⟩ := bd_some hF
  refine s_callVi (Y := YX4_readWay) (pc := 8) (as := [.int (M 25 2)]) (st := []) (r_X8_at  e3) miX8_at lk_X4_43 dX4_readWay_8 k_1 rfl (Nat.le_of_ble_eq_true rfl) (Nat.le_of_ble_eq_true rfl) rfl ?_
  clear e3
  refine g_istore_n (Y := YX4_readWay) (pc := 11) (L' := [(2, .int r1), (0, .ref 25), (1, .int x1)]) dX4_readWay_11 (Nat.le_of_ble_eq_true rfl) rfl ?_
  refine g_iload_n (Y := YX4_readWay) (pc := 12) 0 dX4_readWay_12 rfl ?_
  refine g_bipush (Y := YX4_readWay) (pc := 13) dX4_readWay_13 kB_62 ?_
  refine g_icmp_eq (Y := YX4_readWay) (pc := 15) (tgt := 26) dX4_readWay_15 rfl (fun c4 => ?_) (fun c4 => ?_)
  · replace hF := if_t c4 hF
    refine g_loc [1, 2, 0] rfl ?_
    exact w_X4_readWay_26  _ _ _ hF
  · replace hF := if_f c4 hF
    refine g_iload_n (Y := YX4_readWay) (pc := 18) 0 dX4_readWay_18 rfl ?_
    refine g_bipush (Y := YX4_readWay) (pc := 19) dX4_readWay_19 kB_60 ?_
    refine g_icmp_eq (Y := YX4_readWay) (pc := 21) (tgt := 26) dX4_readWay_21 rfl (fun c9 => ?_) (fun c9 => ?_)
    · replace hF := if_t c9 hF
      refine g_loc [1, 2, 0] rfl ?_
      exact w_X4_readWay_26  _ _ _ hF
    · replace hF := if_f c9 hF
      refine g_iconst (Y := YX4_readWay) (pc := 24) dX4_readWay_24 kI_0 ?_
      exact s_zret (Y := YX4_readWay) (pc := 25) dX4_readWay_25 rfl (Or.inl rfl) hF
def f_X4_readWay (x1 : Int32) (M : Mem) : Option (Int32 × Mem) := f_X4_readWay_0 x1 M
theorem r_X4_readWay {x1 R : Int32} {M M' : Mem}  (hF : f_X4_readWay x1 M = some (R, M')) : RunS l D cy ad YX4_readWay 1 [.ref 25, .int x1] X M (some (.int R)) M' := Run.of 1 (miX4_readWay).1 (Nat.le_of_ble_eq_true rfl) (w_X4_readWay_0  _ _ hF)
def f_X4_readTold_2  : Nat → Int32 → Int32 → Mem → Option (Int32 × Mem)
  | 0, _, _, _ => none
  | n + 1, x1, x2, M =>
    if x2 < (M 3 0) then
      bd (f_X8_digitAt (M 25 2) M) fun r2 M3 =>
      if r2 = (-1) then
        some (0, M3)
      else
        gd (0 ≤ x1 ∧ x1.toNatClampNeg < 6) <|
        gd (0 ≤ x2 ∧ x2.toNatClampNeg < 6) <|
        ml (up M3 (10 + x1.toNatClampNeg) x2.toNatClampNeg r2) fun M8 =>
        ml (up M8 25 2 ((M8 25 2) + 1)) fun M9 =>
        vl (x2 + 1) fun v10 =>
        f_X4_readTold_2 n x1 v10 M9
    else
      some (1, M)
set_option maxRecDepth 100000 in
theorem w_X4_readTold_2 {R : Int32} {M' : Mem}  : ∀ (n : Nat) (x1 x2 : Int32) (M : Mem), f_X4_readTold_2 n x1 x2 M = some (R, M') → RunF l D cy ad none YX4_readTold 2 0 0 (some (.int R)) (lay X M') 0 0 2 [(0, .ref 25), (1, .int x1), (2, .int x2)] [] (lay X M) := by
  intro n
  induction n with
  | zero => intro x1 x2 M hF; exact absurd hF (by unfold f_X4_readTold_2; exact fun h => nomatch h)
  | succ n ih =>
    intro x1 x2 M hF
    unfold f_X4_readTold_2 at hF
    refine g_iload_n (Y := YX4_readTold) (pc := 2) 2 dX4_readTold_2 rfl ?_
    refine g_aload_n (Y := YX4_readTold) (pc := 3) 0 dX4_readTold_3 rfl ?_
    refine u_getR (Y := YX4_readTold) (pc := 4) (j := 3) dX4_readTold_4 fl_X4_15 k_25 rf_25_1 ?_
    refine u_getI (Y := YX4_readTold) (pc := 7) dX4_readTold_7 fl_X4_36 k_3 ?_
    refine g_icmp_ge (Y := YX4_readTold) (pc := 10) (tgt := 60) dX4_readTold_10 rfl (fun c1 => ?_) (fun c1 => ?_)
    · replace hF := if_f c1 hF
      refine g_iconst (Y := YX4_readTold) (pc := 60) dX4_readTold_60 kI_1 ?_
      exact s_zret (Y := YX4_readTold) (pc := 61) dX4_readTold_61 rfl (Or.inr rfl) hF
    · replace hF := if_t c1 hF
      refine g_aload_n (Y := YX4_readTold) (pc := 13) 0 dX4_readTold_13 rfl ?_
      refine u_getR (Y := YX4_readTold) (pc := 14) (j := 1) dX4_readTold_14 fl_X4_9 k_25 rf_25_0 ?_
      refine g_aload_n (Y := YX4_readTold) (pc := 17) 0 dX4_readTold_17 rfl ?_
      refine u_getI (Y := YX4_readTold) (pc := 18) dX4_readTold_18 fl_X4_19 k_25 ?_
      obtain ⟨r2, M3, e4, hF⟩ := bd_some hF
      refine s_callVi (Y := YX4_readTold) (pc := 21) (as := [.int (M 25 2)]) (st := []) (r_X8_digitAt  e4) miX8_digitAt lk_X4_66 dX4_readTold_21 k_1 rfl (Nat.le_of_ble_eq_true rfl) (Nat.le_of_ble_eq_true rfl) rfl ?_
      clear e4
      refine g_istore_n (Y := YX4_readTold) (pc := 24) (L' := [(3, .int r2), (0, .ref 25), (1, .int x1), (2, .int x2)]) dX4_readTold_24 (Nat.le_of_ble_eq_true rfl) rfl ?_
      refine g_iload_n (Y := YX4_readTold) (pc := 25) 0 dX4_readTold_25 rfl ?_
      refine g_iconst (Y := YX4_readTold) (pc := 26) dX4_readTold_26 kI_m1 ?_
      refine g_icmp_ne (Y := YX4_readTold) (pc := 27) (tgt := 32) dX4_readTold_27 rfl (fun c5 => ?_) (fun c5 => ?_)
      · replace hF := if_f c5 hF
        refine g_aload_n (Y := YX4_readTold) (pc := 32) 1 dX4_readTold_32 rfl ?_
        refine u_getR (Y := YX4_readTold) (pc := 33) (j := 3) dX4_readTold_33 fl_X4_15 k_25 rf_25_1 ?_
        refine u_getR (Y := YX4_readTold) (pc := 36) (j := 9) dX4_readTold_36 fl_X4_85 k_3 rf_3_8 ?_
        refine g_iload_n (Y := YX4_readTold) (pc := 39) 2 dX4_readTold_39 rfl ?_
        obtain ⟨g6, hF⟩ := gd_some hF
        refine s_aaldA (Y := YX4_readTold) (pc := 40) dX4_readTold_40 k_9 n_9 g6 (told_r g6.2) ?_
        refine g_iload_n (Y := YX4_readTold) (pc := 41) 3 dX4_readTold_41 rfl ?_
        refine g_iload_n (Y := YX4_readTold) (pc := 42) 0 dX4_readTold_42 rfl ?_
        obtain ⟨g7, hF⟩ := gd_some hF
        refine s_iast (Y := YX4_readTold) (pc := 43) dX4_readTold_43 (told_all _ g6.2).2.1 (told_all _ g6.2).2.2 g7 ?_
        refine g_nmM (fun M8 e => ?_)
        replace hF := ml_to e hF; clear e
        refine g_aload_n (Y := YX4_readTold) (pc := 44) 1 dX4_readTold_44 rfl ?_
        refine g_dup (Y := YX4_readTold) (pc := 45) dX4_readTold_45 rfl ?_
        refine u_getI (Y := YX4_readTold) (pc := 46) dX4_readTold_46 fl_X4_19 k_25 ?_
        refine g_iconst (Y := YX4_readTold) (pc := 49) dX4_readTold_49 kI_1 ?_
        refine g_iadd (Y := YX4_readTold) (pc := 50) dX4_readTold_50 ?_
        refine u_putI (Y := YX4_readTold) (pc := 51) dX4_readTold_51 fl_X4_19  k_25 ?_
        refine g_nmM (fun M9 e => ?_)
        replace hF := ml_to e hF; clear e
        refine s_iinc (Y := YX4_readTold) (pc := 54) (j := 3) (L' := fun y => [(2, .int y), (3, .int r2), (0, .ref 25), (1, .int x1)]) dX4_readTold_54 kI_1 rfl (Nat.le_of_ble_eq_true rfl) (fun _ => rfl) (fun v10 e => ?_)
        replace hF := vl_to e hF; clear e
        refine g_goto (Y := YX4_readTold) (pc := 57) (tgt := 2) dX4_readTold_57 rfl ?_
        refine g_loc [2, 3, 0] rfl ?_
        exact ih _ _ _ hF
      · replace hF := if_t c5 hF
        refine g_iconst (Y := YX4_readTold) (pc := 30) dX4_readTold_30 kI_0 ?_
        exact s_zret (Y := YX4_readTold) (pc := 31) dX4_readTold_31 rfl (Or.inl rfl) hF
def f_X4_readTold_0  (x1 : Int32) (M : Mem) : Option (Int32 × Mem) :=
  f_X4_readTold_2 FU x1 0 M
set_option maxRecDepth 100000 in
theorem w_X4_readTold_0 {R : Int32} {M' : Mem}  (x1 : Int32) (M : Mem) (hF : f_X4_readTold_0 x1 M = some (R, M')) : RunF l D cy ad none YX4_readTold 2 0 0 (some (.int R)) (lay X M') 0 0 0 [(0, .ref 25), (1, .int x1)] [] (lay X M) := by
  unfold f_X4_readTold_0 at hF
  refine g_iconst (Y := YX4_readTold) (pc := 0) dX4_readTold_0 kI_0 ?_
  refine g_istore_n (Y := YX4_readTold) (pc := 1) (L' := [(2, .int 0), (0, .ref 25), (1, .int x1)]) dX4_readTold_1 (Nat.le_of_ble_eq_true rfl) rfl ?_
  refine g_loc [1, 2, 0] rfl ?_
  exact w_X4_readTold_2  _ _ _ _ hF
def f_X4_readTold (x1 : Int32) (M : Mem) : Option (Int32 × Mem) := f_X4_readTold_0 x1 M
theorem r_X4_readTold {x1 R : Int32} {M M' : Mem}  (hF : f_X4_readTold x1 M = some (R, M')) : RunS l D cy ad YX4_readTold 2 [.ref 25, .int x1] X M (some (.int R)) M' := Run.of 1 (miX4_readTold).1 (Nat.le_of_ble_eq_true rfl) (w_X4_readTold_0  _ _ hF)
def f_X4_readLine_55  (t0 : Int32) (M : Mem) : Option (Int32 × Mem) :=
  gd (t0 = 0 ∨ t0 = 1) <|
  some (t0, M)
set_option maxRecDepth 100000 in
theorem w_X4_readLine_55 {R : Int32} {M' : Mem}  (t0 : Int32) (M : Mem) (hF : f_X4_readLine_55 t0 M = some (R, M')) : RunF l D cy ad none YX4_readLine 4 0 0 (some (.int R)) (lay X M') 0 0 55 [] [.int t0] (lay X M) := by
  unfold f_X4_readLine_55 at hF
  obtain ⟨g7, hF⟩ := gd_some hF
  exact s_zret (Y := YX4_readLine) (pc := 55) dX4_readLine_55 rfl g7 hF
def f_X4_readLine_54  (M : Mem) : Option (Int32 × Mem) :=
  f_X4_readLine_55 0 M
set_option maxRecDepth 100000 in
theorem w_X4_readLine_54 {R : Int32} {M' : Mem}  (M : Mem) (hF : f_X4_readLine_54  M = some (R, M')) : RunF l D cy ad none YX4_readLine 4 0 0 (some (.int R)) (lay X M') 0 0 54 [] [] (lay X M) := by
  unfold f_X4_readLine_54 at hF
  refine g_iconst (Y := YX4_readLine) (pc := 54) dX4_readLine_54 kI_0 ?_
  exact w_X4_readLine_55  _ _ hF
def f_X4_readLine_0  (x1 : Int32) (M : Mem) : Option (Int32 × Mem) :=
  gd (0 ≤ x1 ∧ x1.toNatClampNeg < 6) <|
  ml (up M 8 x1.toNatClampNeg 0) fun M2 =>
  bd (f_X4_readComes x1 M2) fun r3 M4 =>
  if r3 = 0 then
    f_X4_readLine_54 M4
  else
    bd (f_X4_readTongue x1 M4) fun r8 M9 =>
    if r8 = 0 then
      f_X4_readLine_54 M9
    else
      bd (f_X4_readSize x1 M9) fun r12 M13 =>
      if r12 = 0 then
        f_X4_readLine_54 M13
      else
        bd (f_X4_readWay x1 M13) fun r16 M17 =>
        if r16 = 0 then
          f_X4_readLine_54 M17
        else
          bd (f_X4_readTold x1 M17) fun r20 M21 =>
          if r20 = 0 then
            f_X4_readLine_54 M21
          else
            f_X4_readLine_55 1 M21
set_option maxRecDepth 100000 in
theorem w_X4_readLine_0 {R : Int32} {M' : Mem}  (x1 : Int32) (M : Mem) (hF : f_X4_readLine_0 x1 M = some (R, M')) : RunF l D cy ad none YX4_readLine 4 0 0 (some (.int R)) (lay X M') 0 0 0 [(0, .ref 25), (1, .int x1)] [] (lay X M) := by
  unfold f_X4_readLine_0 at hF
  refine g_aload_n (Y := YX4_readLine) (pc := 0) 0 dX4_readLine_0 rfl ?_
  refine u_getR (Y := YX4_readLine) (pc := 1) (j := 3) dX4_readLine_1 fl_X4_15 k_25 rf_25_1 ?_
  refine u_getR (Y := YX4_readLine) (pc := 4) (j := 8) dX4_readLine_4 fl_X4_47 k_3 rf_3_7 ?_
  refine g_iload_n (Y := YX4_readLine) (pc := 7) 1 dX4_readLine_7 rfl ?_
  refine g_iconst (Y := YX4_readLine) (pc := 8) dX4_readLine_8 kI_0 ?_
  obtain ⟨g1, hF⟩ := gd_some hF
  refine s_iast (Y := YX4_readLine) (pc := 9) dX4_readLine_9 k_8 n_8 g1 ?_
  refine g_nmM (fun M2 e => ?_)
  replace hF := ml_to e hF; clear e
  refine g_aload_n (Y := YX4_readLine) (pc := 10) 0 dX4_readLine_10 rfl ?_
  refine g_iload_n (Y := YX4_readLine) (pc := 11) 1 dX4_readLine_11 rfl ?_
  obtain ⟨r3, M4, e5, hF⟩ := bd_some hF
  refine s_callVi (Y := YX4_readLine) (pc := 12) (as := [.int x1]) (st := []) (r_X4_readComes  e5) miX4_readComes lk_X4_51 dX4_readLine_12 k_25 rfl (Nat.le_of_ble_eq_true rfl) (Nat.le_of_ble_eq_true rfl) rfl ?_
  clear e5
  refine g_if_eq (Y := YX4_readLine) (pc := 15) (tgt := 54) dX4_readLine_15 rfl (fun c6 => ?_) (fun c6 => ?_)
  · replace hF := if_t c6 hF
    refine g_loc [] rfl ?_
    exact w_X4_readLine_54  _ hF
  · replace hF := if_f c6 hF
    refine g_aload_n (Y := YX4_readLine) (pc := 18) 0 dX4_readLine_18 rfl ?_
    refine g_iload_n (Y := YX4_readLine) (pc := 19) 1 dX4_readLine_19 rfl ?_
    obtain ⟨r8, M9, e10, hF⟩ := bd_some hF
    refine s_callVi (Y := YX4_readLine) (pc := 20) (as := [.int x1]) (st := []) (r_X4_readTongue  e10) miX4_readTongue lk_X4_54 dX4_readLine_20 k_25 rfl (Nat.le_of_ble_eq_true rfl) (Nat.le_of_ble_eq_true rfl) rfl ?_
    clear e10
    refine g_if_eq (Y := YX4_readLine) (pc := 23) (tgt := 54) dX4_readLine_23 rfl (fun c11 => ?_) (fun c11 => ?_)
    · replace hF := if_t c11 hF
      refine g_loc [] rfl ?_
      exact w_X4_readLine_54  _ hF
    · replace hF := if_f c11 hF
      refine g_aload_n (Y := YX4_readLine) (pc := 26) 0 dX4_readLine_26 rfl ?_
      refine g_iload_n (Y := YX4_readLine) (pc := 27) 1 dX4_readLine_27 rfl ?_
      obtain ⟨r12, M13, e14, hF⟩ := bd_some hF
      refine s_callVi (Y := YX4_readLine) (pc := 28) (as := [.int x1]) (st := []) (r_X4_readSize  e14) miX4_readSize lk_X4_57 dX4_readLine_28 k_25 rfl (Nat.le_of_ble_eq_true rfl) (Nat.le_of_ble_eq_true rfl) rfl ?_
      clear e14
      refine g_if_eq (Y := YX4_readLine) (pc := 31) (tgt := 54) dX4_readLine_31 rfl (fun c15 => ?_) (fun c15 => ?_)
      · replace hF := if_t c15 hF
        refine g_loc [] rfl ?_
        exact w_X4_readLine_54  _ hF
      · replace hF := if_f c15 hF
        refine g_aload_n (Y := YX4_readLine) (pc := 34) 0 dX4_readLine_34 rfl ?_
        refine g_iload_n (Y := YX4_readLine) (pc := 35) 1 dX4_readLine_35 rfl ?_
        obtain ⟨r16, M17, e18, hF⟩ := bd_some hF
        refine s_callVi (Y := YX4_readLine) (pc := 36) (as := [.int x1]) (st := []) (r_X4_readWay  e18) miX4_readWay lk_X4_60 dX4_readLine_36 k_25 rfl (Nat.le_of_ble_eq_true rfl) (Nat.le_of_ble_eq_true rfl) rfl ?_
        clear e18
        refine g_if_eq (Y := YX4_readLine) (pc := 39) (tgt := 54) dX4_readLine_39 rfl (fun c19 => ?_) (fun c19 => ?_)
        · replace hF := if_t c19 hF
          refine g_loc [] rfl ?_
          exact w_X4_readLine_54  _ hF
        · replace hF := if_f c19 hF
          refine g_aload_n (Y := YX4_readLine) (pc := 42) 0 dX4_readLine_42 rfl ?_
          refine g_iload_n (Y := YX4_readLine) (pc := 43) 1 dX4_readLine_43 rfl ?_
          obtain ⟨r20, M21, e22, hF⟩ := bd_some hF
          refine s_callVi (Y := YX4_readLine) (pc := 44) (as := [.int x1]) (st := []) (r_X4_readTold  e22) miX4_readTold lk_X4_63 dX4_readLine_44 k_25 rfl (Nat.le_of_ble_eq_true rfl) (Nat.le_of_ble_eq_true rfl) rfl ?_
          clear e22
          refine g_if_eq (Y := YX4_readLine) (pc := 47) (tgt := 54) dX4_readLine_47 rfl (fun c23 => ?_) (fun c23 => ?_)
          · replace hF := if_t c23 hF
            refine g_loc [] rfl ?_
            exact w_X4_readLine_54  _ hF
          · replace hF := if_f c23 hF
            refine g_iconst (Y := YX4_readLine) (pc := 50) dX4_readLine_50 kI_1 ?_
            refine g_goto (Y := YX4_readLine) (pc := 51) (tgt := 55) dX4_readLine_51 rfl ?_
            refine g_loc [] rfl ?_
            exact w_X4_readLine_55  _ _ hF
def f_X4_readLine (x1 : Int32) (M : Mem) : Option (Int32 × Mem) := f_X4_readLine_0 x1 M
theorem r_X4_readLine {x1 R : Int32} {M M' : Mem}  (hF : f_X4_readLine x1 M = some (R, M')) : RunS l D cy ad YX4_readLine 4 [.ref 25, .int x1] X M (some (.int R)) M' := Run.of 1 (miX4_readLine).1 (Nat.le_of_ble_eq_true rfl) (w_X4_readLine_0  _ _ hF)
def f_X4_read_72  (M : Mem) : Option (Int32 × Mem) :=
  some (((-1) - (M 25 2)), M)
set_option maxRecDepth 100000 in
theorem w_X4_read_72 {R : Int32} {M' : Mem}  (M : Mem) (hF : f_X4_read_72  M = some (R, M')) : RunF l D cy ad none YX4_read 5 0 0 (some (.int R)) (lay X M') 0 0 72 [(0, .ref 25)] [] (lay X M) := by
  unfold f_X4_read_72 at hF
  refine g_iconst (Y := YX4_read) (pc := 72) dX4_read_72 kI_m1 ?_
  refine g_aload_n (Y := YX4_read) (pc := 73) 0 dX4_read_73 rfl ?_
  refine u_getI (Y := YX4_read) (pc := 74) dX4_read_74 fl_X4_19 k_25 ?_
  refine g_isub (Y := YX4_read) (pc := 77) dX4_read_77 ?_
  exact s_iret (Y := YX4_read) (pc := 78) dX4_read_78 rfl hF
def f_X4_read_28  : Nat → Int32 → Mem → Option (Int32 × Mem)
  | 0, _, _ => none
  | n + 1, x1, M =>
    if 6 < x1 then
      some (((-1) - (M 25 2)), M)
    else
      vl (((M 3 2) + x1)) fun v5 =>
      if (M 3 0) = 0 then
        f_X4_read_72 M
      else
        if v5 < 0 then
          f_X4_read_72 M
        else
          if v5 < 6 then
            bd (f_X4_readLine v5 M) fun r9 M10 =>
            if r9 = 0 then
              f_X4_read_72 M10
            else
              bd (f_X8_at (M10 25 2) M10) fun r13 M14 =>
              if r13 = (-1) then
                some ((x1 + 1), M14)
              else
                bd (f_X8_at (M14 25 2) M14) fun r17 M18 =>
                if r17 = 59 then
                  ml (up M18 25 2 ((M18 25 2) + 1)) fun M21 =>
                  vl (x1 + 1) fun v22 =>
                  f_X4_read_28 n v22 M21
                else
                  some (((-1) - (M18 25 2)), M18)
          else
            f_X4_read_72 M
set_option maxRecDepth 100000 in
theorem w_X4_read_28 {R : Int32} {M' : Mem}  : ∀ (n : Nat) (x1 : Int32) (M : Mem), f_X4_read_28 n x1 M = some (R, M') → RunF l D cy ad none YX4_read 5 0 0 (some (.int R)) (lay X M') 0 0 28 [(0, .ref 25), (1, .int x1)] [] (lay X M) := by
  intro n
  induction n with
  | zero => intro x1 M hF; exact absurd hF (by unfold f_X4_read_28; exact fun h => nomatch h)
  | succ n ih =>
    intro x1 M hF
    unfold f_X4_read_28 at hF
    refine g_iload_n (Y := YX4_read) (pc := 28) 1 dX4_read_28 rfl ?_
    refine g_bipush (Y := YX4_read) (pc := 29) dX4_read_29 kB_6 ?_
    refine g_icmp_gt (Y := YX4_read) (pc := 31) (tgt := 137) dX4_read_31 rfl (fun c4 => ?_) (fun c4 => ?_)
    · replace hF := if_t c4 hF
      refine g_iconst (Y := YX4_read) (pc := 137) dX4_read_137 kI_m1 ?_
      refine g_aload_n (Y := YX4_read) (pc := 138) 0 dX4_read_138 rfl ?_
      refine u_getI (Y := YX4_read) (pc := 139) dX4_read_139 fl_X4_19 k_25 ?_
      refine g_isub (Y := YX4_read) (pc := 142) dX4_read_142 ?_
      exact s_iret (Y := YX4_read) (pc := 143) dX4_read_143 rfl hF
    · replace hF := if_f c4 hF
      refine g_aload_n (Y := YX4_read) (pc := 34) 0 dX4_read_34 rfl ?_
      refine u_getR (Y := YX4_read) (pc := 35) (j := 3) dX4_read_35 fl_X4_15 k_25 rf_25_1 ?_
      refine u_getI (Y := YX4_read) (pc := 38) dX4_read_38 fl_X4_31 k_3 ?_
      refine g_iload_n (Y := YX4_read) (pc := 41) 1 dX4_read_41 rfl ?_
      refine g_iadd (Y := YX4_read) (pc := 42) dX4_read_42 ?_
      refine g_nm (fun v5 e => ?_)
      replace hF := vl_to e hF; clear e
      refine g_istore_n (Y := YX4_read) (pc := 43) (L' := [(2, .int v5), (0, .ref 25), (1, .int x1)]) dX4_read_43 (Nat.le_of_ble_eq_true rfl) rfl ?_
      refine g_aload_n (Y := YX4_read) (pc := 44) 1 dX4_read_44 rfl ?_
      refine u_getR (Y := YX4_read) (pc := 45) (j := 3) dX4_read_45 fl_X4_15 k_25 rf_25_1 ?_
      refine u_getI (Y := YX4_read) (pc := 48) dX4_read_48 fl_X4_36 k_3 ?_
      refine g_if_eq (Y := YX4_read) (pc := 51) (tgt := 72) dX4_read_51 rfl (fun c6 => ?_) (fun c6 => ?_)
      · replace hF := if_t c6 hF
        refine g_loc [1] rfl ?_
        exact w_X4_read_72  _ hF
      · replace hF := if_f c6 hF
        refine g_iload_n (Y := YX4_read) (pc := 54) 0 dX4_read_54 rfl ?_
        refine g_if_lt (Y := YX4_read) (pc := 55) (tgt := 72) dX4_read_55 rfl (fun c7 => ?_) (fun c7 => ?_)
        · replace hF := if_t c7 hF
          refine g_loc [1] rfl ?_
          exact w_X4_read_72  _ hF
        · replace hF := if_f c7 hF
          refine g_iload_n (Y := YX4_read) (pc := 58) 0 dX4_read_58 rfl ?_
          refine g_bipush (Y := YX4_read) (pc := 59) dX4_read_59 kB_6 ?_
          refine g_icmp_ge (Y := YX4_read) (pc := 61) (tgt := 72) dX4_read_61 rfl (fun c8 => ?_) (fun c8 => ?_)
          · replace hF := if_f c8 hF
            refine g_loc [1] rfl ?_
            exact w_X4_read_72  _ hF
          · replace hF := if_t c8 hF
            refine g_aload_n (Y := YX4_read) (pc := 64) 1 dX4_read_64 rfl ?_
            refine g_iload_n (Y := YX4_read) (pc := 65) 0 dX4_read_65 rfl ?_
            obtain ⟨r9, M10, e11, hF⟩ := bd_some hF
            refine s_callVi (Y := YX4_read) (pc := 66) (as := [.int v5]) (st := []) (r_X4_readLine  e11) miX4_readLine lk_X4_39 dX4_read_66 k_25 rfl (Nat.le_of_ble_eq_true rfl) (Nat.le_of_ble_eq_true rfl) rfl ?_
            clear e11
            refine g_if_ne (Y := YX4_read) (pc := 69) (tgt := 79) dX4_read_69 rfl (fun c12 => ?_) (fun c12 => ?_)
            · replace hF := if_f c12 hF
              refine g_aload_n (Y := YX4_read) (pc := 79) 1 dX4_read_79 rfl ?_
              refine u_getR (Y := YX4_read) (pc := 80) (j := 1) dX4_read_80 fl_X4_9 k_25 rf_25_0 ?_
              refine g_aload_n (Y := YX4_read) (pc := 83) 1 dX4_read_83 rfl ?_
              refine u_getI (Y := YX4_read) (pc := 84) dX4_read_84 fl_X4_19 k_25 ?_
              obtain ⟨r13, M14, e15, hF⟩ := bd_some hF
              refine s_callVi (Y := YX4_read) (pc := 87) (as := [.int (M10 25 2)]) (st := []) (r_X8_at  e15) miX8_at lk_X4_43 dX4_read_87 k_1 rfl (Nat.le_of_ble_eq_true rfl) (Nat.le_of_ble_eq_true rfl) rfl ?_
              clear e15
              refine g_iconst (Y := YX4_read) (pc := 90) dX4_read_90 kI_m1 ?_
              refine g_icmp_ne (Y := YX4_read) (pc := 91) (tgt := 98) dX4_read_91 rfl (fun c16 => ?_) (fun c16 => ?_)
              · replace hF := if_f c16 hF
                refine g_aload_n (Y := YX4_read) (pc := 98) 1 dX4_read_98 rfl ?_
                refine u_getR (Y := YX4_read) (pc := 99) (j := 1) dX4_read_99 fl_X4_9 k_25 rf_25_0 ?_
                refine g_aload_n (Y := YX4_read) (pc := 102) 1 dX4_read_102 rfl ?_
                refine u_getI (Y := YX4_read) (pc := 103) dX4_read_103 fl_X4_19 k_25 ?_
                obtain ⟨r17, M18, e19, hF⟩ := bd_some hF
                refine s_callVi (Y := YX4_read) (pc := 106) (as := [.int (M14 25 2)]) (st := []) (r_X8_at  e19) miX8_at lk_X4_43 dX4_read_106 k_1 rfl (Nat.le_of_ble_eq_true rfl) (Nat.le_of_ble_eq_true rfl) rfl ?_
                clear e19
                refine g_bipush (Y := YX4_read) (pc := 109) dX4_read_109 kB_59 ?_
                refine g_icmp_eq (Y := YX4_read) (pc := 111) (tgt := 121) dX4_read_111 rfl (fun c20 => ?_) (fun c20 => ?_)
                · replace hF := if_t c20 hF
                  refine g_aload_n (Y := YX4_read) (pc := 121) 1 dX4_read_121 rfl ?_
                  refine g_dup (Y := YX4_read) (pc := 122) dX4_read_122 rfl ?_
                  refine u_getI (Y := YX4_read) (pc := 123) dX4_read_123 fl_X4_19 k_25 ?_
                  refine g_iconst (Y := YX4_read) (pc := 126) dX4_read_126 kI_1 ?_
                  refine g_iadd (Y := YX4_read) (pc := 127) dX4_read_127 ?_
                  refine u_putI (Y := YX4_read) (pc := 128) dX4_read_128 fl_X4_19  k_25 ?_
                  refine g_nmM (fun M21 e => ?_)
                  replace hF := ml_to e hF; clear e
                  refine s_iinc (Y := YX4_read) (pc := 131) (j := 2) (L' := fun y => [(1, .int y), (2, .int v5), (0, .ref 25)]) dX4_read_131 kI_1 rfl (Nat.le_of_ble_eq_true rfl) (fun _ => rfl) (fun v22 e => ?_)
                  replace hF := vl_to e hF; clear e
                  refine g_goto (Y := YX4_read) (pc := 134) (tgt := 28) dX4_read_134 rfl ?_
                  refine g_loc [2, 0] rfl ?_
                  exact ih _ _ hF
                · replace hF := if_f c20 hF
                  refine g_iconst (Y := YX4_read) (pc := 114) dX4_read_114 kI_m1 ?_
                  refine g_aload_n (Y := YX4_read) (pc := 115) 1 dX4_read_115 rfl ?_
                  refine u_getI (Y := YX4_read) (pc := 116) dX4_read_116 fl_X4_19 k_25 ?_
                  refine g_isub (Y := YX4_read) (pc := 119) dX4_read_119 ?_
                  exact s_iret (Y := YX4_read) (pc := 120) dX4_read_120 rfl hF
              · replace hF := if_t c16 hF
                refine g_iload_n (Y := YX4_read) (pc := 94) 2 dX4_read_94 rfl ?_
                refine g_iconst (Y := YX4_read) (pc := 95) dX4_read_95 kI_1 ?_
                refine g_iadd (Y := YX4_read) (pc := 96) dX4_read_96 ?_
                exact s_iret (Y := YX4_read) (pc := 97) dX4_read_97 rfl hF
            · replace hF := if_t c12 hF
              refine g_loc [1] rfl ?_
              exact w_X4_read_72  _ hF
def f_X4_read_0  (M : Mem) : Option (Int32 × Mem) :=
  ml (up M 25 2 0) fun M1 =>
  ml (up M1 1 2 76) fun M2 =>
  if (M2 1 1) = 0 then
    some (0, M2)
  else
    f_X4_read_28 FU 0 M2
set_option maxRecDepth 100000 in
theorem w_X4_read_0 {R : Int32} {M' : Mem}  (M : Mem) (hF : f_X4_read_0  M = some (R, M')) : RunF l D cy ad none YX4_read 5 0 0 (some (.int R)) (lay X M') 0 0 0 [(0, .ref 25)] [] (lay X M) := by
  unfold f_X4_read_0 at hF
  refine g_aload_n (Y := YX4_read) (pc := 0) 0 dX4_read_0 rfl ?_
  refine g_iconst (Y := YX4_read) (pc := 1) dX4_read_1 kI_0 ?_
  refine u_putI (Y := YX4_read) (pc := 2) dX4_read_2 fl_X4_19  k_25 ?_
  refine g_nmM (fun M1 e => ?_)
  replace hF := ml_to e hF; clear e
  refine g_aload_n (Y := YX4_read) (pc := 5) 0 dX4_read_5 rfl ?_
  refine u_getR (Y := YX4_read) (pc := 6) (j := 1) dX4_read_6 fl_X4_9 k_25 rf_25_0 ?_
  refine g_bipush (Y := YX4_read) (pc := 9) dX4_read_9 kB_76 ?_
  refine u_putI (Y := YX4_read) (pc := 11) dX4_read_11 fl_X4_23  k_1 ?_
  refine g_nmM (fun M2 e => ?_)
  replace hF := ml_to e hF; clear e
  refine g_aload_n (Y := YX4_read) (pc := 14) 0 dX4_read_14 rfl ?_
  refine u_getR (Y := YX4_read) (pc := 15) (j := 1) dX4_read_15 fl_X4_9 k_25 rf_25_0 ?_
  refine u_getI (Y := YX4_read) (pc := 18) dX4_read_18 fl_X4_28 k_1 ?_
  refine g_if_ne (Y := YX4_read) (pc := 21) (tgt := 26) dX4_read_21 rfl (fun c3 => ?_) (fun c3 => ?_)
  · replace hF := if_f c3 hF
    refine g_iconst (Y := YX4_read) (pc := 26) dX4_read_26 kI_0 ?_
    refine g_istore_n (Y := YX4_read) (pc := 27) (L' := [(1, .int 0), (0, .ref 25)]) dX4_read_27 (Nat.le_of_ble_eq_true rfl) rfl ?_
    refine g_loc [1, 0] rfl ?_
    exact w_X4_read_28  _ _ _ hF
  · replace hF := if_t c3 hF
    refine g_iconst (Y := YX4_read) (pc := 24) dX4_read_24 kI_0 ?_
    exact s_iret (Y := YX4_read) (pc := 25) dX4_read_25 rfl hF
def f_X4_read (M : Mem) : Option (Int32 × Mem) := f_X4_read_0 M
theorem r_X4_read {R : Int32} {M M' : Mem}  (hF : f_X4_read  M = some (R, M')) : RunS l D cy ad YX4_read 5 [.ref 25] X M (some (.int R)) M' := Run.of 0 (miX4_read).1 (Nat.le_of_ble_eq_true rfl) (w_X4_read_0  _ hF)
def f_X3_look_15  (M : Mem) : Option (Int32 × Mem) :=
  some ((-1), M)
set_option maxRecDepth 100000 in
theorem w_X3_look_15 {R : Int32} {M' : Mem}  (M : Mem) (hF : f_X3_look_15  M = some (R, M')) : RunF l D cy ad none YX3_look 0 0 0 (some (.int R)) (lay X M') 0 0 15 [] [] (lay X M) := by
  unfold f_X3_look_15 at hF
  refine g_iconst (Y := YX3_look) (pc := 15) dX3_look_15 kI_m1 ?_
  exact s_iret (Y := YX3_look) (pc := 16) dX3_look_16 rfl hF
def f_X3_look_63  (t0 : Int32) (M : Mem) : Option (Int32 × Mem) :=
  some (t0, M)
set_option maxRecDepth 100000 in
theorem w_X3_look_63 {R : Int32} {M' : Mem}  (t0 : Int32) (M : Mem) (hF : f_X3_look_63 t0 M = some (R, M')) : RunF l D cy ad none YX3_look 0 0 0 (some (.int R)) (lay X M') 0 0 63 [] [.int t0] (lay X M) := by
  unfold f_X3_look_63 at hF
  exact s_iret (Y := YX3_look) (pc := 63) dX3_look_63 rfl hF
def f_X3_look_50  (M : Mem) : Option (Int32 × Mem) :=
  if (M 23 4) = 0 then
    f_X3_look_63 (-1) M
  else
    f_X3_look_63 (-2) M
set_option maxRecDepth 100000 in
theorem w_X3_look_50 {R : Int32} {M' : Mem}  (M : Mem) (hF : f_X3_look_50  M = some (R, M')) : RunF l D cy ad none YX3_look 0 0 0 (some (.int R)) (lay X M') 0 0 50 [(0, .ref 23)] [] (lay X M) := by
  unfold f_X3_look_50 at hF
  refine g_aload_n (Y := YX3_look) (pc := 50) 0 dX3_look_50 rfl ?_
  refine u_getZ (Y := YX3_look) (pc := 51) dX3_look_51 fl_X3_35 k_23 ?_
  refine g_if_eq (Y := YX3_look) (pc := 54) (tgt := 62) dX3_look_54 rfl (fun c4 => ?_) (fun c4 => ?_)
  · replace hF := if_t c4 hF
    refine g_iconst (Y := YX3_look) (pc := 62) dX3_look_62 kI_m1 ?_
    refine g_loc [] rfl ?_
    exact w_X3_look_63  _ _ hF
  · replace hF := if_f c4 hF
    refine g_bipush (Y := YX3_look) (pc := 57) dX3_look_57 kB_m2 ?_
    refine g_goto (Y := YX3_look) (pc := 59) (tgt := 63) dX3_look_59 rfl ?_
    refine g_loc [] rfl ?_
    exact w_X3_look_63  _ _ hF
def f_X3_look_0  (M : Mem) : Option (Int32 × Mem) :=
  if (M 23 6) = (-1) then
    if (M 23 5) < 0 then
      f_X3_look_15 M
    else
      if (M 23 5) < (M 23 3) then
        if (M 23 5) < (Int32.ofNat (LN (dS (M 23 2)))) then
          gd (0 ≤ (M 23 5) ∧ (M 23 5).toNatClampNeg < LN (dS (M 23 2))) <|
          some ((M (dS (M 23 2)) (M 23 5).toNatClampNeg), M)
        else
          f_X3_look_50 M
      else
        f_X3_look_50 M
  else
    f_X3_look_15 M
set_option maxRecDepth 100000 in
theorem w_X3_look_0 {R : Int32} {M' : Mem}  (M : Mem) (hF : f_X3_look_0  M = some (R, M')) : RunF l D cy ad none YX3_look 0 0 0 (some (.int R)) (lay X M') 0 0 0 [(0, .ref 23)] [] (lay X M) := by
  unfold f_X3_look_0 at hF
  refine g_aload_n (Y := YX3_look) (pc := 0) 0 dX3_look_0 rfl ?_
  refine u_getI (Y := YX3_look) (pc := 1) dX3_look_1 fl_X3_43 k_23 ?_
  refine g_iconst (Y := YX3_look) (pc := 4) dX3_look_4 kI_m1 ?_
  refine g_icmp_ne (Y := YX3_look) (pc := 5) (tgt := 15) dX3_look_5 rfl (fun c1 => ?_) (fun c1 => ?_)
  · replace hF := if_f c1 hF
    refine g_loc [] rfl ?_
    exact w_X3_look_15  _ hF
  · replace hF := if_t c1 hF
    refine g_aload_n (Y := YX3_look) (pc := 8) 0 dX3_look_8 rfl ?_
    refine u_getI (Y := YX3_look) (pc := 9) dX3_look_9 fl_X3_85 k_23 ?_
    refine g_if_ge (Y := YX3_look) (pc := 12) (tgt := 17) dX3_look_12 rfl (fun c2 => ?_) (fun c2 => ?_)
    · replace hF := if_f c2 hF
      refine g_aload_n (Y := YX3_look) (pc := 17) 0 dX3_look_17 rfl ?_
      refine u_getI (Y := YX3_look) (pc := 18) dX3_look_18 fl_X3_85 k_23 ?_
      refine g_aload_n (Y := YX3_look) (pc := 21) 0 dX3_look_21 rfl ?_
      refine u_getI (Y := YX3_look) (pc := 22) dX3_look_22 fl_X3_32 k_23 ?_
      refine g_icmp_ge (Y := YX3_look) (pc := 25) (tgt := 50) dX3_look_25 rfl (fun c3 => ?_) (fun c3 => ?_)
      · replace hF := if_f c3 hF
        exact w_X3_look_50  _ hF
      · replace hF := if_t c3 hF
        refine g_aload_n (Y := YX3_look) (pc := 28) 0 dX3_look_28 rfl ?_
        refine u_getI (Y := YX3_look) (pc := 29) dX3_look_29 fl_X3_85 k_23 ?_
        refine g_aload_n (Y := YX3_look) (pc := 32) 0 dX3_look_32 rfl ?_
        refine u_getR (Y := YX3_look) (pc := 33) (j := (dS (M 23 2))) dX3_look_33 fl_X3_19 k_23 sr_r ?_
        refine s_alen (Y := YX3_look) (pc := 36) dX3_look_36 (dS_k _) rfl rfl ?_
        refine g_icmp_ge (Y := YX3_look) (pc := 37) (tgt := 50) dX3_look_37 rfl (fun c5 => ?_) (fun c5 => ?_)
        · replace hF := if_f c5 hF
          exact w_X3_look_50  _ hF
        · replace hF := if_t c5 hF
          refine g_aload_n (Y := YX3_look) (pc := 40) 0 dX3_look_40 rfl ?_
          refine u_getR (Y := YX3_look) (pc := 41) (j := (dS (M 23 2))) dX3_look_41 fl_X3_19 k_23 sr_r ?_
          refine g_aload_n (Y := YX3_look) (pc := 44) 0 dX3_look_44 rfl ?_
          refine u_getI (Y := YX3_look) (pc := 45) dX3_look_45 fl_X3_85 k_23 ?_
          obtain ⟨g6, hF⟩ := gd_some hF
          refine s_cald (Y := YX3_look) (pc := 48) dX3_look_48 (dS_k _) rfl g6 ?_
          exact s_iret (Y := YX3_look) (pc := 49) dX3_look_49 rfl hF
    · replace hF := if_t c2 hF
      refine g_loc [] rfl ?_
      exact w_X3_look_15  _ hF
def f_X3_look (M : Mem) : Option (Int32 × Mem) := f_X3_look_0 M
theorem r_X3_look {R : Int32} {M M' : Mem}  (hF : f_X3_look  M = some (R, M')) : RunS l D cy ad YX3_look 0 [.ref 23] X M (some (.int R)) M' := Run.of 0 (miX3_look).1 (Nat.le_of_ble_eq_true rfl) (w_X3_look_0  _ hF)
def f_X3_readDigits_55  (x1 : Int32) (M : Mem) : Option (Int32 × Mem) :=
  some (x1, M)
set_option maxRecDepth 100000 in
theorem w_X3_readDigits_55 {R : Int32} {M' : Mem}  (x1 : Int32) (M : Mem) (hF : f_X3_readDigits_55 x1 M = some (R, M')) : RunF l D cy ad none YX3_readDigits 1 0 0 (some (.int R)) (lay X M') 0 0 55 [(1, .int x1)] [] (lay X M) := by
  unfold f_X3_readDigits_55 at hF
  refine g_iload_n (Y := YX3_readDigits) (pc := 55) 0 dX3_readDigits_55 rfl ?_
  exact s_iret (Y := YX3_readDigits) (pc := 56) dX3_readDigits_56 rfl hF
def f_X3_readDigits_4  : Nat → Int32 → Int32 → Mem → Option (Int32 × Mem)
  | 0, _, _, _ => none
  | n + 1, x1, x2, M =>
    if x2 < 3 then
      bd (f_X3_look M) fun r2 M3 =>
      if r2 < 48 then
        f_X3_readDigits_55 x1 M3
      else
        if 57 < r2 then
          f_X3_readDigits_55 x1 M3
        else
          vl ((((x1 * 10) + r2) - 48)) fun v7 =>
          ml (up M3 23 5 ((M3 23 5) + 1)) fun M8 =>
          vl (x2 + 1) fun v9 =>
          f_X3_readDigits_4 n v7 v9 M8
    else
      f_X3_readDigits_55 x1 M
set_option maxRecDepth 100000 in
theorem w_X3_readDigits_4 {R : Int32} {M' : Mem}  : ∀ (n : Nat) (x1 x2 : Int32) (M : Mem), f_X3_readDigits_4 n x1 x2 M = some (R, M') → RunF l D cy ad none YX3_readDigits 1 0 0 (some (.int R)) (lay X M') 0 0 4 [(0, .ref 23), (1, .int x1), (2, .int x2)] [] (lay X M) := by
  intro n
  induction n with
  | zero => intro x1 x2 M hF; exact absurd hF (by unfold f_X3_readDigits_4; exact fun h => nomatch h)
  | succ n ih =>
    intro x1 x2 M hF
    unfold f_X3_readDigits_4 at hF
    refine g_iload_n (Y := YX3_readDigits) (pc := 4) 2 dX3_readDigits_4 rfl ?_
    refine g_iconst (Y := YX3_readDigits) (pc := 5) dX3_readDigits_5 kI_3 ?_
    refine g_icmp_ge (Y := YX3_readDigits) (pc := 6) (tgt := 55) dX3_readDigits_6 rfl (fun c1 => ?_) (fun c1 => ?_)
    · replace hF := if_f c1 hF
      refine g_loc [1] rfl ?_
      exact w_X3_readDigits_55  _ _ hF
    · replace hF := if_t c1 hF
      refine g_aload_n (Y := YX3_readDigits) (pc := 9) 0 dX3_readDigits_9 rfl ?_
      obtain ⟨r2, M3, e4, hF⟩ := bd_some hF
      refine s_callVi (Y := YX3_readDigits) (pc := 10) (as := []) (st := []) (r_X3_look  e4) miX3_look lk_X3_92 dX3_readDigits_10 k_23 rfl (Nat.le_of_ble_eq_true rfl) (Nat.le_of_ble_eq_true rfl) rfl ?_
      clear e4
      refine g_istore_n (Y := YX3_readDigits) (pc := 13) (L' := [(3, .int r2), (0, .ref 23), (1, .int x1), (2, .int x2)]) dX3_readDigits_13 (Nat.le_of_ble_eq_true rfl) rfl ?_
      refine g_iload_n (Y := YX3_readDigits) (pc := 14) 0 dX3_readDigits_14 rfl ?_
      refine g_bipush (Y := YX3_readDigits) (pc := 15) dX3_readDigits_15 kB_48 ?_
      refine g_icmp_lt (Y := YX3_readDigits) (pc := 17) (tgt := 55) dX3_readDigits_17 rfl (fun c5 => ?_) (fun c5 => ?_)
      · replace hF := if_t c5 hF
        refine g_loc [2] rfl ?_
        exact w_X3_readDigits_55  _ _ hF
      · replace hF := if_f c5 hF
        refine g_iload_n (Y := YX3_readDigits) (pc := 20) 0 dX3_readDigits_20 rfl ?_
        refine g_bipush (Y := YX3_readDigits) (pc := 21) dX3_readDigits_21 kB_57 ?_
        refine g_icmp_le (Y := YX3_readDigits) (pc := 23) (tgt := 29) dX3_readDigits_23 rfl (fun c6 => ?_) (fun c6 => ?_)
        · replace hF := if_f c6 hF
          refine g_iload_n (Y := YX3_readDigits) (pc := 29) 2 dX3_readDigits_29 rfl ?_
          refine g_bipush (Y := YX3_readDigits) (pc := 30) dX3_readDigits_30 kB_10 ?_
          refine g_imul (Y := YX3_readDigits) (pc := 32) dX3_readDigits_32 ?_
          refine g_iload_n (Y := YX3_readDigits) (pc := 33) 0 dX3_readDigits_33 rfl ?_
          refine g_iadd (Y := YX3_readDigits) (pc := 34) dX3_readDigits_34 ?_
          refine g_bipush (Y := YX3_readDigits) (pc := 35) dX3_readDigits_35 kB_48 ?_
          refine g_isub (Y := YX3_readDigits) (pc := 37) dX3_readDigits_37 ?_
          refine g_nm (fun v7 e => ?_)
          replace hF := vl_to e hF; clear e
          refine g_istore_n (Y := YX3_readDigits) (pc := 38) (L' := [(1, .int v7), (3, .int r2), (0, .ref 23), (2, .int x2)]) dX3_readDigits_38 (Nat.le_of_ble_eq_true rfl) rfl ?_
          refine g_aload_n (Y := YX3_readDigits) (pc := 39) 2 dX3_readDigits_39 rfl ?_
          refine g_dup (Y := YX3_readDigits) (pc := 40) dX3_readDigits_40 rfl ?_
          refine u_getI (Y := YX3_readDigits) (pc := 41) dX3_readDigits_41 fl_X3_85 k_23 ?_
          refine g_iconst (Y := YX3_readDigits) (pc := 44) dX3_readDigits_44 kI_1 ?_
          refine g_iadd (Y := YX3_readDigits) (pc := 45) dX3_readDigits_45 ?_
          refine u_putI (Y := YX3_readDigits) (pc := 46) dX3_readDigits_46 fl_X3_85  k_23 ?_
          refine g_nmM (fun M8 e => ?_)
          replace hF := ml_to e hF; clear e
          refine s_iinc (Y := YX3_readDigits) (pc := 49) (j := 3) (L' := fun y => [(2, .int y), (1, .int v7), (3, .int r2), (0, .ref 23)]) dX3_readDigits_49 kI_1 rfl (Nat.le_of_ble_eq_true rfl) (fun _ => rfl) (fun v9 e => ?_)
          replace hF := vl_to e hF; clear e
          refine g_goto (Y := YX3_readDigits) (pc := 52) (tgt := 4) dX3_readDigits_52 rfl ?_
          refine g_loc [3, 1, 0] rfl ?_
          exact ih _ _ _ hF
        · replace hF := if_t c6 hF
          refine g_goto (Y := YX3_readDigits) (pc := 26) (tgt := 55) dX3_readDigits_26 rfl ?_
          refine g_loc [2] rfl ?_
          exact w_X3_readDigits_55  _ _ hF
def f_X3_readDigits_0  (M : Mem) : Option (Int32 × Mem) :=
  f_X3_readDigits_4 FU 0 0 M
set_option maxRecDepth 100000 in
theorem w_X3_readDigits_0 {R : Int32} {M' : Mem}  (M : Mem) (hF : f_X3_readDigits_0  M = some (R, M')) : RunF l D cy ad none YX3_readDigits 1 0 0 (some (.int R)) (lay X M') 0 0 0 [(0, .ref 23)] [] (lay X M) := by
  unfold f_X3_readDigits_0 at hF
  refine g_iconst (Y := YX3_readDigits) (pc := 0) dX3_readDigits_0 kI_0 ?_
  refine g_istore_n (Y := YX3_readDigits) (pc := 1) (L' := [(1, .int 0), (0, .ref 23)]) dX3_readDigits_1 (Nat.le_of_ble_eq_true rfl) rfl ?_
  refine g_iconst (Y := YX3_readDigits) (pc := 2) dX3_readDigits_2 kI_0 ?_
  refine g_istore_n (Y := YX3_readDigits) (pc := 3) (L' := [(2, .int 0), (1, .int 0), (0, .ref 23)]) dX3_readDigits_3 (Nat.le_of_ble_eq_true rfl) rfl ?_
  refine g_loc [2, 1, 0] rfl ?_
  exact w_X3_readDigits_4  _ _ _ _ hF
def f_X3_readDigits (M : Mem) : Option (Int32 × Mem) := f_X3_readDigits_0 M
theorem r_X3_readDigits {R : Int32} {M M' : Mem}  (hF : f_X3_readDigits  M = some (R, M')) : RunS l D cy ad YX3_readDigits 1 [.ref 23] X M (some (.int R)) M' := Run.of 0 (miX3_readDigits).1 (Nat.le_of_ble_eq_true rfl) (w_X3_readDigits_0  _ hF)
def f_X3_fail_16  (M : Mem) : Option (Int32 × Mem) :=
  some (0, M)
set_option maxRecDepth 100000 in
theorem w_X3_fail_16 {R : Int32} {M' : Mem}  (M : Mem) (hF : f_X3_fail_16  M = some (R, M')) : RunF l D cy ad none YX3_fail 0 0 0 none (lay X M') 0 0 16 [] [] (lay X M) := by
  unfold f_X3_fail_16 at hF
  exact s_vret (Y := YX3_fail) (pc := 16) dX3_fail_16 rfl hF
def f_X3_fail_0  (M : Mem) : Option (Int32 × Mem) :=
  if (M 23 6) = (-1) then
    ml (up M 23 6 (M 23 5)) fun M2 =>
    f_X3_fail_16 M2
  else
    f_X3_fail_16 M
set_option maxRecDepth 100000 in
theorem w_X3_fail_0 {R : Int32} {M' : Mem}  (M : Mem) (hF : f_X3_fail_0  M = some (R, M')) : RunF l D cy ad none YX3_fail 0 0 0 none (lay X M') 0 0 0 [(0, .ref 23)] [] (lay X M) := by
  unfold f_X3_fail_0 at hF
  refine g_aload_n (Y := YX3_fail) (pc := 0) 0 dX3_fail_0 rfl ?_
  refine u_getI (Y := YX3_fail) (pc := 1) dX3_fail_1 fl_X3_43 k_23 ?_
  refine g_iconst (Y := YX3_fail) (pc := 4) dX3_fail_4 kI_m1 ?_
  refine g_icmp_ne (Y := YX3_fail) (pc := 5) (tgt := 16) dX3_fail_5 rfl (fun c1 => ?_) (fun c1 => ?_)
  · replace hF := if_f c1 hF
    refine g_loc [] rfl ?_
    exact w_X3_fail_16  _ hF
  · replace hF := if_t c1 hF
    refine g_aload_n (Y := YX3_fail) (pc := 8) 0 dX3_fail_8 rfl ?_
    refine g_aload_n (Y := YX3_fail) (pc := 9) 0 dX3_fail_9 rfl ?_
    refine u_getI (Y := YX3_fail) (pc := 10) dX3_fail_10 fl_X3_85 k_23 ?_
    refine u_putI (Y := YX3_fail) (pc := 13) dX3_fail_13 fl_X3_43  k_23 ?_
    refine g_nmM (fun M2 e => ?_)
    replace hF := ml_to e hF; clear e
    refine g_loc [] rfl ?_
    exact w_X3_fail_16  _ hF
def f_X3_fail (M : Mem) : Option (Int32 × Mem) := f_X3_fail_0 M
theorem r_X3_fail {R : Int32} {M M' : Mem}  (hF : f_X3_fail  M = some (R, M')) : RunS l D cy ad YX3_fail 0 [.ref 23] X M none M' := Run.of 0 (miX3_fail).1 (Nat.le_of_ble_eq_true rfl) (w_X3_fail_0  _ hF)
def f_X3_readLetter_112  (x2 : Int32) (M : Mem) : Option (Int32 × Mem) :=
  ml (up M 23 5 ((M 23 5) + 1)) fun M3 =>
  some (x2, M3)
set_option maxRecDepth 100000 in
theorem w_X3_readLetter_112 {R : Int32} {M' : Mem}  (x2 : Int32) (M : Mem) (hF : f_X3_readLetter_112 x2 M = some (R, M')) : RunF l D cy ad none YX3_readLetter 1 0 0 (some (.int R)) (lay X M') 0 0 112 [(0, .ref 23), (2, .int x2)] [] (lay X M) := by
  unfold f_X3_readLetter_112 at hF
  refine g_aload_n (Y := YX3_readLetter) (pc := 112) 0 dX3_readLetter_112 rfl ?_
  refine g_dup (Y := YX3_readLetter) (pc := 113) dX3_readLetter_113 rfl ?_
  refine u_getI (Y := YX3_readLetter) (pc := 114) dX3_readLetter_114 fl_X3_85 k_23 ?_
  refine g_iconst (Y := YX3_readLetter) (pc := 117) dX3_readLetter_117 kI_1 ?_
  refine g_iadd (Y := YX3_readLetter) (pc := 118) dX3_readLetter_118 ?_
  refine u_putI (Y := YX3_readLetter) (pc := 119) dX3_readLetter_119 fl_X3_85  k_23 ?_
  refine g_nmM (fun M3 e => ?_)
  replace hF := ml_to e hF; clear e
  refine g_iload_n (Y := YX3_readLetter) (pc := 122) 1 dX3_readLetter_122 rfl ?_
  exact s_iret (Y := YX3_readLetter) (pc := 123) dX3_readLetter_123 rfl hF
def f_X3_readLetter_0  (x1 : Int32) (M : Mem) : Option (Int32 × Mem) :=
  if x1 = 99 then
    vl ((M 23 11)) fun v2 =>
    f_X3_readLetter_112 v2 M
  else
    if x1 = 105 then
      vl ((M 23 10)) fun v5 =>
      f_X3_readLetter_112 v5 M
    else
      if x1 = 111 then
        vl ((M 23 12)) fun v7 =>
        f_X3_readLetter_112 v7 M
      else
        if x1 = 114 then
          vl ((M 23 9)) fun v9 =>
          f_X3_readLetter_112 v9 M
        else
          if x1 = 115 then
            vl ((M 23 7)) fun v11 =>
            f_X3_readLetter_112 v11 M
          else
            if x1 = 122 then
              vl ((M 23 8)) fun v13 =>
              f_X3_readLetter_112 v13 M
            else
              bd (f_X3_fail M) fun _ M15 =>
              f_X3_readLetter_112 0 M15
set_option maxRecDepth 100000 in
theorem w_X3_readLetter_0 {R : Int32} {M' : Mem}  (x1 : Int32) (M : Mem) (hF : f_X3_readLetter_0 x1 M = some (R, M')) : RunF l D cy ad none YX3_readLetter 1 0 0 (some (.int R)) (lay X M') 0 0 0 [(0, .ref 23), (1, .int x1)] [] (lay X M) := by
  unfold f_X3_readLetter_0 at hF
  refine g_iconst (Y := YX3_readLetter) (pc := 0) dX3_readLetter_0 kI_0 ?_
  refine g_istore_n (Y := YX3_readLetter) (pc := 1) (L' := [(2, .int 0), (0, .ref 23), (1, .int x1)]) dX3_readLetter_1 (Nat.le_of_ble_eq_true rfl) rfl ?_
  refine g_iload_n (Y := YX3_readLetter) (pc := 2) 2 dX3_readLetter_2 rfl ?_
  by_cases c1 : x1 = 99
  · replace hF := if_t c1 hF
    refine g_lookup (Y := YX3_readLetter) (pc := 3) (tgt := 92) dX3_readLetter_3 (by decide) (off := 89) (by rw [c1]; decide) (by decide) ?_
    refine g_aload_n (Y := YX3_readLetter) (pc := 92) 1 dX3_readLetter_92 rfl ?_
    refine u_getI (Y := YX3_readLetter) (pc := 93) dX3_readLetter_93 fl_X3_77 k_23 ?_
    refine g_nm (fun v2 e => ?_)
    replace hF := vl_to e hF; clear e
    refine g_istore_n (Y := YX3_readLetter) (pc := 96) (L' := [(2, .int v2), (0, .ref 23), (1, .int x1)]) dX3_readLetter_96 (Nat.le_of_ble_eq_true rfl) rfl ?_
    refine g_goto (Y := YX3_readLetter) (pc := 97) (tgt := 112) dX3_readLetter_97 rfl ?_
    refine g_loc [1, 0] rfl ?_
    exact w_X3_readLetter_112  _ _ hF
  replace hF := if_f c1 hF
  by_cases c4 : x1 = 105
  · replace hF := if_t c4 hF
    refine g_lookup (Y := YX3_readLetter) (pc := 3) (tgt := 84) dX3_readLetter_3 (by decide) (off := 81) (by rw [c4]; decide) (by decide) ?_
    refine g_aload_n (Y := YX3_readLetter) (pc := 84) 1 dX3_readLetter_84 rfl ?_
    refine u_getI (Y := YX3_readLetter) (pc := 85) dX3_readLetter_85 fl_X3_70 k_23 ?_
    refine g_nm (fun v5 e => ?_)
    replace hF := vl_to e hF; clear e
    refine g_istore_n (Y := YX3_readLetter) (pc := 88) (L' := [(2, .int v5), (0, .ref 23), (1, .int x1)]) dX3_readLetter_88 (Nat.le_of_ble_eq_true rfl) rfl ?_
    refine g_goto (Y := YX3_readLetter) (pc := 89) (tgt := 112) dX3_readLetter_89 rfl ?_
    refine g_loc [1, 0] rfl ?_
    exact w_X3_readLetter_112  _ _ hF
  replace hF := if_f c4 hF
  by_cases c6 : x1 = 111
  · replace hF := if_t c6 hF
    refine g_lookup (Y := YX3_readLetter) (pc := 3) (tgt := 100) dX3_readLetter_3 (by decide) (off := 97) (by rw [c6]; decide) (by decide) ?_
    refine g_aload_n (Y := YX3_readLetter) (pc := 100) 1 dX3_readLetter_100 rfl ?_
    refine u_getI (Y := YX3_readLetter) (pc := 101) dX3_readLetter_101 fl_X3_83 k_23 ?_
    refine g_nm (fun v7 e => ?_)
    replace hF := vl_to e hF; clear e
    refine g_istore_n (Y := YX3_readLetter) (pc := 104) (L' := [(2, .int v7), (0, .ref 23), (1, .int x1)]) dX3_readLetter_104 (Nat.le_of_ble_eq_true rfl) rfl ?_
    refine g_goto (Y := YX3_readLetter) (pc := 105) (tgt := 112) dX3_readLetter_105 rfl ?_
    refine g_loc [1, 0] rfl ?_
    exact w_X3_readLetter_112  _ _ hF
  replace hF := if_f c6 hF
  by_cases c8 : x1 = 114
  · replace hF := if_t c8 hF
    refine g_lookup (Y := YX3_readLetter) (pc := 3) (tgt := 76) dX3_readLetter_3 (by decide) (off := 73) (by rw [c8]; decide) (by decide) ?_
    refine g_aload_n (Y := YX3_readLetter) (pc := 76) 1 dX3_readLetter_76 rfl ?_
    refine u_getI (Y := YX3_readLetter) (pc := 77) dX3_readLetter_77 fl_X3_67 k_23 ?_
    refine g_nm (fun v9 e => ?_)
    replace hF := vl_to e hF; clear e
    refine g_istore_n (Y := YX3_readLetter) (pc := 80) (L' := [(2, .int v9), (0, .ref 23), (1, .int x1)]) dX3_readLetter_80 (Nat.le_of_ble_eq_true rfl) rfl ?_
    refine g_goto (Y := YX3_readLetter) (pc := 81) (tgt := 112) dX3_readLetter_81 rfl ?_
    refine g_loc [1, 0] rfl ?_
    exact w_X3_readLetter_112  _ _ hF
  replace hF := if_f c8 hF
  by_cases c10 : x1 = 115
  · replace hF := if_t c10 hF
    refine g_lookup (Y := YX3_readLetter) (pc := 3) (tgt := 60) dX3_readLetter_3 (by decide) (off := 57) (by rw [c10]; decide) (by decide) ?_
    refine g_aload_n (Y := YX3_readLetter) (pc := 60) 1 dX3_readLetter_60 rfl ?_
    refine u_getI (Y := YX3_readLetter) (pc := 61) dX3_readLetter_61 fl_X3_58 k_23 ?_
    refine g_nm (fun v11 e => ?_)
    replace hF := vl_to e hF; clear e
    refine g_istore_n (Y := YX3_readLetter) (pc := 64) (L' := [(2, .int v11), (0, .ref 23), (1, .int x1)]) dX3_readLetter_64 (Nat.le_of_ble_eq_true rfl) rfl ?_
    refine g_goto (Y := YX3_readLetter) (pc := 65) (tgt := 112) dX3_readLetter_65 rfl ?_
    refine g_loc [1, 0] rfl ?_
    exact w_X3_readLetter_112  _ _ hF
  replace hF := if_f c10 hF
  by_cases c12 : x1 = 122
  · replace hF := if_t c12 hF
    refine g_lookup (Y := YX3_readLetter) (pc := 3) (tgt := 68) dX3_readLetter_3 (by decide) (off := 65) (by rw [c12]; decide) (by decide) ?_
    refine g_aload_n (Y := YX3_readLetter) (pc := 68) 1 dX3_readLetter_68 rfl ?_
    refine u_getI (Y := YX3_readLetter) (pc := 69) dX3_readLetter_69 fl_X3_65 k_23 ?_
    refine g_nm (fun v13 e => ?_)
    replace hF := vl_to e hF; clear e
    refine g_istore_n (Y := YX3_readLetter) (pc := 72) (L' := [(2, .int v13), (0, .ref 23), (1, .int x1)]) dX3_readLetter_72 (Nat.le_of_ble_eq_true rfl) rfl ?_
    refine g_goto (Y := YX3_readLetter) (pc := 73) (tgt := 112) dX3_readLetter_73 rfl ?_
    refine g_loc [1, 0] rfl ?_
    exact w_X3_readLetter_112  _ _ hF
  replace hF := if_f c12 hF
  refine g_lookup (Y := YX3_readLetter) (pc := 3) (tgt := 108) dX3_readLetter_3 (by decide) (off := 105) (lk_out ⟨ne_ti c1 (by decide), ne_ti c4 (by decide), ne_ti c6 (by decide), ne_ti c8 (by decide), ne_ti c10 (by decide), ne_ti c12 (by decide), trivial⟩) (by decide) ?_
  refine g_aload_n (Y := YX3_readLetter) (pc := 108) 1 dX3_readLetter_108 rfl ?_
  obtain ⟨r14, M15, e16, hF⟩ := bd_some hF
  refine s_callVv (Y := YX3_readLetter) (pc := 109) (as := []) (st := []) (r_X3_fail  e16) miX3_fail lk_X3_95 dX3_readLetter_109 k_23 rfl (Nat.le_of_ble_eq_true rfl) (Nat.le_of_ble_eq_true rfl) rfl ?_
  clear e16
  refine g_loc [1, 0] rfl ?_
  exact w_X3_readLetter_112  _ _ hF
def f_X3_readLetter (x1 : Int32) (M : Mem) : Option (Int32 × Mem) := f_X3_readLetter_0 x1 M
theorem r_X3_readLetter {x1 R : Int32} {M M' : Mem}  (hF : f_X3_readLetter x1 M = some (R, M')) : RunS l D cy ad YX3_readLetter 1 [.ref 23, .int x1] X M (some (.int R)) M' := Run.of 1 (miX3_readLetter).1 (Nat.le_of_ble_eq_true rfl) (w_X3_readLetter_0  _ _ hF)
def f_X3_readSigned_61 (T : Int32 → Mem → Option (Int32 × Mem)) (t0 : Int32) (M : Mem) : Option (Int32 × Mem) :=
  some (t0, M)
set_option maxRecDepth 100000 in
theorem w_X3_readSigned_61 {T : Int32 → Mem → Option (Int32 × Mem)} {R : Int32} {M' : Mem} (hT : ∀ (y0 : Int32) (M : Mem) (R : Int32) (M' : Mem), T y0 M = some (R, M') → RunS l D cy ad YX3_readThing dT [.ref 23, .int y0] X M (some (.int R)) M') (t0 : Int32) (M : Mem) (hF : f_X3_readSigned_61 T t0 M = some (R, M')) : RunF l D cy ad none YX3_readSigned (dT + 1) 0 0 (some (.int R)) (lay X M') 0 0 61 [] [.int t0] (lay X M) := by
  unfold f_X3_readSigned_61 at hF
  exact s_iret (Y := YX3_readSigned) (pc := 61) dX3_readSigned_61 rfl hF
def f_X3_readSigned_45 (T : Int32 → Mem → Option (Int32 × Mem)) (x1 : Int32) (x2 : Int32) (M : Mem) : Option (Int32 × Mem) :=
  bd (T x1 M) fun r2 M3 =>
  if x2 = 0 then
    f_X3_readSigned_61 T r2 M3
  else
    f_X3_readSigned_61 T (-r2) M3
set_option maxRecDepth 100000 in
theorem w_X3_readSigned_45 {T : Int32 → Mem → Option (Int32 × Mem)} {R : Int32} {M' : Mem} (hT : ∀ (y0 : Int32) (M : Mem) (R : Int32) (M' : Mem), T y0 M = some (R, M') → RunS l D cy ad YX3_readThing dT [.ref 23, .int y0] X M (some (.int R)) M') (x1 x2 : Int32) (M : Mem) (hF : f_X3_readSigned_45 T x1 x2 M = some (R, M')) : RunF l D cy ad none YX3_readSigned (dT + 1) 0 0 (some (.int R)) (lay X M') 0 0 45 [(0, .ref 23), (1, .int x1), (2, .int x2)] [] (lay X M) := by
  unfold f_X3_readSigned_45 at hF
  refine g_aload_n (Y := YX3_readSigned) (pc := 45) 0 dX3_readSigned_45 rfl ?_
  refine g_iload_n (Y := YX3_readSigned) (pc := 46) 1 dX3_readSigned_46 rfl ?_
  obtain ⟨r2, M3, e4, hF⟩ := bd_some hF
  refine s_callVi (Y := YX3_readSigned) (pc := 47) (as := [.int x1]) (st := []) (hT _ _ _ _ e4) miX3_readThing lk_X3_107 dX3_readSigned_47 k_23 rfl (Nat.le_of_ble_eq_true rfl) (by omega) rfl ?_
  clear e4
  refine g_istore_n (Y := YX3_readSigned) (pc := 50) (L' := [(3, .int r2), (0, .ref 23), (1, .int x1), (2, .int x2)]) dX3_readSigned_50 (Nat.le_of_ble_eq_true rfl) rfl ?_
  refine g_iload_n (Y := YX3_readSigned) (pc := 51) 3 dX3_readSigned_51 rfl ?_
  refine g_if_eq (Y := YX3_readSigned) (pc := 52) (tgt := 60) dX3_readSigned_52 rfl (fun c5 => ?_) (fun c5 => ?_)
  · replace hF := if_t c5 hF
    refine g_iload_n (Y := YX3_readSigned) (pc := 60) 0 dX3_readSigned_60 rfl ?_
    refine g_loc [] rfl ?_
    exact w_X3_readSigned_61 hT _ _ hF
  · replace hF := if_f c5 hF
    refine g_iload_n (Y := YX3_readSigned) (pc := 55) 0 dX3_readSigned_55 rfl ?_
    refine g_ineg (Y := YX3_readSigned) (pc := 56) dX3_readSigned_56 ?_
    refine g_goto (Y := YX3_readSigned) (pc := 57) (tgt := 61) dX3_readSigned_57 rfl ?_
    refine g_loc [] rfl ?_
    exact w_X3_readSigned_61 hT _ _ hF
def f_X3_readSigned_28 (T : Int32 → Mem → Option (Int32 × Mem)) (K4 : Int32 → Int32 → Int32 → Mem → Option (Int32 × Mem)) (x1 : Int32) (x3 : Int32) (t0 : Int32) (M : Mem) : Option (Int32 × Mem) :=
  ml (up M 23 5 ((M 23 5) + 1)) fun M11 =>
  vl (x3 + 1) fun v12 =>
  K4 x1 t0 v12 M11
set_option maxRecDepth 100000 in
theorem w_X3_readSigned_28 {T : Int32 → Mem → Option (Int32 × Mem)} {R : Int32} {M' : Mem} {K4 : Int32 → Int32 → Int32 → Mem → Option (Int32 × Mem)} (hT : ∀ (y0 : Int32) (M : Mem) (R : Int32) (M' : Mem), T y0 M = some (R, M') → RunS l D cy ad YX3_readThing dT [.ref 23, .int y0] X M (some (.int R)) M') (hK4 : ∀ (x1 x2 x3 : Int32) (M : Mem), K4 x1 x2 x3 M = some (R, M') → RunF l D cy ad none YX3_readSigned (dT + 1) 0 0 (some (.int R)) (lay X M') 0 0 4 [(0, .ref 23), (1, .int x1), (2, .int x2), (3, .int x3)] [] (lay X M)) (x1 x3 t0 : Int32) (M : Mem) (hF : f_X3_readSigned_28 T K4 x1 x3 t0 M = some (R, M')) : RunF l D cy ad none YX3_readSigned (dT + 1) 0 0 (some (.int R)) (lay X M') 0 0 28 [(0, .ref 23), (1, .int x1), (3, .int x3)] [.int t0] (lay X M) := by
  unfold f_X3_readSigned_28 at hF
  refine g_istore_n (Y := YX3_readSigned) (pc := 28) (L' := [(2, .int t0), (0, .ref 23), (1, .int x1), (3, .int x3)]) dX3_readSigned_28 (Nat.le_of_ble_eq_true rfl) rfl ?_
  refine g_aload_n (Y := YX3_readSigned) (pc := 29) 1 dX3_readSigned_29 rfl ?_
  refine g_dup (Y := YX3_readSigned) (pc := 30) dX3_readSigned_30 rfl ?_
  refine u_getI (Y := YX3_readSigned) (pc := 31) dX3_readSigned_31 fl_X3_85 k_23 ?_
  refine g_iconst (Y := YX3_readSigned) (pc := 34) dX3_readSigned_34 kI_1 ?_
  refine g_iadd (Y := YX3_readSigned) (pc := 35) dX3_readSigned_35 ?_
  refine u_putI (Y := YX3_readSigned) (pc := 36) dX3_readSigned_36 fl_X3_85  k_23 ?_
  refine g_nmM (fun M11 e => ?_)
  replace hF := ml_to e hF; clear e
  refine s_iinc (Y := YX3_readSigned) (pc := 39) (j := 3) (L' := fun y => [(3, .int y), (2, .int t0), (0, .ref 23), (1, .int x1)]) dX3_readSigned_39 kI_1 rfl (Nat.le_of_ble_eq_true rfl) (fun _ => rfl) (fun v12 e => ?_)
  replace hF := vl_to e hF; clear e
  refine g_goto (Y := YX3_readSigned) (pc := 42) (tgt := 4) dX3_readSigned_42 rfl ?_
  refine g_loc [2, 3, 1, 0] rfl ?_
  exact hK4 _ _ _ _ hF
def f_X3_readSigned_4 (T : Int32 → Mem → Option (Int32 × Mem)) : Nat → Int32 → Int32 → Int32 → Mem → Option (Int32 × Mem)
  | 0, _, _, _, _ => none
  | n + 1, x1, x2, x3, M =>
    if x3 < 40 then
      bd (f_X3_look M) fun r6 M7 =>
      if r6 = 45 then
        if x2 = 0 then
          f_X3_readSigned_28 T (f_X3_readSigned_4 T n) x1 x3 1 M7
        else
          f_X3_readSigned_28 T (f_X3_readSigned_4 T n) x1 x3 0 M7
      else
        f_X3_readSigned_45 T x1 x2 M7
    else
      f_X3_readSigned_45 T x1 x2 M
set_option maxRecDepth 100000 in
theorem w_X3_readSigned_4 {T : Int32 → Mem → Option (Int32 × Mem)} {R : Int32} {M' : Mem} (hT : ∀ (y0 : Int32) (M : Mem) (R : Int32) (M' : Mem), T y0 M = some (R, M') → RunS l D cy ad YX3_readThing dT [.ref 23, .int y0] X M (some (.int R)) M') : ∀ (n : Nat) (x1 x2 x3 : Int32) (M : Mem), f_X3_readSigned_4 T n x1 x2 x3 M = some (R, M') → RunF l D cy ad none YX3_readSigned (dT + 1) 0 0 (some (.int R)) (lay X M') 0 0 4 [(0, .ref 23), (1, .int x1), (2, .int x2), (3, .int x3)] [] (lay X M) := by
  intro n
  induction n with
  | zero => intro x1 x2 x3 M hF; exact absurd hF (by unfold f_X3_readSigned_4; exact fun h => nomatch h)
  | succ n ih =>
    intro x1 x2 x3 M hF
    unfold f_X3_readSigned_4 at hF
    refine g_iload_n (Y := YX3_readSigned) (pc := 4) 3 dX3_readSigned_4 rfl ?_
    refine g_bipush (Y := YX3_readSigned) (pc := 5) dX3_readSigned_5 kB_40 ?_
    refine g_icmp_ge (Y := YX3_readSigned) (pc := 7) (tgt := 45) dX3_readSigned_7 rfl (fun c1 => ?_) (fun c1 => ?_)
    · replace hF := if_f c1 hF
      refine g_loc [0, 1, 2] rfl ?_
      exact w_X3_readSigned_45 hT _ _ _ hF
    · replace hF := if_t c1 hF
      refine g_aload_n (Y := YX3_readSigned) (pc := 10) 0 dX3_readSigned_10 rfl ?_
      obtain ⟨r6, M7, e8, hF⟩ := bd_some hF
      refine s_callVi (Y := YX3_readSigned) (pc := 11) (as := []) (st := []) (r_X3_look  e8) miX3_look lk_X3_92 dX3_readSigned_11 k_23 rfl (Nat.le_of_ble_eq_true rfl) (by omega) rfl ?_
      clear e8
      refine g_bipush (Y := YX3_readSigned) (pc := 14) dX3_readSigned_14 kB_45 ?_
      refine g_icmp_ne (Y := YX3_readSigned) (pc := 16) (tgt := 45) dX3_readSigned_16 rfl (fun c9 => ?_) (fun c9 => ?_)
      · replace hF := if_f c9 hF
        refine g_loc [0, 1, 2] rfl ?_
        exact w_X3_readSigned_45 hT _ _ _ hF
      · replace hF := if_t c9 hF
        refine g_iload_n (Y := YX3_readSigned) (pc := 19) 2 dX3_readSigned_19 rfl ?_
        refine g_if_ne (Y := YX3_readSigned) (pc := 20) (tgt := 27) dX3_readSigned_20 rfl (fun c10 => ?_) (fun c10 => ?_)
        · replace hF := if_f c10 hF
          refine g_iconst (Y := YX3_readSigned) (pc := 27) dX3_readSigned_27 kI_0 ?_
          refine g_loc [0, 1, 3] rfl ?_
          exact w_X3_readSigned_28 hT ih _ _ _ _ hF
        · replace hF := if_t c10 hF
          refine g_iconst (Y := YX3_readSigned) (pc := 23) dX3_readSigned_23 kI_1 ?_
          refine g_goto (Y := YX3_readSigned) (pc := 24) (tgt := 28) dX3_readSigned_24 rfl ?_
          refine g_loc [0, 1, 3] rfl ?_
          exact w_X3_readSigned_28 hT ih _ _ _ _ hF
def f_X3_readSigned_0 (T : Int32 → Mem → Option (Int32 × Mem)) (x1 : Int32) (M : Mem) : Option (Int32 × Mem) :=
  f_X3_readSigned_4 T FU x1 0 0 M
set_option maxRecDepth 100000 in
theorem w_X3_readSigned_0 {T : Int32 → Mem → Option (Int32 × Mem)} {R : Int32} {M' : Mem} (hT : ∀ (y0 : Int32) (M : Mem) (R : Int32) (M' : Mem), T y0 M = some (R, M') → RunS l D cy ad YX3_readThing dT [.ref 23, .int y0] X M (some (.int R)) M') (x1 : Int32) (M : Mem) (hF : f_X3_readSigned_0 T x1 M = some (R, M')) : RunF l D cy ad none YX3_readSigned (dT + 1) 0 0 (some (.int R)) (lay X M') 0 0 0 [(0, .ref 23), (1, .int x1)] [] (lay X M) := by
  unfold f_X3_readSigned_0 at hF
  refine g_iconst (Y := YX3_readSigned) (pc := 0) dX3_readSigned_0 kI_0 ?_
  refine g_istore_n (Y := YX3_readSigned) (pc := 1) (L' := [(2, .int 0), (0, .ref 23), (1, .int x1)]) dX3_readSigned_1 (Nat.le_of_ble_eq_true rfl) rfl ?_
  refine g_iconst (Y := YX3_readSigned) (pc := 2) dX3_readSigned_2 kI_0 ?_
  refine g_istore_n (Y := YX3_readSigned) (pc := 3) (L' := [(3, .int 0), (2, .int 0), (0, .ref 23), (1, .int x1)]) dX3_readSigned_3 (Nat.le_of_ble_eq_true rfl) rfl ?_
  refine g_loc [2, 3, 1, 0] rfl ?_
  exact w_X3_readSigned_4 hT _ _ _ _ _ hF
def f_X3_readSigned (T : Int32 → Mem → Option (Int32 × Mem)) (x1 : Int32) (M : Mem) : Option (Int32 × Mem) := f_X3_readSigned_0 T x1 M
theorem r_X3_readSigned {x1 R : Int32} {M M' : Mem} {T : Int32 → Mem → Option (Int32 × Mem)} (hT : ∀ (y0 : Int32) (M : Mem) (R : Int32) (M' : Mem), T y0 M = some (R, M') → RunS l D cy ad YX3_readThing dT [.ref 23, .int y0] X M (some (.int R)) M') (hF : f_X3_readSigned T x1 M = some (R, M')) : RunS l D cy ad YX3_readSigned (dT + 1) [.ref 23, .int x1] X M (some (.int R)) M' := Run.of 1 (miX3_readSigned).1 (Nat.le_of_ble_eq_true rfl) (w_X3_readSigned_0 hT _ _ hF)
def f_X3_readProduct_89 (T : Int32 → Mem → Option (Int32 × Mem)) (x2 : Int32) (M : Mem) : Option (Int32 × Mem) :=
  some (x2, M)
set_option maxRecDepth 100000 in
theorem w_X3_readProduct_89 {T : Int32 → Mem → Option (Int32 × Mem)} {R : Int32} {M' : Mem} (hT : ∀ (y0 : Int32) (M : Mem) (R : Int32) (M' : Mem), T y0 M = some (R, M') → RunS l D cy ad YX3_readThing dT [.ref 23, .int y0] X M (some (.int R)) M') (x2 : Int32) (M : Mem) (hF : f_X3_readProduct_89 T x2 M = some (R, M')) : RunF l D cy ad none YX3_readProduct (dT + 2) 0 0 (some (.int R)) (lay X M') 0 0 89 [(2, .int x2)] [] (lay X M) := by
  unfold f_X3_readProduct_89 at hF
  refine g_iload_n (Y := YX3_readProduct) (pc := 89) 0 dX3_readProduct_89 rfl ?_
  exact s_iret (Y := YX3_readProduct) (pc := 90) dX3_readProduct_90 rfl hF
def f_X3_readProduct_83 (T : Int32 → Mem → Option (Int32 × Mem)) (K8 : Int32 → Int32 → Int32 → Mem → Option (Int32 × Mem)) (x1 : Int32) (x2 : Int32) (x3 : Int32) (M : Mem) : Option (Int32 × Mem) :=
  vl (x3 + 1) fun v16 =>
  K8 x1 x2 v16 M
set_option maxRecDepth 100000 in
theorem w_X3_readProduct_83 {T : Int32 → Mem → Option (Int32 × Mem)} {R : Int32} {M' : Mem} {K8 : Int32 → Int32 → Int32 → Mem → Option (Int32 × Mem)} (hT : ∀ (y0 : Int32) (M : Mem) (R : Int32) (M' : Mem), T y0 M = some (R, M') → RunS l D cy ad YX3_readThing dT [.ref 23, .int y0] X M (some (.int R)) M') (hK8 : ∀ (x1 x2 x3 : Int32) (M : Mem), K8 x1 x2 x3 M = some (R, M') → RunF l D cy ad none YX3_readProduct (dT + 2) 0 0 (some (.int R)) (lay X M') 0 0 8 [(0, .ref 23), (1, .int x1), (2, .int x2), (3, .int x3)] [] (lay X M)) (x1 x2 x3 : Int32) (M : Mem) (hF : f_X3_readProduct_83 T K8 x1 x2 x3 M = some (R, M')) : RunF l D cy ad none YX3_readProduct (dT + 2) 0 0 (some (.int R)) (lay X M') 0 0 83 [(0, .ref 23), (1, .int x1), (2, .int x2), (3, .int x3)] [] (lay X M) := by
  unfold f_X3_readProduct_83 at hF
  refine s_iinc (Y := YX3_readProduct) (pc := 83) (j := 3) (L' := fun y => [(3, .int y), (0, .ref 23), (1, .int x1), (2, .int x2)]) dX3_readProduct_83 kI_1 rfl (Nat.le_of_ble_eq_true rfl) (fun _ => rfl) (fun v16 e => ?_)
  replace hF := vl_to e hF; clear e
  refine g_goto (Y := YX3_readProduct) (pc := 86) (tgt := 8) dX3_readProduct_86 rfl ?_
  refine g_loc [1, 2, 3, 0] rfl ?_
  exact hK8 _ _ _ _ hF
def f_X3_readProduct_82 (T : Int32 → Mem → Option (Int32 × Mem)) (K8 : Int32 → Int32 → Int32 → Mem → Option (Int32 × Mem)) (x1 : Int32) (x3 : Int32) (t0 : Int32) (M : Mem) : Option (Int32 × Mem) :=
  f_X3_readProduct_83 T K8 x1 t0 x3 M
set_option maxRecDepth 100000 in
theorem w_X3_readProduct_82 {T : Int32 → Mem → Option (Int32 × Mem)} {R : Int32} {M' : Mem} {K8 : Int32 → Int32 → Int32 → Mem → Option (Int32 × Mem)} (hT : ∀ (y0 : Int32) (M : Mem) (R : Int32) (M' : Mem), T y0 M = some (R, M') → RunS l D cy ad YX3_readThing dT [.ref 23, .int y0] X M (some (.int R)) M') (hK8 : ∀ (x1 x2 x3 : Int32) (M : Mem), K8 x1 x2 x3 M = some (R, M') → RunF l D cy ad none YX3_readProduct (dT + 2) 0 0 (some (.int R)) (lay X M') 0 0 8 [(0, .ref 23), (1, .int x1), (2, .int x2), (3, .int x3)] [] (lay X M)) (x1 x3 t0 : Int32) (M : Mem) (hF : f_X3_readProduct_82 T K8 x1 x3 t0 M = some (R, M')) : RunF l D cy ad none YX3_readProduct (dT + 2) 0 0 (some (.int R)) (lay X M') 0 0 82 [(0, .ref 23), (1, .int x1), (3, .int x3)] [.int t0] (lay X M) := by
  unfold f_X3_readProduct_82 at hF
  refine g_istore_n (Y := YX3_readProduct) (pc := 82) (L' := [(2, .int t0), (0, .ref 23), (1, .int x1), (3, .int x3)]) dX3_readProduct_82 (Nat.le_of_ble_eq_true rfl) rfl ?_
  refine g_loc [1, 2, 0, 3] rfl ?_
  exact w_X3_readProduct_83 hT hK8 _ _ _ _ hF
def f_X3_readProduct_37 (T : Int32 → Mem → Option (Int32 × Mem)) (K8 : Int32 → Int32 → Int32 → Mem → Option (Int32 × Mem)) (x1 : Int32) (x2 : Int32) (x3 : Int32) (x4 : Int32) (M : Mem) : Option (Int32 × Mem) :=
  ml (up M 23 5 ((M 23 5) + 1)) fun M9 =>
  bd (f_X3_readSigned T x1 M9) fun r10 M11 =>
  if x4 = 42 then
    vl ((x2 * r10)) fun v17 =>
    f_X3_readProduct_83 T K8 x1 v17 x3 M11
  else
    if r10 = 0 then
      f_X3_readProduct_82 T K8 x1 x3 0 M11
    else
      gd (¬ r10 = 0) <|
      f_X3_readProduct_82 T K8 x1 x3 (x2 / r10) M11
set_option maxRecDepth 100000 in
theorem w_X3_readProduct_37 {T : Int32 → Mem → Option (Int32 × Mem)} {R : Int32} {M' : Mem} {K8 : Int32 → Int32 → Int32 → Mem → Option (Int32 × Mem)} (hT : ∀ (y0 : Int32) (M : Mem) (R : Int32) (M' : Mem), T y0 M = some (R, M') → RunS l D cy ad YX3_readThing dT [.ref 23, .int y0] X M (some (.int R)) M') (hK8 : ∀ (x1 x2 x3 : Int32) (M : Mem), K8 x1 x2 x3 M = some (R, M') → RunF l D cy ad none YX3_readProduct (dT + 2) 0 0 (some (.int R)) (lay X M') 0 0 8 [(0, .ref 23), (1, .int x1), (2, .int x2), (3, .int x3)] [] (lay X M)) (x1 x2 x3 x4 : Int32) (M : Mem) (hF : f_X3_readProduct_37 T K8 x1 x2 x3 x4 M = some (R, M')) : RunF l D cy ad none YX3_readProduct (dT + 2) 0 0 (some (.int R)) (lay X M') 0 0 37 [(0, .ref 23), (1, .int x1), (2, .int x2), (3, .int x3), (4, .int x4)] [] (lay X M) := by
  unfold f_X3_readProduct_37 at hF
  refine g_aload_n (Y := YX3_readProduct) (pc := 37) 0 dX3_readProduct_37 rfl ?_
  refine g_dup (Y := YX3_readProduct) (pc := 38) dX3_readProduct_38 rfl ?_
  refine u_getI (Y := YX3_readProduct) (pc := 39) dX3_readProduct_39 fl_X3_85 k_23 ?_
  refine g_iconst (Y := YX3_readProduct) (pc := 42) dX3_readProduct_42 kI_1 ?_
  refine g_iadd (Y := YX3_readProduct) (pc := 43) dX3_readProduct_43 ?_
  refine u_putI (Y := YX3_readProduct) (pc := 44) dX3_readProduct_44 fl_X3_85  k_23 ?_
  refine g_nmM (fun M9 e => ?_)
  replace hF := ml_to e hF; clear e
  refine g_aload_n (Y := YX3_readProduct) (pc := 47) 0 dX3_readProduct_47 rfl ?_
  refine g_iload_n (Y := YX3_readProduct) (pc := 48) 1 dX3_readProduct_48 rfl ?_
  obtain ⟨r10, M11, e12, hF⟩ := bd_some hF
  refine s_callVi (Y := YX3_readProduct) (pc := 49) (as := [.int x1]) (st := []) (r_X3_readSigned hT e12) miX3_readSigned lk_X3_104 dX3_readProduct_49 k_23 rfl (Nat.le_of_ble_eq_true rfl) (by omega) rfl ?_
  clear e12
  refine g_istore (Y := YX3_readProduct) (pc := 52) (L' := [(5, .int r10), (0, .ref 23), (1, .int x1), (2, .int x2), (3, .int x3), (4, .int x4)]) dX3_readProduct_52 (Nat.le_of_ble_eq_true rfl) rfl ?_
  refine g_iload (Y := YX3_readProduct) (pc := 54) 5 dX3_readProduct_54 rfl ?_
  refine g_bipush (Y := YX3_readProduct) (pc := 56) dX3_readProduct_56 kB_42 ?_
  refine g_icmp_ne (Y := YX3_readProduct) (pc := 58) (tgt := 69) dX3_readProduct_58 rfl (fun c13 => ?_) (fun c13 => ?_)
  · replace hF := if_f c13 hF
    refine g_iload (Y := YX3_readProduct) (pc := 69) 0 dX3_readProduct_69 rfl ?_
    refine g_if_ne (Y := YX3_readProduct) (pc := 71) (tgt := 78) dX3_readProduct_71 rfl (fun c14 => ?_) (fun c14 => ?_)
    · replace hF := if_f c14 hF
      refine g_iload_n (Y := YX3_readProduct) (pc := 78) 3 dX3_readProduct_78 rfl ?_
      refine g_iload (Y := YX3_readProduct) (pc := 79) 0 dX3_readProduct_79 rfl ?_
      obtain ⟨g15, hF⟩ := gd_some hF
      refine g_idiv (Y := YX3_readProduct) (pc := 81) dX3_readProduct_81 g15 ?_
      refine g_loc [1, 2, 4] rfl ?_
      exact w_X3_readProduct_82 hT hK8 _ _ _ _ hF
    · replace hF := if_t c14 hF
      refine g_iconst (Y := YX3_readProduct) (pc := 74) dX3_readProduct_74 kI_0 ?_
      refine g_goto (Y := YX3_readProduct) (pc := 75) (tgt := 82) dX3_readProduct_75 rfl ?_
      refine g_loc [1, 2, 4] rfl ?_
      exact w_X3_readProduct_82 hT hK8 _ _ _ _ hF
  · replace hF := if_t c13 hF
    refine g_iload_n (Y := YX3_readProduct) (pc := 61) 3 dX3_readProduct_61 rfl ?_
    refine g_iload (Y := YX3_readProduct) (pc := 62) 0 dX3_readProduct_62 rfl ?_
    refine g_imul (Y := YX3_readProduct) (pc := 64) dX3_readProduct_64 ?_
    refine g_nm (fun v17 e => ?_)
    replace hF := vl_to e hF; clear e
    refine g_istore_n (Y := YX3_readProduct) (pc := 65) (L' := [(2, .int v17), (5, .int r10), (0, .ref 23), (1, .int x1), (3, .int x3), (4, .int x4)]) dX3_readProduct_65 (Nat.le_of_ble_eq_true rfl) rfl ?_
    refine g_goto (Y := YX3_readProduct) (pc := 66) (tgt := 83) dX3_readProduct_66 rfl ?_
    refine g_loc [2, 3, 0, 4] rfl ?_
    exact w_X3_readProduct_83 hT hK8 _ _ _ _ hF
def f_X3_readProduct_8 (T : Int32 → Mem → Option (Int32 × Mem)) : Nat → Int32 → Int32 → Int32 → Mem → Option (Int32 × Mem)
  | 0, _, _, _, _ => none
  | n + 1, x1, x2, x3, M =>
    if x3 < 40 then
      bd (f_X3_look M) fun r5 M6 =>
      if r5 = 42 then
        f_X3_readProduct_37 T (f_X3_readProduct_8 T n) x1 x2 x3 r5 M6
      else
        if r5 = 47 then
          f_X3_readProduct_37 T (f_X3_readProduct_8 T n) x1 x2 x3 r5 M6
        else
          f_X3_readProduct_89 T x2 M6
    else
      f_X3_readProduct_89 T x2 M
set_option maxRecDepth 100000 in
theorem w_X3_readProduct_8 {T : Int32 → Mem → Option (Int32 × Mem)} {R : Int32} {M' : Mem} (hT : ∀ (y0 : Int32) (M : Mem) (R : Int32) (M' : Mem), T y0 M = some (R, M') → RunS l D cy ad YX3_readThing dT [.ref 23, .int y0] X M (some (.int R)) M') : ∀ (n : Nat) (x1 x2 x3 : Int32) (M : Mem), f_X3_readProduct_8 T n x1 x2 x3 M = some (R, M') → RunF l D cy ad none YX3_readProduct (dT + 2) 0 0 (some (.int R)) (lay X M') 0 0 8 [(0, .ref 23), (1, .int x1), (2, .int x2), (3, .int x3)] [] (lay X M) := by
  intro n
  induction n with
  | zero => intro x1 x2 x3 M hF; exact absurd hF (by unfold f_X3_readProduct_8; exact fun h => nomatch h)
  | succ n ih =>
    intro x1 x2 x3 M hF
    unfold f_X3_readProduct_8 at hF
    refine g_iload_n (Y := YX3_readProduct) (pc := 8) 3 dX3_readProduct_8 rfl ?_
    refine g_bipush (Y := YX3_readProduct) (pc := 9) dX3_readProduct_9 kB_40 ?_
    refine g_icmp_ge (Y := YX3_readProduct) (pc := 11) (tgt := 89) dX3_readProduct_11 rfl (fun c4 => ?_) (fun c4 => ?_)
    · replace hF := if_f c4 hF
      refine g_loc [2] rfl ?_
      exact w_X3_readProduct_89 hT _ _ hF
    · replace hF := if_t c4 hF
      refine g_aload_n (Y := YX3_readProduct) (pc := 14) 0 dX3_readProduct_14 rfl ?_
      obtain ⟨r5, M6, e7, hF⟩ := bd_some hF
      refine s_callVi (Y := YX3_readProduct) (pc := 15) (as := []) (st := []) (r_X3_look  e7) miX3_look lk_X3_92 dX3_readProduct_15 k_23 rfl (Nat.le_of_ble_eq_true rfl) (by omega) rfl ?_
      clear e7
      refine g_istore (Y := YX3_readProduct) (pc := 18) (L' := [(4, .int r5), (0, .ref 23), (1, .int x1), (2, .int x2), (3, .int x3)]) dX3_readProduct_18 (Nat.le_of_ble_eq_true rfl) rfl ?_
      refine g_iload (Y := YX3_readProduct) (pc := 20) 0 dX3_readProduct_20 rfl ?_
      refine g_bipush (Y := YX3_readProduct) (pc := 22) dX3_readProduct_22 kB_42 ?_
      refine g_icmp_eq (Y := YX3_readProduct) (pc := 24) (tgt := 37) dX3_readProduct_24 rfl (fun c8 => ?_) (fun c8 => ?_)
      · replace hF := if_t c8 hF
        refine g_loc [1, 2, 3, 4, 0] rfl ?_
        exact w_X3_readProduct_37 hT ih _ _ _ _ _ hF
      · replace hF := if_f c8 hF
        refine g_iload (Y := YX3_readProduct) (pc := 27) 0 dX3_readProduct_27 rfl ?_
        refine g_bipush (Y := YX3_readProduct) (pc := 29) dX3_readProduct_29 kB_47 ?_
        refine g_icmp_eq (Y := YX3_readProduct) (pc := 31) (tgt := 37) dX3_readProduct_31 rfl (fun c18 => ?_) (fun c18 => ?_)
        · replace hF := if_t c18 hF
          refine g_loc [1, 2, 3, 4, 0] rfl ?_
          exact w_X3_readProduct_37 hT ih _ _ _ _ _ hF
        · replace hF := if_f c18 hF
          refine g_goto (Y := YX3_readProduct) (pc := 34) (tgt := 89) dX3_readProduct_34 rfl ?_
          refine g_loc [3] rfl ?_
          exact w_X3_readProduct_89 hT _ _ hF
def f_X3_readProduct_0 (T : Int32 → Mem → Option (Int32 × Mem)) (x1 : Int32) (M : Mem) : Option (Int32 × Mem) :=
  bd (f_X3_readSigned T x1 M) fun r1 M2 =>
  f_X3_readProduct_8 T FU x1 r1 0 M2
set_option maxRecDepth 100000 in
theorem w_X3_readProduct_0 {T : Int32 → Mem → Option (Int32 × Mem)} {R : Int32} {M' : Mem} (hT : ∀ (y0 : Int32) (M : Mem) (R : Int32) (M' : Mem), T y0 M = some (R, M') → RunS l D cy ad YX3_readThing dT [.ref 23, .int y0] X M (some (.int R)) M') (x1 : Int32) (M : Mem) (hF : f_X3_readProduct_0 T x1 M = some (R, M')) : RunF l D cy ad none YX3_readProduct (dT + 2) 0 0 (some (.int R)) (lay X M') 0 0 0 [(0, .ref 23), (1, .int x1)] [] (lay X M) := by
  unfold f_X3_readProduct_0 at hF
  refine g_aload_n (Y := YX3_readProduct) (pc := 0) 0 dX3_readProduct_0 rfl ?_
  refine g_iload_n (Y := YX3_readProduct) (pc := 1) 1 dX3_readProduct_1 rfl ?_
  obtain ⟨r1, M2, e3, hF⟩ := bd_some hF
  refine s_callVi (Y := YX3_readProduct) (pc := 2) (as := [.int x1]) (st := []) (r_X3_readSigned hT e3) miX3_readSigned lk_X3_104 dX3_readProduct_2 k_23 rfl (Nat.le_of_ble_eq_true rfl) (by omega) rfl ?_
  clear e3
  refine g_istore_n (Y := YX3_readProduct) (pc := 5) (L' := [(2, .int r1), (0, .ref 23), (1, .int x1)]) dX3_readProduct_5 (Nat.le_of_ble_eq_true rfl) rfl ?_
  refine g_iconst (Y := YX3_readProduct) (pc := 6) dX3_readProduct_6 kI_0 ?_
  refine g_istore_n (Y := YX3_readProduct) (pc := 7) (L' := [(3, .int 0), (2, .int r1), (0, .ref 23), (1, .int x1)]) dX3_readProduct_7 (Nat.le_of_ble_eq_true rfl) rfl ?_
  refine g_loc [2, 3, 1, 0] rfl ?_
  exact w_X3_readProduct_8 hT _ _ _ _ _ hF
def f_X3_readProduct (T : Int32 → Mem → Option (Int32 × Mem)) (x1 : Int32) (M : Mem) : Option (Int32 × Mem) := f_X3_readProduct_0 T x1 M
theorem r_X3_readProduct {x1 R : Int32} {M M' : Mem} {T : Int32 → Mem → Option (Int32 × Mem)} (hT : ∀ (y0 : Int32) (M : Mem) (R : Int32) (M' : Mem), T y0 M = some (R, M') → RunS l D cy ad YX3_readThing dT [.ref 23, .int y0] X M (some (.int R)) M') (hF : f_X3_readProduct T x1 M = some (R, M')) : RunS l D cy ad YX3_readProduct (dT + 2) [.ref 23, .int x1] X M (some (.int R)) M' := Run.of 1 (miX3_readProduct).1 (Nat.le_of_ble_eq_true rfl) (w_X3_readProduct_0 hT _ _ hF)
def f_X3_readSum_79 (T : Int32 → Mem → Option (Int32 × Mem)) (x2 : Int32) (M : Mem) : Option (Int32 × Mem) :=
  some (x2, M)
set_option maxRecDepth 100000 in
theorem w_X3_readSum_79 {T : Int32 → Mem → Option (Int32 × Mem)} {R : Int32} {M' : Mem} (hT : ∀ (y0 : Int32) (M : Mem) (R : Int32) (M' : Mem), T y0 M = some (R, M') → RunS l D cy ad YX3_readThing dT [.ref 23, .int y0] X M (some (.int R)) M') (x2 : Int32) (M : Mem) (hF : f_X3_readSum_79 T x2 M = some (R, M')) : RunF l D cy ad none YX3_readSum (dT + 3) 0 0 (some (.int R)) (lay X M') 0 0 79 [(2, .int x2)] [] (lay X M) := by
  unfold f_X3_readSum_79 at hF
  refine g_iload_n (Y := YX3_readSum) (pc := 79) 0 dX3_readSum_79 rfl ?_
  exact s_iret (Y := YX3_readSum) (pc := 80) dX3_readSum_80 rfl hF
def f_X3_readSum_72 (T : Int32 → Mem → Option (Int32 × Mem)) (K8 : Int32 → Int32 → Int32 → Mem → Option (Int32 × Mem)) (x1 : Int32) (x3 : Int32) (t0 : Int32) (M : Mem) : Option (Int32 × Mem) :=
  vl (x3 + 1) fun v14 =>
  K8 x1 t0 v14 M
set_option maxRecDepth 100000 in
theorem w_X3_readSum_72 {T : Int32 → Mem → Option (Int32 × Mem)} {R : Int32} {M' : Mem} {K8 : Int32 → Int32 → Int32 → Mem → Option (Int32 × Mem)} (hT : ∀ (y0 : Int32) (M : Mem) (R : Int32) (M' : Mem), T y0 M = some (R, M') → RunS l D cy ad YX3_readThing dT [.ref 23, .int y0] X M (some (.int R)) M') (hK8 : ∀ (x1 x2 x3 : Int32) (M : Mem), K8 x1 x2 x3 M = some (R, M') → RunF l D cy ad none YX3_readSum (dT + 3) 0 0 (some (.int R)) (lay X M') 0 0 8 [(0, .ref 23), (1, .int x1), (2, .int x2), (3, .int x3)] [] (lay X M)) (x1 x3 t0 : Int32) (M : Mem) (hF : f_X3_readSum_72 T K8 x1 x3 t0 M = some (R, M')) : RunF l D cy ad none YX3_readSum (dT + 3) 0 0 (some (.int R)) (lay X M') 0 0 72 [(0, .ref 23), (1, .int x1), (3, .int x3)] [.int t0] (lay X M) := by
  unfold f_X3_readSum_72 at hF
  refine g_istore_n (Y := YX3_readSum) (pc := 72) (L' := [(2, .int t0), (0, .ref 23), (1, .int x1), (3, .int x3)]) dX3_readSum_72 (Nat.le_of_ble_eq_true rfl) rfl ?_
  refine s_iinc (Y := YX3_readSum) (pc := 73) (j := 3) (L' := fun y => [(3, .int y), (2, .int t0), (0, .ref 23), (1, .int x1)]) dX3_readSum_73 kI_1 rfl (Nat.le_of_ble_eq_true rfl) (fun _ => rfl) (fun v14 e => ?_)
  replace hF := vl_to e hF; clear e
  refine g_goto (Y := YX3_readSum) (pc := 76) (tgt := 8) dX3_readSum_76 rfl ?_
  refine g_loc [2, 3, 1, 0] rfl ?_
  exact hK8 _ _ _ _ hF
def f_X3_readSum_37 (T : Int32 → Mem → Option (Int32 × Mem)) (K8 : Int32 → Int32 → Int32 → Mem → Option (Int32 × Mem)) (x1 : Int32) (x2 : Int32) (x3 : Int32) (x4 : Int32) (M : Mem) : Option (Int32 × Mem) :=
  ml (up M 23 5 ((M 23 5) + 1)) fun M9 =>
  bd (f_X3_readProduct T x1 M9) fun r10 M11 =>
  if x4 = 43 then
    f_X3_readSum_72 T K8 x1 x3 (x2 + r10) M11
  else
    f_X3_readSum_72 T K8 x1 x3 (x2 - r10) M11
set_option maxRecDepth 100000 in
theorem w_X3_readSum_37 {T : Int32 → Mem → Option (Int32 × Mem)} {R : Int32} {M' : Mem} {K8 : Int32 → Int32 → Int32 → Mem → Option (Int32 × Mem)} (hT : ∀ (y0 : Int32) (M : Mem) (R : Int32) (M' : Mem), T y0 M = some (R, M') → RunS l D cy ad YX3_readThing dT [.ref 23, .int y0] X M (some (.int R)) M') (hK8 : ∀ (x1 x2 x3 : Int32) (M : Mem), K8 x1 x2 x3 M = some (R, M') → RunF l D cy ad none YX3_readSum (dT + 3) 0 0 (some (.int R)) (lay X M') 0 0 8 [(0, .ref 23), (1, .int x1), (2, .int x2), (3, .int x3)] [] (lay X M)) (x1 x2 x3 x4 : Int32) (M : Mem) (hF : f_X3_readSum_37 T K8 x1 x2 x3 x4 M = some (R, M')) : RunF l D cy ad none YX3_readSum (dT + 3) 0 0 (some (.int R)) (lay X M') 0 0 37 [(0, .ref 23), (1, .int x1), (2, .int x2), (3, .int x3), (4, .int x4)] [] (lay X M) := by
  unfold f_X3_readSum_37 at hF
  refine g_aload_n (Y := YX3_readSum) (pc := 37) 0 dX3_readSum_37 rfl ?_
  refine g_dup (Y := YX3_readSum) (pc := 38) dX3_readSum_38 rfl ?_
  refine u_getI (Y := YX3_readSum) (pc := 39) dX3_readSum_39 fl_X3_85 k_23 ?_
  refine g_iconst (Y := YX3_readSum) (pc := 42) dX3_readSum_42 kI_1 ?_
  refine g_iadd (Y := YX3_readSum) (pc := 43) dX3_readSum_43 ?_
  refine u_putI (Y := YX3_readSum) (pc := 44) dX3_readSum_44 fl_X3_85  k_23 ?_
  refine g_nmM (fun M9 e => ?_)
  replace hF := ml_to e hF; clear e
  refine g_aload_n (Y := YX3_readSum) (pc := 47) 0 dX3_readSum_47 rfl ?_
  refine g_iload_n (Y := YX3_readSum) (pc := 48) 1 dX3_readSum_48 rfl ?_
  obtain ⟨r10, M11, e12, hF⟩ := bd_some hF
  refine s_callVi (Y := YX3_readSum) (pc := 49) (as := [.int x1]) (st := []) (r_X3_readProduct hT e12) miX3_readProduct lk_X3_101 dX3_readSum_49 k_23 rfl (Nat.le_of_ble_eq_true rfl) (by omega) rfl ?_
  clear e12
  refine g_istore (Y := YX3_readSum) (pc := 52) (L' := [(5, .int r10), (0, .ref 23), (1, .int x1), (2, .int x2), (3, .int x3), (4, .int x4)]) dX3_readSum_52 (Nat.le_of_ble_eq_true rfl) rfl ?_
  refine g_iload (Y := YX3_readSum) (pc := 54) 5 dX3_readSum_54 rfl ?_
  refine g_bipush (Y := YX3_readSum) (pc := 56) dX3_readSum_56 kB_43 ?_
  refine g_icmp_ne (Y := YX3_readSum) (pc := 58) (tgt := 68) dX3_readSum_58 rfl (fun c13 => ?_) (fun c13 => ?_)
  · replace hF := if_f c13 hF
    refine g_iload_n (Y := YX3_readSum) (pc := 68) 3 dX3_readSum_68 rfl ?_
    refine g_iload (Y := YX3_readSum) (pc := 69) 0 dX3_readSum_69 rfl ?_
    refine g_isub (Y := YX3_readSum) (pc := 71) dX3_readSum_71 ?_
    refine g_loc [1, 2, 4] rfl ?_
    exact w_X3_readSum_72 hT hK8 _ _ _ _ hF
  · replace hF := if_t c13 hF
    refine g_iload_n (Y := YX3_readSum) (pc := 61) 3 dX3_readSum_61 rfl ?_
    refine g_iload (Y := YX3_readSum) (pc := 62) 0 dX3_readSum_62 rfl ?_
    refine g_iadd (Y := YX3_readSum) (pc := 64) dX3_readSum_64 ?_
    refine g_goto (Y := YX3_readSum) (pc := 65) (tgt := 72) dX3_readSum_65 rfl ?_
    refine g_loc [1, 2, 4] rfl ?_
    exact w_X3_readSum_72 hT hK8 _ _ _ _ hF
def f_X3_readSum_8 (T : Int32 → Mem → Option (Int32 × Mem)) : Nat → Int32 → Int32 → Int32 → Mem → Option (Int32 × Mem)
  | 0, _, _, _, _ => none
  | n + 1, x1, x2, x3, M =>
    if x3 < 40 then
      bd (f_X3_look M) fun r5 M6 =>
      if r5 = 43 then
        f_X3_readSum_37 T (f_X3_readSum_8 T n) x1 x2 x3 r5 M6
      else
        if r5 = 45 then
          f_X3_readSum_37 T (f_X3_readSum_8 T n) x1 x2 x3 r5 M6
        else
          f_X3_readSum_79 T x2 M6
    else
      f_X3_readSum_79 T x2 M
set_option maxRecDepth 100000 in
theorem w_X3_readSum_8 {T : Int32 → Mem → Option (Int32 × Mem)} {R : Int32} {M' : Mem} (hT : ∀ (y0 : Int32) (M : Mem) (R : Int32) (M' : Mem), T y0 M = some (R, M') → RunS l D cy ad YX3_readThing dT [.ref 23, .int y0] X M (some (.int R)) M') : ∀ (n : Nat) (x1 x2 x3 : Int32) (M : Mem), f_X3_readSum_8 T n x1 x2 x3 M = some (R, M') → RunF l D cy ad none YX3_readSum (dT + 3) 0 0 (some (.int R)) (lay X M') 0 0 8 [(0, .ref 23), (1, .int x1), (2, .int x2), (3, .int x3)] [] (lay X M) := by
  intro n
  induction n with
  | zero => intro x1 x2 x3 M hF; exact absurd hF (by unfold f_X3_readSum_8; exact fun h => nomatch h)
  | succ n ih =>
    intro x1 x2 x3 M hF
    unfold f_X3_readSum_8 at hF
    refine g_iload_n (Y := YX3_readSum) (pc := 8) 3 dX3_readSum_8 rfl ?_
    refine g_bipush (Y := YX3_readSum) (pc := 9) dX3_readSum_9 kB_40 ?_
    refine g_icmp_ge (Y := YX3_readSum) (pc := 11) (tgt := 79) dX3_readSum_11 rfl (fun c4 => ?_) (fun c4 => ?_)
    · replace hF := if_f c4 hF
      refine g_loc [2] rfl ?_
      exact w_X3_readSum_79 hT _ _ hF
    · replace hF := if_t c4 hF
      refine g_aload_n (Y := YX3_readSum) (pc := 14) 0 dX3_readSum_14 rfl ?_
      obtain ⟨r5, M6, e7, hF⟩ := bd_some hF
      refine s_callVi (Y := YX3_readSum) (pc := 15) (as := []) (st := []) (r_X3_look  e7) miX3_look lk_X3_92 dX3_readSum_15 k_23 rfl (Nat.le_of_ble_eq_true rfl) (by omega) rfl ?_
      clear e7
      refine g_istore (Y := YX3_readSum) (pc := 18) (L' := [(4, .int r5), (0, .ref 23), (1, .int x1), (2, .int x2), (3, .int x3)]) dX3_readSum_18 (Nat.le_of_ble_eq_true rfl) rfl ?_
      refine g_iload (Y := YX3_readSum) (pc := 20) 0 dX3_readSum_20 rfl ?_
      refine g_bipush (Y := YX3_readSum) (pc := 22) dX3_readSum_22 kB_43 ?_
      refine g_icmp_eq (Y := YX3_readSum) (pc := 24) (tgt := 37) dX3_readSum_24 rfl (fun c8 => ?_) (fun c8 => ?_)
      · replace hF := if_t c8 hF
        refine g_loc [1, 2, 3, 4, 0] rfl ?_
        exact w_X3_readSum_37 hT ih _ _ _ _ _ hF
      · replace hF := if_f c8 hF
        refine g_iload (Y := YX3_readSum) (pc := 27) 0 dX3_readSum_27 rfl ?_
        refine g_bipush (Y := YX3_readSum) (pc := 29) dX3_readSum_29 kB_45 ?_
        refine g_icmp_eq (Y := YX3_readSum) (pc := 31) (tgt := 37) dX3_readSum_31 rfl (fun c15 => ?_) (fun c15 => ?_)
        · replace hF := if_t c15 hF
          refine g_loc [1, 2, 3, 4, 0] rfl ?_
          exact w_X3_readSum_37 hT ih _ _ _ _ _ hF
        · replace hF := if_f c15 hF
          refine g_goto (Y := YX3_readSum) (pc := 34) (tgt := 79) dX3_readSum_34 rfl ?_
          refine g_loc [3] rfl ?_
          exact w_X3_readSum_79 hT _ _ hF
def f_X3_readSum_0 (T : Int32 → Mem → Option (Int32 × Mem)) (x1 : Int32) (M : Mem) : Option (Int32 × Mem) :=
  bd (f_X3_readProduct T x1 M) fun r1 M2 =>
  f_X3_readSum_8 T FU x1 r1 0 M2
set_option maxRecDepth 100000 in
theorem w_X3_readSum_0 {T : Int32 → Mem → Option (Int32 × Mem)} {R : Int32} {M' : Mem} (hT : ∀ (y0 : Int32) (M : Mem) (R : Int32) (M' : Mem), T y0 M = some (R, M') → RunS l D cy ad YX3_readThing dT [.ref 23, .int y0] X M (some (.int R)) M') (x1 : Int32) (M : Mem) (hF : f_X3_readSum_0 T x1 M = some (R, M')) : RunF l D cy ad none YX3_readSum (dT + 3) 0 0 (some (.int R)) (lay X M') 0 0 0 [(0, .ref 23), (1, .int x1)] [] (lay X M) := by
  unfold f_X3_readSum_0 at hF
  refine g_aload_n (Y := YX3_readSum) (pc := 0) 0 dX3_readSum_0 rfl ?_
  refine g_iload_n (Y := YX3_readSum) (pc := 1) 1 dX3_readSum_1 rfl ?_
  obtain ⟨r1, M2, e3, hF⟩ := bd_some hF
  refine s_callVi (Y := YX3_readSum) (pc := 2) (as := [.int x1]) (st := []) (r_X3_readProduct hT e3) miX3_readProduct lk_X3_101 dX3_readSum_2 k_23 rfl (Nat.le_of_ble_eq_true rfl) (by omega) rfl ?_
  clear e3
  refine g_istore_n (Y := YX3_readSum) (pc := 5) (L' := [(2, .int r1), (0, .ref 23), (1, .int x1)]) dX3_readSum_5 (Nat.le_of_ble_eq_true rfl) rfl ?_
  refine g_iconst (Y := YX3_readSum) (pc := 6) dX3_readSum_6 kI_0 ?_
  refine g_istore_n (Y := YX3_readSum) (pc := 7) (L' := [(3, .int 0), (2, .int r1), (0, .ref 23), (1, .int x1)]) dX3_readSum_7 (Nat.le_of_ble_eq_true rfl) rfl ?_
  refine g_loc [2, 3, 1, 0] rfl ?_
  exact w_X3_readSum_8 hT _ _ _ _ _ hF
def f_X3_readSum (T : Int32 → Mem → Option (Int32 × Mem)) (x1 : Int32) (M : Mem) : Option (Int32 × Mem) := f_X3_readSum_0 T x1 M
theorem r_X3_readSum {x1 R : Int32} {M M' : Mem} {T : Int32 → Mem → Option (Int32 × Mem)} (hT : ∀ (y0 : Int32) (M : Mem) (R : Int32) (M' : Mem), T y0 M = some (R, M') → RunS l D cy ad YX3_readThing dT [.ref 23, .int y0] X M (some (.int R)) M') (hF : f_X3_readSum T x1 M = some (R, M')) : RunS l D cy ad YX3_readSum (dT + 3) [.ref 23, .int x1] X M (some (.int R)) M' := Run.of 1 (miX3_readSum).1 (Nat.le_of_ble_eq_true rfl) (w_X3_readSum_0 hT _ _ hF)
def f_X3_readExpression_111 (T : Int32 → Mem → Option (Int32 × Mem)) (t0 : Int32) (M : Mem) : Option (Int32 × Mem) :=
  some (t0, M)
set_option maxRecDepth 100000 in
theorem w_X3_readExpression_111 {T : Int32 → Mem → Option (Int32 × Mem)} {R : Int32} {M' : Mem} (hT : ∀ (y0 : Int32) (M : Mem) (R : Int32) (M' : Mem), T y0 M = some (R, M') → RunS l D cy ad YX3_readThing dT [.ref 23, .int y0] X M (some (.int R)) M') (t0 : Int32) (M : Mem) (hF : f_X3_readExpression_111 T t0 M = some (R, M')) : RunF l D cy ad none YX3_readExpression (dT + 4) 0 0 (some (.int R)) (lay X M') 0 0 111 [] [.int t0] (lay X M) := by
  unfold f_X3_readExpression_111 at hF
  exact s_iret (Y := YX3_readExpression) (pc := 111) dX3_readExpression_111 rfl hF
def f_X3_readExpression_99 (T : Int32 → Mem → Option (Int32 × Mem)) (t0 : Int32) (M : Mem) : Option (Int32 × Mem) :=
  if t0 = 0 then
    f_X3_readExpression_111 T 0 M
  else
    f_X3_readExpression_111 T 1 M
set_option maxRecDepth 100000 in
theorem w_X3_readExpression_99 {T : Int32 → Mem → Option (Int32 × Mem)} {R : Int32} {M' : Mem} (hT : ∀ (y0 : Int32) (M : Mem) (R : Int32) (M' : Mem), T y0 M = some (R, M') → RunS l D cy ad YX3_readThing dT [.ref 23, .int y0] X M (some (.int R)) M') (t0 : Int32) (M : Mem) (hF : f_X3_readExpression_99 T t0 M = some (R, M')) : RunF l D cy ad none YX3_readExpression (dT + 4) 0 0 (some (.int R)) (lay X M') 0 0 99 [] [.int t0] (lay X M) := by
  unfold f_X3_readExpression_99 at hF
  refine g_istore (Y := YX3_readExpression) (pc := 99) (L' := [(5, .int t0)]) dX3_readExpression_99 (Nat.le_of_ble_eq_true rfl) rfl ?_
  refine g_iload (Y := YX3_readExpression) (pc := 101) 0 dX3_readExpression_101 rfl ?_
  refine g_if_eq (Y := YX3_readExpression) (pc := 103) (tgt := 110) dX3_readExpression_103 rfl (fun c15 => ?_) (fun c15 => ?_)
  · replace hF := if_t c15 hF
    refine g_iconst (Y := YX3_readExpression) (pc := 110) dX3_readExpression_110 kI_0 ?_
    refine g_loc [] rfl ?_
    exact w_X3_readExpression_111 hT _ _ hF
  · replace hF := if_f c15 hF
    refine g_iconst (Y := YX3_readExpression) (pc := 106) dX3_readExpression_106 kI_1 ?_
    refine g_goto (Y := YX3_readExpression) (pc := 107) (tgt := 111) dX3_readExpression_107 rfl ?_
    refine g_loc [] rfl ?_
    exact w_X3_readExpression_111 hT _ _ hF
def f_X3_readExpression_31 (T : Int32 → Mem → Option (Int32 × Mem)) (x1 : Int32) (x2 : Int32) (x3 : Int32) (M : Mem) : Option (Int32 × Mem) :=
  ml (up M 23 5 ((M 23 5) + 1)) fun M8 =>
  bd (f_X3_readSum T x1 M8) fun r9 M10 =>
  if x3 = 60 then
    if x2 < r9 then
      f_X3_readExpression_99 T 1 M10
    else
      f_X3_readExpression_99 T 0 M10
  else
    if x3 = 62 then
      if r9 < x2 then
        f_X3_readExpression_99 T 1 M10
      else
        f_X3_readExpression_99 T 0 M10
    else
      if x2 = r9 then
        f_X3_readExpression_99 T 1 M10
      else
        f_X3_readExpression_99 T 0 M10
set_option maxRecDepth 100000 in
theorem w_X3_readExpression_31 {T : Int32 → Mem → Option (Int32 × Mem)} {R : Int32} {M' : Mem} (hT : ∀ (y0 : Int32) (M : Mem) (R : Int32) (M' : Mem), T y0 M = some (R, M') → RunS l D cy ad YX3_readThing dT [.ref 23, .int y0] X M (some (.int R)) M') (x1 x2 x3 : Int32) (M : Mem) (hF : f_X3_readExpression_31 T x1 x2 x3 M = some (R, M')) : RunF l D cy ad none YX3_readExpression (dT + 4) 0 0 (some (.int R)) (lay X M') 0 0 31 [(0, .ref 23), (1, .int x1), (2, .int x2), (3, .int x3)] [] (lay X M) := by
  unfold f_X3_readExpression_31 at hF
  refine g_aload_n (Y := YX3_readExpression) (pc := 31) 0 dX3_readExpression_31 rfl ?_
  refine g_dup (Y := YX3_readExpression) (pc := 32) dX3_readExpression_32 rfl ?_
  refine u_getI (Y := YX3_readExpression) (pc := 33) dX3_readExpression_33 fl_X3_85 k_23 ?_
  refine g_iconst (Y := YX3_readExpression) (pc := 36) dX3_readExpression_36 kI_1 ?_
  refine g_iadd (Y := YX3_readExpression) (pc := 37) dX3_readExpression_37 ?_
  refine u_putI (Y := YX3_readExpression) (pc := 38) dX3_readExpression_38 fl_X3_85  k_23 ?_
  refine g_nmM (fun M8 e => ?_)
  replace hF := ml_to e hF; clear e
  refine g_aload_n (Y := YX3_readExpression) (pc := 41) 0 dX3_readExpression_41 rfl ?_
  refine g_iload_n (Y := YX3_readExpression) (pc := 42) 1 dX3_readExpression_42 rfl ?_
  obtain ⟨r9, M10, e11, hF⟩ := bd_some hF
  refine s_callVi (Y := YX3_readExpression) (pc := 43) (as := [.int x1]) (st := []) (r_X3_readSum hT e11) miX3_readSum lk_X3_98 dX3_readExpression_43 k_23 rfl (Nat.le_of_ble_eq_true rfl) (by omega) rfl ?_
  clear e11
  refine g_istore (Y := YX3_readExpression) (pc := 46) (L' := [(4, .int r9), (0, .ref 23), (1, .int x1), (2, .int x2), (3, .int x3)]) dX3_readExpression_46 (Nat.le_of_ble_eq_true rfl) rfl ?_
  refine g_iload_n (Y := YX3_readExpression) (pc := 48) 4 dX3_readExpression_48 rfl ?_
  refine g_bipush (Y := YX3_readExpression) (pc := 49) dX3_readExpression_49 kB_60 ?_
  refine g_icmp_ne (Y := YX3_readExpression) (pc := 51) (tgt := 68) dX3_readExpression_51 rfl (fun c12 => ?_) (fun c12 => ?_)
  · replace hF := if_f c12 hF
    refine g_iload_n (Y := YX3_readExpression) (pc := 68) 4 dX3_readExpression_68 rfl ?_
    refine g_bipush (Y := YX3_readExpression) (pc := 69) dX3_readExpression_69 kB_62 ?_
    refine g_icmp_ne (Y := YX3_readExpression) (pc := 71) (tgt := 88) dX3_readExpression_71 rfl (fun c13 => ?_) (fun c13 => ?_)
    · replace hF := if_f c13 hF
      refine g_iload_n (Y := YX3_readExpression) (pc := 88) 3 dX3_readExpression_88 rfl ?_
      refine g_iload (Y := YX3_readExpression) (pc := 89) 0 dX3_readExpression_89 rfl ?_
      refine g_icmp_ne (Y := YX3_readExpression) (pc := 91) (tgt := 98) dX3_readExpression_91 rfl (fun c14 => ?_) (fun c14 => ?_)
      · replace hF := if_f c14 hF
        refine g_iconst (Y := YX3_readExpression) (pc := 98) dX3_readExpression_98 kI_0 ?_
        refine g_loc [] rfl ?_
        exact w_X3_readExpression_99 hT _ _ hF
      · replace hF := if_t c14 hF
        refine g_iconst (Y := YX3_readExpression) (pc := 94) dX3_readExpression_94 kI_1 ?_
        refine g_goto (Y := YX3_readExpression) (pc := 95) (tgt := 99) dX3_readExpression_95 rfl ?_
        refine g_loc [] rfl ?_
        exact w_X3_readExpression_99 hT _ _ hF
    · replace hF := if_t c13 hF
      refine g_iload_n (Y := YX3_readExpression) (pc := 74) 3 dX3_readExpression_74 rfl ?_
      refine g_iload (Y := YX3_readExpression) (pc := 75) 0 dX3_readExpression_75 rfl ?_
      refine g_icmp_le (Y := YX3_readExpression) (pc := 77) (tgt := 84) dX3_readExpression_77 rfl (fun c16 => ?_) (fun c16 => ?_)
      · replace hF := if_f c16 hF
        refine g_iconst (Y := YX3_readExpression) (pc := 84) dX3_readExpression_84 kI_0 ?_
        refine g_goto (Y := YX3_readExpression) (pc := 85) (tgt := 99) dX3_readExpression_85 rfl ?_
        refine g_loc [] rfl ?_
        exact w_X3_readExpression_99 hT _ _ hF
      · replace hF := if_t c16 hF
        refine g_iconst (Y := YX3_readExpression) (pc := 80) dX3_readExpression_80 kI_1 ?_
        refine g_goto (Y := YX3_readExpression) (pc := 81) (tgt := 99) dX3_readExpression_81 rfl ?_
        refine g_loc [] rfl ?_
        exact w_X3_readExpression_99 hT _ _ hF
  · replace hF := if_t c12 hF
    refine g_iload_n (Y := YX3_readExpression) (pc := 54) 3 dX3_readExpression_54 rfl ?_
    refine g_iload (Y := YX3_readExpression) (pc := 55) 0 dX3_readExpression_55 rfl ?_
    refine g_icmp_ge (Y := YX3_readExpression) (pc := 57) (tgt := 64) dX3_readExpression_57 rfl (fun c17 => ?_) (fun c17 => ?_)
    · replace hF := if_f c17 hF
      refine g_iconst (Y := YX3_readExpression) (pc := 64) dX3_readExpression_64 kI_0 ?_
      refine g_goto (Y := YX3_readExpression) (pc := 65) (tgt := 99) dX3_readExpression_65 rfl ?_
      refine g_loc [] rfl ?_
      exact w_X3_readExpression_99 hT _ _ hF
    · replace hF := if_t c17 hF
      refine g_iconst (Y := YX3_readExpression) (pc := 60) dX3_readExpression_60 kI_1 ?_
      refine g_goto (Y := YX3_readExpression) (pc := 61) (tgt := 99) dX3_readExpression_61 rfl ?_
      refine g_loc [] rfl ?_
      exact w_X3_readExpression_99 hT _ _ hF
def f_X3_readExpression_0 (T : Int32 → Mem → Option (Int32 × Mem)) (x1 : Int32) (M : Mem) : Option (Int32 × Mem) :=
  bd (f_X3_readSum T x1 M) fun r1 M2 =>
  bd (f_X3_look M2) fun r4 M5 =>
  if r4 = 60 then
    f_X3_readExpression_31 T x1 r1 r4 M5
  else
    if r4 = 62 then
      f_X3_readExpression_31 T x1 r1 r4 M5
    else
      if r4 = 61 then
        f_X3_readExpression_31 T x1 r1 r4 M5
      else
        some (r1, M5)
set_option maxRecDepth 100000 in
theorem w_X3_readExpression_0 {T : Int32 → Mem → Option (Int32 × Mem)} {R : Int32} {M' : Mem} (hT : ∀ (y0 : Int32) (M : Mem) (R : Int32) (M' : Mem), T y0 M = some (R, M') → RunS l D cy ad YX3_readThing dT [.ref 23, .int y0] X M (some (.int R)) M') (x1 : Int32) (M : Mem) (hF : f_X3_readExpression_0 T x1 M = some (R, M')) : RunF l D cy ad none YX3_readExpression (dT + 4) 0 0 (some (.int R)) (lay X M') 0 0 0 [(0, .ref 23), (1, .int x1)] [] (lay X M) := by
  unfold f_X3_readExpression_0 at hF
  refine g_aload_n (Y := YX3_readExpression) (pc := 0) 0 dX3_readExpression_0 rfl ?_
  refine g_iload_n (Y := YX3_readExpression) (pc := 1) 1 dX3_readExpression_1 rfl ?_
  obtain ⟨r1, M2, e3, hF⟩ := bd_some hF
  refine s_callVi (Y := YX3_readExpression) (pc := 2) (as := [.int x1]) (st := []) (r_X3_readSum hT e3) miX3_readSum lk_X3_98 dX3_readExpression_2 k_23 rfl (Nat.le_of_ble_eq_true rfl) (by omega) rfl ?_
  clear e3
  refine g_istore_n (Y := YX3_readExpression) (pc := 5) (L' := [(2, .int r1), (0, .ref 23), (1, .int x1)]) dX3_readExpression_5 (Nat.le_of_ble_eq_true rfl) rfl ?_
  refine g_aload_n (Y := YX3_readExpression) (pc := 6) 1 dX3_readExpression_6 rfl ?_
  obtain ⟨r4, M5, e6, hF⟩ := bd_some hF
  refine s_callVi (Y := YX3_readExpression) (pc := 7) (as := []) (st := []) (r_X3_look  e6) miX3_look lk_X3_92 dX3_readExpression_7 k_23 rfl (Nat.le_of_ble_eq_true rfl) (by omega) rfl ?_
  clear e6
  refine g_istore_n (Y := YX3_readExpression) (pc := 10) (L' := [(3, .int r4), (2, .int r1), (0, .ref 23), (1, .int x1)]) dX3_readExpression_10 (Nat.le_of_ble_eq_true rfl) rfl ?_
  refine g_iload_n (Y := YX3_readExpression) (pc := 11) 0 dX3_readExpression_11 rfl ?_
  refine g_bipush (Y := YX3_readExpression) (pc := 12) dX3_readExpression_12 kB_60 ?_
  refine g_icmp_eq (Y := YX3_readExpression) (pc := 14) (tgt := 31) dX3_readExpression_14 rfl (fun c7 => ?_) (fun c7 => ?_)
  · replace hF := if_t c7 hF
    refine g_loc [2, 3, 1, 0] rfl ?_
    exact w_X3_readExpression_31 hT _ _ _ _ hF
  · replace hF := if_f c7 hF
    refine g_iload_n (Y := YX3_readExpression) (pc := 17) 0 dX3_readExpression_17 rfl ?_
    refine g_bipush (Y := YX3_readExpression) (pc := 18) dX3_readExpression_18 kB_62 ?_
    refine g_icmp_eq (Y := YX3_readExpression) (pc := 20) (tgt := 31) dX3_readExpression_20 rfl (fun c18 => ?_) (fun c18 => ?_)
    · replace hF := if_t c18 hF
      refine g_loc [2, 3, 1, 0] rfl ?_
      exact w_X3_readExpression_31 hT _ _ _ _ hF
    · replace hF := if_f c18 hF
      refine g_iload_n (Y := YX3_readExpression) (pc := 23) 0 dX3_readExpression_23 rfl ?_
      refine g_bipush (Y := YX3_readExpression) (pc := 24) dX3_readExpression_24 kB_61 ?_
      refine g_icmp_eq (Y := YX3_readExpression) (pc := 26) (tgt := 31) dX3_readExpression_26 rfl (fun c19 => ?_) (fun c19 => ?_)
      · replace hF := if_t c19 hF
        refine g_loc [2, 3, 1, 0] rfl ?_
        exact w_X3_readExpression_31 hT _ _ _ _ hF
      · replace hF := if_f c19 hF
        refine g_iload_n (Y := YX3_readExpression) (pc := 29) 1 dX3_readExpression_29 rfl ?_
        exact s_iret (Y := YX3_readExpression) (pc := 30) dX3_readExpression_30 rfl hF
def f_X3_readExpression (T : Int32 → Mem → Option (Int32 × Mem)) (x1 : Int32) (M : Mem) : Option (Int32 × Mem) := f_X3_readExpression_0 T x1 M
theorem r_X3_readExpression {x1 R : Int32} {M M' : Mem} {T : Int32 → Mem → Option (Int32 × Mem)} (hT : ∀ (y0 : Int32) (M : Mem) (R : Int32) (M' : Mem), T y0 M = some (R, M') → RunS l D cy ad YX3_readThing dT [.ref 23, .int y0] X M (some (.int R)) M') (hF : f_X3_readExpression T x1 M = some (R, M')) : RunS l D cy ad YX3_readExpression (dT + 4) [.ref 23, .int x1] X M (some (.int R)) M' := Run.of 1 (miX3_readExpression).1 (Nat.le_of_ble_eq_true rfl) (w_X3_readExpression_0 hT _ _ hF)
def f_X3_readThing_79 (T : Int32 → Mem → Option (Int32 × Mem)) (x2 : Int32) (M : Mem) : Option (Int32 × Mem) :=
  bd (f_X3_readLetter x2 M) fun r6 M7 =>
  some (r6, M7)
set_option maxRecDepth 100000 in
theorem w_X3_readThing_79 {T : Int32 → Mem → Option (Int32 × Mem)} {R : Int32} {M' : Mem} (hT : ∀ (y0 : Int32) (M : Mem) (R : Int32) (M' : Mem), T y0 M = some (R, M') → RunS l D cy ad YX3_readThing dT [.ref 23, .int y0] X M (some (.int R)) M') (x2 : Int32) (M : Mem) (hF : f_X3_readThing_79 T x2 M = some (R, M')) : RunF l D cy ad none YX3_readThing (dT + 5) 0 0 (some (.int R)) (lay X M') 0 0 79 [(0, .ref 23), (2, .int x2)] [] (lay X M) := by
  unfold f_X3_readThing_79 at hF
  refine g_aload_n (Y := YX3_readThing) (pc := 79) 0 dX3_readThing_79 rfl ?_
  refine g_iload_n (Y := YX3_readThing) (pc := 80) 1 dX3_readThing_80 rfl ?_
  obtain ⟨r6, M7, e8, hF⟩ := bd_some hF
  refine s_callVi (Y := YX3_readThing) (pc := 81) (as := [.int x2]) (st := []) (r_X3_readLetter  e8) miX3_readLetter lk_X3_113 dX3_readThing_81 k_23 rfl (Nat.le_of_ble_eq_true rfl) (by omega) rfl ?_
  clear e8
  exact s_iret (Y := YX3_readThing) (pc := 84) dX3_readThing_84 rfl hF
def f_X3_readThing_77 (T : Int32 → Mem → Option (Int32 × Mem)) (x3 : Int32) (M : Mem) : Option (Int32 × Mem) :=
  some (x3, M)
set_option maxRecDepth 100000 in
theorem w_X3_readThing_77 {T : Int32 → Mem → Option (Int32 × Mem)} {R : Int32} {M' : Mem} (hT : ∀ (y0 : Int32) (M : Mem) (R : Int32) (M' : Mem), T y0 M = some (R, M') → RunS l D cy ad YX3_readThing dT [.ref 23, .int y0] X M (some (.int R)) M') (x3 : Int32) (M : Mem) (hF : f_X3_readThing_77 T x3 M = some (R, M')) : RunF l D cy ad none YX3_readThing (dT + 5) 0 0 (some (.int R)) (lay X M') 0 0 77 [(3, .int x3)] [] (lay X M) := by
  unfold f_X3_readThing_77 at hF
  refine g_iload_n (Y := YX3_readThing) (pc := 77) 0 dX3_readThing_77 rfl ?_
  exact s_iret (Y := YX3_readThing) (pc := 78) dX3_readThing_78 rfl hF
def f_X3_readThing_22 (T : Int32 → Mem → Option (Int32 × Mem)) (x1 : Int32) (x2 : Int32) (M : Mem) : Option (Int32 × Mem) :=
  if x2 = 40 then
    if x1 < 4 then
      ml (up M 23 5 ((M 23 5) + 1)) fun M10 =>
      bd (f_X3_readExpression T (x1 + 1) M10) fun r11 M12 =>
      bd (f_X3_look M12) fun r14 M15 =>
      if r14 = 41 then
        ml (up M15 23 5 ((M15 23 5) + 1)) fun M21 =>
        f_X3_readThing_77 T r11 M21
      else
        bd (f_X3_fail M15) fun _ M19 =>
        f_X3_readThing_77 T r11 M19
    else
      f_X3_readThing_79 T x2 M
  else
    f_X3_readThing_79 T x2 M
set_option maxRecDepth 100000 in
theorem w_X3_readThing_22 {T : Int32 → Mem → Option (Int32 × Mem)} {R : Int32} {M' : Mem} (hT : ∀ (y0 : Int32) (M : Mem) (R : Int32) (M' : Mem), T y0 M = some (R, M') → RunS l D cy ad YX3_readThing dT [.ref 23, .int y0] X M (some (.int R)) M') (x1 x2 : Int32) (M : Mem) (hF : f_X3_readThing_22 T x1 x2 M = some (R, M')) : RunF l D cy ad none YX3_readThing (dT + 5) 0 0 (some (.int R)) (lay X M') 0 0 22 [(0, .ref 23), (1, .int x1), (2, .int x2)] [] (lay X M) := by
  unfold f_X3_readThing_22 at hF
  refine g_iload_n (Y := YX3_readThing) (pc := 22) 2 dX3_readThing_22 rfl ?_
  refine g_bipush (Y := YX3_readThing) (pc := 23) dX3_readThing_23 kB_40 ?_
  refine g_icmp_ne (Y := YX3_readThing) (pc := 25) (tgt := 79) dX3_readThing_25 rfl (fun c5 => ?_) (fun c5 => ?_)
  · replace hF := if_f c5 hF
    refine g_loc [0, 2] rfl ?_
    exact w_X3_readThing_79 hT _ _ hF
  · replace hF := if_t c5 hF
    refine g_iload_n (Y := YX3_readThing) (pc := 28) 1 dX3_readThing_28 rfl ?_
    refine g_iconst (Y := YX3_readThing) (pc := 29) dX3_readThing_29 kI_4 ?_
    refine g_icmp_ge (Y := YX3_readThing) (pc := 30) (tgt := 79) dX3_readThing_30 rfl (fun c9 => ?_) (fun c9 => ?_)
    · replace hF := if_f c9 hF
      refine g_loc [0, 2] rfl ?_
      exact w_X3_readThing_79 hT _ _ hF
    · replace hF := if_t c9 hF
      refine g_aload_n (Y := YX3_readThing) (pc := 33) 0 dX3_readThing_33 rfl ?_
      refine g_dup (Y := YX3_readThing) (pc := 34) dX3_readThing_34 rfl ?_
      refine u_getI (Y := YX3_readThing) (pc := 35) dX3_readThing_35 fl_X3_85 k_23 ?_
      refine g_iconst (Y := YX3_readThing) (pc := 38) dX3_readThing_38 kI_1 ?_
      refine g_iadd (Y := YX3_readThing) (pc := 39) dX3_readThing_39 ?_
      refine u_putI (Y := YX3_readThing) (pc := 40) dX3_readThing_40 fl_X3_85  k_23 ?_
      refine g_nmM (fun M10 e => ?_)
      replace hF := ml_to e hF; clear e
      refine g_aload_n (Y := YX3_readThing) (pc := 43) 0 dX3_readThing_43 rfl ?_
      refine g_iload_n (Y := YX3_readThing) (pc := 44) 1 dX3_readThing_44 rfl ?_
      refine g_iconst (Y := YX3_readThing) (pc := 45) dX3_readThing_45 kI_1 ?_
      refine g_iadd (Y := YX3_readThing) (pc := 46) dX3_readThing_46 ?_
      obtain ⟨r11, M12, e13, hF⟩ := bd_some hF
      refine s_callVi (Y := YX3_readThing) (pc := 47) (as := [.int (x1 + 1)]) (st := []) (r_X3_readExpression hT e13) miX3_readExpression lk_X3_88 dX3_readThing_47 k_23 rfl (Nat.le_of_ble_eq_true rfl) (by omega) rfl ?_
      clear e13
      refine g_istore_n (Y := YX3_readThing) (pc := 50) (L' := [(3, .int r11), (0, .ref 23), (1, .int x1), (2, .int x2)]) dX3_readThing_50 (Nat.le_of_ble_eq_true rfl) rfl ?_
      refine g_aload_n (Y := YX3_readThing) (pc := 51) 1 dX3_readThing_51 rfl ?_
      obtain ⟨r14, M15, e16, hF⟩ := bd_some hF
      refine s_callVi (Y := YX3_readThing) (pc := 52) (as := []) (st := []) (r_X3_look  e16) miX3_look lk_X3_92 dX3_readThing_52 k_23 rfl (Nat.le_of_ble_eq_true rfl) (by omega) rfl ?_
      clear e16
      refine g_bipush (Y := YX3_readThing) (pc := 55) dX3_readThing_55 kB_41 ?_
      refine g_icmp_ne (Y := YX3_readThing) (pc := 57) (tgt := 73) dX3_readThing_57 rfl (fun c17 => ?_) (fun c17 => ?_)
      · replace hF := if_f c17 hF
        refine g_aload_n (Y := YX3_readThing) (pc := 73) 1 dX3_readThing_73 rfl ?_
        obtain ⟨r18, M19, e20, hF⟩ := bd_some hF
        refine s_callVv (Y := YX3_readThing) (pc := 74) (as := []) (st := []) (r_X3_fail  e20) miX3_fail lk_X3_95 dX3_readThing_74 k_23 rfl (Nat.le_of_ble_eq_true rfl) (by omega) rfl ?_
        clear e20
        refine g_loc [0] rfl ?_
        exact w_X3_readThing_77 hT _ _ hF
      · replace hF := if_t c17 hF
        refine g_aload_n (Y := YX3_readThing) (pc := 60) 1 dX3_readThing_60 rfl ?_
        refine g_dup (Y := YX3_readThing) (pc := 61) dX3_readThing_61 rfl ?_
        refine u_getI (Y := YX3_readThing) (pc := 62) dX3_readThing_62 fl_X3_85 k_23 ?_
        refine g_iconst (Y := YX3_readThing) (pc := 65) dX3_readThing_65 kI_1 ?_
        refine g_iadd (Y := YX3_readThing) (pc := 66) dX3_readThing_66 ?_
        refine u_putI (Y := YX3_readThing) (pc := 67) dX3_readThing_67 fl_X3_85  k_23 ?_
        refine g_nmM (fun M21 e => ?_)
        replace hF := ml_to e hF; clear e
        refine g_goto (Y := YX3_readThing) (pc := 70) (tgt := 77) dX3_readThing_70 rfl ?_
        refine g_loc [0] rfl ?_
        exact w_X3_readThing_77 hT _ _ hF
def f_X3_readThing_0 (T : Int32 → Mem → Option (Int32 × Mem)) (x1 : Int32) (M : Mem) : Option (Int32 × Mem) :=
  bd (f_X3_look M) fun r1 M2 =>
  if r1 < 48 then
    f_X3_readThing_22 T x1 r1 M2
  else
    if 57 < r1 then
      f_X3_readThing_22 T x1 r1 M2
    else
      bd (f_X3_readDigits M2) fun r23 M24 =>
      some (r23, M24)
set_option maxRecDepth 100000 in
theorem w_X3_readThing_0 {T : Int32 → Mem → Option (Int32 × Mem)} {R : Int32} {M' : Mem} (hT : ∀ (y0 : Int32) (M : Mem) (R : Int32) (M' : Mem), T y0 M = some (R, M') → RunS l D cy ad YX3_readThing dT [.ref 23, .int y0] X M (some (.int R)) M') (x1 : Int32) (M : Mem) (hF : f_X3_readThing_0 T x1 M = some (R, M')) : RunF l D cy ad none YX3_readThing (dT + 5) 0 0 (some (.int R)) (lay X M') 0 0 0 [(0, .ref 23), (1, .int x1)] [] (lay X M) := by
  unfold f_X3_readThing_0 at hF
  refine g_aload_n (Y := YX3_readThing) (pc := 0) 0 dX3_readThing_0 rfl ?_
  obtain ⟨r1, M2, e3, hF⟩ := bd_some hF
  refine s_callVi (Y := YX3_readThing) (pc := 1) (as := []) (st := []) (r_X3_look  e3) miX3_look lk_X3_92 dX3_readThing_1 k_23 rfl (Nat.le_of_ble_eq_true rfl) (by omega) rfl ?_
  clear e3
  refine g_istore_n (Y := YX3_readThing) (pc := 4) (L' := [(2, .int r1), (0, .ref 23), (1, .int x1)]) dX3_readThing_4 (Nat.le_of_ble_eq_true rfl) rfl ?_
  refine g_iload_n (Y := YX3_readThing) (pc := 5) 0 dX3_readThing_5 rfl ?_
  refine g_bipush (Y := YX3_readThing) (pc := 6) dX3_readThing_6 kB_48 ?_
  refine g_icmp_lt (Y := YX3_readThing) (pc := 8) (tgt := 22) dX3_readThing_8 rfl (fun c4 => ?_) (fun c4 => ?_)
  · replace hF := if_t c4 hF
    refine g_loc [1, 2, 0] rfl ?_
    exact w_X3_readThing_22 hT _ _ _ hF
  · replace hF := if_f c4 hF
    refine g_iload_n (Y := YX3_readThing) (pc := 11) 0 dX3_readThing_11 rfl ?_
    refine g_bipush (Y := YX3_readThing) (pc := 12) dX3_readThing_12 kB_57 ?_
    refine g_icmp_gt (Y := YX3_readThing) (pc := 14) (tgt := 22) dX3_readThing_14 rfl (fun c22 => ?_) (fun c22 => ?_)
    · replace hF := if_t c22 hF
      refine g_loc [1, 2, 0] rfl ?_
      exact w_X3_readThing_22 hT _ _ _ hF
    · replace hF := if_f c22 hF
      refine g_aload_n (Y := YX3_readThing) (pc := 17) 1 dX3_readThing_17 rfl ?_
      obtain ⟨r23, M24, e25, hF⟩ := bd_some hF
      refine s_callVi (Y := YX3_readThing) (pc := 18) (as := []) (st := []) (r_X3_readDigits  e25) miX3_readDigits lk_X3_110 dX3_readThing_18 k_23 rfl (Nat.le_of_ble_eq_true rfl) (by omega) rfl ?_
      clear e25
      exact s_iret (Y := YX3_readThing) (pc := 21) dX3_readThing_21 rfl hF
def b_X3_readThing (T : Int32 → Mem → Option (Int32 × Mem)) (x1 : Int32) (M : Mem) : Option (Int32 × Mem) := f_X3_readThing_0 T x1 M
theorem rb_X3_readThing {x1 R : Int32} {M M' : Mem} {T : Int32 → Mem → Option (Int32 × Mem)} (hT : ∀ (y0 : Int32) (M : Mem) (R : Int32) (M' : Mem), T y0 M = some (R, M') → RunS l D cy ad YX3_readThing dT [.ref 23, .int y0] X M (some (.int R)) M') (hF : b_X3_readThing T x1 M = some (R, M')) : RunS l D cy ad YX3_readThing (dT + 5) [.ref 23, .int x1] X M (some (.int R)) M' := Run.of 1 (miX3_readThing).1 (Nat.le_of_ble_eq_true rfl) (w_X3_readThing_0 hT _ _ hF)
def f_X3_readThing : Nat → Int32 → Mem → Option (Int32 × Mem)
  | 0, _, _ => none
  | n + 1, x1, M => b_X3_readThing (f_X3_readThing n) x1 M
theorem rn_X3_readThing : ∀ (n : Nat) (x1 : Int32) (M : Mem) (R : Int32) (M' : Mem), f_X3_readThing n x1 M = some (R, M') → RunS l D cy ad YX3_readThing (5 * n) [.ref 23, .int x1] X M (some (.int R)) M'
  | 0, _, _, _, _, h => nomatch h
  | n + 1, x1, M, R, M', h => rb_X3_readThing (dT := 5 * n) (fun y0 M R M' h => rn_X3_readThing n y0 M R M' h) h
theorem r_X3_readThing {x1 : Int32} {M M' : Mem} {R : Int32} (hF : f_X3_readThing RU x1 M = some (R, M')) : RunS l D cy ad YX3_readThing 500 [.ref 23, .int x1] X M (some (.int R)) M' := rn_X3_readThing RU x1 M R M' hF
def f_X3_readAll_28  (x1 : Int32) (M : Mem) : Option (Int32 × Mem) :=
  some (x1, M)
set_option maxRecDepth 100000 in
theorem w_X3_readAll_28 {R : Int32} {M' : Mem}  (x1 : Int32) (M : Mem) (hF : f_X3_readAll_28 x1 M = some (R, M')) : RunF l D cy ad none YX3_readAll 505 0 0 (some (.int R)) (lay X M') 0 0 28 [(1, .int x1)] [] (lay X M) := by
  unfold f_X3_readAll_28 at hF
  refine g_iload_n (Y := YX3_readAll) (pc := 28) 0 dX3_readAll_28 rfl ?_
  exact s_iret (Y := YX3_readAll) (pc := 29) dX3_readAll_29 rfl hF
def f_X3_readAll_0  (M : Mem) : Option (Int32 × Mem) :=
  ml (up M 23 5 0) fun M1 =>
  ml (up M1 23 6 (-1)) fun M2 =>
  bd (f_X3_readExpression (f_X3_readThing RU) 0 M2) fun r3 M4 =>
  bd (f_X3_look M4) fun r6 M7 =>
  if r6 = (-1) then
    f_X3_readAll_28 r3 M7
  else
    bd (f_X3_fail M7) fun _ M11 =>
    f_X3_readAll_28 r3 M11
set_option maxRecDepth 100000 in
theorem w_X3_readAll_0 {R : Int32} {M' : Mem}  (M : Mem) (hF : f_X3_readAll_0  M = some (R, M')) : RunF l D cy ad none YX3_readAll 505 0 0 (some (.int R)) (lay X M') 0 0 0 [(0, .ref 23)] [] (lay X M) := by
  unfold f_X3_readAll_0 at hF
  refine g_aload_n (Y := YX3_readAll) (pc := 0) 0 dX3_readAll_0 rfl ?_
  refine g_iconst (Y := YX3_readAll) (pc := 1) dX3_readAll_1 kI_0 ?_
  refine u_putI (Y := YX3_readAll) (pc := 2) dX3_readAll_2 fl_X3_85  k_23 ?_
  refine g_nmM (fun M1 e => ?_)
  replace hF := ml_to e hF; clear e
  refine g_aload_n (Y := YX3_readAll) (pc := 5) 0 dX3_readAll_5 rfl ?_
  refine g_iconst (Y := YX3_readAll) (pc := 6) dX3_readAll_6 kI_m1 ?_
  refine u_putI (Y := YX3_readAll) (pc := 7) dX3_readAll_7 fl_X3_43  k_23 ?_
  refine g_nmM (fun M2 e => ?_)
  replace hF := ml_to e hF; clear e
  refine g_aload_n (Y := YX3_readAll) (pc := 10) 0 dX3_readAll_10 rfl ?_
  refine g_iconst (Y := YX3_readAll) (pc := 11) dX3_readAll_11 kI_0 ?_
  obtain ⟨r3, M4, e5, hF⟩ := bd_some hF
  refine s_callVi (Y := YX3_readAll) (pc := 12) (as := [.int 0]) (st := []) (r_X3_readExpression (rn_X3_readThing RU) e5) miX3_readExpression lk_X3_88 dX3_readAll_12 k_23 rfl (Nat.le_of_ble_eq_true rfl) (Nat.le_of_ble_eq_true rfl) rfl ?_
  clear e5
  refine g_istore_n (Y := YX3_readAll) (pc := 15) (L' := [(1, .int r3), (0, .ref 23)]) dX3_readAll_15 (Nat.le_of_ble_eq_true rfl) rfl ?_
  refine g_aload_n (Y := YX3_readAll) (pc := 16) 1 dX3_readAll_16 rfl ?_
  obtain ⟨r6, M7, e8, hF⟩ := bd_some hF
  refine s_callVi (Y := YX3_readAll) (pc := 17) (as := []) (st := []) (r_X3_look  e8) miX3_look lk_X3_92 dX3_readAll_17 k_23 rfl (Nat.le_of_ble_eq_true rfl) (Nat.le_of_ble_eq_true rfl) rfl ?_
  clear e8
  refine g_iconst (Y := YX3_readAll) (pc := 20) dX3_readAll_20 kI_m1 ?_
  refine g_icmp_eq (Y := YX3_readAll) (pc := 21) (tgt := 28) dX3_readAll_21 rfl (fun c9 => ?_) (fun c9 => ?_)
  · replace hF := if_t c9 hF
    refine g_loc [0] rfl ?_
    exact w_X3_readAll_28  _ _ hF
  · replace hF := if_f c9 hF
    refine g_aload_n (Y := YX3_readAll) (pc := 24) 1 dX3_readAll_24 rfl ?_
    obtain ⟨r10, M11, e12, hF⟩ := bd_some hF
    refine s_callVv (Y := YX3_readAll) (pc := 25) (as := []) (st := []) (r_X3_fail  e12) miX3_fail lk_X3_95 dX3_readAll_25 k_23 rfl (Nat.le_of_ble_eq_true rfl) (Nat.le_of_ble_eq_true rfl) rfl ?_
    clear e12
    refine g_loc [0] rfl ?_
    exact w_X3_readAll_28  _ _ hF
def f_X3_readAll (M : Mem) : Option (Int32 × Mem) := f_X3_readAll_0 M
theorem r_X3_readAll {R : Int32} {M M' : Mem}  (hF : f_X3_readAll  M = some (R, M')) : RunS l D cy ad YX3_readAll 505 [.ref 23] X M (some (.int R)) M' := Run.of 0 (miX3_readAll).1 (Nat.le_of_ble_eq_true rfl) (w_X3_readAll_0  _ hF)
def f_X3_valueOf_62  (x2 : Int32) (t0 : Int32) (M : Mem) : Option (Int32 × Mem) :=
  ml (up M 23 11 t0) fun M13 =>
  gd (0 ≤ x2 ∧ x2.toNatClampNeg < 6) <|
  ml (up M13 23 12 (M13 7 x2.toNatClampNeg)) fun M15 =>
  ml (up M15 23 2 0) fun M16 =>
  ml (up M16 23 3 (M16 23 1)) fun M17 =>
  ml (up M17 23 4 0) fun M18 =>
  bd (f_X3_readAll M18) fun r19 M20 =>
  some (r19, M20)
set_option maxRecDepth 100000 in
theorem w_X3_valueOf_62 {R : Int32} {M' : Mem}  (x2 t0 : Int32) (M : Mem) (hF : f_X3_valueOf_62 x2 t0 M = some (R, M')) : RunF l D cy ad none YX3_valueOf 506 0 0 (some (.int R)) (lay X M') 0 0 62 [(0, .ref 23), (1, .ref 3), (2, .int x2)] [.int t0, .ref 23] (lay X M) := by
  unfold f_X3_valueOf_62 at hF
  refine u_putI (Y := YX3_valueOf) (pc := 62) dX3_valueOf_62 fl_X3_77  k_23 ?_
  refine g_nmM (fun M13 e => ?_)
  replace hF := ml_to e hF; clear e
  refine g_aload_n (Y := YX3_valueOf) (pc := 65) 0 dX3_valueOf_65 rfl ?_
  refine g_aload_n (Y := YX3_valueOf) (pc := 66) 1 dX3_valueOf_66 rfl ?_
  refine u_getR (Y := YX3_valueOf) (pc := 67) (j := 7) dX3_valueOf_67 fl_X3_80 k_3 rf_3_6 ?_
  refine g_iload_n (Y := YX3_valueOf) (pc := 70) 2 dX3_valueOf_70 rfl ?_
  obtain ⟨g14, hF⟩ := gd_some hF
  refine s_iald (Y := YX3_valueOf) (pc := 71) dX3_valueOf_71 k_7 n_7 g14 ?_
  refine u_putI (Y := YX3_valueOf) (pc := 72) dX3_valueOf_72 fl_X3_83  k_23 ?_
  refine g_nmM (fun M15 e => ?_)
  replace hF := ml_to e hF; clear e
  refine g_aload_n (Y := YX3_valueOf) (pc := 75) 0 dX3_valueOf_75 rfl ?_
  refine g_aload_n (Y := YX3_valueOf) (pc := 76) 0 dX3_valueOf_76 rfl ?_
  refine u_getR (Y := YX3_valueOf) (pc := 77) (j := 24) dX3_valueOf_77 fl_X3_11 k_23 rf_23_0 ?_
  refine s_putSrc (Y := YX3_valueOf) (pc := 80) 0 (by decide) dX3_valueOf_80 fl_X3_19.1 ?_
  refine g_nmM (fun M16 e => ?_)
  replace hF := ml_to e hF; clear e
  refine g_aload_n (Y := YX3_valueOf) (pc := 83) 0 dX3_valueOf_83 rfl ?_
  refine g_aload_n (Y := YX3_valueOf) (pc := 84) 0 dX3_valueOf_84 rfl ?_
  refine u_getI (Y := YX3_valueOf) (pc := 85) dX3_valueOf_85 fl_X3_15 k_23 ?_
  refine u_putI (Y := YX3_valueOf) (pc := 88) dX3_valueOf_88 fl_X3_32  k_23 ?_
  refine g_nmM (fun M17 e => ?_)
  replace hF := ml_to e hF; clear e
  refine g_aload_n (Y := YX3_valueOf) (pc := 91) 0 dX3_valueOf_91 rfl ?_
  refine g_iconst (Y := YX3_valueOf) (pc := 92) dX3_valueOf_92 kI_0 ?_
  refine u_putZ (Y := YX3_valueOf) (pc := 93) dX3_valueOf_93 fl_X3_35 (Or.inl rfl) k_23 ?_
  refine g_nmM (fun M18 e => ?_)
  replace hF := ml_to e hF; clear e
  refine g_aload_n (Y := YX3_valueOf) (pc := 96) 0 dX3_valueOf_96 rfl ?_
  obtain ⟨r19, M20, e21, hF⟩ := bd_some hF
  refine s_callVi (Y := YX3_valueOf) (pc := 97) (as := []) (st := []) (r_X3_readAll  e21) miX3_readAll lk_X3_39 dX3_valueOf_97 k_23 rfl (Nat.le_of_ble_eq_true rfl) (Nat.le_of_ble_eq_true rfl) rfl ?_
  clear e21
  exact s_iret (Y := YX3_valueOf) (pc := 100) dX3_valueOf_100 rfl hF
def f_X3_valueOf_0  (x2 : Int32) (x3 : Int32) (M : Mem) : Option (Int32 × Mem) :=
  if (M 23 1) = 0 then
    gd (0 ≤ x2 ∧ x2.toNatClampNeg < 6) <|
    gd (0 ≤ x3 ∧ x3.toNatClampNeg < 6) <|
    some ((M (10 + x2.toNatClampNeg) x3.toNatClampNeg), M)
  else
    gd (0 ≤ x2 ∧ x2.toNatClampNeg < 6) <|
    gd (0 ≤ x3 ∧ x3.toNatClampNeg < 6) <|
    ml (up M 23 7 (M (10 + x2.toNatClampNeg) x3.toNatClampNeg)) fun M4 =>
    gd (0 ≤ x2 ∧ x2.toNatClampNeg < 6) <|
    ml (up M4 23 8 (M4 6 x2.toNatClampNeg)) fun M6 =>
    ml (up M6 23 9 x3) fun M7 =>
    ml (up M7 23 10 x2) fun M8 =>
    bd (f_X1_isCorridor x3 M8) fun r9 M10 =>
    if r9 = 0 then
      f_X3_valueOf_62 x2 0 M10
    else
      f_X3_valueOf_62 x2 1 M10
set_option maxRecDepth 100000 in
theorem w_X3_valueOf_0 {R : Int32} {M' : Mem}  (x2 x3 : Int32) (M : Mem) (hF : f_X3_valueOf_0 x2 x3 M = some (R, M')) : RunF l D cy ad none YX3_valueOf 506 0 0 (some (.int R)) (lay X M') 0 0 0 [(0, .ref 23), (1, .ref 3), (2, .int x2), (3, .int x3)] [] (lay X M) := by
  unfold f_X3_valueOf_0 at hF
  refine g_aload_n (Y := YX3_valueOf) (pc := 0) 0 dX3_valueOf_0 rfl ?_
  refine u_getI (Y := YX3_valueOf) (pc := 1) dX3_valueOf_1 fl_X3_15 k_23 ?_
  refine g_if_ne (Y := YX3_valueOf) (pc := 4) (tgt := 16) dX3_valueOf_4 rfl (fun c1 => ?_) (fun c1 => ?_)
  · replace hF := if_f c1 hF
    refine g_aload_n (Y := YX3_valueOf) (pc := 16) 0 dX3_valueOf_16 rfl ?_
    refine g_aload_n (Y := YX3_valueOf) (pc := 17) 1 dX3_valueOf_17 rfl ?_
    refine u_getR (Y := YX3_valueOf) (pc := 18) (j := 9) dX3_valueOf_18 fl_X3_52 k_3 rf_3_8 ?_
    refine g_iload_n (Y := YX3_valueOf) (pc := 21) 2 dX3_valueOf_21 rfl ?_
    obtain ⟨g2, hF⟩ := gd_some hF
    refine s_aaldA (Y := YX3_valueOf) (pc := 22) dX3_valueOf_22 k_9 n_9 g2 (told_r g2.2) ?_
    refine g_iload_n (Y := YX3_valueOf) (pc := 23) 3 dX3_valueOf_23 rfl ?_
    obtain ⟨g3, hF⟩ := gd_some hF
    refine s_iald (Y := YX3_valueOf) (pc := 24) dX3_valueOf_24 (told_all _ g2.2).2.1 (told_all _ g2.2).2.2 g3 ?_
    refine u_putI (Y := YX3_valueOf) (pc := 25) dX3_valueOf_25 fl_X3_58  k_23 ?_
    refine g_nmM (fun M4 e => ?_)
    replace hF := ml_to e hF; clear e
    refine g_aload_n (Y := YX3_valueOf) (pc := 28) 0 dX3_valueOf_28 rfl ?_
    refine g_aload_n (Y := YX3_valueOf) (pc := 29) 1 dX3_valueOf_29 rfl ?_
    refine u_getR (Y := YX3_valueOf) (pc := 30) (j := 6) dX3_valueOf_30 fl_X3_61 k_3 rf_3_5 ?_
    refine g_iload_n (Y := YX3_valueOf) (pc := 33) 2 dX3_valueOf_33 rfl ?_
    obtain ⟨g5, hF⟩ := gd_some hF
    refine s_iald (Y := YX3_valueOf) (pc := 34) dX3_valueOf_34 k_6 n_6 g5 ?_
    refine u_putI (Y := YX3_valueOf) (pc := 35) dX3_valueOf_35 fl_X3_65  k_23 ?_
    refine g_nmM (fun M6 e => ?_)
    replace hF := ml_to e hF; clear e
    refine g_aload_n (Y := YX3_valueOf) (pc := 38) 0 dX3_valueOf_38 rfl ?_
    refine g_iload_n (Y := YX3_valueOf) (pc := 39) 3 dX3_valueOf_39 rfl ?_
    refine u_putI (Y := YX3_valueOf) (pc := 40) dX3_valueOf_40 fl_X3_67  k_23 ?_
    refine g_nmM (fun M7 e => ?_)
    replace hF := ml_to e hF; clear e
    refine g_aload_n (Y := YX3_valueOf) (pc := 43) 0 dX3_valueOf_43 rfl ?_
    refine g_iload_n (Y := YX3_valueOf) (pc := 44) 2 dX3_valueOf_44 rfl ?_
    refine u_putI (Y := YX3_valueOf) (pc := 45) dX3_valueOf_45 fl_X3_70  k_23 ?_
    refine g_nmM (fun M8 e => ?_)
    replace hF := ml_to e hF; clear e
    refine g_aload_n (Y := YX3_valueOf) (pc := 48) 0 dX3_valueOf_48 rfl ?_
    refine g_aload_n (Y := YX3_valueOf) (pc := 49) 1 dX3_valueOf_49 rfl ?_
    refine g_iload_n (Y := YX3_valueOf) (pc := 50) 3 dX3_valueOf_50 rfl ?_
    obtain ⟨r9, M10, e11, hF⟩ := bd_some hF
    refine s_callVi (Y := YX3_valueOf) (pc := 51) (as := [.int x3]) (st := [.ref 23]) (r_X1_isCorridor  e11) miX1_isCorridor lk_X3_73 dX3_valueOf_51 k_3 rfl (Nat.le_of_ble_eq_true rfl) (Nat.le_of_ble_eq_true rfl) rfl ?_
    clear e11
    refine g_if_eq (Y := YX3_valueOf) (pc := 54) (tgt := 61) dX3_valueOf_54 rfl (fun c12 => ?_) (fun c12 => ?_)
    · replace hF := if_t c12 hF
      refine g_iconst (Y := YX3_valueOf) (pc := 61) dX3_valueOf_61 kI_0 ?_
      refine g_loc [0, 1, 2] rfl ?_
      exact w_X3_valueOf_62  _ _ _ hF
    · replace hF := if_f c12 hF
      refine g_iconst (Y := YX3_valueOf) (pc := 57) dX3_valueOf_57 kI_1 ?_
      refine g_goto (Y := YX3_valueOf) (pc := 58) (tgt := 62) dX3_valueOf_58 rfl ?_
      refine g_loc [0, 1, 2] rfl ?_
      exact w_X3_valueOf_62  _ _ _ hF
  · replace hF := if_t c1 hF
    refine g_aload_n (Y := YX3_valueOf) (pc := 7) 1 dX3_valueOf_7 rfl ?_
    refine u_getR (Y := YX3_valueOf) (pc := 8) (j := 9) dX3_valueOf_8 fl_X3_52 k_3 rf_3_8 ?_
    refine g_iload_n (Y := YX3_valueOf) (pc := 11) 2 dX3_valueOf_11 rfl ?_
    obtain ⟨g22, hF⟩ := gd_some hF
    refine s_aaldA (Y := YX3_valueOf) (pc := 12) dX3_valueOf_12 k_9 n_9 g22 (told_r g22.2) ?_
    refine g_iload_n (Y := YX3_valueOf) (pc := 13) 3 dX3_valueOf_13 rfl ?_
    obtain ⟨g23, hF⟩ := gd_some hF
    refine s_iald (Y := YX3_valueOf) (pc := 14) dX3_valueOf_14 (told_all _ g22.2).2.1 (told_all _ g22.2).2.2 g23 ?_
    exact s_iret (Y := YX3_valueOf) (pc := 15) dX3_valueOf_15 rfl hF
def f_X3_valueOf (x2 : Int32) (x3 : Int32) (M : Mem) : Option (Int32 × Mem) := f_X3_valueOf_0 x2 x3 M
theorem r_X3_valueOf {x2 x3 R : Int32} {M M' : Mem}  (hF : f_X3_valueOf x2 x3 M = some (R, M')) : RunS l D cy ad YX3_valueOf 506 [.ref 23, .ref 3, .int x2, .int x3] X M (some (.int R)) M' := Run.of 3 (miX3_valueOf).1 (Nat.le_of_ble_eq_true rfl) (w_X3_valueOf_0  _ _ _ hF)
end NXG
