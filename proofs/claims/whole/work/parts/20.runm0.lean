theorem dJ6_bitCount_0f7a4_0 : decode cJ6_bitCount_0f7a4 0 = .ok (.iload_n 0, 1) := by decide +kernel
theorem dJ6_bitCount_0f7a4_1 : decode cJ6_bitCount_0f7a4 1 = .ok (.iload_n 0, 1) := by decide +kernel
theorem dJ6_bitCount_0f7a4_2 : decode cJ6_bitCount_0f7a4 2 = .ok (.iconst 1, 1) := by decide +kernel
theorem dJ6_bitCount_0f7a4_3 : decode cJ6_bitCount_0f7a4 3 = .ok (.iushr, 1) := by decide +kernel
theorem dJ6_bitCount_0f7a4_4 : decode cJ6_bitCount_0f7a4 4 = .ok (.ldc_w 265, 3) := by decide +kernel
theorem dJ6_bitCount_0f7a4_7 : decode cJ6_bitCount_0f7a4 7 = .ok (.iand, 1) := by decide +kernel
theorem dJ6_bitCount_0f7a4_8 : decode cJ6_bitCount_0f7a4 8 = .ok (.isub, 1) := by decide +kernel
theorem dJ6_bitCount_0f7a4_9 : decode cJ6_bitCount_0f7a4 9 = .ok (.istore_n 0, 1) := by decide +kernel
theorem dJ6_bitCount_0f7a4_10 : decode cJ6_bitCount_0f7a4 10 = .ok (.iload_n 0, 1) := by decide +kernel
theorem dJ6_bitCount_0f7a4_11 : decode cJ6_bitCount_0f7a4 11 = .ok (.ldc_w 266, 3) := by decide +kernel
theorem dJ6_bitCount_0f7a4_14 : decode cJ6_bitCount_0f7a4 14 = .ok (.iand, 1) := by decide +kernel
theorem dJ6_bitCount_0f7a4_15 : decode cJ6_bitCount_0f7a4 15 = .ok (.iload_n 0, 1) := by decide +kernel
theorem dJ6_bitCount_0f7a4_16 : decode cJ6_bitCount_0f7a4 16 = .ok (.iconst 2, 1) := by decide +kernel
theorem dJ6_bitCount_0f7a4_17 : decode cJ6_bitCount_0f7a4 17 = .ok (.iushr, 1) := by decide +kernel
theorem dJ6_bitCount_0f7a4_18 : decode cJ6_bitCount_0f7a4 18 = .ok (.ldc_w 266, 3) := by decide +kernel
theorem dJ6_bitCount_0f7a4_21 : decode cJ6_bitCount_0f7a4 21 = .ok (.iand, 1) := by decide +kernel
theorem dJ6_bitCount_0f7a4_22 : decode cJ6_bitCount_0f7a4 22 = .ok (.iadd, 1) := by decide +kernel
theorem dJ6_bitCount_0f7a4_23 : decode cJ6_bitCount_0f7a4 23 = .ok (.istore_n 0, 1) := by decide +kernel
theorem dJ6_bitCount_0f7a4_24 : decode cJ6_bitCount_0f7a4 24 = .ok (.iload_n 0, 1) := by decide +kernel
theorem dJ6_bitCount_0f7a4_25 : decode cJ6_bitCount_0f7a4 25 = .ok (.iload_n 0, 1) := by decide +kernel
theorem dJ6_bitCount_0f7a4_26 : decode cJ6_bitCount_0f7a4 26 = .ok (.iconst 4, 1) := by decide +kernel
theorem dJ6_bitCount_0f7a4_27 : decode cJ6_bitCount_0f7a4 27 = .ok (.iushr, 1) := by decide +kernel
theorem dJ6_bitCount_0f7a4_28 : decode cJ6_bitCount_0f7a4 28 = .ok (.iadd, 1) := by decide +kernel
theorem dJ6_bitCount_0f7a4_29 : decode cJ6_bitCount_0f7a4 29 = .ok (.ldc_w 267, 3) := by decide +kernel
theorem dJ6_bitCount_0f7a4_32 : decode cJ6_bitCount_0f7a4 32 = .ok (.iand, 1) := by decide +kernel
theorem dJ6_bitCount_0f7a4_33 : decode cJ6_bitCount_0f7a4 33 = .ok (.istore_n 0, 1) := by decide +kernel
theorem dJ6_bitCount_0f7a4_34 : decode cJ6_bitCount_0f7a4 34 = .ok (.iload_n 0, 1) := by decide +kernel
theorem dJ6_bitCount_0f7a4_35 : decode cJ6_bitCount_0f7a4 35 = .ok (.iload_n 0, 1) := by decide +kernel
theorem dJ6_bitCount_0f7a4_36 : decode cJ6_bitCount_0f7a4 36 = .ok (.bipush 8, 2) := by decide +kernel
theorem dJ6_bitCount_0f7a4_38 : decode cJ6_bitCount_0f7a4 38 = .ok (.iushr, 1) := by decide +kernel
theorem dJ6_bitCount_0f7a4_39 : decode cJ6_bitCount_0f7a4 39 = .ok (.iadd, 1) := by decide +kernel
theorem dJ6_bitCount_0f7a4_40 : decode cJ6_bitCount_0f7a4 40 = .ok (.istore_n 0, 1) := by decide +kernel
theorem dJ6_bitCount_0f7a4_41 : decode cJ6_bitCount_0f7a4 41 = .ok (.iload_n 0, 1) := by decide +kernel
theorem dJ6_bitCount_0f7a4_42 : decode cJ6_bitCount_0f7a4 42 = .ok (.iload_n 0, 1) := by decide +kernel
theorem dJ6_bitCount_0f7a4_43 : decode cJ6_bitCount_0f7a4 43 = .ok (.bipush 16, 2) := by decide +kernel
theorem dJ6_bitCount_0f7a4_45 : decode cJ6_bitCount_0f7a4 45 = .ok (.iushr, 1) := by decide +kernel
theorem dJ6_bitCount_0f7a4_46 : decode cJ6_bitCount_0f7a4 46 = .ok (.iadd, 1) := by decide +kernel
theorem dJ6_bitCount_0f7a4_47 : decode cJ6_bitCount_0f7a4 47 = .ok (.istore_n 0, 1) := by decide +kernel
theorem dJ6_bitCount_0f7a4_48 : decode cJ6_bitCount_0f7a4 48 = .ok (.iload_n 0, 1) := by decide +kernel
theorem dJ6_bitCount_0f7a4_49 : decode cJ6_bitCount_0f7a4 49 = .ok (.bipush 63, 2) := by decide +kernel
theorem dJ6_bitCount_0f7a4_51 : decode cJ6_bitCount_0f7a4 51 = .ok (.iand, 1) := by decide +kernel
theorem dJ6_bitCount_0f7a4_52 : decode cJ6_bitCount_0f7a4 52 = .ok (.ireturn, 1) := by decide +kernel
theorem dX11_thrown_0 : decode cX11_thrown 0 = .ok (.aload_n 0, 1) := by decide +kernel
theorem dX11_thrown_1 : decode cX11_thrown 1 = .ok (.getfield 99, 3) := by decide +kernel
theorem dX11_thrown_4 : decode cX11_thrown 4 = .ok (.ireturn, 1) := by decide +kernel
theorem dX11_in_0 : decode cX11_in 0 = .ok (.iload_n 0, 1) := by decide +kernel
theorem dX11_in_1 : decode cX11_in 1 = .ok (.iload_n 1, 1) := by decide +kernel
theorem dX11_in_2 : decode cX11_in 2 = .ok (.if_icmp .lt 12, 3) := by decide +kernel
theorem dX11_in_5 : decode cX11_in 5 = .ok (.iload_n 0, 1) := by decide +kernel
theorem dX11_in_6 : decode cX11_in 6 = .ok (.iload_n 2, 1) := by decide +kernel
theorem dX11_in_7 : decode cX11_in 7 = .ok (.if_icmp .gt 7, 3) := by decide +kernel
theorem dX11_in_10 : decode cX11_in 10 = .ok (.iconst 1, 1) := by decide +kernel
theorem dX11_in_11 : decode cX11_in 11 = .ok (.goto 4, 3) := by decide +kernel
theorem dX11_in_14 : decode cX11_in 14 = .ok (.iconst 0, 1) := by decide +kernel
theorem dX11_in_15 : decode cX11_in 15 = .ok (.ireturn, 1) := by decide +kernel
theorem dX11_has_0 : decode cX11_has 0 = .ok (.iload_n 0, 1) := by decide +kernel
theorem dX11_has_1 : decode cX11_has 1 = .ok (.iload_n 1, 1) := by decide +kernel
theorem dX11_has_2 : decode cX11_has 2 = .ok (.ishr, 1) := by decide +kernel
theorem dX11_has_3 : decode cX11_has 3 = .ok (.iconst 1, 1) := by decide +kernel
theorem dX11_has_4 : decode cX11_has 4 = .ok (.iand, 1) := by decide +kernel
theorem dX11_has_5 : decode cX11_has 5 = .ok (.iconst 1, 1) := by decide +kernel
theorem dX11_has_6 : decode cX11_has 6 = .ok (.if_icmp .ne 7, 3) := by decide +kernel
theorem dX11_has_9 : decode cX11_has 9 = .ok (.iconst 1, 1) := by decide +kernel
theorem dX11_has_10 : decode cX11_has 10 = .ok (.goto 4, 3) := by decide +kernel
theorem dX11_has_13 : decode cX11_has 13 = .ok (.iconst 0, 1) := by decide +kernel
theorem dX11_has_14 : decode cX11_has 14 = .ok (.ireturn, 1) := by decide +kernel
theorem dX11_lost_0 : decode cX11_lost 0 = .ok (.aload_n 0, 1) := by decide +kernel
theorem dX11_lost_1 : decode cX11_lost 1 = .ok (.iconst 1, 1) := by decide +kernel
theorem dX11_lost_2 : decode cX11_lost 2 = .ok (.putfield 99, 3) := by decide +kernel
theorem dX11_lost_5 : decode cX11_lost 5 = .ok (.iconst 0, 1) := by decide +kernel
theorem dX11_lost_6 : decode cX11_lost 6 = .ok (.ireturn, 1) := by decide +kernel
theorem dX11_tell_0 : decode cX11_tell 0 = .ok (.aload_n 0, 1) := by decide +kernel
theorem dX11_tell_1 : decode cX11_tell 1 = .ok (.getfield 39, 3) := by decide +kernel
theorem dX11_tell_4 : decode cX11_tell 4 = .ok (.aload_n 0, 1) := by decide +kernel
theorem dX11_tell_5 : decode cX11_tell 5 = .ok (.getfield 103, 3) := by decide +kernel
theorem dX11_tell_8 : decode cX11_tell 8 = .ok (.iload_n 1, 1) := by decide +kernel
theorem dX11_tell_9 : decode cX11_tell 9 = .ok (.iastore, 1) := by decide +kernel
theorem dX11_tell_10 : decode cX11_tell 10 = .ok (.aload_n 0, 1) := by decide +kernel
theorem dX11_tell_11 : decode cX11_tell 11 = .ok (.dup, 1) := by decide +kernel
theorem dX11_tell_12 : decode cX11_tell 12 = .ok (.getfield 103, 3) := by decide +kernel
theorem dX11_tell_15 : decode cX11_tell 15 = .ok (.iconst 1, 1) := by decide +kernel
theorem dX11_tell_16 : decode cX11_tell 16 = .ok (.iadd, 1) := by decide +kernel
theorem dX11_tell_17 : decode cX11_tell 17 = .ok (.putfield 103, 3) := by decide +kernel
theorem dX11_tell_20 : decode cX11_tell 20 = .ok (.return_, 1) := by decide +kernel
theorem dX11_isRoom_0 : decode cX11_isRoom 0 = .ok (.iload_n 1, 1) := by decide +kernel
theorem dX11_isRoom_1 : decode cX11_isRoom 1 = .ok (.iconst 0, 1) := by decide +kernel
theorem dX11_isRoom_2 : decode cX11_isRoom 2 = .ok (.aload_n 0, 1) := by decide +kernel
theorem dX11_isRoom_3 : decode cX11_isRoom 3 = .ok (.getfield 106, 3) := by decide +kernel
theorem dX11_isRoom_6 : decode cX11_isRoom 6 = .ok (.iconst 1, 1) := by decide +kernel
theorem dX11_isRoom_7 : decode cX11_isRoom 7 = .ok (.isub, 1) := by decide +kernel
theorem dX11_isRoom_8 : decode cX11_isRoom 8 = .ok (.invokestatic 109, 3) := by decide +kernel
theorem dX11_isRoom_11 : decode cX11_isRoom 11 = .ok (.ireturn, 1) := by decide +kernel
theorem dX11_isGroup_0 : decode cX11_isGroup 0 = .ok (.iload_n 1, 1) := by decide +kernel
theorem dX11_isGroup_1 : decode cX11_isGroup 1 = .ok (.iconst 0, 1) := by decide +kernel
theorem dX11_isGroup_2 : decode cX11_isGroup 2 = .ok (.aload_n 0, 1) := by decide +kernel
theorem dX11_isGroup_3 : decode cX11_isGroup 3 = .ok (.getfield 113, 3) := by decide +kernel
theorem dX11_isGroup_6 : decode cX11_isGroup 6 = .ok (.iconst 1, 1) := by decide +kernel
theorem dX11_isGroup_7 : decode cX11_isGroup 7 = .ok (.isub, 1) := by decide +kernel
theorem dX11_isGroup_8 : decode cX11_isGroup 8 = .ok (.invokestatic 109, 3) := by decide +kernel
theorem dX11_isGroup_11 : decode cX11_isGroup 11 = .ok (.ireturn, 1) := by decide +kernel
theorem dX11_everybody_0 : decode cX11_everybody 0 = .ok (.iconst 1, 1) := by decide +kernel
theorem dX11_everybody_1 : decode cX11_everybody 1 = .ok (.aload_n 0, 1) := by decide +kernel
theorem dX11_everybody_2 : decode cX11_everybody 2 = .ok (.getfield 113, 3) := by decide +kernel
theorem dX11_everybody_5 : decode cX11_everybody 5 = .ok (.ishl, 1) := by decide +kernel
theorem dX11_everybody_6 : decode cX11_everybody 6 = .ok (.iconst 1, 1) := by decide +kernel
theorem dX11_everybody_7 : decode cX11_everybody 7 = .ok (.isub, 1) := by decide +kernel
theorem dX11_everybody_8 : decode cX11_everybody 8 = .ok (.ireturn, 1) := by decide +kernel
theorem dX11_sign_0 : decode cX11_sign 0 = .ok (.aload_n 0, 1) := by decide +kernel
theorem dX11_sign_1 : decode cX11_sign 1 = .ok (.iconst 0, 1) := by decide +kernel
theorem dX11_sign_2 : decode cX11_sign 2 = .ok (.putfield 99, 3) := by decide +kernel
theorem dX11_sign_5 : decode cX11_sign 5 = .ok (.aload_n 0, 1) := by decide +kernel
theorem dX11_sign_6 : decode cX11_sign 6 = .ok (.getfield 116, 3) := by decide +kernel
theorem dX11_sign_9 : decode cX11_sign 9 = .ok (.iconst 4, 1) := by decide +kernel
theorem dX11_sign_10 : decode cX11_sign 10 = .ok (.iadd, 1) := by decide +kernel
theorem dX11_sign_11 : decode cX11_sign 11 = .ok (.bipush 80, 2) := by decide +kernel
theorem dX11_sign_13 : decode cX11_sign 13 = .ok (.if_icmp .le 5, 3) := by decide +kernel
theorem dX11_sign_16 : decode cX11_sign 16 = .ok (.iconst (-1), 1) := by decide +kernel
theorem dX11_sign_17 : decode cX11_sign 17 = .ok (.ireturn, 1) := by decide +kernel
theorem dX11_sign_18 : decode cX11_sign 18 = .ok (.iconst 3, 1) := by decide +kernel
theorem dX11_sign_19 : decode cX11_sign 19 = .ok (.istore_n 2, 1) := by decide +kernel
theorem dX11_sign_20 : decode cX11_sign 20 = .ok (.iload_n 2, 1) := by decide +kernel
theorem dX11_sign_21 : decode cX11_sign 21 = .ok (.ifCond .lt 32, 3) := by decide +kernel
theorem dX11_sign_24 : decode cX11_sign 24 = .ok (.aload_n 0, 1) := by decide +kernel
theorem dX11_sign_25 : decode cX11_sign 25 = .ok (.getfield 35, 3) := by decide +kernel
theorem dX11_sign_28 : decode cX11_sign 28 = .ok (.aload_n 0, 1) := by decide +kernel
theorem dX11_sign_29 : decode cX11_sign 29 = .ok (.dup, 1) := by decide +kernel
theorem dX11_sign_30 : decode cX11_sign 30 = .ok (.getfield 116, 3) := by decide +kernel
theorem dX11_sign_33 : decode cX11_sign 33 = .ok (.dup_x1, 1) := by decide +kernel
theorem dX11_sign_34 : decode cX11_sign 34 = .ok (.iconst 1, 1) := by decide +kernel
theorem dX11_sign_35 : decode cX11_sign 35 = .ok (.iadd, 1) := by decide +kernel
theorem dX11_sign_36 : decode cX11_sign 36 = .ok (.putfield 116, 3) := by decide +kernel
theorem dX11_sign_39 : decode cX11_sign 39 = .ok (.iload_n 1, 1) := by decide +kernel
theorem dX11_sign_40 : decode cX11_sign 40 = .ok (.bipush 8, 2) := by decide +kernel
theorem dX11_sign_42 : decode cX11_sign 42 = .ok (.iload_n 2, 1) := by decide +kernel
theorem dX11_sign_43 : decode cX11_sign 43 = .ok (.imul, 1) := by decide +kernel
theorem dX11_sign_44 : decode cX11_sign 44 = .ok (.ishr, 1) := by decide +kernel
theorem dX11_sign_45 : decode cX11_sign 45 = .ok (.i2b, 1) := by decide +kernel
theorem dX11_sign_46 : decode cX11_sign 46 = .ok (.bastore, 1) := by decide +kernel
theorem dX11_sign_47 : decode cX11_sign 47 = .ok (.iinc 2 (-1), 3) := by decide +kernel
theorem dX11_sign_50 : decode cX11_sign 50 = .ok (.goto (-30), 3) := by decide +kernel
theorem dX11_sign_53 : decode cX11_sign 53 = .ok (.aload_n 0, 1) := by decide +kernel
theorem dX11_sign_54 : decode cX11_sign 54 = .ok (.getfield 116, 3) := by decide +kernel
theorem dX11_sign_57 : decode cX11_sign 57 = .ok (.ireturn, 1) := by decide +kernel
theorem dX11_end_0 : decode cX11_end 0 = .ok (.aload_n 0, 1) := by decide +kernel
theorem dX11_end_1 : decode cX11_end 1 = .ok (.iconst 0, 1) := by decide +kernel
theorem dX11_end_2 : decode cX11_end 2 = .ok (.putfield 99, 3) := by decide +kernel
theorem dX11_end_5 : decode cX11_end 5 = .ok (.iload_n 1, 1) := by decide +kernel
theorem dX11_end_6 : decode cX11_end 6 = .ok (.iconst 0, 1) := by decide +kernel
theorem dX11_end_7 : decode cX11_end 7 = .ok (.aload_n 0, 1) := by decide +kernel
theorem dX11_end_8 : decode cX11_end 8 = .ok (.getfield 116, 3) := by decide +kernel
theorem dX11_end_11 : decode cX11_end 11 = .ok (.invokestatic 109, 3) := by decide +kernel
theorem dX11_end_14 : decode cX11_end 14 = .ok (.ifCond .ne 5, 3) := by decide +kernel
theorem dX11_end_17 : decode cX11_end 17 = .ok (.iconst 0, 1) := by decide +kernel
theorem dX11_end_18 : decode cX11_end 18 = .ok (.ireturn, 1) := by decide +kernel
theorem dX11_end_19 : decode cX11_end 19 = .ok (.aload_n 0, 1) := by decide +kernel
theorem dX11_end_20 : decode cX11_end 20 = .ok (.iload_n 1, 1) := by decide +kernel
theorem dX11_end_21 : decode cX11_end 21 = .ok (.putfield 116, 3) := by decide +kernel
theorem dX11_end_24 : decode cX11_end 24 = .ok (.iconst 1, 1) := by decide +kernel
theorem dX11_end_25 : decode cX11_end 25 = .ok (.ireturn, 1) := by decide +kernel
theorem dX11_begin_0 : decode cX11_begin 0 = .ok (.aload_n 0, 1) := by decide +kernel
theorem dX11_begin_1 : decode cX11_begin 1 = .ok (.aload_n 1, 1) := by decide +kernel
theorem dX11_begin_2 : decode cX11_begin 2 = .ok (.putfield 119, 3) := by decide +kernel
theorem dX11_begin_5 : decode cX11_begin 5 = .ok (.aload_n 0, 1) := by decide +kernel
theorem dX11_begin_6 : decode cX11_begin 6 = .ok (.iload_n 2, 1) := by decide +kernel
theorem dX11_begin_7 : decode cX11_begin 7 = .ok (.putfield 122, 3) := by decide +kernel
theorem dX11_begin_10 : decode cX11_begin 10 = .ok (.aload_n 0, 1) := by decide +kernel
theorem dX11_begin_11 : decode cX11_begin 11 = .ok (.iload_n 3, 1) := by decide +kernel
theorem dX11_begin_12 : decode cX11_begin 12 = .ok (.putfield 125, 3) := by decide +kernel
theorem dX11_begin_15 : decode cX11_begin 15 = .ok (.aload_n 0, 1) := by decide +kernel
theorem dX11_begin_16 : decode cX11_begin 16 = .ok (.iconst 0, 1) := by decide +kernel
theorem dX11_begin_17 : decode cX11_begin 17 = .ok (.putfield 128, 3) := by decide +kernel
theorem dX11_begin_20 : decode cX11_begin 20 = .ok (.aload_n 0, 1) := by decide +kernel
theorem dX11_begin_21 : decode cX11_begin 21 = .ok (.iconst (-1), 1) := by decide +kernel
theorem dX11_begin_22 : decode cX11_begin 22 = .ok (.putfield 131, 3) := by decide +kernel
theorem dX11_begin_25 : decode cX11_begin 25 = .ok (.return_, 1) := by decide +kernel
theorem dX11_here_0 : decode cX11_here 0 = .ok (.aload_n 0, 1) := by decide +kernel
theorem dX11_here_1 : decode cX11_here 1 = .ok (.getfield 128, 3) := by decide +kernel
theorem dX11_here_4 : decode cX11_here 4 = .ok (.aload_n 0, 1) := by decide +kernel
theorem dX11_here_5 : decode cX11_here 5 = .ok (.getfield 122, 3) := by decide +kernel
theorem dX11_here_8 : decode cX11_here 8 = .ok (.if_icmp .ge 30, 3) := by decide +kernel
theorem dX11_here_11 : decode cX11_here 11 = .ok (.aload_n 0, 1) := by decide +kernel
theorem dX11_here_12 : decode cX11_here 12 = .ok (.getfield 128, 3) := by decide +kernel
theorem dX11_here_15 : decode cX11_here 15 = .ok (.aload_n 0, 1) := by decide +kernel
theorem dX11_here_16 : decode cX11_here 16 = .ok (.getfield 125, 3) := by decide +kernel
theorem dX11_here_19 : decode cX11_here 19 = .ok (.if_icmp .ge 19, 3) := by decide +kernel
theorem dX11_here_22 : decode cX11_here 22 = .ok (.aload_n 0, 1) := by decide +kernel
theorem dX11_here_23 : decode cX11_here 23 = .ok (.getfield 119, 3) := by decide +kernel
theorem dX11_here_26 : decode cX11_here 26 = .ok (.aload_n 0, 1) := by decide +kernel
theorem dX11_here_27 : decode cX11_here 27 = .ok (.getfield 128, 3) := by decide +kernel
theorem dX11_here_30 : decode cX11_here 30 = .ok (.baload, 1) := by decide +kernel
theorem dX11_here_31 : decode cX11_here 31 = .ok (.sipush 255, 3) := by decide +kernel
theorem dX11_here_34 : decode cX11_here 34 = .ok (.iand, 1) := by decide +kernel
theorem dX11_here_35 : decode cX11_here 35 = .ok (.goto 4, 3) := by decide +kernel
theorem dX11_here_38 : decode cX11_here 38 = .ok (.iconst (-1), 1) := by decide +kernel
theorem dX11_here_39 : decode cX11_here 39 = .ok (.ireturn, 1) := by decide +kernel
theorem dX11_fine_0 : decode cX11_fine 0 = .ok (.aload_n 0, 1) := by decide +kernel
theorem dX11_fine_1 : decode cX11_fine 1 = .ok (.getfield 131, 3) := by decide +kernel
theorem dX11_fine_4 : decode cX11_fine 4 = .ok (.iconst (-1), 1) := by decide +kernel
theorem dX11_fine_5 : decode cX11_fine 5 = .ok (.if_icmp .ne 7, 3) := by decide +kernel
theorem dX11_fine_8 : decode cX11_fine 8 = .ok (.iconst 1, 1) := by decide +kernel
theorem dX11_fine_9 : decode cX11_fine 9 = .ok (.goto 4, 3) := by decide +kernel
theorem dX11_fine_12 : decode cX11_fine 12 = .ok (.iconst 0, 1) := by decide +kernel
theorem dX11_fine_13 : decode cX11_fine 13 = .ok (.ireturn, 1) := by decide +kernel
theorem dX11_fault_0 : decode cX11_fault 0 = .ok (.aload_n 0, 1) := by decide +kernel
theorem dX11_fault_1 : decode cX11_fault 1 = .ok (.invokevirtual 134, 3) := by decide +kernel
theorem dX11_fault_4 : decode cX11_fault 4 = .ok (.ifCond .eq 8, 3) := by decide +kernel
theorem dX11_fault_7 : decode cX11_fault 7 = .ok (.aload_n 0, 1) := by decide +kernel
theorem dX11_fault_8 : decode cX11_fault 8 = .ok (.iload_n 1, 1) := by decide +kernel
theorem dX11_fault_9 : decode cX11_fault 9 = .ok (.putfield 131, 3) := by decide +kernel
theorem dX11_fault_12 : decode cX11_fault 12 = .ok (.return_, 1) := by decide +kernel
theorem dX11_passes_0 : decode cX11_passes 0 = .ok (.aload_n 0, 1) := by decide +kernel
theorem dX11_passes_1 : decode cX11_passes 1 = .ok (.invokevirtual 134, 3) := by decide +kernel
theorem dX11_passes_4 : decode cX11_passes 4 = .ok (.ifCond .eq 11, 3) := by decide +kernel
theorem dX11_passes_7 : decode cX11_passes 7 = .ok (.aload_n 0, 1) := by decide +kernel
theorem dX11_passes_8 : decode cX11_passes 8 = .ok (.invokevirtual 138, 3) := by decide +kernel
theorem dX11_passes_11 : decode cX11_passes 11 = .ok (.iload_n 1, 1) := by decide +kernel
theorem dX11_passes_12 : decode cX11_passes 12 = .ok (.if_icmp .eq 5, 3) := by decide +kernel
theorem dX11_passes_15 : decode cX11_passes 15 = .ok (.iconst 0, 1) := by decide +kernel
theorem dX11_passes_16 : decode cX11_passes 16 = .ok (.ireturn, 1) := by decide +kernel
theorem dX11_passes_17 : decode cX11_passes 17 = .ok (.aload_n 0, 1) := by decide +kernel
theorem dX11_passes_18 : decode cX11_passes 18 = .ok (.dup, 1) := by decide +kernel
theorem dX11_passes_19 : decode cX11_passes 19 = .ok (.getfield 128, 3) := by decide +kernel
theorem dX11_passes_22 : decode cX11_passes 22 = .ok (.iconst 1, 1) := by decide +kernel
theorem dX11_passes_23 : decode cX11_passes 23 = .ok (.iadd, 1) := by decide +kernel
theorem dX11_passes_24 : decode cX11_passes 24 = .ok (.putfield 128, 3) := by decide +kernel
theorem dX11_passes_27 : decode cX11_passes 27 = .ok (.iconst 1, 1) := by decide +kernel
theorem dX11_passes_28 : decode cX11_passes 28 = .ok (.ireturn, 1) := by decide +kernel
theorem dX11_digit_0 : decode cX11_digit 0 = .ok (.aload_n 0, 1) := by decide +kernel
theorem dX11_digit_1 : decode cX11_digit 1 = .ok (.invokevirtual 134, 3) := by decide +kernel
theorem dX11_digit_4 : decode cX11_digit 4 = .ok (.ifCond .ne 5, 3) := by decide +kernel
theorem dX11_digit_7 : decode cX11_digit 7 = .ok (.iconst 0, 1) := by decide +kernel
theorem dX11_digit_8 : decode cX11_digit 8 = .ok (.ireturn, 1) := by decide +kernel
theorem dX11_digit_9 : decode cX11_digit 9 = .ok (.aload_n 0, 1) := by decide +kernel
theorem dX11_digit_10 : decode cX11_digit 10 = .ok (.invokevirtual 138, 3) := by decide +kernel
theorem dX11_digit_13 : decode cX11_digit 13 = .ok (.bipush 48, 2) := by decide +kernel
theorem dX11_digit_15 : decode cX11_digit 15 = .ok (.iload_n 1, 1) := by decide +kernel
theorem dX11_digit_16 : decode cX11_digit 16 = .ok (.iadd, 1) := by decide +kernel
theorem dX11_digit_17 : decode cX11_digit 17 = .ok (.bipush 48, 2) := by decide +kernel
theorem dX11_digit_19 : decode cX11_digit 19 = .ok (.iload_n 2, 1) := by decide +kernel
theorem dX11_digit_20 : decode cX11_digit 20 = .ok (.iadd, 1) := by decide +kernel
theorem dX11_digit_21 : decode cX11_digit 21 = .ok (.invokestatic 109, 3) := by decide +kernel
theorem dX11_digit_24 : decode cX11_digit 24 = .ok (.ifCond .ne 13, 3) := by decide +kernel
theorem dX11_digit_27 : decode cX11_digit 27 = .ok (.aload_n 0, 1) := by decide +kernel
theorem dX11_digit_28 : decode cX11_digit 28 = .ok (.aload_n 0, 1) := by decide +kernel
theorem dX11_digit_29 : decode cX11_digit 29 = .ok (.getfield 128, 3) := by decide +kernel
theorem dX11_digit_32 : decode cX11_digit 32 = .ok (.invokevirtual 142, 3) := by decide +kernel
theorem dX11_digit_35 : decode cX11_digit 35 = .ok (.iconst 0, 1) := by decide +kernel
theorem dX11_digit_36 : decode cX11_digit 36 = .ok (.ireturn, 1) := by decide +kernel
theorem dX11_digit_37 : decode cX11_digit 37 = .ok (.aload_n 0, 1) := by decide +kernel
theorem dX11_digit_38 : decode cX11_digit 38 = .ok (.dup, 1) := by decide +kernel
theorem dX11_digit_39 : decode cX11_digit 39 = .ok (.getfield 128, 3) := by decide +kernel
theorem dX11_digit_42 : decode cX11_digit 42 = .ok (.iconst 1, 1) := by decide +kernel
theorem dX11_digit_43 : decode cX11_digit 43 = .ok (.iadd, 1) := by decide +kernel
theorem dX11_digit_44 : decode cX11_digit 44 = .ok (.putfield 128, 3) := by decide +kernel
theorem dX11_digit_47 : decode cX11_digit 47 = .ok (.aload_n 0, 1) := by decide +kernel
theorem dX11_digit_48 : decode cX11_digit 48 = .ok (.getfield 119, 3) := by decide +kernel
theorem dX11_digit_51 : decode cX11_digit 51 = .ok (.aload_n 0, 1) := by decide +kernel
theorem dX11_digit_52 : decode cX11_digit 52 = .ok (.getfield 128, 3) := by decide +kernel
theorem dX11_digit_55 : decode cX11_digit 55 = .ok (.iconst 1, 1) := by decide +kernel
theorem dX11_digit_56 : decode cX11_digit 56 = .ok (.isub, 1) := by decide +kernel
theorem dX11_digit_57 : decode cX11_digit 57 = .ok (.baload, 1) := by decide +kernel
theorem dX11_digit_58 : decode cX11_digit 58 = .ok (.bipush 48, 2) := by decide +kernel
theorem dX11_digit_60 : decode cX11_digit 60 = .ok (.isub, 1) := by decide +kernel
theorem dX11_digit_61 : decode cX11_digit 61 = .ok (.ireturn, 1) := by decide +kernel
theorem dX11_number_0 : decode cX11_number 0 = .ok (.aload_n 0, 1) := by decide +kernel
theorem dX11_number_1 : decode cX11_number 1 = .ok (.iconst 0, 1) := by decide +kernel
theorem dX11_number_2 : decode cX11_number 2 = .ok (.bipush 9, 2) := by decide +kernel
theorem dX11_number_4 : decode cX11_number 4 = .ok (.invokevirtual 146, 3) := by decide +kernel
theorem dX11_number_7 : decode cX11_number 7 = .ok (.istore_n 2, 1) := by decide +kernel
theorem dX11_number_8 : decode cX11_number 8 = .ok (.iconst 1, 1) := by decide +kernel
theorem dX11_number_9 : decode cX11_number 9 = .ok (.istore_n 3, 1) := by decide +kernel
theorem dX11_number_10 : decode cX11_number 10 = .ok (.iload_n 3, 1) := by decide +kernel
theorem dX11_number_11 : decode cX11_number 11 = .ok (.iload_n 1, 1) := by decide +kernel
theorem dX11_number_12 : decode cX11_number 12 = .ok (.if_icmp .ge 43, 3) := by decide +kernel
theorem dX11_number_15 : decode cX11_number 15 = .ok (.aload_n 0, 1) := by decide +kernel
theorem dX11_number_16 : decode cX11_number 16 = .ok (.invokevirtual 134, 3) := by decide +kernel
theorem dX11_number_19 : decode cX11_number 19 = .ok (.ifCond .eq 36, 3) := by decide +kernel
theorem dX11_number_22 : decode cX11_number 22 = .ok (.aload_n 0, 1) := by decide +kernel
theorem dX11_number_23 : decode cX11_number 23 = .ok (.invokevirtual 138, 3) := by decide +kernel
theorem dX11_number_26 : decode cX11_number 26 = .ok (.bipush 48, 2) := by decide +kernel
theorem dX11_number_28 : decode cX11_number 28 = .ok (.bipush 57, 2) := by decide +kernel
theorem dX11_number_30 : decode cX11_number 30 = .ok (.invokestatic 109, 3) := by decide +kernel
theorem dX11_number_33 : decode cX11_number 33 = .ok (.ifCond .eq 22, 3) := by decide +kernel
theorem dX11_number_36 : decode cX11_number 36 = .ok (.bipush 10, 2) := by decide +kernel
theorem dX11_number_38 : decode cX11_number 38 = .ok (.iload_n 2, 1) := by decide +kernel
theorem dX11_number_39 : decode cX11_number 39 = .ok (.imul, 1) := by decide +kernel
theorem dX11_number_40 : decode cX11_number 40 = .ok (.aload_n 0, 1) := by decide +kernel
theorem dX11_number_41 : decode cX11_number 41 = .ok (.iconst 0, 1) := by decide +kernel
theorem dX11_number_42 : decode cX11_number 42 = .ok (.bipush 9, 2) := by decide +kernel
theorem dX11_number_44 : decode cX11_number 44 = .ok (.invokevirtual 146, 3) := by decide +kernel
theorem dX11_number_47 : decode cX11_number 47 = .ok (.iadd, 1) := by decide +kernel
theorem dX11_number_48 : decode cX11_number 48 = .ok (.istore_n 2, 1) := by decide +kernel
theorem dX11_number_49 : decode cX11_number 49 = .ok (.iinc 3 1, 3) := by decide +kernel
theorem dX11_number_52 : decode cX11_number 52 = .ok (.goto (-42), 3) := by decide +kernel
theorem dX11_number_55 : decode cX11_number 55 = .ok (.iload_n 2, 1) := by decide +kernel
theorem dX11_number_56 : decode cX11_number 56 = .ok (.ireturn, 1) := by decide +kernel
theorem dX11_letter_0 : decode cX11_letter 0 = .ok (.aload_n 0, 1) := by decide +kernel
theorem dX11_letter_1 : decode cX11_letter 1 = .ok (.invokevirtual 134, 3) := by decide +kernel
theorem dX11_letter_4 : decode cX11_letter 4 = .ok (.ifCond .ne 5, 3) := by decide +kernel
theorem dX11_letter_7 : decode cX11_letter 7 = .ok (.iconst 0, 1) := by decide +kernel
theorem dX11_letter_8 : decode cX11_letter 8 = .ok (.ireturn, 1) := by decide +kernel
theorem dX11_letter_9 : decode cX11_letter 9 = .ok (.aload_n 0, 1) := by decide +kernel
theorem dX11_letter_10 : decode cX11_letter 10 = .ok (.invokevirtual 138, 3) := by decide +kernel
theorem dX11_letter_13 : decode cX11_letter 13 = .ok (.iload_n 1, 1) := by decide +kernel
theorem dX11_letter_14 : decode cX11_letter 14 = .ok (.iload_n 1, 1) := by decide +kernel
theorem dX11_letter_15 : decode cX11_letter 15 = .ok (.iload_n 2, 1) := by decide +kernel
theorem dX11_letter_16 : decode cX11_letter 16 = .ok (.iadd, 1) := by decide +kernel
theorem dX11_letter_17 : decode cX11_letter 17 = .ok (.iconst 1, 1) := by decide +kernel
theorem dX11_letter_18 : decode cX11_letter 18 = .ok (.isub, 1) := by decide +kernel
theorem dX11_letter_19 : decode cX11_letter 19 = .ok (.invokestatic 109, 3) := by decide +kernel
theorem dX11_letter_22 : decode cX11_letter 22 = .ok (.ifCond .ne 13, 3) := by decide +kernel
theorem dX11_letter_25 : decode cX11_letter 25 = .ok (.aload_n 0, 1) := by decide +kernel
theorem dX11_letter_26 : decode cX11_letter 26 = .ok (.aload_n 0, 1) := by decide +kernel
theorem dX11_letter_27 : decode cX11_letter 27 = .ok (.getfield 128, 3) := by decide +kernel
theorem dX11_letter_30 : decode cX11_letter 30 = .ok (.invokevirtual 142, 3) := by decide +kernel
theorem dX11_letter_33 : decode cX11_letter 33 = .ok (.iconst 0, 1) := by decide +kernel
theorem dX11_letter_34 : decode cX11_letter 34 = .ok (.ireturn, 1) := by decide +kernel
theorem dX11_letter_35 : decode cX11_letter 35 = .ok (.aload_n 0, 1) := by decide +kernel
theorem dX11_letter_36 : decode cX11_letter 36 = .ok (.dup, 1) := by decide +kernel
theorem dX11_letter_37 : decode cX11_letter 37 = .ok (.getfield 128, 3) := by decide +kernel
theorem dX11_letter_40 : decode cX11_letter 40 = .ok (.iconst 1, 1) := by decide +kernel
theorem dX11_letter_41 : decode cX11_letter 41 = .ok (.iadd, 1) := by decide +kernel
theorem dX11_letter_42 : decode cX11_letter 42 = .ok (.putfield 128, 3) := by decide +kernel
theorem dX11_letter_45 : decode cX11_letter 45 = .ok (.aload_n 0, 1) := by decide +kernel
theorem dX11_letter_46 : decode cX11_letter 46 = .ok (.getfield 119, 3) := by decide +kernel
theorem dX11_letter_49 : decode cX11_letter 49 = .ok (.aload_n 0, 1) := by decide +kernel
theorem dX11_letter_50 : decode cX11_letter 50 = .ok (.getfield 128, 3) := by decide +kernel
theorem dX11_letter_53 : decode cX11_letter 53 = .ok (.iconst 1, 1) := by decide +kernel
theorem dX11_letter_54 : decode cX11_letter 54 = .ok (.isub, 1) := by decide +kernel
theorem dX11_letter_55 : decode cX11_letter 55 = .ok (.baload, 1) := by decide +kernel
theorem dX11_letter_56 : decode cX11_letter 56 = .ok (.iload_n 1, 1) := by decide +kernel
theorem dX11_letter_57 : decode cX11_letter 57 = .ok (.isub, 1) := by decide +kernel
theorem dX11_letter_58 : decode cX11_letter 58 = .ok (.ireturn, 1) := by decide +kernel
theorem dX11_palace_0 : decode cX11_palace 0 = .ok (.aload_n 0, 1) := by decide +kernel
theorem dX11_palace_1 : decode cX11_palace 1 = .ok (.iconst 0, 1) := by decide +kernel
theorem dX11_palace_2 : decode cX11_palace 2 = .ok (.putfield 99, 3) := by decide +kernel
theorem dX11_palace_5 : decode cX11_palace 5 = .ok (.aload_n 0, 1) := by decide +kernel
theorem dX11_palace_6 : decode cX11_palace 6 = .ok (.getfield 116, 3) := by decide +kernel
theorem dX11_palace_9 : decode cX11_palace 9 = .ok (.istore_n 1, 1) := by decide +kernel
theorem dX11_palace_10 : decode cX11_palace 10 = .ok (.aload_n 0, 1) := by decide +kernel
theorem dX11_palace_11 : decode cX11_palace 11 = .ok (.iconst 0, 1) := by decide +kernel
theorem dX11_palace_12 : decode cX11_palace 12 = .ok (.putfield 116, 3) := by decide +kernel
theorem dX11_palace_15 : decode cX11_palace 15 = .ok (.iconst 0, 1) := by decide +kernel
theorem dX11_palace_16 : decode cX11_palace 16 = .ok (.istore_n 2, 1) := by decide +kernel
theorem dX11_palace_17 : decode cX11_palace 17 = .ok (.iload_n 2, 1) := by decide +kernel
theorem dX11_palace_18 : decode cX11_palace 18 = .ok (.iload_n 1, 1) := by decide +kernel
theorem dX11_palace_19 : decode cX11_palace 19 = .ok (.if_icmp .ge 41, 3) := by decide +kernel
theorem dX11_palace_22 : decode cX11_palace 22 = .ok (.iload_n 2, 1) := by decide +kernel
theorem dX11_palace_23 : decode cX11_palace 23 = .ok (.bipush 6, 2) := by decide +kernel
theorem dX11_palace_25 : decode cX11_palace 25 = .ok (.if_icmp .eq 25, 3) := by decide +kernel
theorem dX11_palace_28 : decode cX11_palace 28 = .ok (.aload_n 0, 1) := by decide +kernel
theorem dX11_palace_29 : decode cX11_palace 29 = .ok (.getfield 35, 3) := by decide +kernel
theorem dX11_palace_32 : decode cX11_palace 32 = .ok (.iload_n 2, 1) := by decide +kernel
theorem dX11_palace_33 : decode cX11_palace 33 = .ok (.baload, 1) := by decide +kernel
theorem dX11_palace_34 : decode cX11_palace 34 = .ok (.bipush 114, 2) := by decide +kernel
theorem dX11_palace_36 : decode cX11_palace 36 = .ok (.if_icmp .eq 18, 3) := by decide +kernel
theorem dX11_palace_39 : decode cX11_palace 39 = .ok (.aload_n 0, 1) := by decide +kernel
theorem dX11_palace_40 : decode cX11_palace 40 = .ok (.getfield 35, 3) := by decide +kernel
theorem dX11_palace_43 : decode cX11_palace 43 = .ok (.iload_n 2, 1) := by decide +kernel
theorem dX11_palace_44 : decode cX11_palace 44 = .ok (.baload, 1) := by decide +kernel
theorem dX11_palace_45 : decode cX11_palace 45 = .ok (.bipush 99, 2) := by decide +kernel
theorem dX11_palace_47 : decode cX11_palace 47 = .ok (.if_icmp .eq 7, 3) := by decide +kernel
theorem dX11_palace_50 : decode cX11_palace 50 = .ok (.iconst (-1), 1) := by decide +kernel
theorem dX11_palace_51 : decode cX11_palace 51 = .ok (.iload_n 2, 1) := by decide +kernel
theorem dX11_palace_52 : decode cX11_palace 52 = .ok (.isub, 1) := by decide +kernel
theorem dX11_palace_53 : decode cX11_palace 53 = .ok (.ireturn, 1) := by decide +kernel
theorem dX11_palace_54 : decode cX11_palace 54 = .ok (.iinc 2 1, 3) := by decide +kernel
theorem dX11_palace_57 : decode cX11_palace 57 = .ok (.goto (-40), 3) := by decide +kernel
theorem dX11_palace_60 : decode cX11_palace 60 = .ok (.iload_n 1, 1) := by decide +kernel
theorem dX11_palace_61 : decode cX11_palace 61 = .ok (.ifCond .ne 5, 3) := by decide +kernel
theorem dX11_palace_64 : decode cX11_palace 64 = .ok (.iconst (-1), 1) := by decide +kernel
theorem dX11_palace_65 : decode cX11_palace 65 = .ok (.ireturn, 1) := by decide +kernel
theorem dX11_palace_66 : decode cX11_palace 66 = .ok (.iconst 0, 1) := by decide +kernel
theorem dX11_palace_67 : decode cX11_palace 67 = .ok (.istore_n 2, 1) := by decide +kernel
theorem dX11_palace_68 : decode cX11_palace 68 = .ok (.iload_n 2, 1) := by decide +kernel
theorem dX11_palace_69 : decode cX11_palace 69 = .ok (.iload_n 1, 1) := by decide +kernel
theorem dX11_palace_70 : decode cX11_palace 70 = .ok (.if_icmp .ge 31, 3) := by decide +kernel
theorem dX11_palace_73 : decode cX11_palace 73 = .ok (.aload_n 0, 1) := by decide +kernel
theorem dX11_palace_74 : decode cX11_palace 74 = .ok (.getfield 13, 3) := by decide +kernel
theorem dX11_palace_77 : decode cX11_palace 77 = .ok (.iload_n 2, 1) := by decide +kernel
theorem dX11_palace_78 : decode cX11_palace 78 = .ok (.aload_n 0, 1) := by decide +kernel
theorem dX11_palace_79 : decode cX11_palace 79 = .ok (.getfield 35, 3) := by decide +kernel
theorem dX11_palace_82 : decode cX11_palace 82 = .ok (.iload_n 2, 1) := by decide +kernel
theorem dX11_palace_83 : decode cX11_palace 83 = .ok (.baload, 1) := by decide +kernel
theorem dX11_palace_84 : decode cX11_palace 84 = .ok (.bipush 99, 2) := by decide +kernel
theorem dX11_palace_86 : decode cX11_palace 86 = .ok (.if_icmp .ne 7, 3) := by decide +kernel
theorem dX11_palace_89 : decode cX11_palace 89 = .ok (.iconst 1, 1) := by decide +kernel
theorem dX11_palace_90 : decode cX11_palace 90 = .ok (.goto 4, 3) := by decide +kernel
theorem dX11_palace_93 : decode cX11_palace 93 = .ok (.iconst 0, 1) := by decide +kernel
theorem dX11_palace_94 : decode cX11_palace 94 = .ok (.bastore, 1) := by decide +kernel
theorem dX11_palace_95 : decode cX11_palace 95 = .ok (.iinc 2 1, 3) := by decide +kernel
theorem dX11_palace_98 : decode cX11_palace 98 = .ok (.goto (-30), 3) := by decide +kernel
theorem dX11_palace_101 : decode cX11_palace 101 = .ok (.aload_n 0, 1) := by decide +kernel
theorem dX11_palace_102 : decode cX11_palace 102 = .ok (.iload_n 1, 1) := by decide +kernel
theorem dX11_palace_103 : decode cX11_palace 103 = .ok (.putfield 106, 3) := by decide +kernel
theorem dX11_palace_106 : decode cX11_palace 106 = .ok (.aload_n 0, 1) := by decide +kernel
theorem dX11_palace_107 : decode cX11_palace 107 = .ok (.iconst 0, 1) := by decide +kernel
theorem dX11_palace_108 : decode cX11_palace 108 = .ok (.putfield 113, 3) := by decide +kernel
theorem dX11_palace_111 : decode cX11_palace 111 = .ok (.aload_n 0, 1) := by decide +kernel
theorem dX11_palace_112 : decode cX11_palace 112 = .ok (.getfield 9, 3) := by decide +kernel
theorem dX11_palace_115 : decode cX11_palace 115 = .ok (.bipush 24, 2) := by decide +kernel
theorem dX11_palace_117 : decode cX11_palace 117 = .ok (.iconst 0, 1) := by decide +kernel
theorem dX11_palace_118 : decode cX11_palace 118 = .ok (.iastore, 1) := by decide +kernel
theorem dX11_palace_119 : decode cX11_palace 119 = .ok (.aload_n 0, 1) := by decide +kernel
theorem dX11_palace_120 : decode cX11_palace 120 = .ok (.iconst 0, 1) := by decide +kernel
theorem dX11_palace_121 : decode cX11_palace 121 = .ok (.putfield 150, 3) := by decide +kernel
theorem dX11_palace_124 : decode cX11_palace 124 = .ok (.aload_n 0, 1) := by decide +kernel
theorem dX11_palace_125 : decode cX11_palace 125 = .ok (.iconst 0, 1) := by decide +kernel
theorem dX11_palace_126 : decode cX11_palace 126 = .ok (.putfield 153, 3) := by decide +kernel
theorem dX11_palace_129 : decode cX11_palace 129 = .ok (.iconst 0, 1) := by decide +kernel
theorem dX11_palace_130 : decode cX11_palace 130 = .ok (.istore_n 2, 1) := by decide +kernel
theorem dX11_palace_131 : decode cX11_palace 131 = .ok (.iload_n 2, 1) := by decide +kernel
theorem dX11_palace_132 : decode cX11_palace 132 = .ok (.iconst 2, 1) := by decide +kernel
theorem dX11_palace_133 : decode cX11_palace 133 = .ok (.if_icmp .ge 16, 3) := by decide +kernel
theorem dX11_palace_136 : decode cX11_palace 136 = .ok (.aload_n 0, 1) := by decide +kernel
theorem dX11_palace_137 : decode cX11_palace 137 = .ok (.getfield 93, 3) := by decide +kernel
theorem dX11_palace_140 : decode cX11_palace 140 = .ok (.iload_n 2, 1) := by decide +kernel
theorem dX11_palace_141 : decode cX11_palace 141 = .ok (.iconst 0, 1) := by decide +kernel
theorem dX11_palace_142 : decode cX11_palace 142 = .ok (.bastore, 1) := by decide +kernel
theorem dX11_palace_143 : decode cX11_palace 143 = .ok (.iinc 2 1, 3) := by decide +kernel
theorem dX11_palace_146 : decode cX11_palace 146 = .ok (.goto (-15), 3) := by decide +kernel
theorem dX11_palace_149 : decode cX11_palace 149 = .ok (.iload_n 1, 1) := by decide +kernel
theorem dX11_palace_150 : decode cX11_palace 150 = .ok (.ireturn, 1) := by decide +kernel
theorem dX11_readGroup_0 : decode cX11_readGroup 0 = .ok (.aload_n 0, 1) := by decide +kernel
theorem dX11_readGroup_1 : decode cX11_readGroup 1 = .ok (.getfield 42, 3) := by decide +kernel
theorem dX11_readGroup_4 : decode cX11_readGroup 4 = .ok (.iload_n 1, 1) := by decide +kernel
theorem dX11_readGroup_5 : decode cX11_readGroup 5 = .ok (.aload_n 0, 1) := by decide +kernel
theorem dX11_readGroup_6 : decode cX11_readGroup 6 = .ok (.iconst 2, 1) := by decide +kernel
theorem dX11_readGroup_7 : decode cX11_readGroup 7 = .ok (.invokevirtual 156, 3) := by decide +kernel
theorem dX11_readGroup_10 : decode cX11_readGroup 10 = .ok (.iastore, 1) := by decide +kernel
theorem dX11_readGroup_11 : decode cX11_readGroup 11 = .ok (.aload_n 0, 1) := by decide +kernel
theorem dX11_readGroup_12 : decode cX11_readGroup 12 = .ok (.getfield 42, 3) := by decide +kernel
theorem dX11_readGroup_15 : decode cX11_readGroup 15 = .ok (.iload_n 1, 1) := by decide +kernel
theorem dX11_readGroup_16 : decode cX11_readGroup 16 = .ok (.iconst 1, 1) := by decide +kernel
theorem dX11_readGroup_17 : decode cX11_readGroup 17 = .ok (.iadd, 1) := by decide +kernel
theorem dX11_readGroup_18 : decode cX11_readGroup 18 = .ok (.aload_n 0, 1) := by decide +kernel
theorem dX11_readGroup_19 : decode cX11_readGroup 19 = .ok (.bipush 118, 2) := by decide +kernel
theorem dX11_readGroup_21 : decode cX11_readGroup 21 = .ok (.iconst 5, 1) := by decide +kernel
theorem dX11_readGroup_22 : decode cX11_readGroup 22 = .ok (.invokevirtual 160, 3) := by decide +kernel
theorem dX11_readGroup_25 : decode cX11_readGroup 25 = .ok (.iastore, 1) := by decide +kernel
theorem dX11_readGroup_26 : decode cX11_readGroup 26 = .ok (.aload_n 0, 1) := by decide +kernel
theorem dX11_readGroup_27 : decode cX11_readGroup 27 = .ok (.getfield 42, 3) := by decide +kernel
theorem dX11_readGroup_30 : decode cX11_readGroup 30 = .ok (.iload_n 1, 1) := by decide +kernel
theorem dX11_readGroup_31 : decode cX11_readGroup 31 = .ok (.iconst 2, 1) := by decide +kernel
theorem dX11_readGroup_32 : decode cX11_readGroup 32 = .ok (.iadd, 1) := by decide +kernel
theorem dX11_readGroup_33 : decode cX11_readGroup 33 = .ok (.aload_n 0, 1) := by decide +kernel
theorem dX11_readGroup_34 : decode cX11_readGroup 34 = .ok (.iconst 2, 1) := by decide +kernel
theorem dX11_readGroup_35 : decode cX11_readGroup 35 = .ok (.invokevirtual 156, 3) := by decide +kernel
theorem dX11_readGroup_38 : decode cX11_readGroup 38 = .ok (.iastore, 1) := by decide +kernel
theorem dX11_readGroup_39 : decode cX11_readGroup 39 = .ok (.aload_n 0, 1) := by decide +kernel
theorem dX11_readGroup_40 : decode cX11_readGroup 40 = .ok (.invokevirtual 134, 3) := by decide +kernel
theorem dX11_readGroup_43 : decode cX11_readGroup 43 = .ok (.ifCond .eq 30, 3) := by decide +kernel
theorem dX11_readGroup_46 : decode cX11_readGroup 46 = .ok (.aload_n 0, 1) := by decide +kernel
theorem dX11_readGroup_47 : decode cX11_readGroup 47 = .ok (.getfield 42, 3) := by decide +kernel
theorem dX11_readGroup_50 : decode cX11_readGroup 50 = .ok (.iload_n 1, 1) := by decide +kernel
theorem dX11_readGroup_51 : decode cX11_readGroup 51 = .ok (.iconst 2, 1) := by decide +kernel
theorem dX11_readGroup_52 : decode cX11_readGroup 52 = .ok (.iadd, 1) := by decide +kernel
theorem dX11_readGroup_53 : decode cX11_readGroup 53 = .ok (.iaload, 1) := by decide +kernel
theorem dX11_readGroup_54 : decode cX11_readGroup 54 = .ok (.iconst 1, 1) := by decide +kernel
theorem dX11_readGroup_55 : decode cX11_readGroup 55 = .ok (.bipush 40, 2) := by decide +kernel
theorem dX11_readGroup_57 : decode cX11_readGroup 57 = .ok (.invokestatic 109, 3) := by decide +kernel
theorem dX11_readGroup_60 : decode cX11_readGroup 60 = .ok (.ifCond .ne 13, 3) := by decide +kernel
theorem dX11_readGroup_63 : decode cX11_readGroup 63 = .ok (.aload_n 0, 1) := by decide +kernel
theorem dX11_readGroup_64 : decode cX11_readGroup 64 = .ok (.aload_n 0, 1) := by decide +kernel
theorem dX11_readGroup_65 : decode cX11_readGroup 65 = .ok (.getfield 128, 3) := by decide +kernel
theorem dX11_readGroup_68 : decode cX11_readGroup 68 = .ok (.iconst 1, 1) := by decide +kernel
theorem dX11_readGroup_69 : decode cX11_readGroup 69 = .ok (.isub, 1) := by decide +kernel
theorem dX11_readGroup_70 : decode cX11_readGroup 70 = .ok (.invokevirtual 142, 3) := by decide +kernel
theorem dX11_readGroup_73 : decode cX11_readGroup 73 = .ok (.aload_n 0, 1) := by decide +kernel
theorem dX11_readGroup_74 : decode cX11_readGroup 74 = .ok (.getfield 42, 3) := by decide +kernel
theorem dX11_readGroup_77 : decode cX11_readGroup 77 = .ok (.iload_n 1, 1) := by decide +kernel
theorem dX11_readGroup_78 : decode cX11_readGroup 78 = .ok (.iconst 3, 1) := by decide +kernel
theorem dX11_readGroup_79 : decode cX11_readGroup 79 = .ok (.iadd, 1) := by decide +kernel
theorem dX11_readGroup_80 : decode cX11_readGroup 80 = .ok (.aload_n 0, 1) := by decide +kernel
theorem dX11_readGroup_81 : decode cX11_readGroup 81 = .ok (.invokevirtual 138, 3) := by decide +kernel
theorem dX11_readGroup_84 : decode cX11_readGroup 84 = .ok (.bipush 60, 2) := by decide +kernel
theorem dX11_readGroup_86 : decode cX11_readGroup 86 = .ok (.if_icmp .ne 7, 3) := by decide +kernel
theorem dX11_readGroup_89 : decode cX11_readGroup 89 = .ok (.iconst 1, 1) := by decide +kernel
theorem dX11_readGroup_90 : decode cX11_readGroup 90 = .ok (.goto 4, 3) := by decide +kernel
theorem dX11_readGroup_93 : decode cX11_readGroup 93 = .ok (.iconst 0, 1) := by decide +kernel
theorem dX11_readGroup_94 : decode cX11_readGroup 94 = .ok (.iastore, 1) := by decide +kernel
theorem dX11_readGroup_95 : decode cX11_readGroup 95 = .ok (.aload_n 0, 1) := by decide +kernel
theorem dX11_readGroup_96 : decode cX11_readGroup 96 = .ok (.invokevirtual 138, 3) := by decide +kernel
theorem dX11_readGroup_99 : decode cX11_readGroup 99 = .ok (.bipush 60, 2) := by decide +kernel
theorem dX11_readGroup_101 : decode cX11_readGroup 101 = .ok (.if_icmp .eq 20, 3) := by decide +kernel
theorem dX11_readGroup_104 : decode cX11_readGroup 104 = .ok (.aload_n 0, 1) := by decide +kernel
theorem dX11_readGroup_105 : decode cX11_readGroup 105 = .ok (.invokevirtual 138, 3) := by decide +kernel
theorem dX11_readGroup_108 : decode cX11_readGroup 108 = .ok (.bipush 62, 2) := by decide +kernel
theorem dX11_readGroup_110 : decode cX11_readGroup 110 = .ok (.if_icmp .eq 11, 3) := by decide +kernel
theorem dX11_readGroup_113 : decode cX11_readGroup 113 = .ok (.aload_n 0, 1) := by decide +kernel
theorem dX11_readGroup_114 : decode cX11_readGroup 114 = .ok (.aload_n 0, 1) := by decide +kernel
theorem dX11_readGroup_115 : decode cX11_readGroup 115 = .ok (.getfield 128, 3) := by decide +kernel
theorem dX11_readGroup_118 : decode cX11_readGroup 118 = .ok (.invokevirtual 142, 3) := by decide +kernel
theorem dX11_readGroup_121 : decode cX11_readGroup 121 = .ok (.aload_n 0, 1) := by decide +kernel
theorem dX11_readGroup_122 : decode cX11_readGroup 122 = .ok (.dup, 1) := by decide +kernel
theorem dX11_readGroup_123 : decode cX11_readGroup 123 = .ok (.getfield 128, 3) := by decide +kernel
theorem dX11_readGroup_126 : decode cX11_readGroup 126 = .ok (.iconst 1, 1) := by decide +kernel
theorem dX11_readGroup_127 : decode cX11_readGroup 127 = .ok (.iadd, 1) := by decide +kernel
theorem dX11_readGroup_128 : decode cX11_readGroup 128 = .ok (.putfield 128, 3) := by decide +kernel
theorem dX11_readGroup_131 : decode cX11_readGroup 131 = .ok (.iconst 0, 1) := by decide +kernel
theorem dX11_readGroup_132 : decode cX11_readGroup 132 = .ok (.istore_n 2, 1) := by decide +kernel
theorem dX11_readGroup_133 : decode cX11_readGroup 133 = .ok (.iload_n 2, 1) := by decide +kernel
theorem dX11_readGroup_134 : decode cX11_readGroup 134 = .ok (.aload_n 0, 1) := by decide +kernel
theorem dX11_readGroup_135 : decode cX11_readGroup 135 = .ok (.getfield 106, 3) := by decide +kernel
theorem dX11_readGroup_138 : decode cX11_readGroup 138 = .ok (.if_icmp .ge 26, 3) := by decide +kernel
theorem dX11_readGroup_141 : decode cX11_readGroup 141 = .ok (.aload_n 0, 1) := by decide +kernel
theorem dX11_readGroup_142 : decode cX11_readGroup 142 = .ok (.getfield 42, 3) := by decide +kernel
theorem dX11_readGroup_145 : decode cX11_readGroup 145 = .ok (.iload_n 1, 1) := by decide +kernel
theorem dX11_readGroup_146 : decode cX11_readGroup 146 = .ok (.iconst 4, 1) := by decide +kernel
theorem dX11_readGroup_147 : decode cX11_readGroup 147 = .ok (.iadd, 1) := by decide +kernel
theorem dX11_readGroup_148 : decode cX11_readGroup 148 = .ok (.iload_n 2, 1) := by decide +kernel
theorem dX11_readGroup_149 : decode cX11_readGroup 149 = .ok (.iadd, 1) := by decide +kernel
theorem dX11_readGroup_150 : decode cX11_readGroup 150 = .ok (.aload_n 0, 1) := by decide +kernel
theorem dX11_readGroup_151 : decode cX11_readGroup 151 = .ok (.iconst 0, 1) := by decide +kernel
theorem dX11_readGroup_152 : decode cX11_readGroup 152 = .ok (.bipush 9, 2) := by decide +kernel
theorem dX11_readGroup_154 : decode cX11_readGroup 154 = .ok (.invokevirtual 146, 3) := by decide +kernel
theorem dX11_readGroup_157 : decode cX11_readGroup 157 = .ok (.iastore, 1) := by decide +kernel
theorem dX11_readGroup_158 : decode cX11_readGroup 158 = .ok (.iinc 2 1, 3) := by decide +kernel
theorem dX11_readGroup_161 : decode cX11_readGroup 161 = .ok (.goto (-28), 3) := by decide +kernel
theorem dX11_readGroup_164 : decode cX11_readGroup 164 = .ok (.return_, 1) := by decide +kernel
theorem dX11_come_0 : decode cX11_come 0 = .ok (.aload_n 0, 1) := by decide +kernel
theorem dX11_come_1 : decode cX11_come 1 = .ok (.getfield 113, 3) := by decide +kernel
theorem dX11_come_4 : decode cX11_come 4 = .ok (.istore_n 2, 1) := by decide +kernel
theorem dX11_come_5 : decode cX11_come 5 = .ok (.aload_n 0, 1) := by decide +kernel
theorem dX11_come_6 : decode cX11_come 6 = .ok (.getfield 17, 3) := by decide +kernel
theorem dX11_come_9 : decode cX11_come 9 = .ok (.iload_n 2, 1) := by decide +kernel
theorem dX11_come_10 : decode cX11_come 10 = .ok (.aload_n 0, 1) := by decide +kernel
theorem dX11_come_11 : decode cX11_come 11 = .ok (.getfield 42, 3) := by decide +kernel
theorem dX11_come_14 : decode cX11_come 14 = .ok (.iload_n 1, 1) := by decide +kernel
theorem dX11_come_15 : decode cX11_come 15 = .ok (.iaload, 1) := by decide +kernel
theorem dX11_come_16 : decode cX11_come 16 = .ok (.iastore, 1) := by decide +kernel
theorem dX11_come_17 : decode cX11_come 17 = .ok (.aload_n 0, 1) := by decide +kernel
theorem dX11_come_18 : decode cX11_come 18 = .ok (.getfield 20, 3) := by decide +kernel
theorem dX11_come_21 : decode cX11_come 21 = .ok (.iload_n 2, 1) := by decide +kernel
theorem dX11_come_22 : decode cX11_come 22 = .ok (.aload_n 0, 1) := by decide +kernel
theorem dX11_come_23 : decode cX11_come 23 = .ok (.getfield 42, 3) := by decide +kernel
theorem dX11_come_26 : decode cX11_come 26 = .ok (.iload_n 1, 1) := by decide +kernel
theorem dX11_come_27 : decode cX11_come 27 = .ok (.iconst 1, 1) := by decide +kernel
theorem dX11_come_28 : decode cX11_come 28 = .ok (.iadd, 1) := by decide +kernel
theorem dX11_come_29 : decode cX11_come 29 = .ok (.iaload, 1) := by decide +kernel
theorem dX11_come_30 : decode cX11_come 30 = .ok (.iastore, 1) := by decide +kernel
theorem dX11_come_31 : decode cX11_come 31 = .ok (.aload_n 0, 1) := by decide +kernel
theorem dX11_come_32 : decode cX11_come 32 = .ok (.getfield 23, 3) := by decide +kernel
theorem dX11_come_35 : decode cX11_come 35 = .ok (.iload_n 2, 1) := by decide +kernel
theorem dX11_come_36 : decode cX11_come 36 = .ok (.aload_n 0, 1) := by decide +kernel
theorem dX11_come_37 : decode cX11_come 37 = .ok (.getfield 42, 3) := by decide +kernel
theorem dX11_come_40 : decode cX11_come 40 = .ok (.iload_n 1, 1) := by decide +kernel
theorem dX11_come_41 : decode cX11_come 41 = .ok (.iconst 2, 1) := by decide +kernel
theorem dX11_come_42 : decode cX11_come 42 = .ok (.iadd, 1) := by decide +kernel
theorem dX11_come_43 : decode cX11_come 43 = .ok (.iaload, 1) := by decide +kernel
theorem dX11_come_44 : decode cX11_come 44 = .ok (.iastore, 1) := by decide +kernel
theorem dX11_come_45 : decode cX11_come 45 = .ok (.aload_n 0, 1) := by decide +kernel
theorem dX11_come_46 : decode cX11_come 46 = .ok (.getfield 26, 3) := by decide +kernel
theorem dX11_come_49 : decode cX11_come 49 = .ok (.iload_n 2, 1) := by decide +kernel
theorem dX11_come_50 : decode cX11_come 50 = .ok (.aload_n 0, 1) := by decide +kernel
theorem dX11_come_51 : decode cX11_come 51 = .ok (.getfield 42, 3) := by decide +kernel
theorem dX11_come_54 : decode cX11_come 54 = .ok (.iload_n 1, 1) := by decide +kernel
theorem dX11_come_55 : decode cX11_come 55 = .ok (.iconst 3, 1) := by decide +kernel
theorem dX11_come_56 : decode cX11_come 56 = .ok (.iadd, 1) := by decide +kernel
theorem dX11_come_57 : decode cX11_come 57 = .ok (.iaload, 1) := by decide +kernel
theorem dX11_come_58 : decode cX11_come 58 = .ok (.iconst 1, 1) := by decide +kernel
theorem dX11_come_59 : decode cX11_come 59 = .ok (.if_icmp .ne 7, 3) := by decide +kernel
theorem dX11_come_62 : decode cX11_come 62 = .ok (.iconst 1, 1) := by decide +kernel
theorem dX11_come_63 : decode cX11_come 63 = .ok (.goto 4, 3) := by decide +kernel
theorem dX11_come_66 : decode cX11_come 66 = .ok (.iconst 0, 1) := by decide +kernel
theorem dX11_come_67 : decode cX11_come 67 = .ok (.bastore, 1) := by decide +kernel
theorem dX11_come_68 : decode cX11_come 68 = .ok (.iconst 0, 1) := by decide +kernel
theorem dX11_come_69 : decode cX11_come 69 = .ok (.istore_n 3, 1) := by decide +kernel
theorem dX11_come_70 : decode cX11_come 70 = .ok (.iload_n 3, 1) := by decide +kernel
theorem dX11_come_71 : decode cX11_come 71 = .ok (.aload_n 0, 1) := by decide +kernel
theorem dX11_come_72 : decode cX11_come 72 = .ok (.getfield 106, 3) := by decide +kernel
theorem dX11_come_75 : decode cX11_come 75 = .ok (.if_icmp .ge 30, 3) := by decide +kernel
theorem dX11_come_78 : decode cX11_come 78 = .ok (.aload_n 0, 1) := by decide +kernel
theorem dX11_come_79 : decode cX11_come 79 = .ok (.getfield 29, 3) := by decide +kernel
theorem dX11_come_82 : decode cX11_come 82 = .ok (.bipush 6, 2) := by decide +kernel
theorem dX11_come_84 : decode cX11_come 84 = .ok (.iload_n 2, 1) := by decide +kernel
theorem dX11_come_85 : decode cX11_come 85 = .ok (.imul, 1) := by decide +kernel
theorem dX11_come_86 : decode cX11_come 86 = .ok (.iload_n 3, 1) := by decide +kernel
theorem dX11_come_87 : decode cX11_come 87 = .ok (.iadd, 1) := by decide +kernel
theorem dX11_come_88 : decode cX11_come 88 = .ok (.aload_n 0, 1) := by decide +kernel
theorem dX11_come_89 : decode cX11_come 89 = .ok (.getfield 42, 3) := by decide +kernel
theorem dX11_come_92 : decode cX11_come 92 = .ok (.iload_n 1, 1) := by decide +kernel
theorem dX11_come_93 : decode cX11_come 93 = .ok (.iconst 4, 1) := by decide +kernel
theorem dX11_come_94 : decode cX11_come 94 = .ok (.iadd, 1) := by decide +kernel
theorem dX11_come_95 : decode cX11_come 95 = .ok (.iload_n 3, 1) := by decide +kernel
theorem dX11_come_96 : decode cX11_come 96 = .ok (.iadd, 1) := by decide +kernel
theorem dX11_come_97 : decode cX11_come 97 = .ok (.iaload, 1) := by decide +kernel
theorem dX11_come_98 : decode cX11_come 98 = .ok (.iastore, 1) := by decide +kernel
theorem dX11_come_99 : decode cX11_come 99 = .ok (.iinc 3 1, 3) := by decide +kernel
theorem dX11_come_102 : decode cX11_come 102 = .ok (.goto (-32), 3) := by decide +kernel
theorem dX11_come_105 : decode cX11_come 105 = .ok (.aload_n 0, 1) := by decide +kernel
theorem dX11_come_106 : decode cX11_come 106 = .ok (.getfield 32, 3) := by decide +kernel
theorem dX11_come_109 : decode cX11_come 109 = .ok (.iload_n 2, 1) := by decide +kernel
theorem dX11_come_110 : decode cX11_come 110 = .ok (.iconst 0, 1) := by decide +kernel
theorem dX11_come_111 : decode cX11_come 111 = .ok (.iastore, 1) := by decide +kernel
theorem dX11_come_112 : decode cX11_come 112 = .ok (.aload_n 0, 1) := by decide +kernel
theorem dX11_come_113 : decode cX11_come 113 = .ok (.getfield 9, 3) := by decide +kernel
theorem dX11_come_116 : decode cX11_come 116 = .ok (.iload_n 2, 1) := by decide +kernel
theorem dX11_come_117 : decode cX11_come 117 = .ok (.iconst (-1), 1) := by decide +kernel
theorem dX11_come_118 : decode cX11_come 118 = .ok (.iastore, 1) := by decide +kernel
theorem dX11_come_119 : decode cX11_come 119 = .ok (.aload_n 0, 1) := by decide +kernel
theorem dX11_come_120 : decode cX11_come 120 = .ok (.getfield 9, 3) := by decide +kernel
theorem dX11_come_123 : decode cX11_come 123 = .ok (.bipush 6, 2) := by decide +kernel
theorem dX11_come_125 : decode cX11_come 125 = .ok (.iload_n 2, 1) := by decide +kernel
theorem dX11_come_126 : decode cX11_come 126 = .ok (.iadd, 1) := by decide +kernel
theorem dX11_come_127 : decode cX11_come 127 = .ok (.iconst 0, 1) := by decide +kernel
theorem dX11_come_128 : decode cX11_come 128 = .ok (.iastore, 1) := by decide +kernel
theorem dX11_come_129 : decode cX11_come 129 = .ok (.aload_n 0, 1) := by decide +kernel
theorem dX11_come_130 : decode cX11_come 130 = .ok (.getfield 9, 3) := by decide +kernel
theorem dX11_come_133 : decode cX11_come 133 = .ok (.bipush 12, 2) := by decide +kernel
theorem dX11_come_135 : decode cX11_come 135 = .ok (.iload_n 2, 1) := by decide +kernel
theorem dX11_come_136 : decode cX11_come 136 = .ok (.iadd, 1) := by decide +kernel
theorem dX11_come_137 : decode cX11_come 137 = .ok (.iconst 0, 1) := by decide +kernel
theorem dX11_come_138 : decode cX11_come 138 = .ok (.iastore, 1) := by decide +kernel
theorem dX11_come_139 : decode cX11_come 139 = .ok (.aload_n 0, 1) := by decide +kernel
theorem dX11_come_140 : decode cX11_come 140 = .ok (.getfield 9, 3) := by decide +kernel
theorem dX11_come_143 : decode cX11_come 143 = .ok (.bipush 18, 2) := by decide +kernel
theorem dX11_come_145 : decode cX11_come 145 = .ok (.iload_n 2, 1) := by decide +kernel
theorem dX11_come_146 : decode cX11_come 146 = .ok (.iadd, 1) := by decide +kernel
theorem dX11_come_147 : decode cX11_come 147 = .ok (.iconst (-1), 1) := by decide +kernel
theorem dX11_come_148 : decode cX11_come 148 = .ok (.iastore, 1) := by decide +kernel
theorem dX11_come_149 : decode cX11_come 149 = .ok (.aload_n 0, 1) := by decide +kernel
theorem dX11_come_150 : decode cX11_come 150 = .ok (.dup, 1) := by decide +kernel
theorem dX11_come_151 : decode cX11_come 151 = .ok (.getfield 113, 3) := by decide +kernel
theorem dX11_come_154 : decode cX11_come 154 = .ok (.iconst 1, 1) := by decide +kernel
theorem dX11_come_155 : decode cX11_come 155 = .ok (.iadd, 1) := by decide +kernel
theorem dX11_come_156 : decode cX11_come 156 = .ok (.putfield 113, 3) := by decide +kernel
theorem dX11_come_159 : decode cX11_come 159 = .ok (.return_, 1) := by decide +kernel
theorem dX11_groups_0 : decode cX11_groups 0 = .ok (.aload_n 0, 1) := by decide +kernel
theorem dX11_groups_1 : decode cX11_groups 1 = .ok (.iconst 0, 1) := by decide +kernel
theorem dX11_groups_2 : decode cX11_groups 2 = .ok (.putfield 99, 3) := by decide +kernel
theorem dX11_groups_5 : decode cX11_groups 5 = .ok (.aload_n 0, 1) := by decide +kernel
theorem dX11_groups_6 : decode cX11_groups 6 = .ok (.aload_n 0, 1) := by decide +kernel
theorem dX11_groups_7 : decode cX11_groups 7 = .ok (.getfield 35, 3) := by decide +kernel
theorem dX11_groups_10 : decode cX11_groups 10 = .ok (.aload_n 0, 1) := by decide +kernel
theorem dX11_groups_11 : decode cX11_groups 11 = .ok (.getfield 116, 3) := by decide +kernel
theorem dX11_groups_14 : decode cX11_groups 14 = .ok (.bipush 76, 2) := by decide +kernel
theorem dX11_groups_16 : decode cX11_groups 16 = .ok (.invokevirtual 164, 3) := by decide +kernel
theorem dX11_groups_19 : decode cX11_groups 19 = .ok (.aload_n 0, 1) := by decide +kernel
theorem dX11_groups_20 : decode cX11_groups 20 = .ok (.iconst 0, 1) := by decide +kernel
theorem dX11_groups_21 : decode cX11_groups 21 = .ok (.putfield 116, 3) := by decide +kernel
theorem dX11_groups_24 : decode cX11_groups 24 = .ok (.aload_n 0, 1) := by decide +kernel
theorem dX11_groups_25 : decode cX11_groups 25 = .ok (.getfield 122, 3) := by decide +kernel
theorem dX11_groups_28 : decode cX11_groups 28 = .ok (.ifCond .ne 5, 3) := by decide +kernel
theorem dX11_groups_31 : decode cX11_groups 31 = .ok (.iconst 0, 1) := by decide +kernel
theorem dX11_groups_32 : decode cX11_groups 32 = .ok (.ireturn, 1) := by decide +kernel
theorem dX11_groups_33 : decode cX11_groups 33 = .ok (.iconst 0, 1) := by decide +kernel
theorem dX11_groups_34 : decode cX11_groups 34 = .ok (.istore_n 1, 1) := by decide +kernel
theorem dX11_groups_35 : decode cX11_groups 35 = .ok (.iconst 1, 1) := by decide +kernel
theorem dX11_groups_36 : decode cX11_groups 36 = .ok (.istore_n 2, 1) := by decide +kernel
theorem dX11_groups_37 : decode cX11_groups 37 = .ok (.iload_n 2, 1) := by decide +kernel
theorem dX11_groups_38 : decode cX11_groups 38 = .ok (.ifCond .eq 60, 3) := by decide +kernel
theorem dX11_groups_41 : decode cX11_groups 41 = .ok (.aload_n 0, 1) := by decide +kernel
theorem dX11_groups_42 : decode cX11_groups 42 = .ok (.invokevirtual 134, 3) := by decide +kernel
theorem dX11_groups_45 : decode cX11_groups 45 = .ok (.ifCond .eq 53, 3) := by decide +kernel
theorem dX11_groups_48 : decode cX11_groups 48 = .ok (.aload_n 0, 1) := by decide +kernel
theorem dX11_groups_49 : decode cX11_groups 49 = .ok (.getfield 113, 3) := by decide +kernel
theorem dX11_groups_52 : decode cX11_groups 52 = .ok (.iload_n 1, 1) := by decide +kernel
theorem dX11_groups_53 : decode cX11_groups 53 = .ok (.iadd, 1) := by decide +kernel
theorem dX11_groups_54 : decode cX11_groups 54 = .ok (.bipush 6, 2) := by decide +kernel
theorem dX11_groups_56 : decode cX11_groups 56 = .ok (.if_icmp .eq 10, 3) := by decide +kernel
theorem dX11_groups_59 : decode cX11_groups 59 = .ok (.aload_n 0, 1) := by decide +kernel
theorem dX11_groups_60 : decode cX11_groups 60 = .ok (.getfield 106, 3) := by decide +kernel
theorem dX11_groups_63 : decode cX11_groups 63 = .ok (.ifCond .ne 14, 3) := by decide +kernel
theorem dX11_groups_66 : decode cX11_groups 66 = .ok (.aload_n 0, 1) := by decide +kernel
theorem dX11_groups_67 : decode cX11_groups 67 = .ok (.aload_n 0, 1) := by decide +kernel
theorem dX11_groups_68 : decode cX11_groups 68 = .ok (.getfield 128, 3) := by decide +kernel
theorem dX11_groups_71 : decode cX11_groups 71 = .ok (.invokevirtual 142, 3) := by decide +kernel
theorem dX11_groups_74 : decode cX11_groups 74 = .ok (.goto 11, 3) := by decide +kernel
theorem dX11_groups_77 : decode cX11_groups 77 = .ok (.aload_n 0, 1) := by decide +kernel
theorem dX11_groups_78 : decode cX11_groups 78 = .ok (.bipush 10, 2) := by decide +kernel
theorem dX11_groups_80 : decode cX11_groups 80 = .ok (.iload_n 1, 1) := by decide +kernel
theorem dX11_groups_81 : decode cX11_groups 81 = .ok (.imul, 1) := by decide +kernel
theorem dX11_groups_82 : decode cX11_groups 82 = .ok (.invokevirtual 168, 3) := by decide +kernel
theorem dX11_groups_85 : decode cX11_groups 85 = .ok (.iinc 1 1, 3) := by decide +kernel
theorem dX11_groups_88 : decode cX11_groups 88 = .ok (.aload_n 0, 1) := by decide +kernel
theorem dX11_groups_89 : decode cX11_groups 89 = .ok (.bipush 59, 2) := by decide +kernel
theorem dX11_groups_91 : decode cX11_groups 91 = .ok (.invokevirtual 171, 3) := by decide +kernel
theorem dX11_groups_94 : decode cX11_groups 94 = .ok (.istore_n 2, 1) := by decide +kernel
theorem dX11_groups_95 : decode cX11_groups 95 = .ok (.goto (-58), 3) := by decide +kernel
theorem dX11_groups_98 : decode cX11_groups 98 = .ok (.aload_n 0, 1) := by decide +kernel
theorem dX11_groups_99 : decode cX11_groups 99 = .ok (.getfield 128, 3) := by decide +kernel
theorem dX11_groups_102 : decode cX11_groups 102 = .ok (.aload_n 0, 1) := by decide +kernel
theorem dX11_groups_103 : decode cX11_groups 103 = .ok (.getfield 122, 3) := by decide +kernel
theorem dX11_groups_106 : decode cX11_groups 106 = .ok (.if_icmp .ge 11, 3) := by decide +kernel
theorem dX11_groups_109 : decode cX11_groups 109 = .ok (.aload_n 0, 1) := by decide +kernel
theorem dX11_groups_110 : decode cX11_groups 110 = .ok (.aload_n 0, 1) := by decide +kernel
theorem dX11_groups_111 : decode cX11_groups 111 = .ok (.getfield 128, 3) := by decide +kernel
theorem dX11_groups_114 : decode cX11_groups 114 = .ok (.invokevirtual 142, 3) := by decide +kernel
theorem dX11_groups_117 : decode cX11_groups 117 = .ok (.aload_n 0, 1) := by decide +kernel
theorem dX11_groups_118 : decode cX11_groups 118 = .ok (.invokevirtual 134, 3) := by decide +kernel
theorem dX11_groups_121 : decode cX11_groups 121 = .ok (.ifCond .ne 10, 3) := by decide +kernel
theorem dX11_groups_124 : decode cX11_groups 124 = .ok (.iconst (-1), 1) := by decide +kernel
theorem dX11_groups_125 : decode cX11_groups 125 = .ok (.aload_n 0, 1) := by decide +kernel
theorem dX11_groups_126 : decode cX11_groups 126 = .ok (.getfield 131, 3) := by decide +kernel
theorem dX11_groups_129 : decode cX11_groups 129 = .ok (.isub, 1) := by decide +kernel
theorem dX11_groups_130 : decode cX11_groups 130 = .ok (.ireturn, 1) := by decide +kernel
theorem dX11_groups_131 : decode cX11_groups 131 = .ok (.iconst 0, 1) := by decide +kernel
theorem dX11_groups_132 : decode cX11_groups 132 = .ok (.istore_n 3, 1) := by decide +kernel
theorem dX11_groups_133 : decode cX11_groups 133 = .ok (.iload_n 3, 1) := by decide +kernel
theorem dX11_groups_134 : decode cX11_groups 134 = .ok (.iload_n 1, 1) := by decide +kernel
theorem dX11_groups_135 : decode cX11_groups 135 = .ok (.if_icmp .ge 17, 3) := by decide +kernel
theorem dX11_groups_138 : decode cX11_groups 138 = .ok (.aload_n 0, 1) := by decide +kernel
theorem dX11_groups_139 : decode cX11_groups 139 = .ok (.bipush 10, 2) := by decide +kernel
theorem dX11_groups_141 : decode cX11_groups 141 = .ok (.iload_n 3, 1) := by decide +kernel
theorem dX11_groups_142 : decode cX11_groups 142 = .ok (.imul, 1) := by decide +kernel
theorem dX11_groups_143 : decode cX11_groups 143 = .ok (.invokevirtual 175, 3) := by decide +kernel
theorem dX11_groups_146 : decode cX11_groups 146 = .ok (.iinc 3 1, 3) := by decide +kernel
theorem dX11_groups_149 : decode cX11_groups 149 = .ok (.goto (-16), 3) := by decide +kernel
theorem dX11_groups_152 : decode cX11_groups 152 = .ok (.aload_n 0, 1) := by decide +kernel
theorem dX11_groups_153 : decode cX11_groups 153 = .ok (.iconst 0, 1) := by decide +kernel
theorem dX11_groups_154 : decode cX11_groups 154 = .ok (.putfield 153, 3) := by decide +kernel
theorem dX11_groups_157 : decode cX11_groups 157 = .ok (.aload_n 0, 1) := by decide +kernel
theorem dX11_groups_158 : decode cX11_groups 158 = .ok (.dup, 1) := by decide +kernel
theorem dX11_groups_159 : decode cX11_groups 159 = .ok (.getfield 178, 3) := by decide +kernel
theorem dX11_groups_162 : decode cX11_groups 162 = .ok (.iconst 1, 1) := by decide +kernel
theorem dX11_groups_163 : decode cX11_groups 163 = .ok (.iadd, 1) := by decide +kernel
theorem dX11_groups_164 : decode cX11_groups 164 = .ok (.putfield 178, 3) := by decide +kernel
theorem dX11_groups_167 : decode cX11_groups 167 = .ok (.iload_n 1, 1) := by decide +kernel
theorem dX11_groups_168 : decode cX11_groups 168 = .ok (.ireturn, 1) := by decide +kernel
theorem dX11_valueOf_0 : decode cX11_valueOf 0 = .ok (.iload_n 1, 1) := by decide +kernel
theorem dX11_valueOf_1 : decode cX11_valueOf 1 = .ok (.lookupswitch 107 #[(99, 89), (105, 84), (114, 79), (115, 51), (122, 69)], 51) := by decide +kernel
theorem dX11_valueOf_52 : decode cX11_valueOf 52 = .ok (.aload_n 0, 1) := by decide +kernel
theorem dX11_valueOf_53 : decode cX11_valueOf 53 = .ok (.getfield 29, 3) := by decide +kernel
theorem dX11_valueOf_56 : decode cX11_valueOf 56 = .ok (.bipush 6, 2) := by decide +kernel
theorem dX11_valueOf_58 : decode cX11_valueOf 58 = .ok (.aload_n 0, 1) := by decide +kernel
theorem dX11_valueOf_59 : decode cX11_valueOf 59 = .ok (.getfield 200, 3) := by decide +kernel
theorem dX11_valueOf_62 : decode cX11_valueOf 62 = .ok (.imul, 1) := by decide +kernel
theorem dX11_valueOf_63 : decode cX11_valueOf 63 = .ok (.aload_n 0, 1) := by decide +kernel
theorem dX11_valueOf_64 : decode cX11_valueOf 64 = .ok (.getfield 203, 3) := by decide +kernel
theorem dX11_valueOf_67 : decode cX11_valueOf 67 = .ok (.iadd, 1) := by decide +kernel
theorem dX11_valueOf_68 : decode cX11_valueOf 68 = .ok (.iaload, 1) := by decide +kernel
theorem dX11_valueOf_69 : decode cX11_valueOf 69 = .ok (.ireturn, 1) := by decide +kernel
theorem dX11_valueOf_70 : decode cX11_valueOf 70 = .ok (.aload_n 0, 1) := by decide +kernel
theorem dX11_valueOf_71 : decode cX11_valueOf 71 = .ok (.getfield 23, 3) := by decide +kernel
theorem dX11_valueOf_74 : decode cX11_valueOf 74 = .ok (.aload_n 0, 1) := by decide +kernel
theorem dX11_valueOf_75 : decode cX11_valueOf 75 = .ok (.getfield 200, 3) := by decide +kernel
theorem dX11_valueOf_78 : decode cX11_valueOf 78 = .ok (.iaload, 1) := by decide +kernel
theorem dX11_valueOf_79 : decode cX11_valueOf 79 = .ok (.ireturn, 1) := by decide +kernel
theorem dX11_valueOf_80 : decode cX11_valueOf 80 = .ok (.aload_n 0, 1) := by decide +kernel
theorem dX11_valueOf_81 : decode cX11_valueOf 81 = .ok (.getfield 203, 3) := by decide +kernel
theorem dX11_valueOf_84 : decode cX11_valueOf 84 = .ok (.ireturn, 1) := by decide +kernel
theorem dX11_valueOf_85 : decode cX11_valueOf 85 = .ok (.aload_n 0, 1) := by decide +kernel
theorem dX11_valueOf_86 : decode cX11_valueOf 86 = .ok (.getfield 200, 3) := by decide +kernel
theorem dX11_valueOf_89 : decode cX11_valueOf 89 = .ok (.ireturn, 1) := by decide +kernel
theorem dX11_valueOf_90 : decode cX11_valueOf 90 = .ok (.aload_n 0, 1) := by decide +kernel
theorem dX11_valueOf_91 : decode cX11_valueOf 91 = .ok (.getfield 13, 3) := by decide +kernel
theorem dX11_valueOf_94 : decode cX11_valueOf 94 = .ok (.aload_n 0, 1) := by decide +kernel
theorem dX11_valueOf_95 : decode cX11_valueOf 95 = .ok (.getfield 203, 3) := by decide +kernel
theorem dX11_valueOf_98 : decode cX11_valueOf 98 = .ok (.baload, 1) := by decide +kernel
theorem dX11_valueOf_99 : decode cX11_valueOf 99 = .ok (.ifCond .eq 7, 3) := by decide +kernel
theorem dX11_valueOf_102 : decode cX11_valueOf 102 = .ok (.iconst 1, 1) := by decide +kernel
theorem dX11_valueOf_103 : decode cX11_valueOf 103 = .ok (.goto 4, 3) := by decide +kernel
theorem dX11_valueOf_106 : decode cX11_valueOf 106 = .ok (.iconst 0, 1) := by decide +kernel
theorem dX11_valueOf_107 : decode cX11_valueOf 107 = .ok (.ireturn, 1) := by decide +kernel
theorem dX11_valueOf_108 : decode cX11_valueOf 108 = .ok (.aload_n 0, 1) := by decide +kernel
theorem dX11_valueOf_109 : decode cX11_valueOf 109 = .ok (.getfield 26, 3) := by decide +kernel
theorem dX11_valueOf_112 : decode cX11_valueOf 112 = .ok (.aload_n 0, 1) := by decide +kernel
theorem dX11_valueOf_113 : decode cX11_valueOf 113 = .ok (.getfield 200, 3) := by decide +kernel
theorem dX11_valueOf_116 : decode cX11_valueOf 116 = .ok (.baload, 1) := by decide +kernel
theorem dX11_valueOf_117 : decode cX11_valueOf 117 = .ok (.ifCond .eq 7, 3) := by decide +kernel
theorem dX11_valueOf_120 : decode cX11_valueOf 120 = .ok (.iconst 1, 1) := by decide +kernel
theorem dX11_valueOf_121 : decode cX11_valueOf 121 = .ok (.goto 4, 3) := by decide +kernel
theorem dX11_valueOf_124 : decode cX11_valueOf 124 = .ok (.iconst 0, 1) := by decide +kernel
theorem dX11_valueOf_125 : decode cX11_valueOf 125 = .ok (.ireturn, 1) := by decide +kernel
theorem dX11_product_0 : decode cX11_product 0 = .ok (.aload_n 0, 1) := by decide +kernel
theorem dX11_product_1 : decode cX11_product 1 = .ok (.iload_n 1, 1) := by decide +kernel
theorem dX11_product_2 : decode cX11_product 2 = .ok (.invokevirtual 187, 3) := by decide +kernel
theorem dX11_product_5 : decode cX11_product 5 = .ok (.istore_n 2, 1) := by decide +kernel
theorem dX11_product_6 : decode cX11_product 6 = .ok (.aload_n 0, 1) := by decide +kernel
theorem dX11_product_7 : decode cX11_product 7 = .ok (.invokevirtual 134, 3) := by decide +kernel
theorem dX11_product_10 : decode cX11_product 10 = .ok (.ifCond .eq 81, 3) := by decide +kernel
theorem dX11_product_13 : decode cX11_product 13 = .ok (.aload_n 0, 1) := by decide +kernel
theorem dX11_product_14 : decode cX11_product 14 = .ok (.invokevirtual 138, 3) := by decide +kernel
theorem dX11_product_17 : decode cX11_product 17 = .ok (.bipush 42, 2) := by decide +kernel
theorem dX11_product_19 : decode cX11_product 19 = .ok (.if_icmp .eq 12, 3) := by decide +kernel
theorem dX11_product_22 : decode cX11_product 22 = .ok (.aload_n 0, 1) := by decide +kernel
theorem dX11_product_23 : decode cX11_product 23 = .ok (.invokevirtual 138, 3) := by decide +kernel
theorem dX11_product_26 : decode cX11_product 26 = .ok (.bipush 47, 2) := by decide +kernel
theorem dX11_product_28 : decode cX11_product 28 = .ok (.if_icmp .ne 63, 3) := by decide +kernel
theorem dX11_product_31 : decode cX11_product 31 = .ok (.aload_n 0, 1) := by decide +kernel
theorem dX11_product_32 : decode cX11_product 32 = .ok (.invokevirtual 138, 3) := by decide +kernel
theorem dX11_product_35 : decode cX11_product 35 = .ok (.bipush 42, 2) := by decide +kernel
theorem dX11_product_37 : decode cX11_product 37 = .ok (.if_icmp .ne 7, 3) := by decide +kernel
theorem dX11_product_40 : decode cX11_product 40 = .ok (.iconst 1, 1) := by decide +kernel
theorem dX11_product_41 : decode cX11_product 41 = .ok (.goto 4, 3) := by decide +kernel
theorem dX11_product_44 : decode cX11_product 44 = .ok (.iconst 0, 1) := by decide +kernel
theorem dX11_product_45 : decode cX11_product 45 = .ok (.istore_n 3, 1) := by decide +kernel
theorem dX11_product_46 : decode cX11_product 46 = .ok (.aload_n 0, 1) := by decide +kernel
theorem dX11_product_47 : decode cX11_product 47 = .ok (.dup, 1) := by decide +kernel
theorem dX11_product_48 : decode cX11_product 48 = .ok (.getfield 128, 3) := by decide +kernel
theorem dX11_product_51 : decode cX11_product 51 = .ok (.iconst 1, 1) := by decide +kernel
theorem dX11_product_52 : decode cX11_product 52 = .ok (.iadd, 1) := by decide +kernel
theorem dX11_product_53 : decode cX11_product 53 = .ok (.putfield 128, 3) := by decide +kernel
theorem dX11_product_56 : decode cX11_product 56 = .ok (.aload_n 0, 1) := by decide +kernel
theorem dX11_product_57 : decode cX11_product 57 = .ok (.iload_n 1, 1) := by decide +kernel
theorem dX11_product_58 : decode cX11_product 58 = .ok (.invokevirtual 187, 3) := by decide +kernel
theorem dX11_product_61 : decode cX11_product 61 = .ok (.istore 4, 2) := by decide +kernel
theorem dX11_product_63 : decode cX11_product 63 = .ok (.iload_n 3, 1) := by decide +kernel
theorem dX11_product_64 : decode cX11_product 64 = .ok (.ifCond .eq 10, 3) := by decide +kernel
theorem dX11_product_67 : decode cX11_product 67 = .ok (.iload_n 2, 1) := by decide +kernel
theorem dX11_product_68 : decode cX11_product 68 = .ok (.iload 4, 2) := by decide +kernel
theorem dX11_product_70 : decode cX11_product 70 = .ok (.imul, 1) := by decide +kernel
theorem dX11_product_71 : decode cX11_product 71 = .ok (.goto 16, 3) := by decide +kernel
theorem dX11_product_74 : decode cX11_product 74 = .ok (.iload 4, 2) := by decide +kernel
theorem dX11_product_76 : decode cX11_product 76 = .ok (.ifCond .ne 7, 3) := by decide +kernel
theorem dX11_product_79 : decode cX11_product 79 = .ok (.iconst 0, 1) := by decide +kernel
theorem dX11_product_80 : decode cX11_product 80 = .ok (.goto 7, 3) := by decide +kernel
theorem dX11_product_83 : decode cX11_product 83 = .ok (.iload_n 2, 1) := by decide +kernel
theorem dX11_product_84 : decode cX11_product 84 = .ok (.iload 4, 2) := by decide +kernel
theorem dX11_product_86 : decode cX11_product 86 = .ok (.idiv, 1) := by decide +kernel
theorem dX11_product_87 : decode cX11_product 87 = .ok (.istore_n 2, 1) := by decide +kernel
theorem dX11_product_88 : decode cX11_product 88 = .ok (.goto (-82), 3) := by decide +kernel
theorem dX11_product_91 : decode cX11_product 91 = .ok (.iload_n 2, 1) := by decide +kernel
theorem dX11_product_92 : decode cX11_product 92 = .ok (.ireturn, 1) := by decide +kernel
theorem dX11_sum_0 : decode cX11_sum 0 = .ok (.aload_n 0, 1) := by decide +kernel
theorem dX11_sum_1 : decode cX11_sum 1 = .ok (.iload_n 1, 1) := by decide +kernel
theorem dX11_sum_2 : decode cX11_sum 2 = .ok (.invokevirtual 184, 3) := by decide +kernel
theorem dX11_sum_5 : decode cX11_sum 5 = .ok (.istore_n 2, 1) := by decide +kernel
theorem dX11_sum_6 : decode cX11_sum 6 = .ok (.aload_n 0, 1) := by decide +kernel
theorem dX11_sum_7 : decode cX11_sum 7 = .ok (.invokevirtual 134, 3) := by decide +kernel
theorem dX11_sum_10 : decode cX11_sum 10 = .ok (.ifCond .eq 72, 3) := by decide +kernel
theorem dX11_sum_13 : decode cX11_sum 13 = .ok (.aload_n 0, 1) := by decide +kernel
theorem dX11_sum_14 : decode cX11_sum 14 = .ok (.invokevirtual 138, 3) := by decide +kernel
theorem dX11_sum_17 : decode cX11_sum 17 = .ok (.bipush 43, 2) := by decide +kernel
theorem dX11_sum_19 : decode cX11_sum 19 = .ok (.if_icmp .eq 12, 3) := by decide +kernel
theorem dX11_sum_22 : decode cX11_sum 22 = .ok (.aload_n 0, 1) := by decide +kernel
theorem dX11_sum_23 : decode cX11_sum 23 = .ok (.invokevirtual 138, 3) := by decide +kernel
theorem dX11_sum_26 : decode cX11_sum 26 = .ok (.bipush 45, 2) := by decide +kernel
theorem dX11_sum_28 : decode cX11_sum 28 = .ok (.if_icmp .ne 54, 3) := by decide +kernel
theorem dX11_sum_31 : decode cX11_sum 31 = .ok (.aload_n 0, 1) := by decide +kernel
theorem dX11_sum_32 : decode cX11_sum 32 = .ok (.invokevirtual 138, 3) := by decide +kernel
theorem dX11_sum_35 : decode cX11_sum 35 = .ok (.bipush 43, 2) := by decide +kernel
theorem dX11_sum_37 : decode cX11_sum 37 = .ok (.if_icmp .ne 7, 3) := by decide +kernel
theorem dX11_sum_40 : decode cX11_sum 40 = .ok (.iconst 1, 1) := by decide +kernel
theorem dX11_sum_41 : decode cX11_sum 41 = .ok (.goto 4, 3) := by decide +kernel
theorem dX11_sum_44 : decode cX11_sum 44 = .ok (.iconst 0, 1) := by decide +kernel
theorem dX11_sum_45 : decode cX11_sum 45 = .ok (.istore_n 3, 1) := by decide +kernel
theorem dX11_sum_46 : decode cX11_sum 46 = .ok (.aload_n 0, 1) := by decide +kernel
theorem dX11_sum_47 : decode cX11_sum 47 = .ok (.dup, 1) := by decide +kernel
theorem dX11_sum_48 : decode cX11_sum 48 = .ok (.getfield 128, 3) := by decide +kernel
theorem dX11_sum_51 : decode cX11_sum 51 = .ok (.iconst 1, 1) := by decide +kernel
theorem dX11_sum_52 : decode cX11_sum 52 = .ok (.iadd, 1) := by decide +kernel
theorem dX11_sum_53 : decode cX11_sum 53 = .ok (.putfield 128, 3) := by decide +kernel
theorem dX11_sum_56 : decode cX11_sum 56 = .ok (.aload_n 0, 1) := by decide +kernel
theorem dX11_sum_57 : decode cX11_sum 57 = .ok (.iload_n 1, 1) := by decide +kernel
theorem dX11_sum_58 : decode cX11_sum 58 = .ok (.invokevirtual 184, 3) := by decide +kernel
theorem dX11_sum_61 : decode cX11_sum 61 = .ok (.istore 4, 2) := by decide +kernel
theorem dX11_sum_63 : decode cX11_sum 63 = .ok (.iload_n 3, 1) := by decide +kernel
theorem dX11_sum_64 : decode cX11_sum 64 = .ok (.ifCond .eq 10, 3) := by decide +kernel
theorem dX11_sum_67 : decode cX11_sum 67 = .ok (.iload_n 2, 1) := by decide +kernel
theorem dX11_sum_68 : decode cX11_sum 68 = .ok (.iload 4, 2) := by decide +kernel
theorem dX11_sum_70 : decode cX11_sum 70 = .ok (.iadd, 1) := by decide +kernel
theorem dX11_sum_71 : decode cX11_sum 71 = .ok (.goto 7, 3) := by decide +kernel
theorem dX11_sum_74 : decode cX11_sum 74 = .ok (.iload_n 2, 1) := by decide +kernel
theorem dX11_sum_75 : decode cX11_sum 75 = .ok (.iload 4, 2) := by decide +kernel
theorem dX11_sum_77 : decode cX11_sum 77 = .ok (.isub, 1) := by decide +kernel
theorem dX11_sum_78 : decode cX11_sum 78 = .ok (.istore_n 2, 1) := by decide +kernel
theorem dX11_sum_79 : decode cX11_sum 79 = .ok (.goto (-73), 3) := by decide +kernel
theorem dX11_sum_82 : decode cX11_sum 82 = .ok (.iload_n 2, 1) := by decide +kernel
theorem dX11_sum_83 : decode cX11_sum 83 = .ok (.ireturn, 1) := by decide +kernel
theorem dX11_held_0 : decode cX11_held 0 = .ok (.aload_n 0, 1) := by decide +kernel
theorem dX11_held_1 : decode cX11_held 1 = .ok (.iload_n 1, 1) := by decide +kernel
theorem dX11_held_2 : decode cX11_held 2 = .ok (.invokevirtual 181, 3) := by decide +kernel
theorem dX11_held_5 : decode cX11_held 5 = .ok (.istore_n 2, 1) := by decide +kernel
theorem dX11_held_6 : decode cX11_held 6 = .ok (.aload_n 0, 1) := by decide +kernel
theorem dX11_held_7 : decode cX11_held 7 = .ok (.bipush 60, 2) := by decide +kernel
theorem dX11_held_9 : decode cX11_held 9 = .ok (.invokevirtual 171, 3) := by decide +kernel
theorem dX11_held_12 : decode cX11_held 12 = .ok (.ifCond .eq 18, 3) := by decide +kernel
theorem dX11_held_15 : decode cX11_held 15 = .ok (.iload_n 2, 1) := by decide +kernel
theorem dX11_held_16 : decode cX11_held 16 = .ok (.aload_n 0, 1) := by decide +kernel
theorem dX11_held_17 : decode cX11_held 17 = .ok (.iload_n 1, 1) := by decide +kernel
theorem dX11_held_18 : decode cX11_held 18 = .ok (.invokevirtual 181, 3) := by decide +kernel
theorem dX11_held_21 : decode cX11_held 21 = .ok (.if_icmp .ge 7, 3) := by decide +kernel
theorem dX11_held_24 : decode cX11_held 24 = .ok (.iconst 1, 1) := by decide +kernel
theorem dX11_held_25 : decode cX11_held 25 = .ok (.goto 4, 3) := by decide +kernel
theorem dX11_held_28 : decode cX11_held 28 = .ok (.iconst 0, 1) := by decide +kernel
theorem dX11_held_29 : decode cX11_held 29 = .ok (.ireturn, 1) := by decide +kernel
theorem dX11_held_30 : decode cX11_held 30 = .ok (.aload_n 0, 1) := by decide +kernel
theorem dX11_held_31 : decode cX11_held 31 = .ok (.bipush 62, 2) := by decide +kernel
theorem dX11_held_33 : decode cX11_held 33 = .ok (.invokevirtual 171, 3) := by decide +kernel
theorem dX11_held_36 : decode cX11_held 36 = .ok (.ifCond .eq 18, 3) := by decide +kernel
theorem dX11_held_39 : decode cX11_held 39 = .ok (.iload_n 2, 1) := by decide +kernel
theorem dX11_held_40 : decode cX11_held 40 = .ok (.aload_n 0, 1) := by decide +kernel
theorem dX11_held_41 : decode cX11_held 41 = .ok (.iload_n 1, 1) := by decide +kernel
theorem dX11_held_42 : decode cX11_held 42 = .ok (.invokevirtual 181, 3) := by decide +kernel
theorem dX11_held_45 : decode cX11_held 45 = .ok (.if_icmp .le 7, 3) := by decide +kernel
theorem dX11_held_48 : decode cX11_held 48 = .ok (.iconst 1, 1) := by decide +kernel
theorem dX11_held_49 : decode cX11_held 49 = .ok (.goto 4, 3) := by decide +kernel
theorem dX11_held_52 : decode cX11_held 52 = .ok (.iconst 0, 1) := by decide +kernel
theorem dX11_held_53 : decode cX11_held 53 = .ok (.ireturn, 1) := by decide +kernel
theorem dX11_held_54 : decode cX11_held 54 = .ok (.aload_n 0, 1) := by decide +kernel
theorem dX11_held_55 : decode cX11_held 55 = .ok (.bipush 61, 2) := by decide +kernel
theorem dX11_held_57 : decode cX11_held 57 = .ok (.invokevirtual 171, 3) := by decide +kernel
theorem dX11_held_60 : decode cX11_held 60 = .ok (.ifCond .eq 18, 3) := by decide +kernel
theorem dX11_held_63 : decode cX11_held 63 = .ok (.iload_n 2, 1) := by decide +kernel
theorem dX11_held_64 : decode cX11_held 64 = .ok (.aload_n 0, 1) := by decide +kernel
theorem dX11_held_65 : decode cX11_held 65 = .ok (.iload_n 1, 1) := by decide +kernel
theorem dX11_held_66 : decode cX11_held 66 = .ok (.invokevirtual 181, 3) := by decide +kernel
theorem dX11_held_69 : decode cX11_held 69 = .ok (.if_icmp .ne 7, 3) := by decide +kernel
theorem dX11_held_72 : decode cX11_held 72 = .ok (.iconst 1, 1) := by decide +kernel
theorem dX11_held_73 : decode cX11_held 73 = .ok (.goto 4, 3) := by decide +kernel
theorem dX11_held_76 : decode cX11_held 76 = .ok (.iconst 0, 1) := by decide +kernel
theorem dX11_held_77 : decode cX11_held 77 = .ok (.ireturn, 1) := by decide +kernel
theorem dX11_held_78 : decode cX11_held 78 = .ok (.iload_n 2, 1) := by decide +kernel
theorem dX11_held_79 : decode cX11_held 79 = .ok (.ireturn, 1) := by decide +kernel
theorem dX11_thing_0 : decode cX11_thing 0 = .ok (.aload_n 0, 1) := by decide +kernel
theorem dX11_thing_1 : decode cX11_thing 1 = .ok (.bipush 45, 2) := by decide +kernel
theorem dX11_thing_3 : decode cX11_thing 3 = .ok (.invokevirtual 171, 3) := by decide +kernel
theorem dX11_thing_6 : decode cX11_thing 6 = .ok (.ifCond .eq 10, 3) := by decide +kernel
theorem dX11_thing_9 : decode cX11_thing 9 = .ok (.aload_n 0, 1) := by decide +kernel
theorem dX11_thing_10 : decode cX11_thing 10 = .ok (.iload_n 1, 1) := by decide +kernel
theorem dX11_thing_11 : decode cX11_thing 11 = .ok (.invokevirtual 187, 3) := by decide +kernel
theorem dX11_thing_14 : decode cX11_thing 14 = .ok (.ineg, 1) := by decide +kernel
theorem dX11_thing_15 : decode cX11_thing 15 = .ok (.ireturn, 1) := by decide +kernel
theorem dX11_thing_16 : decode cX11_thing 16 = .ok (.aload_n 0, 1) := by decide +kernel
theorem dX11_thing_17 : decode cX11_thing 17 = .ok (.invokevirtual 134, 3) := by decide +kernel
theorem dX11_thing_20 : decode cX11_thing 20 = .ok (.ifCond .ne 5, 3) := by decide +kernel
theorem dX11_thing_23 : decode cX11_thing 23 = .ok (.iconst 0, 1) := by decide +kernel
theorem dX11_thing_24 : decode cX11_thing 24 = .ok (.ireturn, 1) := by decide +kernel
theorem dX11_thing_25 : decode cX11_thing 25 = .ok (.aload_n 0, 1) := by decide +kernel
theorem dX11_thing_26 : decode cX11_thing 26 = .ok (.invokevirtual 138, 3) := by decide +kernel
theorem dX11_thing_29 : decode cX11_thing 29 = .ok (.istore_n 2, 1) := by decide +kernel
theorem dX11_thing_30 : decode cX11_thing 30 = .ok (.iload_n 2, 1) := by decide +kernel
theorem dX11_thing_31 : decode cX11_thing 31 = .ok (.bipush 40, 2) := by decide +kernel
theorem dX11_thing_33 : decode cX11_thing 33 = .ok (.if_icmp .ne 45, 3) := by decide +kernel
theorem dX11_thing_36 : decode cX11_thing 36 = .ok (.iload_n 1, 1) := by decide +kernel
theorem dX11_thing_37 : decode cX11_thing 37 = .ok (.iconst 4, 1) := by decide +kernel
theorem dX11_thing_38 : decode cX11_thing 38 = .ok (.if_icmp .ge 40, 3) := by decide +kernel
theorem dX11_thing_41 : decode cX11_thing 41 = .ok (.aload_n 0, 1) := by decide +kernel
theorem dX11_thing_42 : decode cX11_thing 42 = .ok (.dup, 1) := by decide +kernel
theorem dX11_thing_43 : decode cX11_thing 43 = .ok (.getfield 128, 3) := by decide +kernel
theorem dX11_thing_46 : decode cX11_thing 46 = .ok (.iconst 1, 1) := by decide +kernel
theorem dX11_thing_47 : decode cX11_thing 47 = .ok (.iadd, 1) := by decide +kernel
theorem dX11_thing_48 : decode cX11_thing 48 = .ok (.putfield 128, 3) := by decide +kernel
theorem dX11_thing_51 : decode cX11_thing 51 = .ok (.aload_n 0, 1) := by decide +kernel
theorem dX11_thing_52 : decode cX11_thing 52 = .ok (.iload_n 1, 1) := by decide +kernel
theorem dX11_thing_53 : decode cX11_thing 53 = .ok (.iconst 1, 1) := by decide +kernel
theorem dX11_thing_54 : decode cX11_thing 54 = .ok (.iadd, 1) := by decide +kernel
theorem dX11_thing_55 : decode cX11_thing 55 = .ok (.invokevirtual 190, 3) := by decide +kernel
theorem dX11_thing_58 : decode cX11_thing 58 = .ok (.istore_n 3, 1) := by decide +kernel
theorem dX11_thing_59 : decode cX11_thing 59 = .ok (.aload_n 0, 1) := by decide +kernel
theorem dX11_thing_60 : decode cX11_thing 60 = .ok (.bipush 41, 2) := by decide +kernel
theorem dX11_thing_62 : decode cX11_thing 62 = .ok (.invokevirtual 171, 3) := by decide +kernel
theorem dX11_thing_65 : decode cX11_thing 65 = .ok (.ifCond .ne 11, 3) := by decide +kernel
theorem dX11_thing_68 : decode cX11_thing 68 = .ok (.aload_n 0, 1) := by decide +kernel
theorem dX11_thing_69 : decode cX11_thing 69 = .ok (.aload_n 0, 1) := by decide +kernel
theorem dX11_thing_70 : decode cX11_thing 70 = .ok (.getfield 128, 3) := by decide +kernel
theorem dX11_thing_73 : decode cX11_thing 73 = .ok (.invokevirtual 142, 3) := by decide +kernel
theorem dX11_thing_76 : decode cX11_thing 76 = .ok (.iload_n 3, 1) := by decide +kernel
theorem dX11_thing_77 : decode cX11_thing 77 = .ok (.ireturn, 1) := by decide +kernel
theorem dX11_thing_78 : decode cX11_thing 78 = .ok (.iload_n 2, 1) := by decide +kernel
theorem dX11_thing_79 : decode cX11_thing 79 = .ok (.bipush 48, 2) := by decide +kernel
theorem dX11_thing_81 : decode cX11_thing 81 = .ok (.bipush 57, 2) := by decide +kernel
theorem dX11_thing_83 : decode cX11_thing 83 = .ok (.invokestatic 109, 3) := by decide +kernel
theorem dX11_thing_86 : decode cX11_thing 86 = .ok (.ifCond .eq 9, 3) := by decide +kernel
theorem dX11_thing_89 : decode cX11_thing 89 = .ok (.aload_n 0, 1) := by decide +kernel
theorem dX11_thing_90 : decode cX11_thing 90 = .ok (.iconst 3, 1) := by decide +kernel
theorem dX11_thing_91 : decode cX11_thing 91 = .ok (.invokevirtual 156, 3) := by decide +kernel
theorem dX11_thing_94 : decode cX11_thing 94 = .ok (.ireturn, 1) := by decide +kernel
theorem dX11_thing_95 : decode cX11_thing 95 = .ok (.iload_n 2, 1) := by decide +kernel
theorem dX11_thing_96 : decode cX11_thing 96 = .ok (.bipush 115, 2) := by decide +kernel
theorem dX11_thing_98 : decode cX11_thing 98 = .ok (.if_icmp .eq 43, 3) := by decide +kernel
theorem dX11_thing_101 : decode cX11_thing 101 = .ok (.iload_n 2, 1) := by decide +kernel
theorem dX11_thing_102 : decode cX11_thing 102 = .ok (.bipush 122, 2) := by decide +kernel
theorem dX11_thing_104 : decode cX11_thing 104 = .ok (.if_icmp .eq 37, 3) := by decide +kernel
theorem dX11_thing_107 : decode cX11_thing 107 = .ok (.iload_n 2, 1) := by decide +kernel
theorem dX11_thing_108 : decode cX11_thing 108 = .ok (.bipush 114, 2) := by decide +kernel
theorem dX11_thing_110 : decode cX11_thing 110 = .ok (.if_icmp .eq 31, 3) := by decide +kernel
theorem dX11_thing_113 : decode cX11_thing 113 = .ok (.iload_n 2, 1) := by decide +kernel
theorem dX11_thing_114 : decode cX11_thing 114 = .ok (.bipush 105, 2) := by decide +kernel
theorem dX11_thing_116 : decode cX11_thing 116 = .ok (.if_icmp .eq 25, 3) := by decide +kernel
theorem dX11_thing_119 : decode cX11_thing 119 = .ok (.iload_n 2, 1) := by decide +kernel
theorem dX11_thing_120 : decode cX11_thing 120 = .ok (.bipush 99, 2) := by decide +kernel
theorem dX11_thing_122 : decode cX11_thing 122 = .ok (.if_icmp .eq 19, 3) := by decide +kernel
theorem dX11_thing_125 : decode cX11_thing 125 = .ok (.iload_n 2, 1) := by decide +kernel
theorem dX11_thing_126 : decode cX11_thing 126 = .ok (.bipush 111, 2) := by decide +kernel
theorem dX11_thing_128 : decode cX11_thing 128 = .ok (.if_icmp .eq 13, 3) := by decide +kernel
theorem dX11_thing_131 : decode cX11_thing 131 = .ok (.aload_n 0, 1) := by decide +kernel
theorem dX11_thing_132 : decode cX11_thing 132 = .ok (.aload_n 0, 1) := by decide +kernel
theorem dX11_thing_133 : decode cX11_thing 133 = .ok (.getfield 128, 3) := by decide +kernel
theorem dX11_thing_136 : decode cX11_thing 136 = .ok (.invokevirtual 142, 3) := by decide +kernel
theorem dX11_thing_139 : decode cX11_thing 139 = .ok (.iconst 0, 1) := by decide +kernel
theorem dX11_thing_140 : decode cX11_thing 140 = .ok (.ireturn, 1) := by decide +kernel
theorem dX11_thing_141 : decode cX11_thing 141 = .ok (.aload_n 0, 1) := by decide +kernel
theorem dX11_thing_142 : decode cX11_thing 142 = .ok (.dup, 1) := by decide +kernel
theorem dX11_thing_143 : decode cX11_thing 143 = .ok (.getfield 128, 3) := by decide +kernel
theorem dX11_thing_146 : decode cX11_thing 146 = .ok (.iconst 1, 1) := by decide +kernel
theorem dX11_thing_147 : decode cX11_thing 147 = .ok (.iadd, 1) := by decide +kernel
theorem dX11_thing_148 : decode cX11_thing 148 = .ok (.putfield 128, 3) := by decide +kernel
theorem dX11_thing_151 : decode cX11_thing 151 = .ok (.aload_n 0, 1) := by decide +kernel
theorem dX11_thing_152 : decode cX11_thing 152 = .ok (.getfield 193, 3) := by decide +kernel
theorem dX11_thing_155 : decode cX11_thing 155 = .ok (.ifCond .eq 11, 3) := by decide +kernel
theorem dX11_thing_158 : decode cX11_thing 158 = .ok (.aload_n 0, 1) := by decide +kernel
theorem dX11_thing_159 : decode cX11_thing 159 = .ok (.iload_n 2, 1) := by decide +kernel
theorem dX11_thing_160 : decode cX11_thing 160 = .ok (.invokevirtual 197, 3) := by decide +kernel
theorem dX11_thing_163 : decode cX11_thing 163 = .ok (.goto 4, 3) := by decide +kernel
theorem dX11_thing_166 : decode cX11_thing 166 = .ok (.iconst 0, 1) := by decide +kernel
theorem dX11_thing_167 : decode cX11_thing 167 = .ok (.ireturn, 1) := by decide +kernel
theorem dX11_rule_0 : decode cX11_rule 0 = .ok (.aload_n 0, 1) := by decide +kernel
theorem dX11_rule_1 : decode cX11_rule 1 = .ok (.iconst 0, 1) := by decide +kernel
theorem dX11_rule_2 : decode cX11_rule 2 = .ok (.putfield 99, 3) := by decide +kernel
theorem dX11_rule_5 : decode cX11_rule 5 = .ok (.aload_n 0, 1) := by decide +kernel
theorem dX11_rule_6 : decode cX11_rule 6 = .ok (.getfield 116, 3) := by decide +kernel
theorem dX11_rule_9 : decode cX11_rule 9 = .ok (.istore_n 1, 1) := by decide +kernel
theorem dX11_rule_10 : decode cX11_rule 10 = .ok (.aload_n 0, 1) := by decide +kernel
theorem dX11_rule_11 : decode cX11_rule 11 = .ok (.aload_n 0, 1) := by decide +kernel
theorem dX11_rule_12 : decode cX11_rule 12 = .ok (.getfield 35, 3) := by decide +kernel
theorem dX11_rule_15 : decode cX11_rule 15 = .ok (.iload_n 1, 1) := by decide +kernel
theorem dX11_rule_16 : decode cX11_rule 16 = .ok (.bipush 40, 2) := by decide +kernel
theorem dX11_rule_18 : decode cX11_rule 18 = .ok (.invokevirtual 164, 3) := by decide +kernel
theorem dX11_rule_21 : decode cX11_rule 21 = .ok (.aload_n 0, 1) := by decide +kernel
theorem dX11_rule_22 : decode cX11_rule 22 = .ok (.iconst 0, 1) := by decide +kernel
theorem dX11_rule_23 : decode cX11_rule 23 = .ok (.putfield 116, 3) := by decide +kernel
theorem dX11_rule_26 : decode cX11_rule 26 = .ok (.aload_n 0, 1) := by decide +kernel
theorem dX11_rule_27 : decode cX11_rule 27 = .ok (.iconst 0, 1) := by decide +kernel
theorem dX11_rule_28 : decode cX11_rule 28 = .ok (.putfield 193, 3) := by decide +kernel
theorem dX11_rule_31 : decode cX11_rule 31 = .ok (.iload_n 1, 1) := by decide +kernel
theorem dX11_rule_32 : decode cX11_rule 32 = .ok (.ifCond .le 39, 3) := by decide +kernel
theorem dX11_rule_35 : decode cX11_rule 35 = .ok (.aload_n 0, 1) := by decide +kernel
theorem dX11_rule_36 : decode cX11_rule 36 = .ok (.iconst 0, 1) := by decide +kernel
theorem dX11_rule_37 : decode cX11_rule 37 = .ok (.invokevirtual 190, 3) := by decide +kernel
theorem dX11_rule_40 : decode cX11_rule 40 = .ok (.pop, 1) := by decide +kernel
theorem dX11_rule_41 : decode cX11_rule 41 = .ok (.aload_n 0, 1) := by decide +kernel
theorem dX11_rule_42 : decode cX11_rule 42 = .ok (.getfield 128, 3) := by decide +kernel
theorem dX11_rule_45 : decode cX11_rule 45 = .ok (.iload_n 1, 1) := by decide +kernel
theorem dX11_rule_46 : decode cX11_rule 46 = .ok (.if_icmp .ge 11, 3) := by decide +kernel
theorem dX11_rule_49 : decode cX11_rule 49 = .ok (.aload_n 0, 1) := by decide +kernel
theorem dX11_rule_50 : decode cX11_rule 50 = .ok (.aload_n 0, 1) := by decide +kernel
theorem dX11_rule_51 : decode cX11_rule 51 = .ok (.getfield 128, 3) := by decide +kernel
theorem dX11_rule_54 : decode cX11_rule 54 = .ok (.invokevirtual 142, 3) := by decide +kernel
theorem dX11_rule_57 : decode cX11_rule 57 = .ok (.aload_n 0, 1) := by decide +kernel
theorem dX11_rule_58 : decode cX11_rule 58 = .ok (.invokevirtual 134, 3) := by decide +kernel
theorem dX11_rule_61 : decode cX11_rule 61 = .ok (.ifCond .ne 10, 3) := by decide +kernel
theorem dX11_rule_64 : decode cX11_rule 64 = .ok (.iconst (-1), 1) := by decide +kernel
theorem dX11_rule_65 : decode cX11_rule 65 = .ok (.aload_n 0, 1) := by decide +kernel
theorem dX11_rule_66 : decode cX11_rule 66 = .ok (.getfield 131, 3) := by decide +kernel
theorem dX11_rule_69 : decode cX11_rule 69 = .ok (.isub, 1) := by decide +kernel
theorem dX11_rule_70 : decode cX11_rule 70 = .ok (.ireturn, 1) := by decide +kernel
theorem dX11_rule_71 : decode cX11_rule 71 = .ok (.iconst 0, 1) := by decide +kernel
theorem dX11_rule_72 : decode cX11_rule 72 = .ok (.istore_n 2, 1) := by decide +kernel
theorem dX11_rule_73 : decode cX11_rule 73 = .ok (.iload_n 2, 1) := by decide +kernel
theorem dX11_rule_74 : decode cX11_rule 74 = .ok (.iload_n 1, 1) := by decide +kernel
theorem dX11_rule_75 : decode cX11_rule 75 = .ok (.if_icmp .ge 21, 3) := by decide +kernel
theorem dX11_rule_78 : decode cX11_rule 78 = .ok (.aload_n 0, 1) := by decide +kernel
theorem dX11_rule_79 : decode cX11_rule 79 = .ok (.getfield 45, 3) := by decide +kernel
theorem dX11_rule_82 : decode cX11_rule 82 = .ok (.iload_n 2, 1) := by decide +kernel
theorem dX11_rule_83 : decode cX11_rule 83 = .ok (.aload_n 0, 1) := by decide +kernel
theorem dX11_rule_84 : decode cX11_rule 84 = .ok (.getfield 35, 3) := by decide +kernel
theorem dX11_rule_87 : decode cX11_rule 87 = .ok (.iload_n 2, 1) := by decide +kernel
theorem dX11_rule_88 : decode cX11_rule 88 = .ok (.baload, 1) := by decide +kernel
theorem dX11_rule_89 : decode cX11_rule 89 = .ok (.bastore, 1) := by decide +kernel
theorem dX11_rule_90 : decode cX11_rule 90 = .ok (.iinc 2 1, 3) := by decide +kernel
theorem dX11_rule_93 : decode cX11_rule 93 = .ok (.goto (-20), 3) := by decide +kernel
theorem dX11_rule_96 : decode cX11_rule 96 = .ok (.aload_n 0, 1) := by decide +kernel
theorem dX11_rule_97 : decode cX11_rule 97 = .ok (.iload_n 1, 1) := by decide +kernel
theorem dX11_rule_98 : decode cX11_rule 98 = .ok (.putfield 206, 3) := by decide +kernel
theorem dX11_rule_101 : decode cX11_rule 101 = .ok (.iconst 0, 1) := by decide +kernel
theorem dX11_rule_102 : decode cX11_rule 102 = .ok (.ireturn, 1) := by decide +kernel
section NXG
variable {l : Launch} {D : va_G} {cy : Nat → ClassId} {ad : Nat → Nat} {dT : Nat} {X : Mm}
def f_J6_bitCount_0f7a4_0  (x0 : Int32) (M : Mem) : Option (Int32 × Mem) :=
  vl (((x0.toUInt32 >>> ((1 : Int32).toUInt32 &&& Int32.toUInt32 31)).toInt32)) fun v1 =>
  vl ((x0 - (v1 &&& 1431655765))) fun v2 =>
  vl (((v2.toUInt32 >>> ((2 : Int32).toUInt32 &&& Int32.toUInt32 31)).toInt32)) fun v3 =>
  vl (((v2 &&& 858993459) + (v3 &&& 858993459))) fun v4 =>
  vl (((v4.toUInt32 >>> ((4 : Int32).toUInt32 &&& Int32.toUInt32 31)).toInt32)) fun v5 =>
  vl (((v4 + v5) &&& 252645135)) fun v6 =>
  vl (((v6.toUInt32 >>> ((8 : Int32).toUInt32 &&& Int32.toUInt32 31)).toInt32)) fun v7 =>
  vl ((v6 + v7)) fun v8 =>
  vl (((v8.toUInt32 >>> ((16 : Int32).toUInt32 &&& Int32.toUInt32 31)).toInt32)) fun v9 =>
  vl ((v8 + v9)) fun v10 =>
  some ((v10 &&& 63), M)
set_option maxRecDepth 100000 in
theorem w_J6_bitCount_0f7a4_0 {R : Int32} {M' : Mem}  (x0 : Int32) (M : Mem) (hF : f_J6_bitCount_0f7a4_0 x0 M = some (R, M')) : RunF l D cy ad none YJ6_bitCount_0f7a4 0 0 0 (some (.int R)) (lay X M') 0 0 0 [(0, .int x0)] [] (lay X M) := by
  unfold f_J6_bitCount_0f7a4_0 at hF
  refine g_iload_n (Y := YJ6_bitCount_0f7a4) (pc := 0) 0 dJ6_bitCount_0f7a4_0 rfl ?_
  refine g_iload_n (Y := YJ6_bitCount_0f7a4) (pc := 1) 0 dJ6_bitCount_0f7a4_1 rfl ?_
  refine g_iconst (Y := YJ6_bitCount_0f7a4) (pc := 2) dJ6_bitCount_0f7a4_2 kI_1 ?_
  refine g_iushr (Y := YJ6_bitCount_0f7a4) (pc := 3) dJ6_bitCount_0f7a4_3 ?_
  refine g_nm (fun v1 e => ?_)
  replace hF := vl_to e hF; clear e
  refine g_ldcw (Y := YJ6_bitCount_0f7a4) (pc := 4) dJ6_bitCount_0f7a4_4 cw_J6_265 ?_
  refine g_iand (Y := YJ6_bitCount_0f7a4) (pc := 7) dJ6_bitCount_0f7a4_7 ?_
  refine g_isub (Y := YJ6_bitCount_0f7a4) (pc := 8) dJ6_bitCount_0f7a4_8 ?_
  refine g_nm (fun v2 e => ?_)
  replace hF := vl_to e hF; clear e
  refine g_istore_n (Y := YJ6_bitCount_0f7a4) (pc := 9) (L' := [(0, .int v2)]) dJ6_bitCount_0f7a4_9 (Nat.le_of_ble_eq_true rfl) rfl ?_
  refine g_iload_n (Y := YJ6_bitCount_0f7a4) (pc := 10) 0 dJ6_bitCount_0f7a4_10 rfl ?_
  refine g_ldcw (Y := YJ6_bitCount_0f7a4) (pc := 11) dJ6_bitCount_0f7a4_11 cw_J6_266 ?_
  refine g_iand (Y := YJ6_bitCount_0f7a4) (pc := 14) dJ6_bitCount_0f7a4_14 ?_
  refine g_iload_n (Y := YJ6_bitCount_0f7a4) (pc := 15) 0 dJ6_bitCount_0f7a4_15 rfl ?_
  refine g_iconst (Y := YJ6_bitCount_0f7a4) (pc := 16) dJ6_bitCount_0f7a4_16 kI_2 ?_
  refine g_iushr (Y := YJ6_bitCount_0f7a4) (pc := 17) dJ6_bitCount_0f7a4_17 ?_
  refine g_nm (fun v3 e => ?_)
  replace hF := vl_to e hF; clear e
  refine g_ldcw (Y := YJ6_bitCount_0f7a4) (pc := 18) dJ6_bitCount_0f7a4_18 cw_J6_266 ?_
  refine g_iand (Y := YJ6_bitCount_0f7a4) (pc := 21) dJ6_bitCount_0f7a4_21 ?_
  refine g_iadd (Y := YJ6_bitCount_0f7a4) (pc := 22) dJ6_bitCount_0f7a4_22 ?_
  refine g_nm (fun v4 e => ?_)
  replace hF := vl_to e hF; clear e
  refine g_istore_n (Y := YJ6_bitCount_0f7a4) (pc := 23) (L' := [(0, .int v4)]) dJ6_bitCount_0f7a4_23 (Nat.le_of_ble_eq_true rfl) rfl ?_
  refine g_iload_n (Y := YJ6_bitCount_0f7a4) (pc := 24) 0 dJ6_bitCount_0f7a4_24 rfl ?_
  refine g_iload_n (Y := YJ6_bitCount_0f7a4) (pc := 25) 0 dJ6_bitCount_0f7a4_25 rfl ?_
  refine g_iconst (Y := YJ6_bitCount_0f7a4) (pc := 26) dJ6_bitCount_0f7a4_26 kI_4 ?_
  refine g_iushr (Y := YJ6_bitCount_0f7a4) (pc := 27) dJ6_bitCount_0f7a4_27 ?_
  refine g_nm (fun v5 e => ?_)
  replace hF := vl_to e hF; clear e
  refine g_iadd (Y := YJ6_bitCount_0f7a4) (pc := 28) dJ6_bitCount_0f7a4_28 ?_
  refine g_ldcw (Y := YJ6_bitCount_0f7a4) (pc := 29) dJ6_bitCount_0f7a4_29 cw_J6_267 ?_
  refine g_iand (Y := YJ6_bitCount_0f7a4) (pc := 32) dJ6_bitCount_0f7a4_32 ?_
  refine g_nm (fun v6 e => ?_)
  replace hF := vl_to e hF; clear e
  refine g_istore_n (Y := YJ6_bitCount_0f7a4) (pc := 33) (L' := [(0, .int v6)]) dJ6_bitCount_0f7a4_33 (Nat.le_of_ble_eq_true rfl) rfl ?_
  refine g_iload_n (Y := YJ6_bitCount_0f7a4) (pc := 34) 0 dJ6_bitCount_0f7a4_34 rfl ?_
  refine g_iload_n (Y := YJ6_bitCount_0f7a4) (pc := 35) 0 dJ6_bitCount_0f7a4_35 rfl ?_
  refine g_bipush (Y := YJ6_bitCount_0f7a4) (pc := 36) dJ6_bitCount_0f7a4_36 kB_8 ?_
  refine g_iushr (Y := YJ6_bitCount_0f7a4) (pc := 38) dJ6_bitCount_0f7a4_38 ?_
  refine g_nm (fun v7 e => ?_)
  replace hF := vl_to e hF; clear e
  refine g_iadd (Y := YJ6_bitCount_0f7a4) (pc := 39) dJ6_bitCount_0f7a4_39 ?_
  refine g_nm (fun v8 e => ?_)
  replace hF := vl_to e hF; clear e
  refine g_istore_n (Y := YJ6_bitCount_0f7a4) (pc := 40) (L' := [(0, .int v8)]) dJ6_bitCount_0f7a4_40 (Nat.le_of_ble_eq_true rfl) rfl ?_
  refine g_iload_n (Y := YJ6_bitCount_0f7a4) (pc := 41) 0 dJ6_bitCount_0f7a4_41 rfl ?_
  refine g_iload_n (Y := YJ6_bitCount_0f7a4) (pc := 42) 0 dJ6_bitCount_0f7a4_42 rfl ?_
  refine g_bipush (Y := YJ6_bitCount_0f7a4) (pc := 43) dJ6_bitCount_0f7a4_43 kB_16 ?_
  refine g_iushr (Y := YJ6_bitCount_0f7a4) (pc := 45) dJ6_bitCount_0f7a4_45 ?_
  refine g_nm (fun v9 e => ?_)
  replace hF := vl_to e hF; clear e
  refine g_iadd (Y := YJ6_bitCount_0f7a4) (pc := 46) dJ6_bitCount_0f7a4_46 ?_
  refine g_nm (fun v10 e => ?_)
  replace hF := vl_to e hF; clear e
  refine g_istore_n (Y := YJ6_bitCount_0f7a4) (pc := 47) (L' := [(0, .int v10)]) dJ6_bitCount_0f7a4_47 (Nat.le_of_ble_eq_true rfl) rfl ?_
  refine g_iload_n (Y := YJ6_bitCount_0f7a4) (pc := 48) 0 dJ6_bitCount_0f7a4_48 rfl ?_
  refine g_bipush (Y := YJ6_bitCount_0f7a4) (pc := 49) dJ6_bitCount_0f7a4_49 kB_63 ?_
  refine g_iand (Y := YJ6_bitCount_0f7a4) (pc := 51) dJ6_bitCount_0f7a4_51 ?_
  exact s_iret (Y := YJ6_bitCount_0f7a4) (pc := 52) dJ6_bitCount_0f7a4_52 rfl hF
def f_J6_bitCount_0f7a4 (x0 : Int32) (M : Mem) : Option (Int32 × Mem) := f_J6_bitCount_0f7a4_0 x0 M
theorem r_J6_bitCount_0f7a4 {x0 R : Int32} {M M' : Mem}  (hF : f_J6_bitCount_0f7a4 x0 M = some (R, M')) : RunS l D cy ad YJ6_bitCount_0f7a4 0 [.int x0] X M (some (.int R)) M' := Run.of 1 (msJ6_bitCount_0f7a4).1 (Nat.le_of_ble_eq_true rfl) (w_J6_bitCount_0f7a4_0  _ _ hF)
def f_X11_thrown_0  (M : Mem) : Option (Int32 × Mem) :=
  some ((M 174 14), M)
set_option maxRecDepth 100000 in
theorem w_X11_thrown_0 {R : Int32} {M' : Mem}  (M : Mem) (hF : f_X11_thrown_0  M = some (R, M')) : RunF l D cy ad none YX11_thrown 0 0 0 (some (.int R)) (lay X M') 0 0 0 [(0, .ref 174)] [] (lay X M) := by
  unfold f_X11_thrown_0 at hF
  refine g_aload_n (Y := YX11_thrown) (pc := 0) 0 dX11_thrown_0 rfl ?_
  refine u_getI (Y := YX11_thrown) (pc := 1) dX11_thrown_1 fl_X11_99 k_174 ?_
  exact s_iret (Y := YX11_thrown) (pc := 4) dX11_thrown_4 rfl hF
def f_X11_thrown (M : Mem) : Option (Int32 × Mem) := f_X11_thrown_0 M
theorem r_X11_thrown {R : Int32} {M M' : Mem}  (hF : f_X11_thrown  M = some (R, M')) : RunS l D cy ad YX11_thrown 0 [.ref 174] X M (some (.int R)) M' := Run.of 0 (miX11_thrown).1 (Nat.le_of_ble_eq_true rfl) (w_X11_thrown_0  _ hF)
def f_X11_in_15  (t0 : Int32) (M : Mem) : Option (Int32 × Mem) :=
  gd (t0 = 0 ∨ t0 = 1) <|
  some (t0, M)
set_option maxRecDepth 100000 in
theorem w_X11_in_15 {R : Int32} {M' : Mem}  (t0 : Int32) (M : Mem) (hF : f_X11_in_15 t0 M = some (R, M')) : RunF l D cy ad none YX11_in 0 0 0 (some (.int R)) (lay X M') 0 0 15 [] [.int t0] (lay X M) := by
  unfold f_X11_in_15 at hF
  obtain ⟨g2, hF⟩ := gd_some hF
  exact s_zret (Y := YX11_in) (pc := 15) dX11_in_15 rfl g2 hF
def f_X11_in_14  (M : Mem) : Option (Int32 × Mem) :=
  f_X11_in_15 0 M
set_option maxRecDepth 100000 in
theorem w_X11_in_14 {R : Int32} {M' : Mem}  (M : Mem) (hF : f_X11_in_14  M = some (R, M')) : RunF l D cy ad none YX11_in 0 0 0 (some (.int R)) (lay X M') 0 0 14 [] [] (lay X M) := by
  unfold f_X11_in_14 at hF
  refine g_iconst (Y := YX11_in) (pc := 14) dX11_in_14 kI_0 ?_
  exact w_X11_in_15  _ _ hF
def f_X11_in_0  (x0 : Int32) (x1 : Int32) (x2 : Int32) (M : Mem) : Option (Int32 × Mem) :=
  if x0 < x1 then
    f_X11_in_14 M
  else
    if x2 < x0 then
      f_X11_in_14 M
    else
      f_X11_in_15 1 M
set_option maxRecDepth 100000 in
theorem w_X11_in_0 {R : Int32} {M' : Mem}  (x0 x1 x2 : Int32) (M : Mem) (hF : f_X11_in_0 x0 x1 x2 M = some (R, M')) : RunF l D cy ad none YX11_in 0 0 0 (some (.int R)) (lay X M') 0 0 0 [(0, .int x0), (1, .int x1), (2, .int x2)] [] (lay X M) := by
  unfold f_X11_in_0 at hF
  refine g_iload_n (Y := YX11_in) (pc := 0) 0 dX11_in_0 rfl ?_
  refine g_iload_n (Y := YX11_in) (pc := 1) 1 dX11_in_1 rfl ?_
  refine g_icmp_lt (Y := YX11_in) (pc := 2) (tgt := 14) dX11_in_2 rfl (fun c1 => ?_) (fun c1 => ?_)
  · replace hF := if_t c1 hF
    refine g_loc [] rfl ?_
    exact w_X11_in_14  _ hF
  · replace hF := if_f c1 hF
    refine g_iload_n (Y := YX11_in) (pc := 5) 0 dX11_in_5 rfl ?_
    refine g_iload_n (Y := YX11_in) (pc := 6) 2 dX11_in_6 rfl ?_
    refine g_icmp_gt (Y := YX11_in) (pc := 7) (tgt := 14) dX11_in_7 rfl (fun c3 => ?_) (fun c3 => ?_)
    · replace hF := if_t c3 hF
      refine g_loc [] rfl ?_
      exact w_X11_in_14  _ hF
    · replace hF := if_f c3 hF
      refine g_iconst (Y := YX11_in) (pc := 10) dX11_in_10 kI_1 ?_
      refine g_goto (Y := YX11_in) (pc := 11) (tgt := 15) dX11_in_11 rfl ?_
      refine g_loc [] rfl ?_
      exact w_X11_in_15  _ _ hF
def f_X11_in (x0 : Int32) (x1 : Int32) (x2 : Int32) (M : Mem) : Option (Int32 × Mem) := f_X11_in_0 x0 x1 x2 M
theorem r_X11_in {x0 x1 x2 R : Int32} {M M' : Mem}  (hF : f_X11_in x0 x1 x2 M = some (R, M')) : RunS l D cy ad YX11_in 0 [.int x0, .int x1, .int x2] X M (some (.int R)) M' := Run.of 3 (msX11_in).1 (Nat.le_of_ble_eq_true rfl) (w_X11_in_0  _ _ _ _ hF)
def f_X11_has_14  (t0 : Int32) (M : Mem) : Option (Int32 × Mem) :=
  gd (t0 = 0 ∨ t0 = 1) <|
  some (t0, M)
set_option maxRecDepth 100000 in
theorem w_X11_has_14 {R : Int32} {M' : Mem}  (t0 : Int32) (M : Mem) (hF : f_X11_has_14 t0 M = some (R, M')) : RunF l D cy ad none YX11_has 0 0 0 (some (.int R)) (lay X M') 0 0 14 [] [.int t0] (lay X M) := by
  unfold f_X11_has_14 at hF
  obtain ⟨g2, hF⟩ := gd_some hF
  exact s_zret (Y := YX11_has) (pc := 14) dX11_has_14 rfl g2 hF
def f_X11_has_0  (x0 : Int32) (x1 : Int32) (M : Mem) : Option (Int32 × Mem) :=
  if ((x0 >>> (x1 &&& 31)) &&& 1) = 1 then
    f_X11_has_14 1 M
  else
    f_X11_has_14 0 M
set_option maxRecDepth 100000 in
theorem w_X11_has_0 {R : Int32} {M' : Mem}  (x0 x1 : Int32) (M : Mem) (hF : f_X11_has_0 x0 x1 M = some (R, M')) : RunF l D cy ad none YX11_has 0 0 0 (some (.int R)) (lay X M') 0 0 0 [(0, .int x0), (1, .int x1)] [] (lay X M) := by
  unfold f_X11_has_0 at hF
  refine g_iload_n (Y := YX11_has) (pc := 0) 0 dX11_has_0 rfl ?_
  refine g_iload_n (Y := YX11_has) (pc := 1) 1 dX11_has_1 rfl ?_
  refine g_ishr (Y := YX11_has) (pc := 2) dX11_has_2 ?_
  refine g_iconst (Y := YX11_has) (pc := 3) dX11_has_3 kI_1 ?_
  refine g_iand (Y := YX11_has) (pc := 4) dX11_has_4 ?_
  refine g_iconst (Y := YX11_has) (pc := 5) dX11_has_5 kI_1 ?_
  refine g_icmp_ne (Y := YX11_has) (pc := 6) (tgt := 13) dX11_has_6 rfl (fun c1 => ?_) (fun c1 => ?_)
  · replace hF := if_f c1 hF
    refine g_iconst (Y := YX11_has) (pc := 13) dX11_has_13 kI_0 ?_
    refine g_loc [] rfl ?_
    exact w_X11_has_14  _ _ hF
  · replace hF := if_t c1 hF
    refine g_iconst (Y := YX11_has) (pc := 9) dX11_has_9 kI_1 ?_
    refine g_goto (Y := YX11_has) (pc := 10) (tgt := 14) dX11_has_10 rfl ?_
    refine g_loc [] rfl ?_
    exact w_X11_has_14  _ _ hF
def f_X11_has (x0 : Int32) (x1 : Int32) (M : Mem) : Option (Int32 × Mem) := f_X11_has_0 x0 x1 M
theorem r_X11_has {x0 x1 R : Int32} {M M' : Mem}  (hF : f_X11_has x0 x1 M = some (R, M')) : RunS l D cy ad YX11_has 0 [.int x0, .int x1] X M (some (.int R)) M' := Run.of 2 (msX11_has).1 (Nat.le_of_ble_eq_true rfl) (w_X11_has_0  _ _ _ hF)
def f_X11_lost_0  (M : Mem) : Option (Int32 × Mem) :=
  ml (up M 174 14 1) fun M1 =>
  some (0, M1)
set_option maxRecDepth 100000 in
theorem w_X11_lost_0 {R : Int32} {M' : Mem}  (M : Mem) (hF : f_X11_lost_0  M = some (R, M')) : RunF l D cy ad none YX11_lost 0 0 0 (some (.int R)) (lay X M') 0 0 0 [(0, .ref 174)] [] (lay X M) := by
  unfold f_X11_lost_0 at hF
  refine g_aload_n (Y := YX11_lost) (pc := 0) 0 dX11_lost_0 rfl ?_
  refine g_iconst (Y := YX11_lost) (pc := 1) dX11_lost_1 kI_1 ?_
  refine u_putI (Y := YX11_lost) (pc := 2) dX11_lost_2 fl_X11_99  k_174 ?_
  refine g_nmM (fun M1 e => ?_)
  replace hF := ml_to e hF; clear e
  refine g_iconst (Y := YX11_lost) (pc := 5) dX11_lost_5 kI_0 ?_
  exact s_iret (Y := YX11_lost) (pc := 6) dX11_lost_6 rfl hF
def f_X11_lost (M : Mem) : Option (Int32 × Mem) := f_X11_lost_0 M
theorem r_X11_lost {R : Int32} {M M' : Mem}  (hF : f_X11_lost  M = some (R, M')) : RunS l D cy ad YX11_lost 0 [.ref 174] X M (some (.int R)) M' := Run.of 0 (miX11_lost).1 (Nat.le_of_ble_eq_true rfl) (w_X11_lost_0  _ hF)
def f_X11_tell_0  (x1 : Int32) (M : Mem) : Option (Int32 × Mem) :=
  gd (0 ≤ (M 174 13) ∧ (M 174 13).toNatClampNeg < 16) <|
  ml (up M 184 (M 174 13).toNatClampNeg x1) fun M2 =>
  ml (up M2 174 13 ((M2 174 13) + 1)) fun M3 =>
  some (0, M3)
set_option maxRecDepth 100000 in
theorem w_X11_tell_0 {R : Int32} {M' : Mem}  (x1 : Int32) (M : Mem) (hF : f_X11_tell_0 x1 M = some (R, M')) : RunF l D cy ad none YX11_tell 0 0 0 none (lay X M') 0 0 0 [(0, .ref 174), (1, .int x1)] [] (lay X M) := by
  unfold f_X11_tell_0 at hF
  refine g_aload_n (Y := YX11_tell) (pc := 0) 0 dX11_tell_0 rfl ?_
  refine u_getR (Y := YX11_tell) (pc := 1) (j := 184) dX11_tell_1 fl_X11_39 k_174 rf_174_12 ?_
  refine g_aload_n (Y := YX11_tell) (pc := 4) 0 dX11_tell_4 rfl ?_
  refine u_getI (Y := YX11_tell) (pc := 5) dX11_tell_5 fl_X11_103 k_174 ?_
  refine g_iload_n (Y := YX11_tell) (pc := 8) 1 dX11_tell_8 rfl ?_
  obtain ⟨g1, hF⟩ := gd_some hF
  refine s_iast (Y := YX11_tell) (pc := 9) dX11_tell_9 k_184 n_184 g1 ?_
  refine g_nmM (fun M2 e => ?_)
  replace hF := ml_to e hF; clear e
  refine g_aload_n (Y := YX11_tell) (pc := 10) 0 dX11_tell_10 rfl ?_
  refine g_dup (Y := YX11_tell) (pc := 11) dX11_tell_11 rfl ?_
  refine u_getI (Y := YX11_tell) (pc := 12) dX11_tell_12 fl_X11_103 k_174 ?_
  refine g_iconst (Y := YX11_tell) (pc := 15) dX11_tell_15 kI_1 ?_
  refine g_iadd (Y := YX11_tell) (pc := 16) dX11_tell_16 ?_
  refine u_putI (Y := YX11_tell) (pc := 17) dX11_tell_17 fl_X11_103  k_174 ?_
  refine g_nmM (fun M3 e => ?_)
  replace hF := ml_to e hF; clear e
  exact s_vret (Y := YX11_tell) (pc := 20) dX11_tell_20 rfl hF
def f_X11_tell (x1 : Int32) (M : Mem) : Option (Int32 × Mem) := f_X11_tell_0 x1 M
theorem r_X11_tell {x1 R : Int32} {M M' : Mem}  (hF : f_X11_tell x1 M = some (R, M')) : RunS l D cy ad YX11_tell 0 [.ref 174, .int x1] X M none M' := Run.of 1 (miX11_tell).1 (Nat.le_of_ble_eq_true rfl) (w_X11_tell_0  _ _ hF)
def f_X11_isRoom_0  (x1 : Int32) (M : Mem) : Option (Int32 × Mem) :=
  bd (f_X11_in x1 0 ((M 174 1) - 1) M) fun r1 M2 =>
  gd (r1 = 0 ∨ r1 = 1) <|
  some (r1, M2)
set_option maxRecDepth 100000 in
theorem w_X11_isRoom_0 {R : Int32} {M' : Mem}  (x1 : Int32) (M : Mem) (hF : f_X11_isRoom_0 x1 M = some (R, M')) : RunF l D cy ad none YX11_isRoom 1 0 0 (some (.int R)) (lay X M') 0 0 0 [(0, .ref 174), (1, .int x1)] [] (lay X M) := by
  unfold f_X11_isRoom_0 at hF
  refine g_iload_n (Y := YX11_isRoom) (pc := 0) 1 dX11_isRoom_0 rfl ?_
  refine g_iconst (Y := YX11_isRoom) (pc := 1) dX11_isRoom_1 kI_0 ?_
  refine g_aload_n (Y := YX11_isRoom) (pc := 2) 0 dX11_isRoom_2 rfl ?_
  refine u_getI (Y := YX11_isRoom) (pc := 3) dX11_isRoom_3 fl_X11_106 k_174 ?_
  refine g_iconst (Y := YX11_isRoom) (pc := 6) dX11_isRoom_6 kI_1 ?_
  refine g_isub (Y := YX11_isRoom) (pc := 7) dX11_isRoom_7 ?_
  obtain ⟨r1, M2, e3, hF⟩ := bd_some hF
  refine s_callSi (Y := YX11_isRoom) (pc := 8) (as := [.int x1, .int 0, .int ((M 174 1) - 1)]) (st := []) (r_X11_in  e3) msX11_in lk_X11_109 dX11_isRoom_8 rfl (Nat.le_of_ble_eq_true rfl) (Nat.le_of_ble_eq_true rfl) rfl ?_
  clear e3
  obtain ⟨g4, hF⟩ := gd_some hF
  exact s_zret (Y := YX11_isRoom) (pc := 11) dX11_isRoom_11 rfl g4 hF
def f_X11_isRoom (x1 : Int32) (M : Mem) : Option (Int32 × Mem) := f_X11_isRoom_0 x1 M
theorem r_X11_isRoom {x1 R : Int32} {M M' : Mem}  (hF : f_X11_isRoom x1 M = some (R, M')) : RunS l D cy ad YX11_isRoom 1 [.ref 174, .int x1] X M (some (.int R)) M' := Run.of 1 (miX11_isRoom).1 (Nat.le_of_ble_eq_true rfl) (w_X11_isRoom_0  _ _ hF)
def f_X11_isGroup_0  (x1 : Int32) (M : Mem) : Option (Int32 × Mem) :=
  bd (f_X11_in x1 0 ((M 174 3) - 1) M) fun r1 M2 =>
  gd (r1 = 0 ∨ r1 = 1) <|
  some (r1, M2)
set_option maxRecDepth 100000 in
theorem w_X11_isGroup_0 {R : Int32} {M' : Mem}  (x1 : Int32) (M : Mem) (hF : f_X11_isGroup_0 x1 M = some (R, M')) : RunF l D cy ad none YX11_isGroup 1 0 0 (some (.int R)) (lay X M') 0 0 0 [(0, .ref 174), (1, .int x1)] [] (lay X M) := by
  unfold f_X11_isGroup_0 at hF
  refine g_iload_n (Y := YX11_isGroup) (pc := 0) 1 dX11_isGroup_0 rfl ?_
  refine g_iconst (Y := YX11_isGroup) (pc := 1) dX11_isGroup_1 kI_0 ?_
  refine g_aload_n (Y := YX11_isGroup) (pc := 2) 0 dX11_isGroup_2 rfl ?_
  refine u_getI (Y := YX11_isGroup) (pc := 3) dX11_isGroup_3 fl_X11_113 k_174 ?_
  refine g_iconst (Y := YX11_isGroup) (pc := 6) dX11_isGroup_6 kI_1 ?_
  refine g_isub (Y := YX11_isGroup) (pc := 7) dX11_isGroup_7 ?_
  obtain ⟨r1, M2, e3, hF⟩ := bd_some hF
  refine s_callSi (Y := YX11_isGroup) (pc := 8) (as := [.int x1, .int 0, .int ((M 174 3) - 1)]) (st := []) (r_X11_in  e3) msX11_in lk_X11_109 dX11_isGroup_8 rfl (Nat.le_of_ble_eq_true rfl) (Nat.le_of_ble_eq_true rfl) rfl ?_
  clear e3
  obtain ⟨g4, hF⟩ := gd_some hF
  exact s_zret (Y := YX11_isGroup) (pc := 11) dX11_isGroup_11 rfl g4 hF
def f_X11_isGroup (x1 : Int32) (M : Mem) : Option (Int32 × Mem) := f_X11_isGroup_0 x1 M
theorem r_X11_isGroup {x1 R : Int32} {M M' : Mem}  (hF : f_X11_isGroup x1 M = some (R, M')) : RunS l D cy ad YX11_isGroup 1 [.ref 174, .int x1] X M (some (.int R)) M' := Run.of 1 (miX11_isGroup).1 (Nat.le_of_ble_eq_true rfl) (w_X11_isGroup_0  _ _ hF)
def f_X11_everybody_0  (M : Mem) : Option (Int32 × Mem) :=
  some (((1 <<< ((M 174 3) &&& 31)) - 1), M)
set_option maxRecDepth 100000 in
theorem w_X11_everybody_0 {R : Int32} {M' : Mem}  (M : Mem) (hF : f_X11_everybody_0  M = some (R, M')) : RunF l D cy ad none YX11_everybody 0 0 0 (some (.int R)) (lay X M') 0 0 0 [(0, .ref 174)] [] (lay X M) := by
  unfold f_X11_everybody_0 at hF
  refine g_iconst (Y := YX11_everybody) (pc := 0) dX11_everybody_0 kI_1 ?_
  refine g_aload_n (Y := YX11_everybody) (pc := 1) 0 dX11_everybody_1 rfl ?_
  refine u_getI (Y := YX11_everybody) (pc := 2) dX11_everybody_2 fl_X11_113 k_174 ?_
  refine g_ishl (Y := YX11_everybody) (pc := 5) dX11_everybody_5 ?_
  refine g_iconst (Y := YX11_everybody) (pc := 6) dX11_everybody_6 kI_1 ?_
  refine g_isub (Y := YX11_everybody) (pc := 7) dX11_everybody_7 ?_
  exact s_iret (Y := YX11_everybody) (pc := 8) dX11_everybody_8 rfl hF
def f_X11_everybody (M : Mem) : Option (Int32 × Mem) := f_X11_everybody_0 M
theorem r_X11_everybody {R : Int32} {M M' : Mem}  (hF : f_X11_everybody  M = some (R, M')) : RunS l D cy ad YX11_everybody 0 [.ref 174] X M (some (.int R)) M' := Run.of 0 (miX11_everybody).1 (Nat.le_of_ble_eq_true rfl) (w_X11_everybody_0  _ hF)
def f_X11_sign_20  : Nat → Int32 → Int32 → Mem → Option (Int32 × Mem)
  | 0, _, _, _ => none
  | n + 1, x1, x2, M =>
    if x2 < 0 then
      some ((M 174 11), M)
    else
      ml (up M 174 11 ((M 174 11) + 1)) fun M4 =>
      gd (0 ≤ (M 174 11) ∧ (M 174 11).toNatClampNeg < 80) <|
      ml (up M4 183 (M 174 11).toNatClampNeg (vp_nar .byte ((x1 >>> ((8 * x2) &&& 31)).toInt8.toInt32))) fun M6 =>
      vl (x2 + (-1)) fun v7 =>
      f_X11_sign_20 n x1 v7 M6
set_option maxRecDepth 100000 in
theorem w_X11_sign_20 {R : Int32} {M' : Mem}  : ∀ (n : Nat) (x1 x2 : Int32) (M : Mem), f_X11_sign_20 n x1 x2 M = some (R, M') → RunF l D cy ad none YX11_sign 0 0 0 (some (.int R)) (lay X M') 0 0 20 [(0, .ref 174), (1, .int x1), (2, .int x2)] [] (lay X M) := by
  intro n
  induction n with
  | zero => intro x1 x2 M hF; exact absurd hF (by unfold f_X11_sign_20; exact fun h => nomatch h)
  | succ n ih =>
    intro x1 x2 M hF
    unfold f_X11_sign_20 at hF
    refine g_iload_n (Y := YX11_sign) (pc := 20) 2 dX11_sign_20 rfl ?_
    refine g_if_lt (Y := YX11_sign) (pc := 21) (tgt := 53) dX11_sign_21 rfl (fun c3 => ?_) (fun c3 => ?_)
    · replace hF := if_t c3 hF
      refine g_aload_n (Y := YX11_sign) (pc := 53) 0 dX11_sign_53 rfl ?_
      refine u_getI (Y := YX11_sign) (pc := 54) dX11_sign_54 fl_X11_116 k_174 ?_
      exact s_iret (Y := YX11_sign) (pc := 57) dX11_sign_57 rfl hF
    · replace hF := if_f c3 hF
      refine g_aload_n (Y := YX11_sign) (pc := 24) 0 dX11_sign_24 rfl ?_
      refine u_getR (Y := YX11_sign) (pc := 25) (j := 183) dX11_sign_25 fl_X11_35 k_174 rf_174_10 ?_
      refine g_aload_n (Y := YX11_sign) (pc := 28) 0 dX11_sign_28 rfl ?_
      refine g_dup (Y := YX11_sign) (pc := 29) dX11_sign_29 rfl ?_
      refine u_getI (Y := YX11_sign) (pc := 30) dX11_sign_30 fl_X11_116 k_174 ?_
      refine g_dup_x1 (Y := YX11_sign) (pc := 33) dX11_sign_33 rfl rfl ?_
      refine g_iconst (Y := YX11_sign) (pc := 34) dX11_sign_34 kI_1 ?_
      refine g_iadd (Y := YX11_sign) (pc := 35) dX11_sign_35 ?_
      refine u_putI (Y := YX11_sign) (pc := 36) dX11_sign_36 fl_X11_116  k_174 ?_
      refine g_nmM (fun M4 e => ?_)
      replace hF := ml_to e hF; clear e
      refine g_iload_n (Y := YX11_sign) (pc := 39) 1 dX11_sign_39 rfl ?_
      refine g_bipush (Y := YX11_sign) (pc := 40) dX11_sign_40 kB_8 ?_
      refine g_iload_n (Y := YX11_sign) (pc := 42) 2 dX11_sign_42 rfl ?_
      refine g_imul (Y := YX11_sign) (pc := 43) dX11_sign_43 ?_
      refine g_ishr (Y := YX11_sign) (pc := 44) dX11_sign_44 ?_
      refine g_i2b (Y := YX11_sign) (pc := 45) dX11_sign_45 ?_
      obtain ⟨g5, hF⟩ := gd_some hF
      refine s_bast (Y := YX11_sign) (pc := 46) dX11_sign_46 k_183 n_183 g5 ?_
      refine g_nmM (fun M6 e => ?_)
      replace hF := ml_to e hF; clear e
      refine s_iinc (Y := YX11_sign) (pc := 47) (j := 2) (L' := fun y => [(2, .int y), (0, .ref 174), (1, .int x1)]) dX11_sign_47 kI_m1 rfl (Nat.le_of_ble_eq_true rfl) (fun _ => rfl) (fun v7 e => ?_)
      replace hF := vl_to e hF; clear e
      refine g_goto (Y := YX11_sign) (pc := 50) (tgt := 20) dX11_sign_50 rfl ?_
      refine g_loc [1, 2, 0] rfl ?_
      exact ih _ _ _ hF
def f_X11_sign_0  (x1 : Int32) (M : Mem) : Option (Int32 × Mem) :=
  ml (up M 174 14 0) fun M1 =>
  if 80 < ((M1 174 11) + 4) then
    some ((-1), M1)
  else
    f_X11_sign_20 FU x1 3 M1
set_option maxRecDepth 100000 in
theorem w_X11_sign_0 {R : Int32} {M' : Mem}  (x1 : Int32) (M : Mem) (hF : f_X11_sign_0 x1 M = some (R, M')) : RunF l D cy ad none YX11_sign 0 0 0 (some (.int R)) (lay X M') 0 0 0 [(0, .ref 174), (1, .int x1)] [] (lay X M) := by
  unfold f_X11_sign_0 at hF
  refine g_aload_n (Y := YX11_sign) (pc := 0) 0 dX11_sign_0 rfl ?_
  refine g_iconst (Y := YX11_sign) (pc := 1) dX11_sign_1 kI_0 ?_
  refine u_putI (Y := YX11_sign) (pc := 2) dX11_sign_2 fl_X11_99  k_174 ?_
  refine g_nmM (fun M1 e => ?_)
  replace hF := ml_to e hF; clear e
  refine g_aload_n (Y := YX11_sign) (pc := 5) 0 dX11_sign_5 rfl ?_
  refine u_getI (Y := YX11_sign) (pc := 6) dX11_sign_6 fl_X11_116 k_174 ?_
  refine g_iconst (Y := YX11_sign) (pc := 9) dX11_sign_9 kI_4 ?_
  refine g_iadd (Y := YX11_sign) (pc := 10) dX11_sign_10 ?_
  refine g_bipush (Y := YX11_sign) (pc := 11) dX11_sign_11 kB_80 ?_
  refine g_icmp_le (Y := YX11_sign) (pc := 13) (tgt := 18) dX11_sign_13 rfl (fun c2 => ?_) (fun c2 => ?_)
  · replace hF := if_f c2 hF
    refine g_iconst (Y := YX11_sign) (pc := 18) dX11_sign_18 kI_3 ?_
    refine g_istore_n (Y := YX11_sign) (pc := 19) (L' := [(2, .int 3), (0, .ref 174), (1, .int x1)]) dX11_sign_19 (Nat.le_of_ble_eq_true rfl) rfl ?_
    refine g_loc [1, 2, 0] rfl ?_
    exact w_X11_sign_20  _ _ _ _ hF
  · replace hF := if_t c2 hF
    refine g_iconst (Y := YX11_sign) (pc := 16) dX11_sign_16 kI_m1 ?_
    exact s_iret (Y := YX11_sign) (pc := 17) dX11_sign_17 rfl hF
def f_X11_sign (x1 : Int32) (M : Mem) : Option (Int32 × Mem) := f_X11_sign_0 x1 M
theorem r_X11_sign {x1 R : Int32} {M M' : Mem}  (hF : f_X11_sign x1 M = some (R, M')) : RunS l D cy ad YX11_sign 0 [.ref 174, .int x1] X M (some (.int R)) M' := Run.of 1 (miX11_sign).1 (Nat.le_of_ble_eq_true rfl) (w_X11_sign_0  _ _ hF)
def f_X11_end_0  (x1 : Int32) (M : Mem) : Option (Int32 × Mem) :=
  ml (up M 174 14 0) fun M1 =>
  bd (f_X11_in x1 0 (M1 174 11) M1) fun r2 M3 =>
  if r2 = 0 then
    some (0, M3)
  else
    ml (up M3 174 11 x1) fun M6 =>
    some (1, M6)
set_option maxRecDepth 100000 in
theorem w_X11_end_0 {R : Int32} {M' : Mem}  (x1 : Int32) (M : Mem) (hF : f_X11_end_0 x1 M = some (R, M')) : RunF l D cy ad none YX11_end 1 0 0 (some (.int R)) (lay X M') 0 0 0 [(0, .ref 174), (1, .int x1)] [] (lay X M) := by
  unfold f_X11_end_0 at hF
  refine g_aload_n (Y := YX11_end) (pc := 0) 0 dX11_end_0 rfl ?_
  refine g_iconst (Y := YX11_end) (pc := 1) dX11_end_1 kI_0 ?_
  refine u_putI (Y := YX11_end) (pc := 2) dX11_end_2 fl_X11_99  k_174 ?_
  refine g_nmM (fun M1 e => ?_)
  replace hF := ml_to e hF; clear e
  refine g_iload_n (Y := YX11_end) (pc := 5) 1 dX11_end_5 rfl ?_
  refine g_iconst (Y := YX11_end) (pc := 6) dX11_end_6 kI_0 ?_
  refine g_aload_n (Y := YX11_end) (pc := 7) 0 dX11_end_7 rfl ?_
  refine u_getI (Y := YX11_end) (pc := 8) dX11_end_8 fl_X11_116 k_174 ?_
  obtain ⟨r2, M3, e4, hF⟩ := bd_some hF
  refine s_callSi (Y := YX11_end) (pc := 11) (as := [.int x1, .int 0, .int (M1 174 11)]) (st := []) (r_X11_in  e4) msX11_in lk_X11_109 dX11_end_11 rfl (Nat.le_of_ble_eq_true rfl) (Nat.le_of_ble_eq_true rfl) rfl ?_
  clear e4
  refine g_if_ne (Y := YX11_end) (pc := 14) (tgt := 19) dX11_end_14 rfl (fun c5 => ?_) (fun c5 => ?_)
  · replace hF := if_f c5 hF
    refine g_aload_n (Y := YX11_end) (pc := 19) 0 dX11_end_19 rfl ?_
    refine g_iload_n (Y := YX11_end) (pc := 20) 1 dX11_end_20 rfl ?_
    refine u_putI (Y := YX11_end) (pc := 21) dX11_end_21 fl_X11_116  k_174 ?_
    refine g_nmM (fun M6 e => ?_)
    replace hF := ml_to e hF; clear e
    refine g_iconst (Y := YX11_end) (pc := 24) dX11_end_24 kI_1 ?_
    exact s_zret (Y := YX11_end) (pc := 25) dX11_end_25 rfl (Or.inr rfl) hF
  · replace hF := if_t c5 hF
    refine g_iconst (Y := YX11_end) (pc := 17) dX11_end_17 kI_0 ?_
    exact s_zret (Y := YX11_end) (pc := 18) dX11_end_18 rfl (Or.inl rfl) hF
def f_X11_end (x1 : Int32) (M : Mem) : Option (Int32 × Mem) := f_X11_end_0 x1 M
theorem r_X11_end {x1 R : Int32} {M M' : Mem}  (hF : f_X11_end x1 M = some (R, M')) : RunS l D cy ad YX11_end 1 [.ref 174, .int x1] X M (some (.int R)) M' := Run.of 1 (miX11_end).1 (Nat.le_of_ble_eq_true rfl) (w_X11_end_0  _ _ hF)
def f_X11_begin_0 (a1 : Nat) (x2 : Int32) (x3 : Int32) (M : Mem) : Option (Int32 × Mem) :=
  ml (up M 174 15 (bc a1)) fun M1 =>
  ml (up M1 174 16 x2) fun M2 =>
  ml (up M2 174 17 x3) fun M3 =>
  ml (up M3 174 18 0) fun M4 =>
  ml (up M4 174 19 (-1)) fun M5 =>
  some (0, M5)
set_option maxRecDepth 100000 in
theorem w_X11_begin_0 {R : Int32} {M' : Mem} {a1 : Nat} (ha1 : isBy a1) (x2 x3 : Int32) (M : Mem) (hF : f_X11_begin_0 a1 x2 x3 M = some (R, M')) : RunF l D cy ad none YX11_begin 0 0 0 none (lay X M') 0 0 0 [(0, .ref 174), (1, .ref a1), (2, .int x2), (3, .int x3)] [] (lay X M) := by
  unfold f_X11_begin_0 at hF
  refine g_aload_n (Y := YX11_begin) (pc := 0) 0 dX11_begin_0 rfl ?_
  refine g_aload_n (Y := YX11_begin) (pc := 1) 1 dX11_begin_1 rfl ?_
  refine s_putRead (Y := YX11_begin) (pc := 2) (bc a1) (bc_0 a1) (bc_v ha1) dX11_begin_2 fl_X11_119.1 ?_
  refine g_nmM (fun M1 e => ?_)
  replace hF := ml_to e hF; clear e
  refine g_aload_n (Y := YX11_begin) (pc := 5) 0 dX11_begin_5 rfl ?_
  refine g_iload_n (Y := YX11_begin) (pc := 6) 2 dX11_begin_6 rfl ?_
  refine u_putI (Y := YX11_begin) (pc := 7) dX11_begin_7 fl_X11_122  k_174 ?_
  refine g_nmM (fun M2 e => ?_)
  replace hF := ml_to e hF; clear e
  refine g_aload_n (Y := YX11_begin) (pc := 10) 0 dX11_begin_10 rfl ?_
  refine g_iload_n (Y := YX11_begin) (pc := 11) 3 dX11_begin_11 rfl ?_
  refine u_putI (Y := YX11_begin) (pc := 12) dX11_begin_12 fl_X11_125  k_174 ?_
  refine g_nmM (fun M3 e => ?_)
  replace hF := ml_to e hF; clear e
  refine g_aload_n (Y := YX11_begin) (pc := 15) 0 dX11_begin_15 rfl ?_
  refine g_iconst (Y := YX11_begin) (pc := 16) dX11_begin_16 kI_0 ?_
  refine u_putI (Y := YX11_begin) (pc := 17) dX11_begin_17 fl_X11_128  k_174 ?_
  refine g_nmM (fun M4 e => ?_)
  replace hF := ml_to e hF; clear e
  refine g_aload_n (Y := YX11_begin) (pc := 20) 0 dX11_begin_20 rfl ?_
  refine g_iconst (Y := YX11_begin) (pc := 21) dX11_begin_21 kI_m1 ?_
  refine u_putI (Y := YX11_begin) (pc := 22) dX11_begin_22 fl_X11_131  k_174 ?_
  refine g_nmM (fun M5 e => ?_)
  replace hF := ml_to e hF; clear e
  exact s_vret (Y := YX11_begin) (pc := 25) dX11_begin_25 rfl hF
def f_X11_begin (a1 : Nat) (x2 : Int32) (x3 : Int32) (M : Mem) : Option (Int32 × Mem) := f_X11_begin_0 a1 x2 x3 M
theorem r_X11_begin {a1 : Nat} {x2 x3 R : Int32} {M M' : Mem} (ha1 : isBy a1) (hF : f_X11_begin a1 x2 x3 M = some (R, M')) : RunS l D cy ad YX11_begin 0 [.ref 174, .ref a1, .int x2, .int x3] X M none M' := Run.of 3 (miX11_begin).1 (Nat.le_of_ble_eq_true rfl) (w_X11_begin_0 ha1 _ _ _ hF)
def f_X11_here_39  (t0 : Int32) (M : Mem) : Option (Int32 × Mem) :=
  some (t0, M)
set_option maxRecDepth 100000 in
theorem w_X11_here_39 {R : Int32} {M' : Mem}  (t0 : Int32) (M : Mem) (hF : f_X11_here_39 t0 M = some (R, M')) : RunF l D cy ad none YX11_here 0 0 0 (some (.int R)) (lay X M') 0 0 39 [] [.int t0] (lay X M) := by
  unfold f_X11_here_39 at hF
  exact s_iret (Y := YX11_here) (pc := 39) dX11_here_39 rfl hF
def f_X11_here_38  (M : Mem) : Option (Int32 × Mem) :=
  f_X11_here_39 (-1) M
set_option maxRecDepth 100000 in
theorem w_X11_here_38 {R : Int32} {M' : Mem}  (M : Mem) (hF : f_X11_here_38  M = some (R, M')) : RunF l D cy ad none YX11_here 0 0 0 (some (.int R)) (lay X M') 0 0 38 [] [] (lay X M) := by
  unfold f_X11_here_38 at hF
  refine g_iconst (Y := YX11_here) (pc := 38) dX11_here_38 kI_m1 ?_
  exact w_X11_here_39  _ _ hF
def f_X11_here_0  (M : Mem) : Option (Int32 × Mem) :=
  if (M 174 18) < (M 174 16) then
    if (M 174 18) < (M 174 17) then
      gd (¬ M 174 15 = 0) <|
      gd (0 ≤ (M 174 18) ∧ (M 174 18).toNatClampNeg < LN (dR (M 174 15))) <|
      vl (((M (dR (M 174 15)) (M 174 18).toNatClampNeg) &&& 255)) fun v5 =>
      f_X11_here_39 v5 M
    else
      f_X11_here_38 M
  else
    f_X11_here_38 M
set_option maxRecDepth 100000 in
theorem w_X11_here_0 {R : Int32} {M' : Mem}  (M : Mem) (hF : f_X11_here_0  M = some (R, M')) : RunF l D cy ad none YX11_here 0 0 0 (some (.int R)) (lay X M') 0 0 0 [(0, .ref 174)] [] (lay X M) := by
  unfold f_X11_here_0 at hF
  refine g_aload_n (Y := YX11_here) (pc := 0) 0 dX11_here_0 rfl ?_
  refine u_getI (Y := YX11_here) (pc := 1) dX11_here_1 fl_X11_128 k_174 ?_
  refine g_aload_n (Y := YX11_here) (pc := 4) 0 dX11_here_4 rfl ?_
  refine u_getI (Y := YX11_here) (pc := 5) dX11_here_5 fl_X11_122 k_174 ?_
  refine g_icmp_ge (Y := YX11_here) (pc := 8) (tgt := 38) dX11_here_8 rfl (fun c1 => ?_) (fun c1 => ?_)
  · replace hF := if_f c1 hF
    refine g_loc [] rfl ?_
    exact w_X11_here_38  _ hF
  · replace hF := if_t c1 hF
    refine g_aload_n (Y := YX11_here) (pc := 11) 0 dX11_here_11 rfl ?_
    refine u_getI (Y := YX11_here) (pc := 12) dX11_here_12 fl_X11_128 k_174 ?_
    refine g_aload_n (Y := YX11_here) (pc := 15) 0 dX11_here_15 rfl ?_
    refine u_getI (Y := YX11_here) (pc := 16) dX11_here_16 fl_X11_125 k_174 ?_
    refine g_icmp_ge (Y := YX11_here) (pc := 19) (tgt := 38) dX11_here_19 rfl (fun c2 => ?_) (fun c2 => ?_)
    · replace hF := if_f c2 hF
      refine g_loc [] rfl ?_
      exact w_X11_here_38  _ hF
    · replace hF := if_t c2 hF
      refine g_aload_n (Y := YX11_here) (pc := 22) 0 dX11_here_22 rfl ?_
      obtain ⟨g3, hF⟩ := gd_some hF
      refine u_getR (Y := YX11_here) (pc := 23) (j := (dR (M 174 15))) dX11_here_23 fl_X11_119 k_174 (rd_r g3) ?_
      refine g_aload_n (Y := YX11_here) (pc := 26) 0 dX11_here_26 rfl ?_
      refine u_getI (Y := YX11_here) (pc := 27) dX11_here_27 fl_X11_128 k_174 ?_
      obtain ⟨g4, hF⟩ := gd_some hF
      refine s_bald (Y := YX11_here) (pc := 30) dX11_here_30 (dR_k _) rfl g4 ?_
      refine g_sipush (Y := YX11_here) (pc := 31) dX11_here_31 kS_255 ?_
      refine g_iand (Y := YX11_here) (pc := 34) dX11_here_34 ?_
      refine g_nm (fun v5 e => ?_)
      replace hF := vl_to e hF; clear e
      refine g_goto (Y := YX11_here) (pc := 35) (tgt := 39) dX11_here_35 rfl ?_
      refine g_loc [] rfl ?_
      exact w_X11_here_39  _ _ hF
def f_X11_here (M : Mem) : Option (Int32 × Mem) := f_X11_here_0 M
theorem r_X11_here {R : Int32} {M M' : Mem}  (hF : f_X11_here  M = some (R, M')) : RunS l D cy ad YX11_here 0 [.ref 174] X M (some (.int R)) M' := Run.of 0 (miX11_here).1 (Nat.le_of_ble_eq_true rfl) (w_X11_here_0  _ hF)
def f_X11_fine_13  (t0 : Int32) (M : Mem) : Option (Int32 × Mem) :=
  gd (t0 = 0 ∨ t0 = 1) <|
  some (t0, M)
set_option maxRecDepth 100000 in
theorem w_X11_fine_13 {R : Int32} {M' : Mem}  (t0 : Int32) (M : Mem) (hF : f_X11_fine_13 t0 M = some (R, M')) : RunF l D cy ad none YX11_fine 0 0 0 (some (.int R)) (lay X M') 0 0 13 [] [.int t0] (lay X M) := by
  unfold f_X11_fine_13 at hF
  obtain ⟨g2, hF⟩ := gd_some hF
  exact s_zret (Y := YX11_fine) (pc := 13) dX11_fine_13 rfl g2 hF
def f_X11_fine_0  (M : Mem) : Option (Int32 × Mem) :=
  if (M 174 19) = (-1) then
    f_X11_fine_13 1 M
  else
    f_X11_fine_13 0 M
set_option maxRecDepth 100000 in
theorem w_X11_fine_0 {R : Int32} {M' : Mem}  (M : Mem) (hF : f_X11_fine_0  M = some (R, M')) : RunF l D cy ad none YX11_fine 0 0 0 (some (.int R)) (lay X M') 0 0 0 [(0, .ref 174)] [] (lay X M) := by
  unfold f_X11_fine_0 at hF
  refine g_aload_n (Y := YX11_fine) (pc := 0) 0 dX11_fine_0 rfl ?_
  refine u_getI (Y := YX11_fine) (pc := 1) dX11_fine_1 fl_X11_131 k_174 ?_
  refine g_iconst (Y := YX11_fine) (pc := 4) dX11_fine_4 kI_m1 ?_
  refine g_icmp_ne (Y := YX11_fine) (pc := 5) (tgt := 12) dX11_fine_5 rfl (fun c1 => ?_) (fun c1 => ?_)
  · replace hF := if_f c1 hF
    refine g_iconst (Y := YX11_fine) (pc := 12) dX11_fine_12 kI_0 ?_
    refine g_loc [] rfl ?_
    exact w_X11_fine_13  _ _ hF
  · replace hF := if_t c1 hF
    refine g_iconst (Y := YX11_fine) (pc := 8) dX11_fine_8 kI_1 ?_
    refine g_goto (Y := YX11_fine) (pc := 9) (tgt := 13) dX11_fine_9 rfl ?_
    refine g_loc [] rfl ?_
    exact w_X11_fine_13  _ _ hF
def f_X11_fine (M : Mem) : Option (Int32 × Mem) := f_X11_fine_0 M
theorem r_X11_fine {R : Int32} {M M' : Mem}  (hF : f_X11_fine  M = some (R, M')) : RunS l D cy ad YX11_fine 0 [.ref 174] X M (some (.int R)) M' := Run.of 0 (miX11_fine).1 (Nat.le_of_ble_eq_true rfl) (w_X11_fine_0  _ hF)
def f_X11_fault_12  (M : Mem) : Option (Int32 × Mem) :=
  some (0, M)
set_option maxRecDepth 100000 in
theorem w_X11_fault_12 {R : Int32} {M' : Mem}  (M : Mem) (hF : f_X11_fault_12  M = some (R, M')) : RunF l D cy ad none YX11_fault 1 0 0 none (lay X M') 0 0 12 [] [] (lay X M) := by
  unfold f_X11_fault_12 at hF
  exact s_vret (Y := YX11_fault) (pc := 12) dX11_fault_12 rfl hF
def f_X11_fault_0  (x1 : Int32) (M : Mem) : Option (Int32 × Mem) :=
  bd (f_X11_fine M) fun r1 M2 =>
  if r1 = 0 then
    f_X11_fault_12 M2
  else
    ml (up M2 174 19 x1) fun M5 =>
    f_X11_fault_12 M5
set_option maxRecDepth 100000 in
theorem w_X11_fault_0 {R : Int32} {M' : Mem}  (x1 : Int32) (M : Mem) (hF : f_X11_fault_0 x1 M = some (R, M')) : RunF l D cy ad none YX11_fault 1 0 0 none (lay X M') 0 0 0 [(0, .ref 174), (1, .int x1)] [] (lay X M) := by
  unfold f_X11_fault_0 at hF
  refine g_aload_n (Y := YX11_fault) (pc := 0) 0 dX11_fault_0 rfl ?_
  obtain ⟨r1, M2, e3, hF⟩ := bd_some hF
  refine s_callVi (Y := YX11_fault) (pc := 1) (as := []) (st := []) (r_X11_fine  e3) miX11_fine lk_X11_134 dX11_fault_1 k_174 rfl (Nat.le_of_ble_eq_true rfl) (Nat.le_of_ble_eq_true rfl) rfl ?_
  clear e3
  refine g_if_eq (Y := YX11_fault) (pc := 4) (tgt := 12) dX11_fault_4 rfl (fun c4 => ?_) (fun c4 => ?_)
  · replace hF := if_t c4 hF
    refine g_loc [] rfl ?_
    exact w_X11_fault_12  _ hF
  · replace hF := if_f c4 hF
    refine g_aload_n (Y := YX11_fault) (pc := 7) 0 dX11_fault_7 rfl ?_
    refine g_iload_n (Y := YX11_fault) (pc := 8) 1 dX11_fault_8 rfl ?_
    refine u_putI (Y := YX11_fault) (pc := 9) dX11_fault_9 fl_X11_131  k_174 ?_
    refine g_nmM (fun M5 e => ?_)
    replace hF := ml_to e hF; clear e
    refine g_loc [] rfl ?_
    exact w_X11_fault_12  _ hF
def f_X11_fault (x1 : Int32) (M : Mem) : Option (Int32 × Mem) := f_X11_fault_0 x1 M
theorem r_X11_fault {x1 R : Int32} {M M' : Mem}  (hF : f_X11_fault x1 M = some (R, M')) : RunS l D cy ad YX11_fault 1 [.ref 174, .int x1] X M none M' := Run.of 1 (miX11_fault).1 (Nat.le_of_ble_eq_true rfl) (w_X11_fault_0  _ _ hF)
def f_X11_passes_15  (M : Mem) : Option (Int32 × Mem) :=
  some (0, M)
set_option maxRecDepth 100000 in
theorem w_X11_passes_15 {R : Int32} {M' : Mem}  (M : Mem) (hF : f_X11_passes_15  M = some (R, M')) : RunF l D cy ad none YX11_passes 1 0 0 (some (.int R)) (lay X M') 0 0 15 [] [] (lay X M) := by
  unfold f_X11_passes_15 at hF
  refine g_iconst (Y := YX11_passes) (pc := 15) dX11_passes_15 kI_0 ?_
  exact s_zret (Y := YX11_passes) (pc := 16) dX11_passes_16 rfl (Or.inl rfl) hF
def f_X11_passes_0  (x1 : Int32) (M : Mem) : Option (Int32 × Mem) :=
  bd (f_X11_fine M) fun r1 M2 =>
  if r1 = 0 then
    f_X11_passes_15 M2
  else
    bd (f_X11_here M2) fun r5 M6 =>
    if r5 = x1 then
      ml (up M6 174 18 ((M6 174 18) + 1)) fun M9 =>
      some (1, M9)
    else
      f_X11_passes_15 M6
set_option maxRecDepth 100000 in
theorem w_X11_passes_0 {R : Int32} {M' : Mem}  (x1 : Int32) (M : Mem) (hF : f_X11_passes_0 x1 M = some (R, M')) : RunF l D cy ad none YX11_passes 1 0 0 (some (.int R)) (lay X M') 0 0 0 [(0, .ref 174), (1, .int x1)] [] (lay X M) := by
  unfold f_X11_passes_0 at hF
  refine g_aload_n (Y := YX11_passes) (pc := 0) 0 dX11_passes_0 rfl ?_
  obtain ⟨r1, M2, e3, hF⟩ := bd_some hF
  refine s_callVi (Y := YX11_passes) (pc := 1) (as := []) (st := []) (r_X11_fine  e3) miX11_fine lk_X11_134 dX11_passes_1 k_174 rfl (Nat.le_of_ble_eq_true rfl) (Nat.le_of_ble_eq_true rfl) rfl ?_
  clear e3
  refine g_if_eq (Y := YX11_passes) (pc := 4) (tgt := 15) dX11_passes_4 rfl (fun c4 => ?_) (fun c4 => ?_)
  · replace hF := if_t c4 hF
    refine g_loc [] rfl ?_
    exact w_X11_passes_15  _ hF
  · replace hF := if_f c4 hF
    refine g_aload_n (Y := YX11_passes) (pc := 7) 0 dX11_passes_7 rfl ?_
    obtain ⟨r5, M6, e7, hF⟩ := bd_some hF
    refine s_callVi (Y := YX11_passes) (pc := 8) (as := []) (st := []) (r_X11_here  e7) miX11_here lk_X11_138 dX11_passes_8 k_174 rfl (Nat.le_of_ble_eq_true rfl) (Nat.le_of_ble_eq_true rfl) rfl ?_
    clear e7
    refine g_iload_n (Y := YX11_passes) (pc := 11) 1 dX11_passes_11 rfl ?_
    refine g_icmp_eq (Y := YX11_passes) (pc := 12) (tgt := 17) dX11_passes_12 rfl (fun c8 => ?_) (fun c8 => ?_)
    · replace hF := if_t c8 hF
      refine g_aload_n (Y := YX11_passes) (pc := 17) 0 dX11_passes_17 rfl ?_
      refine g_dup (Y := YX11_passes) (pc := 18) dX11_passes_18 rfl ?_
      refine u_getI (Y := YX11_passes) (pc := 19) dX11_passes_19 fl_X11_128 k_174 ?_
      refine g_iconst (Y := YX11_passes) (pc := 22) dX11_passes_22 kI_1 ?_
      refine g_iadd (Y := YX11_passes) (pc := 23) dX11_passes_23 ?_
      refine u_putI (Y := YX11_passes) (pc := 24) dX11_passes_24 fl_X11_128  k_174 ?_
      refine g_nmM (fun M9 e => ?_)
      replace hF := ml_to e hF; clear e
      refine g_iconst (Y := YX11_passes) (pc := 27) dX11_passes_27 kI_1 ?_
      exact s_zret (Y := YX11_passes) (pc := 28) dX11_passes_28 rfl (Or.inr rfl) hF
    · replace hF := if_f c8 hF
      refine g_loc [] rfl ?_
      exact w_X11_passes_15  _ hF
def f_X11_passes (x1 : Int32) (M : Mem) : Option (Int32 × Mem) := f_X11_passes_0 x1 M
theorem r_X11_passes {x1 R : Int32} {M M' : Mem}  (hF : f_X11_passes x1 M = some (R, M')) : RunS l D cy ad YX11_passes 1 [.ref 174, .int x1] X M (some (.int R)) M' := Run.of 1 (miX11_passes).1 (Nat.le_of_ble_eq_true rfl) (w_X11_passes_0  _ _ hF)
def f_X11_digit_0  (x1 : Int32) (x2 : Int32) (M : Mem) : Option (Int32 × Mem) :=
  bd (f_X11_fine M) fun r1 M2 =>
  if r1 = 0 then
    some (0, M2)
  else
    bd (f_X11_here M2) fun r5 M6 =>
    bd (f_X11_in r5 (48 + x1) (48 + x2) M6) fun r8 M9 =>
    if r8 = 0 then
      bd (f_X11_fault (M9 174 18) M9) fun _ M17 =>
      some (0, M17)
    else
      ml (up M9 174 18 ((M9 174 18) + 1)) fun M12 =>
      gd (¬ M12 174 15 = 0) <|
      gd (0 ≤ ((M12 174 18) - 1) ∧ ((M12 174 18) - 1).toNatClampNeg < LN (dR (M12 174 15))) <|
      vl ((M12 (dR (M12 174 15)) ((M12 174 18) - 1).toNatClampNeg)) fun v15 =>
      some ((v15 - 48), M12)
set_option maxRecDepth 100000 in
theorem w_X11_digit_0 {R : Int32} {M' : Mem}  (x1 x2 : Int32) (M : Mem) (hF : f_X11_digit_0 x1 x2 M = some (R, M')) : RunF l D cy ad none YX11_digit 2 0 0 (some (.int R)) (lay X M') 0 0 0 [(0, .ref 174), (1, .int x1), (2, .int x2)] [] (lay X M) := by
  unfold f_X11_digit_0 at hF
  refine g_aload_n (Y := YX11_digit) (pc := 0) 0 dX11_digit_0 rfl ?_
  obtain ⟨r1, M2, e3, hF⟩ := bd_some hF
  refine s_callVi (Y := YX11_digit) (pc := 1) (as := []) (st := []) (r_X11_fine  e3) miX11_fine lk_X11_134 dX11_digit_1 k_174 rfl (Nat.le_of_ble_eq_true rfl) (Nat.le_of_ble_eq_true rfl) rfl ?_
  clear e3
  refine g_if_ne (Y := YX11_digit) (pc := 4) (tgt := 9) dX11_digit_4 rfl (fun c4 => ?_) (fun c4 => ?_)
  · replace hF := if_f c4 hF
    refine g_aload_n (Y := YX11_digit) (pc := 9) 0 dX11_digit_9 rfl ?_
    obtain ⟨r5, M6, e7, hF⟩ := bd_some hF
    refine s_callVi (Y := YX11_digit) (pc := 10) (as := []) (st := []) (r_X11_here  e7) miX11_here lk_X11_138 dX11_digit_10 k_174 rfl (Nat.le_of_ble_eq_true rfl) (Nat.le_of_ble_eq_true rfl) rfl ?_
    clear e7
    refine g_bipush (Y := YX11_digit) (pc := 13) dX11_digit_13 kB_48 ?_
    refine g_iload_n (Y := YX11_digit) (pc := 15) 1 dX11_digit_15 rfl ?_
    refine g_iadd (Y := YX11_digit) (pc := 16) dX11_digit_16 ?_
    refine g_bipush (Y := YX11_digit) (pc := 17) dX11_digit_17 kB_48 ?_
    refine g_iload_n (Y := YX11_digit) (pc := 19) 2 dX11_digit_19 rfl ?_
    refine g_iadd (Y := YX11_digit) (pc := 20) dX11_digit_20 ?_
    obtain ⟨r8, M9, e10, hF⟩ := bd_some hF
    refine s_callSi (Y := YX11_digit) (pc := 21) (as := [.int r5, .int (48 + x1), .int (48 + x2)]) (st := []) (r_X11_in  e10) msX11_in lk_X11_109 dX11_digit_21 rfl (Nat.le_of_ble_eq_true rfl) (Nat.le_of_ble_eq_true rfl) rfl ?_
    clear e10
    refine g_if_ne (Y := YX11_digit) (pc := 24) (tgt := 37) dX11_digit_24 rfl (fun c11 => ?_) (fun c11 => ?_)
    · replace hF := if_f c11 hF
      refine g_aload_n (Y := YX11_digit) (pc := 37) 0 dX11_digit_37 rfl ?_
      refine g_dup (Y := YX11_digit) (pc := 38) dX11_digit_38 rfl ?_
      refine u_getI (Y := YX11_digit) (pc := 39) dX11_digit_39 fl_X11_128 k_174 ?_
      refine g_iconst (Y := YX11_digit) (pc := 42) dX11_digit_42 kI_1 ?_
      refine g_iadd (Y := YX11_digit) (pc := 43) dX11_digit_43 ?_
      refine u_putI (Y := YX11_digit) (pc := 44) dX11_digit_44 fl_X11_128  k_174 ?_
      refine g_nmM (fun M12 e => ?_)
      replace hF := ml_to e hF; clear e
      refine g_aload_n (Y := YX11_digit) (pc := 47) 0 dX11_digit_47 rfl ?_
      obtain ⟨g13, hF⟩ := gd_some hF
      refine u_getR (Y := YX11_digit) (pc := 48) (j := (dR (M12 174 15))) dX11_digit_48 fl_X11_119 k_174 (rd_r g13) ?_
      refine g_aload_n (Y := YX11_digit) (pc := 51) 0 dX11_digit_51 rfl ?_
      refine u_getI (Y := YX11_digit) (pc := 52) dX11_digit_52 fl_X11_128 k_174 ?_
      refine g_iconst (Y := YX11_digit) (pc := 55) dX11_digit_55 kI_1 ?_
      refine g_isub (Y := YX11_digit) (pc := 56) dX11_digit_56 ?_
      obtain ⟨g14, hF⟩ := gd_some hF
      refine s_bald (Y := YX11_digit) (pc := 57) dX11_digit_57 (dR_k _) rfl g14 ?_
      refine g_nm (fun v15 e => ?_)
      replace hF := vl_to e hF; clear e
      refine g_bipush (Y := YX11_digit) (pc := 58) dX11_digit_58 kB_48 ?_
      refine g_isub (Y := YX11_digit) (pc := 60) dX11_digit_60 ?_
      exact s_iret (Y := YX11_digit) (pc := 61) dX11_digit_61 rfl hF
    · replace hF := if_t c11 hF
      refine g_aload_n (Y := YX11_digit) (pc := 27) 0 dX11_digit_27 rfl ?_
      refine g_aload_n (Y := YX11_digit) (pc := 28) 0 dX11_digit_28 rfl ?_
      refine u_getI (Y := YX11_digit) (pc := 29) dX11_digit_29 fl_X11_128 k_174 ?_
      obtain ⟨r16, M17, e18, hF⟩ := bd_some hF
      refine s_callVv (Y := YX11_digit) (pc := 32) (as := [.int (M9 174 18)]) (st := []) (r_X11_fault  e18) miX11_fault lk_X11_142 dX11_digit_32 k_174 rfl (Nat.le_of_ble_eq_true rfl) (Nat.le_of_ble_eq_true rfl) rfl ?_
      clear e18
      refine g_iconst (Y := YX11_digit) (pc := 35) dX11_digit_35 kI_0 ?_
      exact s_iret (Y := YX11_digit) (pc := 36) dX11_digit_36 rfl hF
  · replace hF := if_t c4 hF
    refine g_iconst (Y := YX11_digit) (pc := 7) dX11_digit_7 kI_0 ?_
    exact s_iret (Y := YX11_digit) (pc := 8) dX11_digit_8 rfl hF
def f_X11_digit (x1 : Int32) (x2 : Int32) (M : Mem) : Option (Int32 × Mem) := f_X11_digit_0 x1 x2 M
theorem r_X11_digit {x1 x2 R : Int32} {M M' : Mem}  (hF : f_X11_digit x1 x2 M = some (R, M')) : RunS l D cy ad YX11_digit 2 [.ref 174, .int x1, .int x2] X M (some (.int R)) M' := Run.of 2 (miX11_digit).1 (Nat.le_of_ble_eq_true rfl) (w_X11_digit_0  _ _ _ hF)
def f_X11_number_55  (x2 : Int32) (M : Mem) : Option (Int32 × Mem) :=
  some (x2, M)
set_option maxRecDepth 100000 in
theorem w_X11_number_55 {R : Int32} {M' : Mem}  (x2 : Int32) (M : Mem) (hF : f_X11_number_55 x2 M = some (R, M')) : RunF l D cy ad none YX11_number 3 0 0 (some (.int R)) (lay X M') 0 0 55 [(2, .int x2)] [] (lay X M) := by
  unfold f_X11_number_55 at hF
  refine g_iload_n (Y := YX11_number) (pc := 55) 0 dX11_number_55 rfl ?_
  exact s_iret (Y := YX11_number) (pc := 56) dX11_number_56 rfl hF
def f_X11_number_10  : Nat → Int32 → Int32 → Int32 → Mem → Option (Int32 × Mem)
  | 0, _, _, _, _ => none
  | n + 1, x1, x2, x3, M =>
    if x3 < x1 then
      bd (f_X11_fine M) fun r5 M6 =>
      if r5 = 0 then
        f_X11_number_55 x2 M6
      else
        bd (f_X11_here M6) fun r9 M10 =>
        bd (f_X11_in r9 48 57 M10) fun r12 M13 =>
        if r12 = 0 then
          f_X11_number_55 x2 M13
        else
          bd (f_X11_digit 0 9 M13) fun r16 M17 =>
          vl (((10 * x2) + r16)) fun v19 =>
          vl (x3 + 1) fun v20 =>
          f_X11_number_10 n x1 v19 v20 M17
    else
      f_X11_number_55 x2 M
set_option maxRecDepth 100000 in
theorem w_X11_number_10 {R : Int32} {M' : Mem}  : ∀ (n : Nat) (x1 x2 x3 : Int32) (M : Mem), f_X11_number_10 n x1 x2 x3 M = some (R, M') → RunF l D cy ad none YX11_number 3 0 0 (some (.int R)) (lay X M') 0 0 10 [(0, .ref 174), (1, .int x1), (2, .int x2), (3, .int x3)] [] (lay X M) := by
  intro n
  induction n with
  | zero => intro x1 x2 x3 M hF; exact absurd hF (by unfold f_X11_number_10; exact fun h => nomatch h)
  | succ n ih =>
    intro x1 x2 x3 M hF
    unfold f_X11_number_10 at hF
    refine g_iload_n (Y := YX11_number) (pc := 10) 3 dX11_number_10 rfl ?_
    refine g_iload_n (Y := YX11_number) (pc := 11) 1 dX11_number_11 rfl ?_
    refine g_icmp_ge (Y := YX11_number) (pc := 12) (tgt := 55) dX11_number_12 rfl (fun c4 => ?_) (fun c4 => ?_)
    · replace hF := if_f c4 hF
      refine g_loc [2] rfl ?_
      exact w_X11_number_55  _ _ hF
    · replace hF := if_t c4 hF
      refine g_aload_n (Y := YX11_number) (pc := 15) 0 dX11_number_15 rfl ?_
      obtain ⟨r5, M6, e7, hF⟩ := bd_some hF
      refine s_callVi (Y := YX11_number) (pc := 16) (as := []) (st := []) (r_X11_fine  e7) miX11_fine lk_X11_134 dX11_number_16 k_174 rfl (Nat.le_of_ble_eq_true rfl) (Nat.le_of_ble_eq_true rfl) rfl ?_
      clear e7
      refine g_if_eq (Y := YX11_number) (pc := 19) (tgt := 55) dX11_number_19 rfl (fun c8 => ?_) (fun c8 => ?_)
      · replace hF := if_t c8 hF
        refine g_loc [2] rfl ?_
        exact w_X11_number_55  _ _ hF
      · replace hF := if_f c8 hF
        refine g_aload_n (Y := YX11_number) (pc := 22) 0 dX11_number_22 rfl ?_
        obtain ⟨r9, M10, e11, hF⟩ := bd_some hF
        refine s_callVi (Y := YX11_number) (pc := 23) (as := []) (st := []) (r_X11_here  e11) miX11_here lk_X11_138 dX11_number_23 k_174 rfl (Nat.le_of_ble_eq_true rfl) (Nat.le_of_ble_eq_true rfl) rfl ?_
        clear e11
        refine g_bipush (Y := YX11_number) (pc := 26) dX11_number_26 kB_48 ?_
        refine g_bipush (Y := YX11_number) (pc := 28) dX11_number_28 kB_57 ?_
        obtain ⟨r12, M13, e14, hF⟩ := bd_some hF
        refine s_callSi (Y := YX11_number) (pc := 30) (as := [.int r9, .int 48, .int 57]) (st := []) (r_X11_in  e14) msX11_in lk_X11_109 dX11_number_30 rfl (Nat.le_of_ble_eq_true rfl) (Nat.le_of_ble_eq_true rfl) rfl ?_
        clear e14
        refine g_if_eq (Y := YX11_number) (pc := 33) (tgt := 55) dX11_number_33 rfl (fun c15 => ?_) (fun c15 => ?_)
        · replace hF := if_t c15 hF
          refine g_loc [2] rfl ?_
          exact w_X11_number_55  _ _ hF
        · replace hF := if_f c15 hF
          refine g_bipush (Y := YX11_number) (pc := 36) dX11_number_36 kB_10 ?_
          refine g_iload_n (Y := YX11_number) (pc := 38) 2 dX11_number_38 rfl ?_
          refine g_imul (Y := YX11_number) (pc := 39) dX11_number_39 ?_
          refine g_aload_n (Y := YX11_number) (pc := 40) 0 dX11_number_40 rfl ?_
          refine g_iconst (Y := YX11_number) (pc := 41) dX11_number_41 kI_0 ?_
          refine g_bipush (Y := YX11_number) (pc := 42) dX11_number_42 kB_9 ?_
          obtain ⟨r16, M17, e18, hF⟩ := bd_some hF
          refine s_callVi (Y := YX11_number) (pc := 44) (as := [.int 0, .int 9]) (st := [.int (10 * x2)]) (r_X11_digit  e18) miX11_digit lk_X11_146 dX11_number_44 k_174 rfl (Nat.le_of_ble_eq_true rfl) (Nat.le_of_ble_eq_true rfl) rfl ?_
          clear e18
          refine g_iadd (Y := YX11_number) (pc := 47) dX11_number_47 ?_
          refine g_nm (fun v19 e => ?_)
          replace hF := vl_to e hF; clear e
          refine g_istore_n (Y := YX11_number) (pc := 48) (L' := [(2, .int v19), (0, .ref 174), (1, .int x1), (3, .int x3)]) dX11_number_48 (Nat.le_of_ble_eq_true rfl) rfl ?_
          refine s_iinc (Y := YX11_number) (pc := 49) (j := 3) (L' := fun y => [(3, .int y), (2, .int v19), (0, .ref 174), (1, .int x1)]) dX11_number_49 kI_1 rfl (Nat.le_of_ble_eq_true rfl) (fun _ => rfl) (fun v20 e => ?_)
          replace hF := vl_to e hF; clear e
          refine g_goto (Y := YX11_number) (pc := 52) (tgt := 10) dX11_number_52 rfl ?_
          refine g_loc [2, 3, 1, 0] rfl ?_
          exact ih _ _ _ _ hF
def f_X11_number_0  (x1 : Int32) (M : Mem) : Option (Int32 × Mem) :=
  bd (f_X11_digit 0 9 M) fun r1 M2 =>
  f_X11_number_10 FU x1 r1 1 M2
set_option maxRecDepth 100000 in
theorem w_X11_number_0 {R : Int32} {M' : Mem}  (x1 : Int32) (M : Mem) (hF : f_X11_number_0 x1 M = some (R, M')) : RunF l D cy ad none YX11_number 3 0 0 (some (.int R)) (lay X M') 0 0 0 [(0, .ref 174), (1, .int x1)] [] (lay X M) := by
  unfold f_X11_number_0 at hF
  refine g_aload_n (Y := YX11_number) (pc := 0) 0 dX11_number_0 rfl ?_
  refine g_iconst (Y := YX11_number) (pc := 1) dX11_number_1 kI_0 ?_
  refine g_bipush (Y := YX11_number) (pc := 2) dX11_number_2 kB_9 ?_
  obtain ⟨r1, M2, e3, hF⟩ := bd_some hF
  refine s_callVi (Y := YX11_number) (pc := 4) (as := [.int 0, .int 9]) (st := []) (r_X11_digit  e3) miX11_digit lk_X11_146 dX11_number_4 k_174 rfl (Nat.le_of_ble_eq_true rfl) (Nat.le_of_ble_eq_true rfl) rfl ?_
  clear e3
  refine g_istore_n (Y := YX11_number) (pc := 7) (L' := [(2, .int r1), (0, .ref 174), (1, .int x1)]) dX11_number_7 (Nat.le_of_ble_eq_true rfl) rfl ?_
  refine g_iconst (Y := YX11_number) (pc := 8) dX11_number_8 kI_1 ?_
  refine g_istore_n (Y := YX11_number) (pc := 9) (L' := [(3, .int 1), (2, .int r1), (0, .ref 174), (1, .int x1)]) dX11_number_9 (Nat.le_of_ble_eq_true rfl) rfl ?_
  refine g_loc [2, 3, 1, 0] rfl ?_
  exact w_X11_number_10  _ _ _ _ _ hF
def f_X11_number (x1 : Int32) (M : Mem) : Option (Int32 × Mem) := f_X11_number_0 x1 M
theorem r_X11_number {x1 R : Int32} {M M' : Mem}  (hF : f_X11_number x1 M = some (R, M')) : RunS l D cy ad YX11_number 3 [.ref 174, .int x1] X M (some (.int R)) M' := Run.of 1 (miX11_number).1 (Nat.le_of_ble_eq_true rfl) (w_X11_number_0  _ _ hF)
def f_X11_letter_0  (x1 : Int32) (x2 : Int32) (M : Mem) : Option (Int32 × Mem) :=
  bd (f_X11_fine M) fun r1 M2 =>
  if r1 = 0 then
    some (0, M2)
  else
    bd (f_X11_here M2) fun r5 M6 =>
    bd (f_X11_in r5 x1 ((x1 + x2) - 1) M6) fun r8 M9 =>
    if r8 = 0 then
      bd (f_X11_fault (M9 174 18) M9) fun _ M17 =>
      some (0, M17)
    else
      ml (up M9 174 18 ((M9 174 18) + 1)) fun M12 =>
      gd (¬ M12 174 15 = 0) <|
      gd (0 ≤ ((M12 174 18) - 1) ∧ ((M12 174 18) - 1).toNatClampNeg < LN (dR (M12 174 15))) <|
      vl ((M12 (dR (M12 174 15)) ((M12 174 18) - 1).toNatClampNeg)) fun v15 =>
      some ((v15 - x1), M12)
set_option maxRecDepth 100000 in
theorem w_X11_letter_0 {R : Int32} {M' : Mem}  (x1 x2 : Int32) (M : Mem) (hF : f_X11_letter_0 x1 x2 M = some (R, M')) : RunF l D cy ad none YX11_letter 2 0 0 (some (.int R)) (lay X M') 0 0 0 [(0, .ref 174), (1, .int x1), (2, .int x2)] [] (lay X M) := by
  unfold f_X11_letter_0 at hF
  refine g_aload_n (Y := YX11_letter) (pc := 0) 0 dX11_letter_0 rfl ?_
  obtain ⟨r1, M2, e3, hF⟩ := bd_some hF
  refine s_callVi (Y := YX11_letter) (pc := 1) (as := []) (st := []) (r_X11_fine  e3) miX11_fine lk_X11_134 dX11_letter_1 k_174 rfl (Nat.le_of_ble_eq_true rfl) (Nat.le_of_ble_eq_true rfl) rfl ?_
  clear e3
  refine g_if_ne (Y := YX11_letter) (pc := 4) (tgt := 9) dX11_letter_4 rfl (fun c4 => ?_) (fun c4 => ?_)
  · replace hF := if_f c4 hF
    refine g_aload_n (Y := YX11_letter) (pc := 9) 0 dX11_letter_9 rfl ?_
    obtain ⟨r5, M6, e7, hF⟩ := bd_some hF
    refine s_callVi (Y := YX11_letter) (pc := 10) (as := []) (st := []) (r_X11_here  e7) miX11_here lk_X11_138 dX11_letter_10 k_174 rfl (Nat.le_of_ble_eq_true rfl) (Nat.le_of_ble_eq_true rfl) rfl ?_
    clear e7
    refine g_iload_n (Y := YX11_letter) (pc := 13) 1 dX11_letter_13 rfl ?_
    refine g_iload_n (Y := YX11_letter) (pc := 14) 1 dX11_letter_14 rfl ?_
    refine g_iload_n (Y := YX11_letter) (pc := 15) 2 dX11_letter_15 rfl ?_
    refine g_iadd (Y := YX11_letter) (pc := 16) dX11_letter_16 ?_
    refine g_iconst (Y := YX11_letter) (pc := 17) dX11_letter_17 kI_1 ?_
    refine g_isub (Y := YX11_letter) (pc := 18) dX11_letter_18 ?_
    obtain ⟨r8, M9, e10, hF⟩ := bd_some hF
    refine s_callSi (Y := YX11_letter) (pc := 19) (as := [.int r5, .int x1, .int ((x1 + x2) - 1)]) (st := []) (r_X11_in  e10) msX11_in lk_X11_109 dX11_letter_19 rfl (Nat.le_of_ble_eq_true rfl) (Nat.le_of_ble_eq_true rfl) rfl ?_
    clear e10
    refine g_if_ne (Y := YX11_letter) (pc := 22) (tgt := 35) dX11_letter_22 rfl (fun c11 => ?_) (fun c11 => ?_)
    · replace hF := if_f c11 hF
      refine g_aload_n (Y := YX11_letter) (pc := 35) 0 dX11_letter_35 rfl ?_
      refine g_dup (Y := YX11_letter) (pc := 36) dX11_letter_36 rfl ?_
      refine u_getI (Y := YX11_letter) (pc := 37) dX11_letter_37 fl_X11_128 k_174 ?_
      refine g_iconst (Y := YX11_letter) (pc := 40) dX11_letter_40 kI_1 ?_
      refine g_iadd (Y := YX11_letter) (pc := 41) dX11_letter_41 ?_
      refine u_putI (Y := YX11_letter) (pc := 42) dX11_letter_42 fl_X11_128  k_174 ?_
      refine g_nmM (fun M12 e => ?_)
      replace hF := ml_to e hF; clear e
      refine g_aload_n (Y := YX11_letter) (pc := 45) 0 dX11_letter_45 rfl ?_
      obtain ⟨g13, hF⟩ := gd_some hF
      refine u_getR (Y := YX11_letter) (pc := 46) (j := (dR (M12 174 15))) dX11_letter_46 fl_X11_119 k_174 (rd_r g13) ?_
      refine g_aload_n (Y := YX11_letter) (pc := 49) 0 dX11_letter_49 rfl ?_
      refine u_getI (Y := YX11_letter) (pc := 50) dX11_letter_50 fl_X11_128 k_174 ?_
      refine g_iconst (Y := YX11_letter) (pc := 53) dX11_letter_53 kI_1 ?_
      refine g_isub (Y := YX11_letter) (pc := 54) dX11_letter_54 ?_
      obtain ⟨g14, hF⟩ := gd_some hF
      refine s_bald (Y := YX11_letter) (pc := 55) dX11_letter_55 (dR_k _) rfl g14 ?_
      refine g_nm (fun v15 e => ?_)
      replace hF := vl_to e hF; clear e
      refine g_iload_n (Y := YX11_letter) (pc := 56) 1 dX11_letter_56 rfl ?_
      refine g_isub (Y := YX11_letter) (pc := 57) dX11_letter_57 ?_
      exact s_iret (Y := YX11_letter) (pc := 58) dX11_letter_58 rfl hF
    · replace hF := if_t c11 hF
      refine g_aload_n (Y := YX11_letter) (pc := 25) 0 dX11_letter_25 rfl ?_
      refine g_aload_n (Y := YX11_letter) (pc := 26) 0 dX11_letter_26 rfl ?_
      refine u_getI (Y := YX11_letter) (pc := 27) dX11_letter_27 fl_X11_128 k_174 ?_
      obtain ⟨r16, M17, e18, hF⟩ := bd_some hF
      refine s_callVv (Y := YX11_letter) (pc := 30) (as := [.int (M9 174 18)]) (st := []) (r_X11_fault  e18) miX11_fault lk_X11_142 dX11_letter_30 k_174 rfl (Nat.le_of_ble_eq_true rfl) (Nat.le_of_ble_eq_true rfl) rfl ?_
      clear e18
      refine g_iconst (Y := YX11_letter) (pc := 33) dX11_letter_33 kI_0 ?_
      exact s_iret (Y := YX11_letter) (pc := 34) dX11_letter_34 rfl hF
  · replace hF := if_t c4 hF
    refine g_iconst (Y := YX11_letter) (pc := 7) dX11_letter_7 kI_0 ?_
    exact s_iret (Y := YX11_letter) (pc := 8) dX11_letter_8 rfl hF
def f_X11_letter (x1 : Int32) (x2 : Int32) (M : Mem) : Option (Int32 × Mem) := f_X11_letter_0 x1 x2 M
theorem r_X11_letter {x1 x2 R : Int32} {M M' : Mem}  (hF : f_X11_letter x1 x2 M = some (R, M')) : RunS l D cy ad YX11_letter 2 [.ref 174, .int x1, .int x2] X M (some (.int R)) M' := Run.of 2 (miX11_letter).1 (Nat.le_of_ble_eq_true rfl) (w_X11_letter_0  _ _ _ hF)
def f_X11_palace_131  : Nat → Int32 → Int32 → Mem → Option (Int32 × Mem)
  | 0, _, _, _ => none
  | n + 1, x1, x2, M =>
    if x2 < 2 then
      gd (0 ≤ x2 ∧ x2.toNatClampNeg < 2) <|
      ml (up M 202 x2.toNatClampNeg (vp_nar .boolean 0)) fun M15 =>
      vl (x2 + 1) fun v16 =>
      f_X11_palace_131 n x1 v16 M15
    else
      some (x1, M)
set_option maxRecDepth 100000 in
theorem w_X11_palace_131 {R : Int32} {M' : Mem}  : ∀ (n : Nat) (x1 x2 : Int32) (M : Mem), f_X11_palace_131 n x1 x2 M = some (R, M') → RunF l D cy ad none YX11_palace 0 0 0 (some (.int R)) (lay X M') 0 0 131 [(0, .ref 174), (1, .int x1), (2, .int x2)] [] (lay X M) := by
  intro n
  induction n with
  | zero => intro x1 x2 M hF; exact absurd hF (by unfold f_X11_palace_131; exact fun h => nomatch h)
  | succ n ih =>
    intro x1 x2 M hF
    unfold f_X11_palace_131 at hF
    refine g_iload_n (Y := YX11_palace) (pc := 131) 2 dX11_palace_131 rfl ?_
    refine g_iconst (Y := YX11_palace) (pc := 132) dX11_palace_132 kI_2 ?_
    refine g_icmp_ge (Y := YX11_palace) (pc := 133) (tgt := 149) dX11_palace_133 rfl (fun c13 => ?_) (fun c13 => ?_)
    · replace hF := if_f c13 hF
      refine g_iload_n (Y := YX11_palace) (pc := 149) 1 dX11_palace_149 rfl ?_
      exact s_iret (Y := YX11_palace) (pc := 150) dX11_palace_150 rfl hF
    · replace hF := if_t c13 hF
      refine g_aload_n (Y := YX11_palace) (pc := 136) 0 dX11_palace_136 rfl ?_
      refine u_getR (Y := YX11_palace) (pc := 137) (j := 202) dX11_palace_137 fl_X11_93 k_174 rf_174_59 ?_
      refine g_iload_n (Y := YX11_palace) (pc := 140) 2 dX11_palace_140 rfl ?_
      refine g_iconst (Y := YX11_palace) (pc := 141) dX11_palace_141 kI_0 ?_
      obtain ⟨g14, hF⟩ := gd_some hF
      refine s_zast (Y := YX11_palace) (pc := 142) dX11_palace_142 k_202 n_202 g14 ?_
      refine g_nmM (fun M15 e => ?_)
      replace hF := ml_to e hF; clear e
      refine s_iinc (Y := YX11_palace) (pc := 143) (j := 2) (L' := fun y => [(2, .int y), (0, .ref 174), (1, .int x1)]) dX11_palace_143 kI_1 rfl (Nat.le_of_ble_eq_true rfl) (fun _ => rfl) (fun v16 e => ?_)
      replace hF := vl_to e hF; clear e
      refine g_goto (Y := YX11_palace) (pc := 146) (tgt := 131) dX11_palace_146 rfl ?_
      refine g_loc [1, 2, 0] rfl ?_
      exact ih _ _ _ hF
def f_X11_palace_94 (K68 : Int32 → Int32 → Mem → Option (Int32 × Mem)) (x1 : Int32) (x2 : Int32) (t1 : Int32) (t0 : Int32) (M : Mem) : Option (Int32 × Mem) :=
  gd (0 ≤ t1 ∧ t1.toNatClampNeg < 6) <|
  ml (up M 176 t1.toNatClampNeg (vp_nar .boolean t0)) fun M20 =>
  vl (x2 + 1) fun v21 =>
  K68 x1 v21 M20
set_option maxRecDepth 100000 in
theorem w_X11_palace_94 {R : Int32} {M' : Mem} {K68 : Int32 → Int32 → Mem → Option (Int32 × Mem)} (hK68 : ∀ (x1 x2 : Int32) (M : Mem), K68 x1 x2 M = some (R, M') → RunF l D cy ad none YX11_palace 0 0 0 (some (.int R)) (lay X M') 0 0 68 [(0, .ref 174), (1, .int x1), (2, .int x2)] [] (lay X M)) (x1 x2 t1 t0 : Int32) (M : Mem) (hF : f_X11_palace_94 K68 x1 x2 t1 t0 M = some (R, M')) : RunF l D cy ad none YX11_palace 0 0 0 (some (.int R)) (lay X M') 0 0 94 [(0, .ref 174), (1, .int x1), (2, .int x2)] [.int t0, .int t1, .ref 176] (lay X M) := by
  unfold f_X11_palace_94 at hF
  obtain ⟨g19, hF⟩ := gd_some hF
  refine s_zast (Y := YX11_palace) (pc := 94) dX11_palace_94 k_176 n_176 g19 ?_
  refine g_nmM (fun M20 e => ?_)
  replace hF := ml_to e hF; clear e
  refine s_iinc (Y := YX11_palace) (pc := 95) (j := 2) (L' := fun y => [(2, .int y), (0, .ref 174), (1, .int x1)]) dX11_palace_95 kI_1 rfl (Nat.le_of_ble_eq_true rfl) (fun _ => rfl) (fun v21 e => ?_)
  replace hF := vl_to e hF; clear e
  refine g_goto (Y := YX11_palace) (pc := 98) (tgt := 68) dX11_palace_98 rfl ?_
  refine g_loc [1, 2, 0] rfl ?_
  exact hK68 _ _ _ hF
def f_X11_palace_68  : Nat → Int32 → Int32 → Mem → Option (Int32 × Mem)
  | 0, _, _, _ => none
  | n + 1, x1, x2, M =>
    if x2 < x1 then
      gd (0 ≤ x2 ∧ x2.toNatClampNeg < 80) <|
      if (M 183 x2.toNatClampNeg) = 99 then
        f_X11_palace_94 (f_X11_palace_68 n) x1 x2 x2 1 M
      else
        f_X11_palace_94 (f_X11_palace_68 n) x1 x2 x2 0 M
    else
      ml (up M 174 1 x1) fun M7 =>
      ml (up M7 174 3 0) fun M8 =>
      gd (0 ≤ (24 : Int32) ∧ (24 : Int32).toNatClampNeg < 25) <|
      ml (up M8 175 (24 : Int32).toNatClampNeg 0) fun M10 =>
      ml (up M10 174 52 0) fun M11 =>
      ml (up M11 174 28 0) fun M12 =>
      f_X11_palace_131 FU x1 0 M12
set_option maxRecDepth 100000 in
theorem w_X11_palace_68 {R : Int32} {M' : Mem}  : ∀ (n : Nat) (x1 x2 : Int32) (M : Mem), f_X11_palace_68 n x1 x2 M = some (R, M') → RunF l D cy ad none YX11_palace 0 0 0 (some (.int R)) (lay X M') 0 0 68 [(0, .ref 174), (1, .int x1), (2, .int x2)] [] (lay X M) := by
  intro n
  induction n with
  | zero => intro x1 x2 M hF; exact absurd hF (by unfold f_X11_palace_68; exact fun h => nomatch h)
  | succ n ih =>
    intro x1 x2 M hF
    unfold f_X11_palace_68 at hF
    refine g_iload_n (Y := YX11_palace) (pc := 68) 2 dX11_palace_68 rfl ?_
    refine g_iload_n (Y := YX11_palace) (pc := 69) 1 dX11_palace_69 rfl ?_
    refine g_icmp_ge (Y := YX11_palace) (pc := 70) (tgt := 101) dX11_palace_70 rfl (fun c6 => ?_) (fun c6 => ?_)
    · replace hF := if_f c6 hF
      refine g_aload_n (Y := YX11_palace) (pc := 101) 0 dX11_palace_101 rfl ?_
      refine g_iload_n (Y := YX11_palace) (pc := 102) 1 dX11_palace_102 rfl ?_
      refine u_putI (Y := YX11_palace) (pc := 103) dX11_palace_103 fl_X11_106  k_174 ?_
      refine g_nmM (fun M7 e => ?_)
      replace hF := ml_to e hF; clear e
      refine g_aload_n (Y := YX11_palace) (pc := 106) 0 dX11_palace_106 rfl ?_
      refine g_iconst (Y := YX11_palace) (pc := 107) dX11_palace_107 kI_0 ?_
      refine u_putI (Y := YX11_palace) (pc := 108) dX11_palace_108 fl_X11_113  k_174 ?_
      refine g_nmM (fun M8 e => ?_)
      replace hF := ml_to e hF; clear e
      refine g_aload_n (Y := YX11_palace) (pc := 111) 0 dX11_palace_111 rfl ?_
      refine u_getR (Y := YX11_palace) (pc := 112) (j := 175) dX11_palace_112 fl_X11_9 k_174 rf_174_0 ?_
      refine g_bipush (Y := YX11_palace) (pc := 115) dX11_palace_115 kB_24 ?_
      refine g_iconst (Y := YX11_palace) (pc := 117) dX11_palace_117 kI_0 ?_
      obtain ⟨g9, hF⟩ := gd_some hF
      refine s_iast (Y := YX11_palace) (pc := 118) dX11_palace_118 k_175 n_175 g9 ?_
      refine g_nmM (fun M10 e => ?_)
      replace hF := ml_to e hF; clear e
      refine g_aload_n (Y := YX11_palace) (pc := 119) 0 dX11_palace_119 rfl ?_
      refine g_iconst (Y := YX11_palace) (pc := 120) dX11_palace_120 kI_0 ?_
      refine u_putI (Y := YX11_palace) (pc := 121) dX11_palace_121 fl_X11_150  k_174 ?_
      refine g_nmM (fun M11 e => ?_)
      replace hF := ml_to e hF; clear e
      refine g_aload_n (Y := YX11_palace) (pc := 124) 0 dX11_palace_124 rfl ?_
      refine g_iconst (Y := YX11_palace) (pc := 125) dX11_palace_125 kI_0 ?_
      refine u_putI (Y := YX11_palace) (pc := 126) dX11_palace_126 fl_X11_153  k_174 ?_
      refine g_nmM (fun M12 e => ?_)
      replace hF := ml_to e hF; clear e
      refine g_iconst (Y := YX11_palace) (pc := 129) dX11_palace_129 kI_0 ?_
      refine g_istore_n (Y := YX11_palace) (pc := 130) (L' := [(2, .int 0), (0, .ref 174), (1, .int x1)]) dX11_palace_130 (Nat.le_of_ble_eq_true rfl) rfl ?_
      refine g_loc [1, 2, 0] rfl ?_
      exact w_X11_palace_131  _ _ _ _ hF
    · replace hF := if_t c6 hF
      refine g_aload_n (Y := YX11_palace) (pc := 73) 0 dX11_palace_73 rfl ?_
      refine u_getR (Y := YX11_palace) (pc := 74) (j := 176) dX11_palace_74 fl_X11_13 k_174 rf_174_2 ?_
      refine g_iload_n (Y := YX11_palace) (pc := 77) 2 dX11_palace_77 rfl ?_
      refine g_aload_n (Y := YX11_palace) (pc := 78) 0 dX11_palace_78 rfl ?_
      refine u_getR (Y := YX11_palace) (pc := 79) (j := 183) dX11_palace_79 fl_X11_35 k_174 rf_174_10 ?_
      refine g_iload_n (Y := YX11_palace) (pc := 82) 2 dX11_palace_82 rfl ?_
      obtain ⟨g17, hF⟩ := gd_some hF
      refine s_bald (Y := YX11_palace) (pc := 83) dX11_palace_83 k_183 n_183 g17 ?_
      refine g_bipush (Y := YX11_palace) (pc := 84) dX11_palace_84 kB_99 ?_
      refine g_icmp_ne (Y := YX11_palace) (pc := 86) (tgt := 93) dX11_palace_86 rfl (fun c18 => ?_) (fun c18 => ?_)
      · replace hF := if_f c18 hF
        refine g_iconst (Y := YX11_palace) (pc := 93) dX11_palace_93 kI_0 ?_
        exact w_X11_palace_94 ih _ _ _ _ _ hF
      · replace hF := if_t c18 hF
        refine g_iconst (Y := YX11_palace) (pc := 89) dX11_palace_89 kI_1 ?_
        refine g_goto (Y := YX11_palace) (pc := 90) (tgt := 94) dX11_palace_90 rfl ?_
        exact w_X11_palace_94 ih _ _ _ _ _ hF
def f_X11_palace_50  (x2 : Int32) (M : Mem) : Option (Int32 × Mem) :=
  some (((-1) - x2), M)
set_option maxRecDepth 100000 in
theorem w_X11_palace_50 {R : Int32} {M' : Mem}  (x2 : Int32) (M : Mem) (hF : f_X11_palace_50 x2 M = some (R, M')) : RunF l D cy ad none YX11_palace 0 0 0 (some (.int R)) (lay X M') 0 0 50 [(2, .int x2)] [] (lay X M) := by
  unfold f_X11_palace_50 at hF
  refine g_iconst (Y := YX11_palace) (pc := 50) dX11_palace_50 kI_m1 ?_
  refine g_iload_n (Y := YX11_palace) (pc := 51) 0 dX11_palace_51 rfl ?_
  refine g_isub (Y := YX11_palace) (pc := 52) dX11_palace_52 ?_
  exact s_iret (Y := YX11_palace) (pc := 53) dX11_palace_53 rfl hF
def f_X11_palace_54 (K17 : Int32 → Int32 → Mem → Option (Int32 × Mem)) (x1 : Int32) (x2 : Int32) (M : Mem) : Option (Int32 × Mem) :=
  vl (x2 + 1) fun v25 =>
  K17 x1 v25 M
set_option maxRecDepth 100000 in
theorem w_X11_palace_54 {R : Int32} {M' : Mem} {K17 : Int32 → Int32 → Mem → Option (Int32 × Mem)} (hK17 : ∀ (x1 x2 : Int32) (M : Mem), K17 x1 x2 M = some (R, M') → RunF l D cy ad none YX11_palace 0 0 0 (some (.int R)) (lay X M') 0 0 17 [(0, .ref 174), (1, .int x1), (2, .int x2)] [] (lay X M)) (x1 x2 : Int32) (M : Mem) (hF : f_X11_palace_54 K17 x1 x2 M = some (R, M')) : RunF l D cy ad none YX11_palace 0 0 0 (some (.int R)) (lay X M') 0 0 54 [(0, .ref 174), (1, .int x1), (2, .int x2)] [] (lay X M) := by
  unfold f_X11_palace_54 at hF
  refine s_iinc (Y := YX11_palace) (pc := 54) (j := 2) (L' := fun y => [(2, .int y), (0, .ref 174), (1, .int x1)]) dX11_palace_54 kI_1 rfl (Nat.le_of_ble_eq_true rfl) (fun _ => rfl) (fun v25 e => ?_)
  replace hF := vl_to e hF; clear e
  refine g_goto (Y := YX11_palace) (pc := 57) (tgt := 17) dX11_palace_57 rfl ?_
  refine g_loc [1, 2, 0] rfl ?_
  exact hK17 _ _ _ hF
def f_X11_palace_17  : Nat → Int32 → Int32 → Mem → Option (Int32 × Mem)
  | 0, _, _, _ => none
  | n + 1, x1, x2, M =>
    if x2 < x1 then
      if x2 = 6 then
        f_X11_palace_50 x2 M
      else
        gd (0 ≤ x2 ∧ x2.toNatClampNeg < 80) <|
        if (M 183 x2.toNatClampNeg) = 114 then
          f_X11_palace_54 (f_X11_palace_17 n) x1 x2 M
        else
          gd (0 ≤ x2 ∧ x2.toNatClampNeg < 80) <|
          if (M 183 x2.toNatClampNeg) = 99 then
            f_X11_palace_54 (f_X11_palace_17 n) x1 x2 M
          else
            f_X11_palace_50 x2 M
    else
      if x1 = 0 then
        some ((-1), M)
      else
        f_X11_palace_68 FU x1 0 M
set_option maxRecDepth 100000 in
theorem w_X11_palace_17 {R : Int32} {M' : Mem}  : ∀ (n : Nat) (x1 x2 : Int32) (M : Mem), f_X11_palace_17 n x1 x2 M = some (R, M') → RunF l D cy ad none YX11_palace 0 0 0 (some (.int R)) (lay X M') 0 0 17 [(0, .ref 174), (1, .int x1), (2, .int x2)] [] (lay X M) := by
  intro n
  induction n with
  | zero => intro x1 x2 M hF; exact absurd hF (by unfold f_X11_palace_17; exact fun h => nomatch h)
  | succ n ih =>
    intro x1 x2 M hF
    unfold f_X11_palace_17 at hF
    refine g_iload_n (Y := YX11_palace) (pc := 17) 2 dX11_palace_17 rfl ?_
    refine g_iload_n (Y := YX11_palace) (pc := 18) 1 dX11_palace_18 rfl ?_
    refine g_icmp_ge (Y := YX11_palace) (pc := 19) (tgt := 60) dX11_palace_19 rfl (fun c4 => ?_) (fun c4 => ?_)
    · replace hF := if_f c4 hF
      refine g_iload_n (Y := YX11_palace) (pc := 60) 1 dX11_palace_60 rfl ?_
      refine g_if_ne (Y := YX11_palace) (pc := 61) (tgt := 66) dX11_palace_61 rfl (fun c5 => ?_) (fun c5 => ?_)
      · replace hF := if_f c5 hF
        refine g_iconst (Y := YX11_palace) (pc := 66) dX11_palace_66 kI_0 ?_
        refine g_istore_n (Y := YX11_palace) (pc := 67) (L' := [(2, .int 0), (0, .ref 174), (1, .int x1)]) dX11_palace_67 (Nat.le_of_ble_eq_true rfl) rfl ?_
        refine g_loc [1, 2, 0] rfl ?_
        exact w_X11_palace_68  _ _ _ _ hF
      · replace hF := if_t c5 hF
        refine g_iconst (Y := YX11_palace) (pc := 64) dX11_palace_64 kI_m1 ?_
        exact s_iret (Y := YX11_palace) (pc := 65) dX11_palace_65 rfl hF
    · replace hF := if_t c4 hF
      refine g_iload_n (Y := YX11_palace) (pc := 22) 2 dX11_palace_22 rfl ?_
      refine g_bipush (Y := YX11_palace) (pc := 23) dX11_palace_23 kB_6 ?_
      refine g_icmp_eq (Y := YX11_palace) (pc := 25) (tgt := 50) dX11_palace_25 rfl (fun c22 => ?_) (fun c22 => ?_)
      · replace hF := if_t c22 hF
        refine g_loc [2] rfl ?_
        exact w_X11_palace_50  _ _ hF
      · replace hF := if_f c22 hF
        refine g_aload_n (Y := YX11_palace) (pc := 28) 0 dX11_palace_28 rfl ?_
        refine u_getR (Y := YX11_palace) (pc := 29) (j := 183) dX11_palace_29 fl_X11_35 k_174 rf_174_10 ?_
        refine g_iload_n (Y := YX11_palace) (pc := 32) 2 dX11_palace_32 rfl ?_
        obtain ⟨g23, hF⟩ := gd_some hF
        refine s_bald (Y := YX11_palace) (pc := 33) dX11_palace_33 k_183 n_183 g23 ?_
        refine g_bipush (Y := YX11_palace) (pc := 34) dX11_palace_34 kB_114 ?_
        refine g_icmp_eq (Y := YX11_palace) (pc := 36) (tgt := 54) dX11_palace_36 rfl (fun c24 => ?_) (fun c24 => ?_)
        · replace hF := if_t c24 hF
          exact w_X11_palace_54 ih _ _ _ hF
        · replace hF := if_f c24 hF
          refine g_aload_n (Y := YX11_palace) (pc := 39) 0 dX11_palace_39 rfl ?_
          refine u_getR (Y := YX11_palace) (pc := 40) (j := 183) dX11_palace_40 fl_X11_35 k_174 rf_174_10 ?_
          refine g_iload_n (Y := YX11_palace) (pc := 43) 2 dX11_palace_43 rfl ?_
          obtain ⟨g26, hF⟩ := gd_some hF
          refine s_bald (Y := YX11_palace) (pc := 44) dX11_palace_44 k_183 n_183 g26 ?_
          refine g_bipush (Y := YX11_palace) (pc := 45) dX11_palace_45 kB_99 ?_
          refine g_icmp_eq (Y := YX11_palace) (pc := 47) (tgt := 54) dX11_palace_47 rfl (fun c27 => ?_) (fun c27 => ?_)
          · replace hF := if_t c27 hF
            exact w_X11_palace_54 ih _ _ _ hF
          · replace hF := if_f c27 hF
            refine g_loc [2] rfl ?_
            exact w_X11_palace_50  _ _ hF
def f_X11_palace_0  (M : Mem) : Option (Int32 × Mem) :=
  ml (up M 174 14 0) fun M1 =>
  vl ((M1 174 11)) fun v2 =>
  ml (up M1 174 11 0) fun M3 =>
  f_X11_palace_17 FU v2 0 M3
set_option maxRecDepth 100000 in
theorem w_X11_palace_0 {R : Int32} {M' : Mem}  (M : Mem) (hF : f_X11_palace_0  M = some (R, M')) : RunF l D cy ad none YX11_palace 0 0 0 (some (.int R)) (lay X M') 0 0 0 [(0, .ref 174)] [] (lay X M) := by
  unfold f_X11_palace_0 at hF
  refine g_aload_n (Y := YX11_palace) (pc := 0) 0 dX11_palace_0 rfl ?_
  refine g_iconst (Y := YX11_palace) (pc := 1) dX11_palace_1 kI_0 ?_
  refine u_putI (Y := YX11_palace) (pc := 2) dX11_palace_2 fl_X11_99  k_174 ?_
  refine g_nmM (fun M1 e => ?_)
  replace hF := ml_to e hF; clear e
  refine g_aload_n (Y := YX11_palace) (pc := 5) 0 dX11_palace_5 rfl ?_
  refine u_getI (Y := YX11_palace) (pc := 6) dX11_palace_6 fl_X11_116 k_174 ?_
  refine g_nm (fun v2 e => ?_)
  replace hF := vl_to e hF; clear e
  refine g_istore_n (Y := YX11_palace) (pc := 9) (L' := [(1, .int v2), (0, .ref 174)]) dX11_palace_9 (Nat.le_of_ble_eq_true rfl) rfl ?_
  refine g_aload_n (Y := YX11_palace) (pc := 10) 1 dX11_palace_10 rfl ?_
  refine g_iconst (Y := YX11_palace) (pc := 11) dX11_palace_11 kI_0 ?_
  refine u_putI (Y := YX11_palace) (pc := 12) dX11_palace_12 fl_X11_116  k_174 ?_
  refine g_nmM (fun M3 e => ?_)
  replace hF := ml_to e hF; clear e
  refine g_iconst (Y := YX11_palace) (pc := 15) dX11_palace_15 kI_0 ?_
  refine g_istore_n (Y := YX11_palace) (pc := 16) (L' := [(2, .int 0), (1, .int v2), (0, .ref 174)]) dX11_palace_16 (Nat.le_of_ble_eq_true rfl) rfl ?_
  refine g_loc [2, 1, 0] rfl ?_
  exact w_X11_palace_17  _ _ _ _ hF
def f_X11_palace (M : Mem) : Option (Int32 × Mem) := f_X11_palace_0 M
theorem r_X11_palace {R : Int32} {M M' : Mem}  (hF : f_X11_palace  M = some (R, M')) : RunS l D cy ad YX11_palace 0 [.ref 174] X M (some (.int R)) M' := Run.of 0 (miX11_palace).1 (Nat.le_of_ble_eq_true rfl) (w_X11_palace_0  _ hF)
def f_X11_readGroup_133  : Nat → Int32 → Int32 → Mem → Option (Int32 × Mem)
  | 0, _, _, _ => none
  | n + 1, x1, x2, M =>
    if x2 < (M 174 1) then
      bd (f_X11_digit 0 9 M) fun r32 M33 =>
      gd (0 ≤ ((x1 + 4) + x2) ∧ ((x1 + 4) + x2).toNatClampNeg < 60) <|
      ml (up M33 185 ((x1 + 4) + x2).toNatClampNeg r32) fun M36 =>
      vl (x2 + 1) fun v37 =>
      f_X11_readGroup_133 n x1 v37 M36
    else
      some (0, M)
set_option maxRecDepth 100000 in
theorem w_X11_readGroup_133 {R : Int32} {M' : Mem}  : ∀ (n : Nat) (x1 x2 : Int32) (M : Mem), f_X11_readGroup_133 n x1 x2 M = some (R, M') → RunF l D cy ad none YX11_readGroup 4 0 0 none (lay X M') 0 0 133 [(0, .ref 174), (1, .int x1), (2, .int x2)] [] (lay X M) := by
  intro n
  induction n with
  | zero => intro x1 x2 M hF; exact absurd hF (by unfold f_X11_readGroup_133; exact fun h => nomatch h)
  | succ n ih =>
    intro x1 x2 M hF
    unfold f_X11_readGroup_133 at hF
    refine g_iload_n (Y := YX11_readGroup) (pc := 133) 2 dX11_readGroup_133 rfl ?_
    refine g_aload_n (Y := YX11_readGroup) (pc := 134) 0 dX11_readGroup_134 rfl ?_
    refine u_getI (Y := YX11_readGroup) (pc := 135) dX11_readGroup_135 fl_X11_106 k_174 ?_
    refine g_icmp_ge (Y := YX11_readGroup) (pc := 138) (tgt := 164) dX11_readGroup_138 rfl (fun c31 => ?_) (fun c31 => ?_)
    · replace hF := if_f c31 hF
      exact s_vret (Y := YX11_readGroup) (pc := 164) dX11_readGroup_164 rfl hF
    · replace hF := if_t c31 hF
      refine g_aload_n (Y := YX11_readGroup) (pc := 141) 0 dX11_readGroup_141 rfl ?_
      refine u_getR (Y := YX11_readGroup) (pc := 142) (j := 185) dX11_readGroup_142 fl_X11_42 k_174 rf_174_20 ?_
      refine g_iload_n (Y := YX11_readGroup) (pc := 145) 1 dX11_readGroup_145 rfl ?_
      refine g_iconst (Y := YX11_readGroup) (pc := 146) dX11_readGroup_146 kI_4 ?_
      refine g_iadd (Y := YX11_readGroup) (pc := 147) dX11_readGroup_147 ?_
      refine g_iload_n (Y := YX11_readGroup) (pc := 148) 2 dX11_readGroup_148 rfl ?_
      refine g_iadd (Y := YX11_readGroup) (pc := 149) dX11_readGroup_149 ?_
      refine g_aload_n (Y := YX11_readGroup) (pc := 150) 0 dX11_readGroup_150 rfl ?_
      refine g_iconst (Y := YX11_readGroup) (pc := 151) dX11_readGroup_151 kI_0 ?_
      refine g_bipush (Y := YX11_readGroup) (pc := 152) dX11_readGroup_152 kB_9 ?_
      obtain ⟨r32, M33, e34, hF⟩ := bd_some hF
      refine s_callVi (Y := YX11_readGroup) (pc := 154) (as := [.int 0, .int 9]) (st := [.int ((x1 + 4) + x2), .ref 185]) (r_X11_digit  e34) miX11_digit lk_X11_146 dX11_readGroup_154 k_174 rfl (Nat.le_of_ble_eq_true rfl) (Nat.le_of_ble_eq_true rfl) rfl ?_
      clear e34
      obtain ⟨g35, hF⟩ := gd_some hF
      refine s_iast (Y := YX11_readGroup) (pc := 157) dX11_readGroup_157 k_185 n_185 g35 ?_
      refine g_nmM (fun M36 e => ?_)
      replace hF := ml_to e hF; clear e
      refine s_iinc (Y := YX11_readGroup) (pc := 158) (j := 2) (L' := fun y => [(2, .int y), (0, .ref 174), (1, .int x1)]) dX11_readGroup_158 kI_1 rfl (Nat.le_of_ble_eq_true rfl) (fun _ => rfl) (fun v37 e => ?_)
      replace hF := vl_to e hF; clear e
      refine g_goto (Y := YX11_readGroup) (pc := 161) (tgt := 133) dX11_readGroup_161 rfl ?_
      refine g_loc [1, 2, 0] rfl ?_
      exact ih _ _ _ hF
def f_X11_readGroup_121  (x1 : Int32) (M : Mem) : Option (Int32 × Mem) :=
  ml (up M 174 18 ((M 174 18) + 1)) fun M30 =>
  f_X11_readGroup_133 FU x1 0 M30
set_option maxRecDepth 100000 in
theorem w_X11_readGroup_121 {R : Int32} {M' : Mem}  (x1 : Int32) (M : Mem) (hF : f_X11_readGroup_121 x1 M = some (R, M')) : RunF l D cy ad none YX11_readGroup 4 0 0 none (lay X M') 0 0 121 [(0, .ref 174), (1, .int x1)] [] (lay X M) := by
  unfold f_X11_readGroup_121 at hF
  refine g_aload_n (Y := YX11_readGroup) (pc := 121) 0 dX11_readGroup_121 rfl ?_
  refine g_dup (Y := YX11_readGroup) (pc := 122) dX11_readGroup_122 rfl ?_
  refine u_getI (Y := YX11_readGroup) (pc := 123) dX11_readGroup_123 fl_X11_128 k_174 ?_
  refine g_iconst (Y := YX11_readGroup) (pc := 126) dX11_readGroup_126 kI_1 ?_
  refine g_iadd (Y := YX11_readGroup) (pc := 127) dX11_readGroup_127 ?_
  refine u_putI (Y := YX11_readGroup) (pc := 128) dX11_readGroup_128 fl_X11_128  k_174 ?_
  refine g_nmM (fun M30 e => ?_)
  replace hF := ml_to e hF; clear e
  refine g_iconst (Y := YX11_readGroup) (pc := 131) dX11_readGroup_131 kI_0 ?_
  refine g_istore_n (Y := YX11_readGroup) (pc := 132) (L' := [(2, .int 0), (0, .ref 174), (1, .int x1)]) dX11_readGroup_132 (Nat.le_of_ble_eq_true rfl) rfl ?_
  refine g_loc [1, 2, 0] rfl ?_
  exact w_X11_readGroup_133  _ _ _ _ hF
def f_X11_readGroup_94  (x1 : Int32) (t1 : Int32) (t0 : Int32) (M : Mem) : Option (Int32 × Mem) :=
  gd (0 ≤ t1 ∧ t1.toNatClampNeg < 60) <|
  ml (up M 185 t1.toNatClampNeg t0) fun M25 =>
  bd (f_X11_here M25) fun r26 M27 =>
  if r26 = 60 then
    f_X11_readGroup_121 x1 M27
  else
    bd (f_X11_here M27) fun r38 M39 =>
    if r38 = 62 then
      f_X11_readGroup_121 x1 M39
    else
      bd (f_X11_fault (M39 174 18) M39) fun _ M43 =>
      f_X11_readGroup_121 x1 M43
set_option maxRecDepth 100000 in
theorem w_X11_readGroup_94 {R : Int32} {M' : Mem}  (x1 t1 t0 : Int32) (M : Mem) (hF : f_X11_readGroup_94 x1 t1 t0 M = some (R, M')) : RunF l D cy ad none YX11_readGroup 4 0 0 none (lay X M') 0 0 94 [(0, .ref 174), (1, .int x1)] [.int t0, .int t1, .ref 185] (lay X M) := by
  unfold f_X11_readGroup_94 at hF
  obtain ⟨g24, hF⟩ := gd_some hF
  refine s_iast (Y := YX11_readGroup) (pc := 94) dX11_readGroup_94 k_185 n_185 g24 ?_
  refine g_nmM (fun M25 e => ?_)
  replace hF := ml_to e hF; clear e
  refine g_aload_n (Y := YX11_readGroup) (pc := 95) 0 dX11_readGroup_95 rfl ?_
  obtain ⟨r26, M27, e28, hF⟩ := bd_some hF
  refine s_callVi (Y := YX11_readGroup) (pc := 96) (as := []) (st := []) (r_X11_here  e28) miX11_here lk_X11_138 dX11_readGroup_96 k_174 rfl (Nat.le_of_ble_eq_true rfl) (Nat.le_of_ble_eq_true rfl) rfl ?_
  clear e28
  refine g_bipush (Y := YX11_readGroup) (pc := 99) dX11_readGroup_99 kB_60 ?_
  refine g_icmp_eq (Y := YX11_readGroup) (pc := 101) (tgt := 121) dX11_readGroup_101 rfl (fun c29 => ?_) (fun c29 => ?_)
  · replace hF := if_t c29 hF
    exact w_X11_readGroup_121  _ _ hF
  · replace hF := if_f c29 hF
    refine g_aload_n (Y := YX11_readGroup) (pc := 104) 0 dX11_readGroup_104 rfl ?_
    obtain ⟨r38, M39, e40, hF⟩ := bd_some hF
    refine s_callVi (Y := YX11_readGroup) (pc := 105) (as := []) (st := []) (r_X11_here  e40) miX11_here lk_X11_138 dX11_readGroup_105 k_174 rfl (Nat.le_of_ble_eq_true rfl) (Nat.le_of_ble_eq_true rfl) rfl ?_
    clear e40
    refine g_bipush (Y := YX11_readGroup) (pc := 108) dX11_readGroup_108 kB_62 ?_
    refine g_icmp_eq (Y := YX11_readGroup) (pc := 110) (tgt := 121) dX11_readGroup_110 rfl (fun c41 => ?_) (fun c41 => ?_)
    · replace hF := if_t c41 hF
      exact w_X11_readGroup_121  _ _ hF
    · replace hF := if_f c41 hF
      refine g_aload_n (Y := YX11_readGroup) (pc := 113) 0 dX11_readGroup_113 rfl ?_
      refine g_aload_n (Y := YX11_readGroup) (pc := 114) 0 dX11_readGroup_114 rfl ?_
      refine u_getI (Y := YX11_readGroup) (pc := 115) dX11_readGroup_115 fl_X11_128 k_174 ?_
      obtain ⟨r42, M43, e44, hF⟩ := bd_some hF
      refine s_callVv (Y := YX11_readGroup) (pc := 118) (as := [.int (M39 174 18)]) (st := []) (r_X11_fault  e44) miX11_fault lk_X11_142 dX11_readGroup_118 k_174 rfl (Nat.le_of_ble_eq_true rfl) (Nat.le_of_ble_eq_true rfl) rfl ?_
      clear e44
      exact w_X11_readGroup_121  _ _ hF
def f_X11_readGroup_73  (x1 : Int32) (M : Mem) : Option (Int32 × Mem) :=
  bd (f_X11_here M) fun r20 M21 =>
  if r20 = 60 then
    f_X11_readGroup_94 x1 (x1 + 3) 1 M21
  else
    f_X11_readGroup_94 x1 (x1 + 3) 0 M21
set_option maxRecDepth 100000 in
theorem w_X11_readGroup_73 {R : Int32} {M' : Mem}  (x1 : Int32) (M : Mem) (hF : f_X11_readGroup_73 x1 M = some (R, M')) : RunF l D cy ad none YX11_readGroup 4 0 0 none (lay X M') 0 0 73 [(0, .ref 174), (1, .int x1)] [] (lay X M) := by
  unfold f_X11_readGroup_73 at hF
  refine g_aload_n (Y := YX11_readGroup) (pc := 73) 0 dX11_readGroup_73 rfl ?_
  refine u_getR (Y := YX11_readGroup) (pc := 74) (j := 185) dX11_readGroup_74 fl_X11_42 k_174 rf_174_20 ?_
  refine g_iload_n (Y := YX11_readGroup) (pc := 77) 1 dX11_readGroup_77 rfl ?_
  refine g_iconst (Y := YX11_readGroup) (pc := 78) dX11_readGroup_78 kI_3 ?_
  refine g_iadd (Y := YX11_readGroup) (pc := 79) dX11_readGroup_79 ?_
  refine g_aload_n (Y := YX11_readGroup) (pc := 80) 0 dX11_readGroup_80 rfl ?_
  obtain ⟨r20, M21, e22, hF⟩ := bd_some hF
  refine s_callVi (Y := YX11_readGroup) (pc := 81) (as := []) (st := [.int (x1 + 3), .ref 185]) (r_X11_here  e22) miX11_here lk_X11_138 dX11_readGroup_81 k_174 rfl (Nat.le_of_ble_eq_true rfl) (Nat.le_of_ble_eq_true rfl) rfl ?_
  clear e22
  refine g_bipush (Y := YX11_readGroup) (pc := 84) dX11_readGroup_84 kB_60 ?_
  refine g_icmp_ne (Y := YX11_readGroup) (pc := 86) (tgt := 93) dX11_readGroup_86 rfl (fun c23 => ?_) (fun c23 => ?_)
  · replace hF := if_f c23 hF
    refine g_iconst (Y := YX11_readGroup) (pc := 93) dX11_readGroup_93 kI_0 ?_
    exact w_X11_readGroup_94  _ _ _ _ hF
  · replace hF := if_t c23 hF
    refine g_iconst (Y := YX11_readGroup) (pc := 89) dX11_readGroup_89 kI_1 ?_
    refine g_goto (Y := YX11_readGroup) (pc := 90) (tgt := 94) dX11_readGroup_90 rfl ?_
    exact w_X11_readGroup_94  _ _ _ _ hF
def f_X11_readGroup_0  (x1 : Int32) (M : Mem) : Option (Int32 × Mem) :=
  bd (f_X11_number 2 M) fun r1 M2 =>
  gd (0 ≤ x1 ∧ x1.toNatClampNeg < 60) <|
  ml (up M2 185 x1.toNatClampNeg r1) fun M5 =>
  bd (f_X11_letter 118 5 M5) fun r6 M7 =>
  gd (0 ≤ (x1 + 1) ∧ (x1 + 1).toNatClampNeg < 60) <|
  ml (up M7 185 (x1 + 1).toNatClampNeg r6) fun M10 =>
  bd (f_X11_number 2 M10) fun r11 M12 =>
  gd (0 ≤ (x1 + 2) ∧ (x1 + 2).toNatClampNeg < 60) <|
  ml (up M12 185 (x1 + 2).toNatClampNeg r11) fun M15 =>
  bd (f_X11_fine M15) fun r16 M17 =>
  if r16 = 0 then
    f_X11_readGroup_73 x1 M17
  else
    gd (0 ≤ (x1 + 2) ∧ (x1 + 2).toNatClampNeg < 60) <|
    bd (f_X11_in (M17 185 (x1 + 2).toNatClampNeg) 1 40 M17) fun r46 M47 =>
    if r46 = 0 then
      bd (f_X11_fault ((M47 174 18) - 1) M47) fun _ M51 =>
      f_X11_readGroup_73 x1 M51
    else
      f_X11_readGroup_73 x1 M47
set_option maxRecDepth 100000 in
theorem w_X11_readGroup_0 {R : Int32} {M' : Mem}  (x1 : Int32) (M : Mem) (hF : f_X11_readGroup_0 x1 M = some (R, M')) : RunF l D cy ad none YX11_readGroup 4 0 0 none (lay X M') 0 0 0 [(0, .ref 174), (1, .int x1)] [] (lay X M) := by
  unfold f_X11_readGroup_0 at hF
  refine g_aload_n (Y := YX11_readGroup) (pc := 0) 0 dX11_readGroup_0 rfl ?_
  refine u_getR (Y := YX11_readGroup) (pc := 1) (j := 185) dX11_readGroup_1 fl_X11_42 k_174 rf_174_20 ?_
  refine g_iload_n (Y := YX11_readGroup) (pc := 4) 1 dX11_readGroup_4 rfl ?_
  refine g_aload_n (Y := YX11_readGroup) (pc := 5) 0 dX11_readGroup_5 rfl ?_
  refine g_iconst (Y := YX11_readGroup) (pc := 6) dX11_readGroup_6 kI_2 ?_
  obtain ⟨r1, M2, e3, hF⟩ := bd_some hF
  refine s_callVi (Y := YX11_readGroup) (pc := 7) (as := [.int 2]) (st := [.int x1, .ref 185]) (r_X11_number  e3) miX11_number lk_X11_156 dX11_readGroup_7 k_174 rfl (Nat.le_of_ble_eq_true rfl) (Nat.le_of_ble_eq_true rfl) rfl ?_
  clear e3
  obtain ⟨g4, hF⟩ := gd_some hF
  refine s_iast (Y := YX11_readGroup) (pc := 10) dX11_readGroup_10 k_185 n_185 g4 ?_
  refine g_nmM (fun M5 e => ?_)
  replace hF := ml_to e hF; clear e
  refine g_aload_n (Y := YX11_readGroup) (pc := 11) 0 dX11_readGroup_11 rfl ?_
  refine u_getR (Y := YX11_readGroup) (pc := 12) (j := 185) dX11_readGroup_12 fl_X11_42 k_174 rf_174_20 ?_
  refine g_iload_n (Y := YX11_readGroup) (pc := 15) 1 dX11_readGroup_15 rfl ?_
  refine g_iconst (Y := YX11_readGroup) (pc := 16) dX11_readGroup_16 kI_1 ?_
  refine g_iadd (Y := YX11_readGroup) (pc := 17) dX11_readGroup_17 ?_
  refine g_aload_n (Y := YX11_readGroup) (pc := 18) 0 dX11_readGroup_18 rfl ?_
  refine g_bipush (Y := YX11_readGroup) (pc := 19) dX11_readGroup_19 kB_118 ?_
  refine g_iconst (Y := YX11_readGroup) (pc := 21) dX11_readGroup_21 kI_5 ?_
  obtain ⟨r6, M7, e8, hF⟩ := bd_some hF
  refine s_callVi (Y := YX11_readGroup) (pc := 22) (as := [.int 118, .int 5]) (st := [.int (x1 + 1), .ref 185]) (r_X11_letter  e8) miX11_letter lk_X11_160 dX11_readGroup_22 k_174 rfl (Nat.le_of_ble_eq_true rfl) (Nat.le_of_ble_eq_true rfl) rfl ?_
  clear e8
  obtain ⟨g9, hF⟩ := gd_some hF
  refine s_iast (Y := YX11_readGroup) (pc := 25) dX11_readGroup_25 k_185 n_185 g9 ?_
  refine g_nmM (fun M10 e => ?_)
  replace hF := ml_to e hF; clear e
  refine g_aload_n (Y := YX11_readGroup) (pc := 26) 0 dX11_readGroup_26 rfl ?_
  refine u_getR (Y := YX11_readGroup) (pc := 27) (j := 185) dX11_readGroup_27 fl_X11_42 k_174 rf_174_20 ?_
  refine g_iload_n (Y := YX11_readGroup) (pc := 30) 1 dX11_readGroup_30 rfl ?_
  refine g_iconst (Y := YX11_readGroup) (pc := 31) dX11_readGroup_31 kI_2 ?_
  refine g_iadd (Y := YX11_readGroup) (pc := 32) dX11_readGroup_32 ?_
  refine g_aload_n (Y := YX11_readGroup) (pc := 33) 0 dX11_readGroup_33 rfl ?_
  refine g_iconst (Y := YX11_readGroup) (pc := 34) dX11_readGroup_34 kI_2 ?_
  obtain ⟨r11, M12, e13, hF⟩ := bd_some hF
  refine s_callVi (Y := YX11_readGroup) (pc := 35) (as := [.int 2]) (st := [.int (x1 + 2), .ref 185]) (r_X11_number  e13) miX11_number lk_X11_156 dX11_readGroup_35 k_174 rfl (Nat.le_of_ble_eq_true rfl) (Nat.le_of_ble_eq_true rfl) rfl ?_
  clear e13
  obtain ⟨g14, hF⟩ := gd_some hF
  refine s_iast (Y := YX11_readGroup) (pc := 38) dX11_readGroup_38 k_185 n_185 g14 ?_
  refine g_nmM (fun M15 e => ?_)
  replace hF := ml_to e hF; clear e
  refine g_aload_n (Y := YX11_readGroup) (pc := 39) 0 dX11_readGroup_39 rfl ?_
  obtain ⟨r16, M17, e18, hF⟩ := bd_some hF
  refine s_callVi (Y := YX11_readGroup) (pc := 40) (as := []) (st := []) (r_X11_fine  e18) miX11_fine lk_X11_134 dX11_readGroup_40 k_174 rfl (Nat.le_of_ble_eq_true rfl) (Nat.le_of_ble_eq_true rfl) rfl ?_
  clear e18
  refine g_if_eq (Y := YX11_readGroup) (pc := 43) (tgt := 73) dX11_readGroup_43 rfl (fun c19 => ?_) (fun c19 => ?_)
  · replace hF := if_t c19 hF
    exact w_X11_readGroup_73  _ _ hF
  · replace hF := if_f c19 hF
    refine g_aload_n (Y := YX11_readGroup) (pc := 46) 0 dX11_readGroup_46 rfl ?_
    refine u_getR (Y := YX11_readGroup) (pc := 47) (j := 185) dX11_readGroup_47 fl_X11_42 k_174 rf_174_20 ?_
    refine g_iload_n (Y := YX11_readGroup) (pc := 50) 1 dX11_readGroup_50 rfl ?_
    refine g_iconst (Y := YX11_readGroup) (pc := 51) dX11_readGroup_51 kI_2 ?_
    refine g_iadd (Y := YX11_readGroup) (pc := 52) dX11_readGroup_52 ?_
    obtain ⟨g45, hF⟩ := gd_some hF
    refine s_iald (Y := YX11_readGroup) (pc := 53) dX11_readGroup_53 k_185 n_185 g45 ?_
    refine g_iconst (Y := YX11_readGroup) (pc := 54) dX11_readGroup_54 kI_1 ?_
    refine g_bipush (Y := YX11_readGroup) (pc := 55) dX11_readGroup_55 kB_40 ?_
    obtain ⟨r46, M47, e48, hF⟩ := bd_some hF
    refine s_callSi (Y := YX11_readGroup) (pc := 57) (as := [.int (M17 185 (x1 + 2).toNatClampNeg), .int 1, .int 40]) (st := []) (r_X11_in  e48) msX11_in lk_X11_109 dX11_readGroup_57 rfl (Nat.le_of_ble_eq_true rfl) (Nat.le_of_ble_eq_true rfl) rfl ?_
    clear e48
    refine g_if_ne (Y := YX11_readGroup) (pc := 60) (tgt := 73) dX11_readGroup_60 rfl (fun c49 => ?_) (fun c49 => ?_)
    · replace hF := if_f c49 hF
      exact w_X11_readGroup_73  _ _ hF
    · replace hF := if_t c49 hF
      refine g_aload_n (Y := YX11_readGroup) (pc := 63) 0 dX11_readGroup_63 rfl ?_
      refine g_aload_n (Y := YX11_readGroup) (pc := 64) 0 dX11_readGroup_64 rfl ?_
      refine u_getI (Y := YX11_readGroup) (pc := 65) dX11_readGroup_65 fl_X11_128 k_174 ?_
      refine g_iconst (Y := YX11_readGroup) (pc := 68) dX11_readGroup_68 kI_1 ?_
      refine g_isub (Y := YX11_readGroup) (pc := 69) dX11_readGroup_69 ?_
      obtain ⟨r50, M51, e52, hF⟩ := bd_some hF
      refine s_callVv (Y := YX11_readGroup) (pc := 70) (as := [.int ((M47 174 18) - 1)]) (st := []) (r_X11_fault  e52) miX11_fault lk_X11_142 dX11_readGroup_70 k_174 rfl (Nat.le_of_ble_eq_true rfl) (Nat.le_of_ble_eq_true rfl) rfl ?_
      clear e52
      exact w_X11_readGroup_73  _ _ hF
def f_X11_readGroup (x1 : Int32) (M : Mem) : Option (Int32 × Mem) := f_X11_readGroup_0 x1 M
theorem r_X11_readGroup {x1 R : Int32} {M M' : Mem}  (hF : f_X11_readGroup x1 M = some (R, M')) : RunS l D cy ad YX11_readGroup 4 [.ref 174, .int x1] X M none M' := Run.of 1 (miX11_readGroup).1 (Nat.le_of_ble_eq_true rfl) (w_X11_readGroup_0  _ _ hF)
def f_X11_come_70  : Nat → Int32 → Int32 → Int32 → Mem → Option (Int32 × Mem)
  | 0, _, _, _, _ => none
  | n + 1, x1, x2, x3, M =>
    if x3 < (M 174 1) then
      gd (0 ≤ ((x1 + 4) + x3) ∧ ((x1 + 4) + x3).toNatClampNeg < 60) <|
      gd (0 ≤ ((6 * x2) + x3) ∧ ((6 * x2) + x3).toNatClampNeg < 36) <|
      ml (up M 181 ((6 * x2) + x3).toNatClampNeg (M 185 ((x1 + 4) + x3).toNatClampNeg)) fun M29 =>
      vl (x3 + 1) fun v30 =>
      f_X11_come_70 n x1 x2 v30 M29
    else
      gd (0 ≤ x2 ∧ x2.toNatClampNeg < 6) <|
      ml (up M 182 x2.toNatClampNeg 0) fun M17 =>
      gd (0 ≤ x2 ∧ x2.toNatClampNeg < 25) <|
      ml (up M17 175 x2.toNatClampNeg (-1)) fun M19 =>
      gd (0 ≤ (6 + x2) ∧ (6 + x2).toNatClampNeg < 25) <|
      ml (up M19 175 (6 + x2).toNatClampNeg 0) fun M21 =>
      gd (0 ≤ (12 + x2) ∧ (12 + x2).toNatClampNeg < 25) <|
      ml (up M21 175 (12 + x2).toNatClampNeg 0) fun M23 =>
      gd (0 ≤ (18 + x2) ∧ (18 + x2).toNatClampNeg < 25) <|
      ml (up M23 175 (18 + x2).toNatClampNeg (-1)) fun M25 =>
      ml (up M25 174 3 ((M25 174 3) + 1)) fun M26 =>
      some (0, M26)
set_option maxRecDepth 100000 in
theorem w_X11_come_70 {R : Int32} {M' : Mem}  : ∀ (n : Nat) (x1 x2 x3 : Int32) (M : Mem), f_X11_come_70 n x1 x2 x3 M = some (R, M') → RunF l D cy ad none YX11_come 0 0 0 none (lay X M') 0 0 70 [(0, .ref 174), (1, .int x1), (2, .int x2), (3, .int x3)] [] (lay X M) := by
  intro n
  induction n with
  | zero => intro x1 x2 x3 M hF; exact absurd hF (by unfold f_X11_come_70; exact fun h => nomatch h)
  | succ n ih =>
    intro x1 x2 x3 M hF
    unfold f_X11_come_70 at hF
    refine g_iload_n (Y := YX11_come) (pc := 70) 3 dX11_come_70 rfl ?_
    refine g_aload_n (Y := YX11_come) (pc := 71) 0 dX11_come_71 rfl ?_
    refine u_getI (Y := YX11_come) (pc := 72) dX11_come_72 fl_X11_106 k_174 ?_
    refine g_icmp_ge (Y := YX11_come) (pc := 75) (tgt := 105) dX11_come_75 rfl (fun c15 => ?_) (fun c15 => ?_)
    · replace hF := if_f c15 hF
      refine g_aload_n (Y := YX11_come) (pc := 105) 0 dX11_come_105 rfl ?_
      refine u_getR (Y := YX11_come) (pc := 106) (j := 182) dX11_come_106 fl_X11_32 k_174 rf_174_9 ?_
      refine g_iload_n (Y := YX11_come) (pc := 109) 2 dX11_come_109 rfl ?_
      refine g_iconst (Y := YX11_come) (pc := 110) dX11_come_110 kI_0 ?_
      obtain ⟨g16, hF⟩ := gd_some hF
      refine s_iast (Y := YX11_come) (pc := 111) dX11_come_111 k_182 n_182 g16 ?_
      refine g_nmM (fun M17 e => ?_)
      replace hF := ml_to e hF; clear e
      refine g_aload_n (Y := YX11_come) (pc := 112) 0 dX11_come_112 rfl ?_
      refine u_getR (Y := YX11_come) (pc := 113) (j := 175) dX11_come_113 fl_X11_9 k_174 rf_174_0 ?_
      refine g_iload_n (Y := YX11_come) (pc := 116) 2 dX11_come_116 rfl ?_
      refine g_iconst (Y := YX11_come) (pc := 117) dX11_come_117 kI_m1 ?_
      obtain ⟨g18, hF⟩ := gd_some hF
      refine s_iast (Y := YX11_come) (pc := 118) dX11_come_118 k_175 n_175 g18 ?_
      refine g_nmM (fun M19 e => ?_)
      replace hF := ml_to e hF; clear e
      refine g_aload_n (Y := YX11_come) (pc := 119) 0 dX11_come_119 rfl ?_
      refine u_getR (Y := YX11_come) (pc := 120) (j := 175) dX11_come_120 fl_X11_9 k_174 rf_174_0 ?_
      refine g_bipush (Y := YX11_come) (pc := 123) dX11_come_123 kB_6 ?_
      refine g_iload_n (Y := YX11_come) (pc := 125) 2 dX11_come_125 rfl ?_
      refine g_iadd (Y := YX11_come) (pc := 126) dX11_come_126 ?_
      refine g_iconst (Y := YX11_come) (pc := 127) dX11_come_127 kI_0 ?_
      obtain ⟨g20, hF⟩ := gd_some hF
      refine s_iast (Y := YX11_come) (pc := 128) dX11_come_128 k_175 n_175 g20 ?_
      refine g_nmM (fun M21 e => ?_)
      replace hF := ml_to e hF; clear e
      refine g_aload_n (Y := YX11_come) (pc := 129) 0 dX11_come_129 rfl ?_
      refine u_getR (Y := YX11_come) (pc := 130) (j := 175) dX11_come_130 fl_X11_9 k_174 rf_174_0 ?_
      refine g_bipush (Y := YX11_come) (pc := 133) dX11_come_133 kB_12 ?_
      refine g_iload_n (Y := YX11_come) (pc := 135) 2 dX11_come_135 rfl ?_
      refine g_iadd (Y := YX11_come) (pc := 136) dX11_come_136 ?_
      refine g_iconst (Y := YX11_come) (pc := 137) dX11_come_137 kI_0 ?_
      obtain ⟨g22, hF⟩ := gd_some hF
      refine s_iast (Y := YX11_come) (pc := 138) dX11_come_138 k_175 n_175 g22 ?_
      refine g_nmM (fun M23 e => ?_)
      replace hF := ml_to e hF; clear e
      refine g_aload_n (Y := YX11_come) (pc := 139) 0 dX11_come_139 rfl ?_
      refine u_getR (Y := YX11_come) (pc := 140) (j := 175) dX11_come_140 fl_X11_9 k_174 rf_174_0 ?_
      refine g_bipush (Y := YX11_come) (pc := 143) dX11_come_143 kB_18 ?_
      refine g_iload_n (Y := YX11_come) (pc := 145) 2 dX11_come_145 rfl ?_
      refine g_iadd (Y := YX11_come) (pc := 146) dX11_come_146 ?_
      refine g_iconst (Y := YX11_come) (pc := 147) dX11_come_147 kI_m1 ?_
      obtain ⟨g24, hF⟩ := gd_some hF
      refine s_iast (Y := YX11_come) (pc := 148) dX11_come_148 k_175 n_175 g24 ?_
      refine g_nmM (fun M25 e => ?_)
      replace hF := ml_to e hF; clear e
      refine g_aload_n (Y := YX11_come) (pc := 149) 0 dX11_come_149 rfl ?_
      refine g_dup (Y := YX11_come) (pc := 150) dX11_come_150 rfl ?_
      refine u_getI (Y := YX11_come) (pc := 151) dX11_come_151 fl_X11_113 k_174 ?_
      refine g_iconst (Y := YX11_come) (pc := 154) dX11_come_154 kI_1 ?_
      refine g_iadd (Y := YX11_come) (pc := 155) dX11_come_155 ?_
      refine u_putI (Y := YX11_come) (pc := 156) dX11_come_156 fl_X11_113  k_174 ?_
      refine g_nmM (fun M26 e => ?_)
      replace hF := ml_to e hF; clear e
      exact s_vret (Y := YX11_come) (pc := 159) dX11_come_159 rfl hF
    · replace hF := if_t c15 hF
      refine g_aload_n (Y := YX11_come) (pc := 78) 0 dX11_come_78 rfl ?_
      refine u_getR (Y := YX11_come) (pc := 79) (j := 181) dX11_come_79 fl_X11_29 k_174 rf_174_8 ?_
      refine g_bipush (Y := YX11_come) (pc := 82) dX11_come_82 kB_6 ?_
      refine g_iload_n (Y := YX11_come) (pc := 84) 2 dX11_come_84 rfl ?_
      refine g_imul (Y := YX11_come) (pc := 85) dX11_come_85 ?_
      refine g_iload_n (Y := YX11_come) (pc := 86) 3 dX11_come_86 rfl ?_
      refine g_iadd (Y := YX11_come) (pc := 87) dX11_come_87 ?_
      refine g_aload_n (Y := YX11_come) (pc := 88) 0 dX11_come_88 rfl ?_
      refine u_getR (Y := YX11_come) (pc := 89) (j := 185) dX11_come_89 fl_X11_42 k_174 rf_174_20 ?_
      refine g_iload_n (Y := YX11_come) (pc := 92) 1 dX11_come_92 rfl ?_
      refine g_iconst (Y := YX11_come) (pc := 93) dX11_come_93 kI_4 ?_
      refine g_iadd (Y := YX11_come) (pc := 94) dX11_come_94 ?_
      refine g_iload_n (Y := YX11_come) (pc := 95) 3 dX11_come_95 rfl ?_
      refine g_iadd (Y := YX11_come) (pc := 96) dX11_come_96 ?_
      obtain ⟨g27, hF⟩ := gd_some hF
      refine s_iald (Y := YX11_come) (pc := 97) dX11_come_97 k_185 n_185 g27 ?_
      obtain ⟨g28, hF⟩ := gd_some hF
      refine s_iast (Y := YX11_come) (pc := 98) dX11_come_98 k_181 n_181 g28 ?_
      refine g_nmM (fun M29 e => ?_)
      replace hF := ml_to e hF; clear e
      refine s_iinc (Y := YX11_come) (pc := 99) (j := 3) (L' := fun y => [(3, .int y), (0, .ref 174), (1, .int x1), (2, .int x2)]) dX11_come_99 kI_1 rfl (Nat.le_of_ble_eq_true rfl) (fun _ => rfl) (fun v30 e => ?_)
      replace hF := vl_to e hF; clear e
      refine g_goto (Y := YX11_come) (pc := 102) (tgt := 70) dX11_come_102 rfl ?_
      refine g_loc [1, 2, 3, 0] rfl ?_
      exact ih _ _ _ _ hF
def f_X11_come_67  (x1 : Int32) (x2 : Int32) (t1 : Int32) (t0 : Int32) (M : Mem) : Option (Int32 × Mem) :=
  gd (0 ≤ t1 ∧ t1.toNatClampNeg < 6) <|
  ml (up M 180 t1.toNatClampNeg (vp_nar .boolean t0)) fun M14 =>
  f_X11_come_70 FU x1 x2 0 M14
set_option maxRecDepth 100000 in
theorem w_X11_come_67 {R : Int32} {M' : Mem}  (x1 x2 t1 t0 : Int32) (M : Mem) (hF : f_X11_come_67 x1 x2 t1 t0 M = some (R, M')) : RunF l D cy ad none YX11_come 0 0 0 none (lay X M') 0 0 67 [(0, .ref 174), (1, .int x1), (2, .int x2)] [.int t0, .int t1, .ref 180] (lay X M) := by
  unfold f_X11_come_67 at hF
  obtain ⟨g13, hF⟩ := gd_some hF
  refine s_zast (Y := YX11_come) (pc := 67) dX11_come_67 k_180 n_180 g13 ?_
  refine g_nmM (fun M14 e => ?_)
  replace hF := ml_to e hF; clear e
  refine g_iconst (Y := YX11_come) (pc := 68) dX11_come_68 kI_0 ?_
  refine g_istore_n (Y := YX11_come) (pc := 69) (L' := [(3, .int 0), (0, .ref 174), (1, .int x1), (2, .int x2)]) dX11_come_69 (Nat.le_of_ble_eq_true rfl) rfl ?_
  refine g_loc [1, 2, 3, 0] rfl ?_
  exact w_X11_come_70  _ _ _ _ _ hF
def f_X11_come_0  (x1 : Int32) (M : Mem) : Option (Int32 × Mem) :=
  vl ((M 174 3)) fun v1 =>
  gd (0 ≤ x1 ∧ x1.toNatClampNeg < 60) <|
  gd (0 ≤ v1 ∧ v1.toNatClampNeg < 6) <|
  ml (up M 177 v1.toNatClampNeg (M 185 x1.toNatClampNeg)) fun M4 =>
  gd (0 ≤ (x1 + 1) ∧ (x1 + 1).toNatClampNeg < 60) <|
  gd (0 ≤ v1 ∧ v1.toNatClampNeg < 6) <|
  ml (up M4 178 v1.toNatClampNeg (M4 185 (x1 + 1).toNatClampNeg)) fun M7 =>
  gd (0 ≤ (x1 + 2) ∧ (x1 + 2).toNatClampNeg < 60) <|
  gd (0 ≤ v1 ∧ v1.toNatClampNeg < 6) <|
  ml (up M7 179 v1.toNatClampNeg (M7 185 (x1 + 2).toNatClampNeg)) fun M10 =>
  gd (0 ≤ (x1 + 3) ∧ (x1 + 3).toNatClampNeg < 60) <|
  if (M10 185 (x1 + 3).toNatClampNeg) = 1 then
    f_X11_come_67 x1 v1 v1 1 M10
  else
    f_X11_come_67 x1 v1 v1 0 M10
set_option maxRecDepth 100000 in
theorem w_X11_come_0 {R : Int32} {M' : Mem}  (x1 : Int32) (M : Mem) (hF : f_X11_come_0 x1 M = some (R, M')) : RunF l D cy ad none YX11_come 0 0 0 none (lay X M') 0 0 0 [(0, .ref 174), (1, .int x1)] [] (lay X M) := by
  unfold f_X11_come_0 at hF
  refine g_aload_n (Y := YX11_come) (pc := 0) 0 dX11_come_0 rfl ?_
  refine u_getI (Y := YX11_come) (pc := 1) dX11_come_1 fl_X11_113 k_174 ?_
  refine g_nm (fun v1 e => ?_)
  replace hF := vl_to e hF; clear e
  refine g_istore_n (Y := YX11_come) (pc := 4) (L' := [(2, .int v1), (0, .ref 174), (1, .int x1)]) dX11_come_4 (Nat.le_of_ble_eq_true rfl) rfl ?_
  refine g_aload_n (Y := YX11_come) (pc := 5) 1 dX11_come_5 rfl ?_
  refine u_getR (Y := YX11_come) (pc := 6) (j := 177) dX11_come_6 fl_X11_17 k_174 rf_174_4 ?_
  refine g_iload_n (Y := YX11_come) (pc := 9) 0 dX11_come_9 rfl ?_
  refine g_aload_n (Y := YX11_come) (pc := 10) 1 dX11_come_10 rfl ?_
  refine u_getR (Y := YX11_come) (pc := 11) (j := 185) dX11_come_11 fl_X11_42 k_174 rf_174_20 ?_
  refine g_iload_n (Y := YX11_come) (pc := 14) 2 dX11_come_14 rfl ?_
  obtain ⟨g2, hF⟩ := gd_some hF
  refine s_iald (Y := YX11_come) (pc := 15) dX11_come_15 k_185 n_185 g2 ?_
  obtain ⟨g3, hF⟩ := gd_some hF
  refine s_iast (Y := YX11_come) (pc := 16) dX11_come_16 k_177 n_177 g3 ?_
  refine g_nmM (fun M4 e => ?_)
  replace hF := ml_to e hF; clear e
  refine g_aload_n (Y := YX11_come) (pc := 17) 1 dX11_come_17 rfl ?_
  refine u_getR (Y := YX11_come) (pc := 18) (j := 178) dX11_come_18 fl_X11_20 k_174 rf_174_5 ?_
  refine g_iload_n (Y := YX11_come) (pc := 21) 0 dX11_come_21 rfl ?_
  refine g_aload_n (Y := YX11_come) (pc := 22) 1 dX11_come_22 rfl ?_
  refine u_getR (Y := YX11_come) (pc := 23) (j := 185) dX11_come_23 fl_X11_42 k_174 rf_174_20 ?_
  refine g_iload_n (Y := YX11_come) (pc := 26) 2 dX11_come_26 rfl ?_
  refine g_iconst (Y := YX11_come) (pc := 27) dX11_come_27 kI_1 ?_
  refine g_iadd (Y := YX11_come) (pc := 28) dX11_come_28 ?_
  obtain ⟨g5, hF⟩ := gd_some hF
  refine s_iald (Y := YX11_come) (pc := 29) dX11_come_29 k_185 n_185 g5 ?_
  obtain ⟨g6, hF⟩ := gd_some hF
  refine s_iast (Y := YX11_come) (pc := 30) dX11_come_30 k_178 n_178 g6 ?_
  refine g_nmM (fun M7 e => ?_)
  replace hF := ml_to e hF; clear e
  refine g_aload_n (Y := YX11_come) (pc := 31) 1 dX11_come_31 rfl ?_
  refine u_getR (Y := YX11_come) (pc := 32) (j := 179) dX11_come_32 fl_X11_23 k_174 rf_174_6 ?_
  refine g_iload_n (Y := YX11_come) (pc := 35) 0 dX11_come_35 rfl ?_
  refine g_aload_n (Y := YX11_come) (pc := 36) 1 dX11_come_36 rfl ?_
  refine u_getR (Y := YX11_come) (pc := 37) (j := 185) dX11_come_37 fl_X11_42 k_174 rf_174_20 ?_
  refine g_iload_n (Y := YX11_come) (pc := 40) 2 dX11_come_40 rfl ?_
  refine g_iconst (Y := YX11_come) (pc := 41) dX11_come_41 kI_2 ?_
  refine g_iadd (Y := YX11_come) (pc := 42) dX11_come_42 ?_
  obtain ⟨g8, hF⟩ := gd_some hF
  refine s_iald (Y := YX11_come) (pc := 43) dX11_come_43 k_185 n_185 g8 ?_
  obtain ⟨g9, hF⟩ := gd_some hF
  refine s_iast (Y := YX11_come) (pc := 44) dX11_come_44 k_179 n_179 g9 ?_
  refine g_nmM (fun M10 e => ?_)
  replace hF := ml_to e hF; clear e
  refine g_aload_n (Y := YX11_come) (pc := 45) 1 dX11_come_45 rfl ?_
  refine u_getR (Y := YX11_come) (pc := 46) (j := 180) dX11_come_46 fl_X11_26 k_174 rf_174_7 ?_
  refine g_iload_n (Y := YX11_come) (pc := 49) 0 dX11_come_49 rfl ?_
  refine g_aload_n (Y := YX11_come) (pc := 50) 1 dX11_come_50 rfl ?_
  refine u_getR (Y := YX11_come) (pc := 51) (j := 185) dX11_come_51 fl_X11_42 k_174 rf_174_20 ?_
  refine g_iload_n (Y := YX11_come) (pc := 54) 2 dX11_come_54 rfl ?_
  refine g_iconst (Y := YX11_come) (pc := 55) dX11_come_55 kI_3 ?_
  refine g_iadd (Y := YX11_come) (pc := 56) dX11_come_56 ?_
  obtain ⟨g11, hF⟩ := gd_some hF
  refine s_iald (Y := YX11_come) (pc := 57) dX11_come_57 k_185 n_185 g11 ?_
  refine g_iconst (Y := YX11_come) (pc := 58) dX11_come_58 kI_1 ?_
  refine g_icmp_ne (Y := YX11_come) (pc := 59) (tgt := 66) dX11_come_59 rfl (fun c12 => ?_) (fun c12 => ?_)
  · replace hF := if_f c12 hF
    refine g_iconst (Y := YX11_come) (pc := 66) dX11_come_66 kI_0 ?_
    refine g_loc [1, 2, 0] rfl ?_
    exact w_X11_come_67  _ _ _ _ _ hF
  · replace hF := if_t c12 hF
    refine g_iconst (Y := YX11_come) (pc := 62) dX11_come_62 kI_1 ?_
    refine g_goto (Y := YX11_come) (pc := 63) (tgt := 67) dX11_come_63 rfl ?_
    refine g_loc [1, 2, 0] rfl ?_
    exact w_X11_come_67  _ _ _ _ _ hF
def f_X11_come (x1 : Int32) (M : Mem) : Option (Int32 × Mem) := f_X11_come_0 x1 M
theorem r_X11_come {x1 R : Int32} {M M' : Mem}  (hF : f_X11_come x1 M = some (R, M')) : RunS l D cy ad YX11_come 0 [.ref 174, .int x1] X M none M' := Run.of 1 (miX11_come).1 (Nat.le_of_ble_eq_true rfl) (w_X11_come_0  _ _ hF)
def f_X11_groups_133  : Nat → Int32 → Int32 → Mem → Option (Int32 × Mem)
  | 0, _, _, _ => none
  | n + 1, x1, x3, M =>
    if x3 < x1 then
      bd (f_X11_come (10 * x3) M) fun _ M17 =>
      vl (x3 + 1) fun v19 =>
      f_X11_groups_133 n x1 v19 M17
    else
      ml (up M 174 28 0) fun M14 =>
      ml (up M14 174 57 ((M14 174 57) + 1)) fun M15 =>
      some (x1, M15)
set_option maxRecDepth 100000 in
theorem w_X11_groups_133 {R : Int32} {M' : Mem}  : ∀ (n : Nat) (x1 x3 : Int32) (M : Mem), f_X11_groups_133 n x1 x3 M = some (R, M') → RunF l D cy ad none YX11_groups 5 0 0 (some (.int R)) (lay X M') 0 0 133 [(0, .ref 174), (1, .int x1), (3, .int x3)] [] (lay X M) := by
  intro n
  induction n with
  | zero => intro x1 x3 M hF; exact absurd hF (by unfold f_X11_groups_133; exact fun h => nomatch h)
  | succ n ih =>
    intro x1 x3 M hF
    unfold f_X11_groups_133 at hF
    refine g_iload_n (Y := YX11_groups) (pc := 133) 2 dX11_groups_133 rfl ?_
    refine g_iload_n (Y := YX11_groups) (pc := 134) 1 dX11_groups_134 rfl ?_
    refine g_icmp_ge (Y := YX11_groups) (pc := 135) (tgt := 152) dX11_groups_135 rfl (fun c13 => ?_) (fun c13 => ?_)
    · replace hF := if_f c13 hF
      refine g_aload_n (Y := YX11_groups) (pc := 152) 0 dX11_groups_152 rfl ?_
      refine g_iconst (Y := YX11_groups) (pc := 153) dX11_groups_153 kI_0 ?_
      refine u_putI (Y := YX11_groups) (pc := 154) dX11_groups_154 fl_X11_153  k_174 ?_
      refine g_nmM (fun M14 e => ?_)
      replace hF := ml_to e hF; clear e
      refine g_aload_n (Y := YX11_groups) (pc := 157) 0 dX11_groups_157 rfl ?_
      refine g_dup (Y := YX11_groups) (pc := 158) dX11_groups_158 rfl ?_
      refine u_getI (Y := YX11_groups) (pc := 159) dX11_groups_159 fl_X11_178 k_174 ?_
      refine g_iconst (Y := YX11_groups) (pc := 162) dX11_groups_162 kI_1 ?_
      refine g_iadd (Y := YX11_groups) (pc := 163) dX11_groups_163 ?_
      refine u_putI (Y := YX11_groups) (pc := 164) dX11_groups_164 fl_X11_178  k_174 ?_
      refine g_nmM (fun M15 e => ?_)
      replace hF := ml_to e hF; clear e
      refine g_iload_n (Y := YX11_groups) (pc := 167) 1 dX11_groups_167 rfl ?_
      exact s_iret (Y := YX11_groups) (pc := 168) dX11_groups_168 rfl hF
    · replace hF := if_t c13 hF
      refine g_aload_n (Y := YX11_groups) (pc := 138) 0 dX11_groups_138 rfl ?_
      refine g_bipush (Y := YX11_groups) (pc := 139) dX11_groups_139 kB_10 ?_
      refine g_iload_n (Y := YX11_groups) (pc := 141) 2 dX11_groups_141 rfl ?_
      refine g_imul (Y := YX11_groups) (pc := 142) dX11_groups_142 ?_
      obtain ⟨r16, M17, e18, hF⟩ := bd_some hF
      refine s_callVv (Y := YX11_groups) (pc := 143) (as := [.int (10 * x3)]) (st := []) (r_X11_come  e18) miX11_come lk_X11_175 dX11_groups_143 k_174 rfl (Nat.le_of_ble_eq_true rfl) (Nat.le_of_ble_eq_true rfl) rfl ?_
      clear e18
      refine s_iinc (Y := YX11_groups) (pc := 146) (j := 2) (L' := fun y => [(3, .int y), (0, .ref 174), (1, .int x1)]) dX11_groups_146 kI_1 rfl (Nat.le_of_ble_eq_true rfl) (fun _ => rfl) (fun v19 e => ?_)
      replace hF := vl_to e hF; clear e
      refine g_goto (Y := YX11_groups) (pc := 149) (tgt := 133) dX11_groups_149 rfl ?_
      refine g_loc [1, 2, 0] rfl ?_
      exact ih _ _ _ hF
def f_X11_groups_117  (x1 : Int32) (M : Mem) : Option (Int32 × Mem) :=
  bd (f_X11_fine M) fun r9 M10 =>
  if r9 = 0 then
    some (((-1) - (M10 174 19)), M10)
  else
    f_X11_groups_133 FU x1 0 M10
set_option maxRecDepth 100000 in
theorem w_X11_groups_117 {R : Int32} {M' : Mem}  (x1 : Int32) (M : Mem) (hF : f_X11_groups_117 x1 M = some (R, M')) : RunF l D cy ad none YX11_groups 5 0 0 (some (.int R)) (lay X M') 0 0 117 [(0, .ref 174), (1, .int x1)] [] (lay X M) := by
  unfold f_X11_groups_117 at hF
  refine g_aload_n (Y := YX11_groups) (pc := 117) 0 dX11_groups_117 rfl ?_
  obtain ⟨r9, M10, e11, hF⟩ := bd_some hF
  refine s_callVi (Y := YX11_groups) (pc := 118) (as := []) (st := []) (r_X11_fine  e11) miX11_fine lk_X11_134 dX11_groups_118 k_174 rfl (Nat.le_of_ble_eq_true rfl) (Nat.le_of_ble_eq_true rfl) rfl ?_
  clear e11
  refine g_if_ne (Y := YX11_groups) (pc := 121) (tgt := 131) dX11_groups_121 rfl (fun c12 => ?_) (fun c12 => ?_)
  · replace hF := if_f c12 hF
    refine g_iconst (Y := YX11_groups) (pc := 131) dX11_groups_131 kI_0 ?_
    refine g_istore_n (Y := YX11_groups) (pc := 132) (L' := [(3, .int 0), (0, .ref 174), (1, .int x1)]) dX11_groups_132 (Nat.le_of_ble_eq_true rfl) rfl ?_
    refine g_loc [1, 2, 0] rfl ?_
    exact w_X11_groups_133  _ _ _ _ hF
  · replace hF := if_t c12 hF
    refine g_iconst (Y := YX11_groups) (pc := 124) dX11_groups_124 kI_m1 ?_
    refine g_aload_n (Y := YX11_groups) (pc := 125) 0 dX11_groups_125 rfl ?_
    refine u_getI (Y := YX11_groups) (pc := 126) dX11_groups_126 fl_X11_131 k_174 ?_
    refine g_isub (Y := YX11_groups) (pc := 129) dX11_groups_129 ?_
    exact s_iret (Y := YX11_groups) (pc := 130) dX11_groups_130 rfl hF
def f_X11_groups_98  (x1 : Int32) (M : Mem) : Option (Int32 × Mem) :=
  if (M 174 18) < (M 174 16) then
    bd (f_X11_fault (M 174 18) M) fun _ M21 =>
    f_X11_groups_117 x1 M21
  else
    f_X11_groups_117 x1 M
set_option maxRecDepth 100000 in
theorem w_X11_groups_98 {R : Int32} {M' : Mem}  (x1 : Int32) (M : Mem) (hF : f_X11_groups_98 x1 M = some (R, M')) : RunF l D cy ad none YX11_groups 5 0 0 (some (.int R)) (lay X M') 0 0 98 [(0, .ref 174), (1, .int x1)] [] (lay X M) := by
  unfold f_X11_groups_98 at hF
  refine g_aload_n (Y := YX11_groups) (pc := 98) 0 dX11_groups_98 rfl ?_
  refine u_getI (Y := YX11_groups) (pc := 99) dX11_groups_99 fl_X11_128 k_174 ?_
  refine g_aload_n (Y := YX11_groups) (pc := 102) 0 dX11_groups_102 rfl ?_
  refine u_getI (Y := YX11_groups) (pc := 103) dX11_groups_103 fl_X11_122 k_174 ?_
  refine g_icmp_ge (Y := YX11_groups) (pc := 106) (tgt := 117) dX11_groups_106 rfl (fun c8 => ?_) (fun c8 => ?_)
  · replace hF := if_f c8 hF
    exact w_X11_groups_117  _ _ hF
  · replace hF := if_t c8 hF
    refine g_aload_n (Y := YX11_groups) (pc := 109) 0 dX11_groups_109 rfl ?_
    refine g_aload_n (Y := YX11_groups) (pc := 110) 0 dX11_groups_110 rfl ?_
    refine u_getI (Y := YX11_groups) (pc := 111) dX11_groups_111 fl_X11_128 k_174 ?_
    obtain ⟨r20, M21, e22, hF⟩ := bd_some hF
    refine s_callVv (Y := YX11_groups) (pc := 114) (as := [.int (M 174 18)]) (st := []) (r_X11_fault  e22) miX11_fault lk_X11_142 dX11_groups_114 k_174 rfl (Nat.le_of_ble_eq_true rfl) (Nat.le_of_ble_eq_true rfl) rfl ?_
    clear e22
    exact w_X11_groups_117  _ _ hF
def f_X11_groups_85 (K37 : Int32 → Int32 → Mem → Option (Int32 × Mem)) (x1 : Int32) (M : Mem) : Option (Int32 × Mem) :=
  vl (x1 + 1) fun v31 =>
  bd (f_X11_passes 59 M) fun r32 M33 =>
  K37 v31 r32 M33
set_option maxRecDepth 100000 in
theorem w_X11_groups_85 {R : Int32} {M' : Mem} {K37 : Int32 → Int32 → Mem → Option (Int32 × Mem)} (hK37 : ∀ (x1 x2 : Int32) (M : Mem), K37 x1 x2 M = some (R, M') → RunF l D cy ad none YX11_groups 5 0 0 (some (.int R)) (lay X M') 0 0 37 [(0, .ref 174), (1, .int x1), (2, .int x2)] [] (lay X M)) (x1 : Int32) (M : Mem) (hF : f_X11_groups_85 K37 x1 M = some (R, M')) : RunF l D cy ad none YX11_groups 5 0 0 (some (.int R)) (lay X M') 0 0 85 [(0, .ref 174), (1, .int x1)] [] (lay X M) := by
  unfold f_X11_groups_85 at hF
  refine s_iinc (Y := YX11_groups) (pc := 85) (j := 1) (L' := fun y => [(1, .int y), (0, .ref 174)]) dX11_groups_85 kI_1 rfl (Nat.le_of_ble_eq_true rfl) (fun _ => rfl) (fun v31 e => ?_)
  replace hF := vl_to e hF; clear e
  refine g_aload_n (Y := YX11_groups) (pc := 88) 1 dX11_groups_88 rfl ?_
  refine g_bipush (Y := YX11_groups) (pc := 89) dX11_groups_89 kB_59 ?_
  obtain ⟨r32, M33, e34, hF⟩ := bd_some hF
  refine s_callVi (Y := YX11_groups) (pc := 91) (as := [.int 59]) (st := []) (r_X11_passes  e34) miX11_passes lk_X11_171 dX11_groups_91 k_174 rfl (Nat.le_of_ble_eq_true rfl) (Nat.le_of_ble_eq_true rfl) rfl ?_
  clear e34
  refine g_istore_n (Y := YX11_groups) (pc := 94) (L' := [(2, .int r32), (1, .int v31), (0, .ref 174)]) dX11_groups_94 (Nat.le_of_ble_eq_true rfl) rfl ?_
  refine g_goto (Y := YX11_groups) (pc := 95) (tgt := 37) dX11_groups_95 rfl ?_
  refine g_loc [2, 1, 0] rfl ?_
  exact hK37 _ _ _ hF
def f_X11_groups_66 (K37 : Int32 → Int32 → Mem → Option (Int32 × Mem)) (x1 : Int32) (M : Mem) : Option (Int32 × Mem) :=
  bd (f_X11_fault (M 174 18) M) fun _ M29 =>
  f_X11_groups_85 K37 x1 M29
set_option maxRecDepth 100000 in
theorem w_X11_groups_66 {R : Int32} {M' : Mem} {K37 : Int32 → Int32 → Mem → Option (Int32 × Mem)} (hK37 : ∀ (x1 x2 : Int32) (M : Mem), K37 x1 x2 M = some (R, M') → RunF l D cy ad none YX11_groups 5 0 0 (some (.int R)) (lay X M') 0 0 37 [(0, .ref 174), (1, .int x1), (2, .int x2)] [] (lay X M)) (x1 : Int32) (M : Mem) (hF : f_X11_groups_66 K37 x1 M = some (R, M')) : RunF l D cy ad none YX11_groups 5 0 0 (some (.int R)) (lay X M') 0 0 66 [(0, .ref 174), (1, .int x1)] [] (lay X M) := by
  unfold f_X11_groups_66 at hF
  refine g_aload_n (Y := YX11_groups) (pc := 66) 0 dX11_groups_66 rfl ?_
  refine g_aload_n (Y := YX11_groups) (pc := 67) 0 dX11_groups_67 rfl ?_
  refine u_getI (Y := YX11_groups) (pc := 68) dX11_groups_68 fl_X11_128 k_174 ?_
  obtain ⟨r28, M29, e30, hF⟩ := bd_some hF
  refine s_callVv (Y := YX11_groups) (pc := 71) (as := [.int (M 174 18)]) (st := []) (r_X11_fault  e30) miX11_fault lk_X11_142 dX11_groups_71 k_174 rfl (Nat.le_of_ble_eq_true rfl) (Nat.le_of_ble_eq_true rfl) rfl ?_
  clear e30
  refine g_goto (Y := YX11_groups) (pc := 74) (tgt := 85) dX11_groups_74 rfl ?_
  exact w_X11_groups_85 hK37 _ _ hF
def f_X11_groups_37  : Nat → Int32 → Int32 → Mem → Option (Int32 × Mem)
  | 0, _, _, _ => none
  | n + 1, x1, x2, M =>
    if x2 = 0 then
      f_X11_groups_98 x1 M
    else
      bd (f_X11_fine M) fun r23 M24 =>
      if r23 = 0 then
        f_X11_groups_98 x1 M24
      else
        if ((M24 174 3) + x1) = 6 then
          f_X11_groups_66 (f_X11_groups_37 n) x1 M24
        else
          if (M24 174 1) = 0 then
            f_X11_groups_66 (f_X11_groups_37 n) x1 M24
          else
            bd (f_X11_readGroup (10 * x1) M24) fun _ M37 =>
            f_X11_groups_85 (f_X11_groups_37 n) x1 M37
set_option maxRecDepth 100000 in
theorem w_X11_groups_37 {R : Int32} {M' : Mem}  : ∀ (n : Nat) (x1 x2 : Int32) (M : Mem), f_X11_groups_37 n x1 x2 M = some (R, M') → RunF l D cy ad none YX11_groups 5 0 0 (some (.int R)) (lay X M') 0 0 37 [(0, .ref 174), (1, .int x1), (2, .int x2)] [] (lay X M) := by
  intro n
  induction n with
  | zero => intro x1 x2 M hF; exact absurd hF (by unfold f_X11_groups_37; exact fun h => nomatch h)
  | succ n ih =>
    intro x1 x2 M hF
    unfold f_X11_groups_37 at hF
    refine g_iload_n (Y := YX11_groups) (pc := 37) 2 dX11_groups_37 rfl ?_
    refine g_if_eq (Y := YX11_groups) (pc := 38) (tgt := 98) dX11_groups_38 rfl (fun c7 => ?_) (fun c7 => ?_)
    · replace hF := if_t c7 hF
      refine g_loc [0, 1] rfl ?_
      exact w_X11_groups_98  _ _ hF
    · replace hF := if_f c7 hF
      refine g_aload_n (Y := YX11_groups) (pc := 41) 0 dX11_groups_41 rfl ?_
      obtain ⟨r23, M24, e25, hF⟩ := bd_some hF
      refine s_callVi (Y := YX11_groups) (pc := 42) (as := []) (st := []) (r_X11_fine  e25) miX11_fine lk_X11_134 dX11_groups_42 k_174 rfl (Nat.le_of_ble_eq_true rfl) (Nat.le_of_ble_eq_true rfl) rfl ?_
      clear e25
      refine g_if_eq (Y := YX11_groups) (pc := 45) (tgt := 98) dX11_groups_45 rfl (fun c26 => ?_) (fun c26 => ?_)
      · replace hF := if_t c26 hF
        refine g_loc [0, 1] rfl ?_
        exact w_X11_groups_98  _ _ hF
      · replace hF := if_f c26 hF
        refine g_aload_n (Y := YX11_groups) (pc := 48) 0 dX11_groups_48 rfl ?_
        refine u_getI (Y := YX11_groups) (pc := 49) dX11_groups_49 fl_X11_113 k_174 ?_
        refine g_iload_n (Y := YX11_groups) (pc := 52) 1 dX11_groups_52 rfl ?_
        refine g_iadd (Y := YX11_groups) (pc := 53) dX11_groups_53 ?_
        refine g_bipush (Y := YX11_groups) (pc := 54) dX11_groups_54 kB_6 ?_
        refine g_icmp_eq (Y := YX11_groups) (pc := 56) (tgt := 66) dX11_groups_56 rfl (fun c27 => ?_) (fun c27 => ?_)
        · replace hF := if_t c27 hF
          refine g_loc [0, 1] rfl ?_
          exact w_X11_groups_66 ih _ _ hF
        · replace hF := if_f c27 hF
          refine g_aload_n (Y := YX11_groups) (pc := 59) 0 dX11_groups_59 rfl ?_
          refine u_getI (Y := YX11_groups) (pc := 60) dX11_groups_60 fl_X11_106 k_174 ?_
          refine g_if_ne (Y := YX11_groups) (pc := 63) (tgt := 77) dX11_groups_63 rfl (fun c35 => ?_) (fun c35 => ?_)
          · replace hF := if_f c35 hF
            refine g_aload_n (Y := YX11_groups) (pc := 77) 0 dX11_groups_77 rfl ?_
            refine g_bipush (Y := YX11_groups) (pc := 78) dX11_groups_78 kB_10 ?_
            refine g_iload_n (Y := YX11_groups) (pc := 80) 1 dX11_groups_80 rfl ?_
            refine g_imul (Y := YX11_groups) (pc := 81) dX11_groups_81 ?_
            obtain ⟨r36, M37, e38, hF⟩ := bd_some hF
            refine s_callVv (Y := YX11_groups) (pc := 82) (as := [.int (10 * x1)]) (st := []) (r_X11_readGroup  e38) miX11_readGroup lk_X11_168 dX11_groups_82 k_174 rfl (Nat.le_of_ble_eq_true rfl) (Nat.le_of_ble_eq_true rfl) rfl ?_
            clear e38
            refine g_loc [0, 1] rfl ?_
            exact w_X11_groups_85 ih _ _ hF
          · replace hF := if_t c35 hF
            refine g_loc [0, 1] rfl ?_
            exact w_X11_groups_66 ih _ _ hF
def f_X11_groups_0  (M : Mem) : Option (Int32 × Mem) :=
  ml (up M 174 14 0) fun M1 =>
  bd (f_X11_begin 183 (M1 174 11) 76 M1) fun _ M3 =>
  ml (up M3 174 11 0) fun M5 =>
  if (M5 174 16) = 0 then
    some (0, M5)
  else
    f_X11_groups_37 FU 0 1 M5
set_option maxRecDepth 100000 in
theorem w_X11_groups_0 {R : Int32} {M' : Mem}  (M : Mem) (hF : f_X11_groups_0  M = some (R, M')) : RunF l D cy ad none YX11_groups 5 0 0 (some (.int R)) (lay X M') 0 0 0 [(0, .ref 174)] [] (lay X M) := by
  unfold f_X11_groups_0 at hF
  refine g_aload_n (Y := YX11_groups) (pc := 0) 0 dX11_groups_0 rfl ?_
  refine g_iconst (Y := YX11_groups) (pc := 1) dX11_groups_1 kI_0 ?_
  refine u_putI (Y := YX11_groups) (pc := 2) dX11_groups_2 fl_X11_99  k_174 ?_
  refine g_nmM (fun M1 e => ?_)
  replace hF := ml_to e hF; clear e
  refine g_aload_n (Y := YX11_groups) (pc := 5) 0 dX11_groups_5 rfl ?_
  refine g_aload_n (Y := YX11_groups) (pc := 6) 0 dX11_groups_6 rfl ?_
  refine u_getR (Y := YX11_groups) (pc := 7) (j := 183) dX11_groups_7 fl_X11_35 k_174 rf_174_10 ?_
  refine g_aload_n (Y := YX11_groups) (pc := 10) 0 dX11_groups_10 rfl ?_
  refine u_getI (Y := YX11_groups) (pc := 11) dX11_groups_11 fl_X11_116 k_174 ?_
  refine g_bipush (Y := YX11_groups) (pc := 14) dX11_groups_14 kB_76 ?_
  obtain ⟨r2, M3, e4, hF⟩ := bd_some hF
  refine s_callVv (Y := YX11_groups) (pc := 16) (as := [.ref 183, .int (M1 174 11), .int 76]) (st := []) (r_X11_begin (Or.inl rfl) e4) miX11_begin lk_X11_164 dX11_groups_16 k_174 rfl (Nat.le_of_ble_eq_true rfl) (Nat.le_of_ble_eq_true rfl) rfl ?_
  clear e4
  refine g_aload_n (Y := YX11_groups) (pc := 19) 0 dX11_groups_19 rfl ?_
  refine g_iconst (Y := YX11_groups) (pc := 20) dX11_groups_20 kI_0 ?_
  refine u_putI (Y := YX11_groups) (pc := 21) dX11_groups_21 fl_X11_116  k_174 ?_
  refine g_nmM (fun M5 e => ?_)
  replace hF := ml_to e hF; clear e
  refine g_aload_n (Y := YX11_groups) (pc := 24) 0 dX11_groups_24 rfl ?_
  refine u_getI (Y := YX11_groups) (pc := 25) dX11_groups_25 fl_X11_122 k_174 ?_
  refine g_if_ne (Y := YX11_groups) (pc := 28) (tgt := 33) dX11_groups_28 rfl (fun c6 => ?_) (fun c6 => ?_)
  · replace hF := if_f c6 hF
    refine g_iconst (Y := YX11_groups) (pc := 33) dX11_groups_33 kI_0 ?_
    refine g_istore_n (Y := YX11_groups) (pc := 34) (L' := [(1, .int 0), (0, .ref 174)]) dX11_groups_34 (Nat.le_of_ble_eq_true rfl) rfl ?_
    refine g_iconst (Y := YX11_groups) (pc := 35) dX11_groups_35 kI_1 ?_
    refine g_istore_n (Y := YX11_groups) (pc := 36) (L' := [(2, .int 1), (1, .int 0), (0, .ref 174)]) dX11_groups_36 (Nat.le_of_ble_eq_true rfl) rfl ?_
    refine g_loc [2, 1, 0] rfl ?_
    exact w_X11_groups_37  _ _ _ _ hF
  · replace hF := if_t c6 hF
    refine g_iconst (Y := YX11_groups) (pc := 31) dX11_groups_31 kI_0 ?_
    exact s_iret (Y := YX11_groups) (pc := 32) dX11_groups_32 rfl hF
def f_X11_groups (M : Mem) : Option (Int32 × Mem) := f_X11_groups_0 M
theorem r_X11_groups {R : Int32} {M M' : Mem}  (hF : f_X11_groups  M = some (R, M')) : RunS l D cy ad YX11_groups 5 [.ref 174] X M (some (.int R)) M' := Run.of 0 (miX11_groups).1 (Nat.le_of_ble_eq_true rfl) (w_X11_groups_0  _ hF)
def f_X11_valueOf_107  (t0 : Int32) (M : Mem) : Option (Int32 × Mem) :=
  some (t0, M)
set_option maxRecDepth 100000 in
theorem w_X11_valueOf_107 {R : Int32} {M' : Mem}  (t0 : Int32) (M : Mem) (hF : f_X11_valueOf_107 t0 M = some (R, M')) : RunF l D cy ad none YX11_valueOf 0 0 0 (some (.int R)) (lay X M') 0 0 107 [] [.int t0] (lay X M) := by
  unfold f_X11_valueOf_107 at hF
  exact s_iret (Y := YX11_valueOf) (pc := 107) dX11_valueOf_107 rfl hF
def f_X11_valueOf_125  (t0 : Int32) (M : Mem) : Option (Int32 × Mem) :=
  some (t0, M)
set_option maxRecDepth 100000 in
theorem w_X11_valueOf_125 {R : Int32} {M' : Mem}  (t0 : Int32) (M : Mem) (hF : f_X11_valueOf_125 t0 M = some (R, M')) : RunF l D cy ad none YX11_valueOf 0 0 0 (some (.int R)) (lay X M') 0 0 125 [] [.int t0] (lay X M) := by
  unfold f_X11_valueOf_125 at hF
  exact s_iret (Y := YX11_valueOf) (pc := 125) dX11_valueOf_125 rfl hF
def f_X11_valueOf_0  (x1 : Int32) (M : Mem) : Option (Int32 × Mem) :=
  if x1 = 99 then
    gd (0 ≤ (M 174 25) ∧ (M 174 25).toNatClampNeg < 6) <|
    if (M 176 (M 174 25).toNatClampNeg) = 0 then
      f_X11_valueOf_107 0 M
    else
      f_X11_valueOf_107 1 M
  else
    if x1 = 105 then
      some ((M 174 24), M)
    else
      if x1 = 114 then
        some ((M 174 25), M)
      else
        if x1 = 115 then
          gd (0 ≤ ((6 * (M 174 24)) + (M 174 25)) ∧ ((6 * (M 174 24)) + (M 174 25)).toNatClampNeg < 36) <|
          vl ((M 181 ((6 * (M 174 24)) + (M 174 25)).toNatClampNeg)) fun v8 =>
          some (v8, M)
        else
          if x1 = 122 then
            gd (0 ≤ (M 174 24) ∧ (M 174 24).toNatClampNeg < 6) <|
            some ((M 179 (M 174 24).toNatClampNeg), M)
          else
            gd (0 ≤ (M 174 24) ∧ (M 174 24).toNatClampNeg < 6) <|
            if (M 180 (M 174 24).toNatClampNeg) = 0 then
              f_X11_valueOf_125 0 M
            else
              f_X11_valueOf_125 1 M
set_option maxRecDepth 100000 in
theorem w_X11_valueOf_0 {R : Int32} {M' : Mem}  (x1 : Int32) (M : Mem) (hF : f_X11_valueOf_0 x1 M = some (R, M')) : RunF l D cy ad none YX11_valueOf 0 0 0 (some (.int R)) (lay X M') 0 0 0 [(0, .ref 174), (1, .int x1)] [] (lay X M) := by
  unfold f_X11_valueOf_0 at hF
  refine g_iload_n (Y := YX11_valueOf) (pc := 0) 1 dX11_valueOf_0 rfl ?_
  by_cases c1 : x1 = 99
  · replace hF := if_t c1 hF
    refine g_lookup (Y := YX11_valueOf) (pc := 1) (tgt := 90) dX11_valueOf_1 (by decide) (off := 89) (by rw [c1]; decide) (by decide) ?_
    refine g_aload_n (Y := YX11_valueOf) (pc := 90) 0 dX11_valueOf_90 rfl ?_
    refine u_getR (Y := YX11_valueOf) (pc := 91) (j := 176) dX11_valueOf_91 fl_X11_13 k_174 rf_174_2 ?_
    refine g_aload_n (Y := YX11_valueOf) (pc := 94) 0 dX11_valueOf_94 rfl ?_
    refine u_getI (Y := YX11_valueOf) (pc := 95) dX11_valueOf_95 fl_X11_203 k_174 ?_
    obtain ⟨g2, hF⟩ := gd_some hF
    refine s_zald (Y := YX11_valueOf) (pc := 98) dX11_valueOf_98 k_176 n_176 g2 ?_
    refine g_if_eq (Y := YX11_valueOf) (pc := 99) (tgt := 106) dX11_valueOf_99 rfl (fun c3 => ?_) (fun c3 => ?_)
    · replace hF := if_t c3 hF
      refine g_iconst (Y := YX11_valueOf) (pc := 106) dX11_valueOf_106 kI_0 ?_
      refine g_loc [] rfl ?_
      exact w_X11_valueOf_107  _ _ hF
    · replace hF := if_f c3 hF
      refine g_iconst (Y := YX11_valueOf) (pc := 102) dX11_valueOf_102 kI_1 ?_
      refine g_goto (Y := YX11_valueOf) (pc := 103) (tgt := 107) dX11_valueOf_103 rfl ?_
      refine g_loc [] rfl ?_
      exact w_X11_valueOf_107  _ _ hF
  replace hF := if_f c1 hF
  by_cases c4 : x1 = 105
  · replace hF := if_t c4 hF
    refine g_lookup (Y := YX11_valueOf) (pc := 1) (tgt := 85) dX11_valueOf_1 (by decide) (off := 84) (by rw [c4]; decide) (by decide) ?_
    refine g_aload_n (Y := YX11_valueOf) (pc := 85) 0 dX11_valueOf_85 rfl ?_
    refine u_getI (Y := YX11_valueOf) (pc := 86) dX11_valueOf_86 fl_X11_200 k_174 ?_
    exact s_iret (Y := YX11_valueOf) (pc := 89) dX11_valueOf_89 rfl hF
  replace hF := if_f c4 hF
  by_cases c5 : x1 = 114
  · replace hF := if_t c5 hF
    refine g_lookup (Y := YX11_valueOf) (pc := 1) (tgt := 80) dX11_valueOf_1 (by decide) (off := 79) (by rw [c5]; decide) (by decide) ?_
    refine g_aload_n (Y := YX11_valueOf) (pc := 80) 0 dX11_valueOf_80 rfl ?_
    refine u_getI (Y := YX11_valueOf) (pc := 81) dX11_valueOf_81 fl_X11_203 k_174 ?_
    exact s_iret (Y := YX11_valueOf) (pc := 84) dX11_valueOf_84 rfl hF
  replace hF := if_f c5 hF
  by_cases c6 : x1 = 115
  · replace hF := if_t c6 hF
    refine g_lookup (Y := YX11_valueOf) (pc := 1) (tgt := 52) dX11_valueOf_1 (by decide) (off := 51) (by rw [c6]; decide) (by decide) ?_
    refine g_aload_n (Y := YX11_valueOf) (pc := 52) 0 dX11_valueOf_52 rfl ?_
    refine u_getR (Y := YX11_valueOf) (pc := 53) (j := 181) dX11_valueOf_53 fl_X11_29 k_174 rf_174_8 ?_
    refine g_bipush (Y := YX11_valueOf) (pc := 56) dX11_valueOf_56 kB_6 ?_
    refine g_aload_n (Y := YX11_valueOf) (pc := 58) 0 dX11_valueOf_58 rfl ?_
    refine u_getI (Y := YX11_valueOf) (pc := 59) dX11_valueOf_59 fl_X11_200 k_174 ?_
    refine g_imul (Y := YX11_valueOf) (pc := 62) dX11_valueOf_62 ?_
    refine g_aload_n (Y := YX11_valueOf) (pc := 63) 0 dX11_valueOf_63 rfl ?_
    refine u_getI (Y := YX11_valueOf) (pc := 64) dX11_valueOf_64 fl_X11_203 k_174 ?_
    refine g_iadd (Y := YX11_valueOf) (pc := 67) dX11_valueOf_67 ?_
    obtain ⟨g7, hF⟩ := gd_some hF
    refine s_iald (Y := YX11_valueOf) (pc := 68) dX11_valueOf_68 k_181 n_181 g7 ?_
    refine g_nm (fun v8 e => ?_)
    replace hF := vl_to e hF; clear e
    exact s_iret (Y := YX11_valueOf) (pc := 69) dX11_valueOf_69 rfl hF
  replace hF := if_f c6 hF
  by_cases c9 : x1 = 122
  · replace hF := if_t c9 hF
    refine g_lookup (Y := YX11_valueOf) (pc := 1) (tgt := 70) dX11_valueOf_1 (by decide) (off := 69) (by rw [c9]; decide) (by decide) ?_
    refine g_aload_n (Y := YX11_valueOf) (pc := 70) 0 dX11_valueOf_70 rfl ?_
    refine u_getR (Y := YX11_valueOf) (pc := 71) (j := 179) dX11_valueOf_71 fl_X11_23 k_174 rf_174_6 ?_
    refine g_aload_n (Y := YX11_valueOf) (pc := 74) 0 dX11_valueOf_74 rfl ?_
    refine u_getI (Y := YX11_valueOf) (pc := 75) dX11_valueOf_75 fl_X11_200 k_174 ?_
    obtain ⟨g10, hF⟩ := gd_some hF
    refine s_iald (Y := YX11_valueOf) (pc := 78) dX11_valueOf_78 k_179 n_179 g10 ?_
    exact s_iret (Y := YX11_valueOf) (pc := 79) dX11_valueOf_79 rfl hF
  replace hF := if_f c9 hF
  refine g_lookup (Y := YX11_valueOf) (pc := 1) (tgt := 108) dX11_valueOf_1 (by decide) (off := 107) (lk_out ⟨ne_ti c1 (by decide), ne_ti c4 (by decide), ne_ti c5 (by decide), ne_ti c6 (by decide), ne_ti c9 (by decide), trivial⟩) (by decide) ?_
  refine g_aload_n (Y := YX11_valueOf) (pc := 108) 0 dX11_valueOf_108 rfl ?_
  refine u_getR (Y := YX11_valueOf) (pc := 109) (j := 180) dX11_valueOf_109 fl_X11_26 k_174 rf_174_7 ?_
  refine g_aload_n (Y := YX11_valueOf) (pc := 112) 0 dX11_valueOf_112 rfl ?_
  refine u_getI (Y := YX11_valueOf) (pc := 113) dX11_valueOf_113 fl_X11_200 k_174 ?_
  obtain ⟨g11, hF⟩ := gd_some hF
  refine s_zald (Y := YX11_valueOf) (pc := 116) dX11_valueOf_116 k_180 n_180 g11 ?_
  refine g_if_eq (Y := YX11_valueOf) (pc := 117) (tgt := 124) dX11_valueOf_117 rfl (fun c12 => ?_) (fun c12 => ?_)
  · replace hF := if_t c12 hF
    refine g_iconst (Y := YX11_valueOf) (pc := 124) dX11_valueOf_124 kI_0 ?_
    refine g_loc [] rfl ?_
    exact w_X11_valueOf_125  _ _ hF
  · replace hF := if_f c12 hF
    refine g_iconst (Y := YX11_valueOf) (pc := 120) dX11_valueOf_120 kI_1 ?_
    refine g_goto (Y := YX11_valueOf) (pc := 121) (tgt := 125) dX11_valueOf_121 rfl ?_
    refine g_loc [] rfl ?_
    exact w_X11_valueOf_125  _ _ hF
def f_X11_valueOf (x1 : Int32) (M : Mem) : Option (Int32 × Mem) := f_X11_valueOf_0 x1 M
theorem r_X11_valueOf {x1 R : Int32} {M M' : Mem}  (hF : f_X11_valueOf x1 M = some (R, M')) : RunS l D cy ad YX11_valueOf 0 [.ref 174, .int x1] X M (some (.int R)) M' := Run.of 1 (miX11_valueOf).1 (Nat.le_of_ble_eq_true rfl) (w_X11_valueOf_0  _ _ hF)
def f_X11_product_91 (T : Int32 → Mem → Option (Int32 × Mem)) (x2 : Int32) (M : Mem) : Option (Int32 × Mem) :=
  some (x2, M)
set_option maxRecDepth 100000 in
theorem w_X11_product_91 {T : Int32 → Mem → Option (Int32 × Mem)} {R : Int32} {M' : Mem} (hT : ∀ (y0 : Int32) (M : Mem) (R : Int32) (M' : Mem), T y0 M = some (R, M') → RunS l D cy ad YX11_thing dT [.ref 174, .int y0] X M (some (.int R)) M') (x2 : Int32) (M : Mem) (hF : f_X11_product_91 T x2 M = some (R, M')) : RunF l D cy ad none YX11_product (dT + 1) 0 0 (some (.int R)) (lay X M') 0 0 91 [(2, .int x2)] [] (lay X M) := by
  unfold f_X11_product_91 at hF
  refine g_iload_n (Y := YX11_product) (pc := 91) 0 dX11_product_91 rfl ?_
  exact s_iret (Y := YX11_product) (pc := 92) dX11_product_92 rfl hF
def f_X11_product_87 (T : Int32 → Mem → Option (Int32 × Mem)) (K6 : Int32 → Int32 → Mem → Option (Int32 × Mem)) (x1 : Int32) (t0 : Int32) (M : Mem) : Option (Int32 × Mem) :=
  K6 x1 t0 M
set_option maxRecDepth 100000 in
theorem w_X11_product_87 {T : Int32 → Mem → Option (Int32 × Mem)} {R : Int32} {M' : Mem} {K6 : Int32 → Int32 → Mem → Option (Int32 × Mem)} (hT : ∀ (y0 : Int32) (M : Mem) (R : Int32) (M' : Mem), T y0 M = some (R, M') → RunS l D cy ad YX11_thing dT [.ref 174, .int y0] X M (some (.int R)) M') (hK6 : ∀ (x1 x2 : Int32) (M : Mem), K6 x1 x2 M = some (R, M') → RunF l D cy ad none YX11_product (dT + 1) 0 0 (some (.int R)) (lay X M') 0 0 6 [(0, .ref 174), (1, .int x1), (2, .int x2)] [] (lay X M)) (x1 t0 : Int32) (M : Mem) (hF : f_X11_product_87 T K6 x1 t0 M = some (R, M')) : RunF l D cy ad none YX11_product (dT + 1) 0 0 (some (.int R)) (lay X M') 0 0 87 [(0, .ref 174), (1, .int x1)] [.int t0] (lay X M) := by
  unfold f_X11_product_87 at hF
  refine g_istore_n (Y := YX11_product) (pc := 87) (L' := [(2, .int t0), (0, .ref 174), (1, .int x1)]) dX11_product_87 (Nat.le_of_ble_eq_true rfl) rfl ?_
  refine g_goto (Y := YX11_product) (pc := 88) (tgt := 6) dX11_product_88 rfl ?_
  refine g_loc [1, 2, 0] rfl ?_
  exact hK6 _ _ _ hF
def f_X11_product_45 (T : Int32 → Mem → Option (Int32 × Mem)) (K6 : Int32 → Int32 → Mem → Option (Int32 × Mem)) (x1 : Int32) (x2 : Int32) (t0 : Int32) (M : Mem) : Option (Int32 × Mem) :=
  ml (up M 174 18 ((M 174 18) + 1)) fun M16 =>
  bd (T x1 M16) fun r17 M18 =>
  if t0 = 0 then
    if r17 = 0 then
      f_X11_product_87 T K6 x1 0 M18
    else
      gd (¬ r17 = 0) <|
      f_X11_product_87 T K6 x1 (x2 / r17) M18
  else
    f_X11_product_87 T K6 x1 (x2 * r17) M18
set_option maxRecDepth 100000 in
theorem w_X11_product_45 {T : Int32 → Mem → Option (Int32 × Mem)} {R : Int32} {M' : Mem} {K6 : Int32 → Int32 → Mem → Option (Int32 × Mem)} (hT : ∀ (y0 : Int32) (M : Mem) (R : Int32) (M' : Mem), T y0 M = some (R, M') → RunS l D cy ad YX11_thing dT [.ref 174, .int y0] X M (some (.int R)) M') (hK6 : ∀ (x1 x2 : Int32) (M : Mem), K6 x1 x2 M = some (R, M') → RunF l D cy ad none YX11_product (dT + 1) 0 0 (some (.int R)) (lay X M') 0 0 6 [(0, .ref 174), (1, .int x1), (2, .int x2)] [] (lay X M)) (x1 x2 t0 : Int32) (M : Mem) (hF : f_X11_product_45 T K6 x1 x2 t0 M = some (R, M')) : RunF l D cy ad none YX11_product (dT + 1) 0 0 (some (.int R)) (lay X M') 0 0 45 [(0, .ref 174), (1, .int x1), (2, .int x2)] [.int t0] (lay X M) := by
  unfold f_X11_product_45 at hF
  refine g_istore_n (Y := YX11_product) (pc := 45) (L' := [(3, .int t0), (0, .ref 174), (1, .int x1), (2, .int x2)]) dX11_product_45 (Nat.le_of_ble_eq_true rfl) rfl ?_
  refine g_aload_n (Y := YX11_product) (pc := 46) 1 dX11_product_46 rfl ?_
  refine g_dup (Y := YX11_product) (pc := 47) dX11_product_47 rfl ?_
  refine u_getI (Y := YX11_product) (pc := 48) dX11_product_48 fl_X11_128 k_174 ?_
  refine g_iconst (Y := YX11_product) (pc := 51) dX11_product_51 kI_1 ?_
  refine g_iadd (Y := YX11_product) (pc := 52) dX11_product_52 ?_
  refine u_putI (Y := YX11_product) (pc := 53) dX11_product_53 fl_X11_128  k_174 ?_
  refine g_nmM (fun M16 e => ?_)
  replace hF := ml_to e hF; clear e
  refine g_aload_n (Y := YX11_product) (pc := 56) 1 dX11_product_56 rfl ?_
  refine g_iload_n (Y := YX11_product) (pc := 57) 2 dX11_product_57 rfl ?_
  obtain ⟨r17, M18, e19, hF⟩ := bd_some hF
  refine s_callVi (Y := YX11_product) (pc := 58) (as := [.int x1]) (st := []) (hT _ _ _ _ e19) miX11_thing lk_X11_187 dX11_product_58 k_174 rfl (Nat.le_of_ble_eq_true rfl) (by omega) rfl ?_
  clear e19
  refine g_istore (Y := YX11_product) (pc := 61) (L' := [(4, .int r17), (3, .int t0), (0, .ref 174), (1, .int x1), (2, .int x2)]) dX11_product_61 (Nat.le_of_ble_eq_true rfl) rfl ?_
  refine g_iload_n (Y := YX11_product) (pc := 63) 1 dX11_product_63 rfl ?_
  refine g_if_eq (Y := YX11_product) (pc := 64) (tgt := 74) dX11_product_64 rfl (fun c20 => ?_) (fun c20 => ?_)
  · replace hF := if_t c20 hF
    refine g_iload (Y := YX11_product) (pc := 74) 0 dX11_product_74 rfl ?_
    refine g_if_ne (Y := YX11_product) (pc := 76) (tgt := 83) dX11_product_76 rfl (fun c21 => ?_) (fun c21 => ?_)
    · replace hF := if_f c21 hF
      refine g_iload_n (Y := YX11_product) (pc := 83) 4 dX11_product_83 rfl ?_
      refine g_iload (Y := YX11_product) (pc := 84) 0 dX11_product_84 rfl ?_
      obtain ⟨g22, hF⟩ := gd_some hF
      refine g_idiv (Y := YX11_product) (pc := 86) dX11_product_86 g22 ?_
      refine g_loc [2, 3] rfl ?_
      exact w_X11_product_87 hT hK6 _ _ _ hF
    · replace hF := if_t c21 hF
      refine g_iconst (Y := YX11_product) (pc := 79) dX11_product_79 kI_0 ?_
      refine g_goto (Y := YX11_product) (pc := 80) (tgt := 87) dX11_product_80 rfl ?_
      refine g_loc [2, 3] rfl ?_
      exact w_X11_product_87 hT hK6 _ _ _ hF
  · replace hF := if_f c20 hF
    refine g_iload_n (Y := YX11_product) (pc := 67) 4 dX11_product_67 rfl ?_
    refine g_iload (Y := YX11_product) (pc := 68) 0 dX11_product_68 rfl ?_
    refine g_imul (Y := YX11_product) (pc := 70) dX11_product_70 ?_
    refine g_goto (Y := YX11_product) (pc := 71) (tgt := 87) dX11_product_71 rfl ?_
    refine g_loc [2, 3] rfl ?_
    exact w_X11_product_87 hT hK6 _ _ _ hF
def f_X11_product_31 (T : Int32 → Mem → Option (Int32 × Mem)) (K6 : Int32 → Int32 → Mem → Option (Int32 × Mem)) (x1 : Int32) (x2 : Int32) (M : Mem) : Option (Int32 × Mem) :=
  bd (f_X11_here M) fun r12 M13 =>
  if r12 = 42 then
    f_X11_product_45 T K6 x1 x2 1 M13
  else
    f_X11_product_45 T K6 x1 x2 0 M13
set_option maxRecDepth 100000 in
theorem w_X11_product_31 {T : Int32 → Mem → Option (Int32 × Mem)} {R : Int32} {M' : Mem} {K6 : Int32 → Int32 → Mem → Option (Int32 × Mem)} (hT : ∀ (y0 : Int32) (M : Mem) (R : Int32) (M' : Mem), T y0 M = some (R, M') → RunS l D cy ad YX11_thing dT [.ref 174, .int y0] X M (some (.int R)) M') (hK6 : ∀ (x1 x2 : Int32) (M : Mem), K6 x1 x2 M = some (R, M') → RunF l D cy ad none YX11_product (dT + 1) 0 0 (some (.int R)) (lay X M') 0 0 6 [(0, .ref 174), (1, .int x1), (2, .int x2)] [] (lay X M)) (x1 x2 : Int32) (M : Mem) (hF : f_X11_product_31 T K6 x1 x2 M = some (R, M')) : RunF l D cy ad none YX11_product (dT + 1) 0 0 (some (.int R)) (lay X M') 0 0 31 [(0, .ref 174), (1, .int x1), (2, .int x2)] [] (lay X M) := by
  unfold f_X11_product_31 at hF
  refine g_aload_n (Y := YX11_product) (pc := 31) 0 dX11_product_31 rfl ?_
  obtain ⟨r12, M13, e14, hF⟩ := bd_some hF
  refine s_callVi (Y := YX11_product) (pc := 32) (as := []) (st := []) (r_X11_here  e14) miX11_here lk_X11_138 dX11_product_32 k_174 rfl (Nat.le_of_ble_eq_true rfl) (by omega) rfl ?_
  clear e14
  refine g_bipush (Y := YX11_product) (pc := 35) dX11_product_35 kB_42 ?_
  refine g_icmp_ne (Y := YX11_product) (pc := 37) (tgt := 44) dX11_product_37 rfl (fun c15 => ?_) (fun c15 => ?_)
  · replace hF := if_f c15 hF
    refine g_iconst (Y := YX11_product) (pc := 44) dX11_product_44 kI_0 ?_
    exact w_X11_product_45 hT hK6 _ _ _ _ hF
  · replace hF := if_t c15 hF
    refine g_iconst (Y := YX11_product) (pc := 40) dX11_product_40 kI_1 ?_
    refine g_goto (Y := YX11_product) (pc := 41) (tgt := 45) dX11_product_41 rfl ?_
    exact w_X11_product_45 hT hK6 _ _ _ _ hF
def f_X11_product_6 (T : Int32 → Mem → Option (Int32 × Mem)) : Nat → Int32 → Int32 → Mem → Option (Int32 × Mem)
  | 0, _, _, _ => none
  | n + 1, x1, x2, M =>
    bd (f_X11_fine M) fun r4 M5 =>
    if r4 = 0 then
      f_X11_product_91 T x2 M5
    else
      bd (f_X11_here M5) fun r8 M9 =>
      if r8 = 42 then
        f_X11_product_31 T (f_X11_product_6 T n) x1 x2 M9
      else
        bd (f_X11_here M9) fun r23 M24 =>
        if r23 = 47 then
          f_X11_product_31 T (f_X11_product_6 T n) x1 x2 M24
        else
          f_X11_product_91 T x2 M24
set_option maxRecDepth 100000 in
theorem w_X11_product_6 {T : Int32 → Mem → Option (Int32 × Mem)} {R : Int32} {M' : Mem} (hT : ∀ (y0 : Int32) (M : Mem) (R : Int32) (M' : Mem), T y0 M = some (R, M') → RunS l D cy ad YX11_thing dT [.ref 174, .int y0] X M (some (.int R)) M') : ∀ (n : Nat) (x1 x2 : Int32) (M : Mem), f_X11_product_6 T n x1 x2 M = some (R, M') → RunF l D cy ad none YX11_product (dT + 1) 0 0 (some (.int R)) (lay X M') 0 0 6 [(0, .ref 174), (1, .int x1), (2, .int x2)] [] (lay X M) := by
  intro n
  induction n with
  | zero => intro x1 x2 M hF; exact absurd hF (by unfold f_X11_product_6; exact fun h => nomatch h)
  | succ n ih =>
    intro x1 x2 M hF
    unfold f_X11_product_6 at hF
    refine g_aload_n (Y := YX11_product) (pc := 6) 0 dX11_product_6 rfl ?_
    obtain ⟨r4, M5, e6, hF⟩ := bd_some hF
    refine s_callVi (Y := YX11_product) (pc := 7) (as := []) (st := []) (r_X11_fine  e6) miX11_fine lk_X11_134 dX11_product_7 k_174 rfl (Nat.le_of_ble_eq_true rfl) (by omega) rfl ?_
    clear e6
    refine g_if_eq (Y := YX11_product) (pc := 10) (tgt := 91) dX11_product_10 rfl (fun c7 => ?_) (fun c7 => ?_)
    · replace hF := if_t c7 hF
      refine g_loc [2] rfl ?_
      exact w_X11_product_91 hT _ _ hF
    · replace hF := if_f c7 hF
      refine g_aload_n (Y := YX11_product) (pc := 13) 0 dX11_product_13 rfl ?_
      obtain ⟨r8, M9, e10, hF⟩ := bd_some hF
      refine s_callVi (Y := YX11_product) (pc := 14) (as := []) (st := []) (r_X11_here  e10) miX11_here lk_X11_138 dX11_product_14 k_174 rfl (Nat.le_of_ble_eq_true rfl) (by omega) rfl ?_
      clear e10
      refine g_bipush (Y := YX11_product) (pc := 17) dX11_product_17 kB_42 ?_
      refine g_icmp_eq (Y := YX11_product) (pc := 19) (tgt := 31) dX11_product_19 rfl (fun c11 => ?_) (fun c11 => ?_)
      · replace hF := if_t c11 hF
        exact w_X11_product_31 hT ih _ _ _ hF
      · replace hF := if_f c11 hF
        refine g_aload_n (Y := YX11_product) (pc := 22) 0 dX11_product_22 rfl ?_
        obtain ⟨r23, M24, e25, hF⟩ := bd_some hF
        refine s_callVi (Y := YX11_product) (pc := 23) (as := []) (st := []) (r_X11_here  e25) miX11_here lk_X11_138 dX11_product_23 k_174 rfl (Nat.le_of_ble_eq_true rfl) (by omega) rfl ?_
        clear e25
        refine g_bipush (Y := YX11_product) (pc := 26) dX11_product_26 kB_47 ?_
        refine g_icmp_ne (Y := YX11_product) (pc := 28) (tgt := 91) dX11_product_28 rfl (fun c26 => ?_) (fun c26 => ?_)
        · replace hF := if_f c26 hF
          refine g_loc [2] rfl ?_
          exact w_X11_product_91 hT _ _ hF
        · replace hF := if_t c26 hF
          exact w_X11_product_31 hT ih _ _ _ hF
def f_X11_product_0 (T : Int32 → Mem → Option (Int32 × Mem)) (x1 : Int32) (M : Mem) : Option (Int32 × Mem) :=
  bd (T x1 M) fun r1 M2 =>
  f_X11_product_6 T FU x1 r1 M2
set_option maxRecDepth 100000 in
theorem w_X11_product_0 {T : Int32 → Mem → Option (Int32 × Mem)} {R : Int32} {M' : Mem} (hT : ∀ (y0 : Int32) (M : Mem) (R : Int32) (M' : Mem), T y0 M = some (R, M') → RunS l D cy ad YX11_thing dT [.ref 174, .int y0] X M (some (.int R)) M') (x1 : Int32) (M : Mem) (hF : f_X11_product_0 T x1 M = some (R, M')) : RunF l D cy ad none YX11_product (dT + 1) 0 0 (some (.int R)) (lay X M') 0 0 0 [(0, .ref 174), (1, .int x1)] [] (lay X M) := by
  unfold f_X11_product_0 at hF
  refine g_aload_n (Y := YX11_product) (pc := 0) 0 dX11_product_0 rfl ?_
  refine g_iload_n (Y := YX11_product) (pc := 1) 1 dX11_product_1 rfl ?_
  obtain ⟨r1, M2, e3, hF⟩ := bd_some hF
  refine s_callVi (Y := YX11_product) (pc := 2) (as := [.int x1]) (st := []) (hT _ _ _ _ e3) miX11_thing lk_X11_187 dX11_product_2 k_174 rfl (Nat.le_of_ble_eq_true rfl) (by omega) rfl ?_
  clear e3
  refine g_istore_n (Y := YX11_product) (pc := 5) (L' := [(2, .int r1), (0, .ref 174), (1, .int x1)]) dX11_product_5 (Nat.le_of_ble_eq_true rfl) rfl ?_
  refine g_loc [1, 2, 0] rfl ?_
  exact w_X11_product_6 hT _ _ _ _ hF
def f_X11_product (T : Int32 → Mem → Option (Int32 × Mem)) (x1 : Int32) (M : Mem) : Option (Int32 × Mem) := f_X11_product_0 T x1 M
theorem r_X11_product {x1 R : Int32} {M M' : Mem} {T : Int32 → Mem → Option (Int32 × Mem)} (hT : ∀ (y0 : Int32) (M : Mem) (R : Int32) (M' : Mem), T y0 M = some (R, M') → RunS l D cy ad YX11_thing dT [.ref 174, .int y0] X M (some (.int R)) M') (hF : f_X11_product T x1 M = some (R, M')) : RunS l D cy ad YX11_product (dT + 1) [.ref 174, .int x1] X M (some (.int R)) M' := Run.of 1 (miX11_product).1 (Nat.le_of_ble_eq_true rfl) (w_X11_product_0 hT _ _ hF)
def f_X11_sum_82 (T : Int32 → Mem → Option (Int32 × Mem)) (x2 : Int32) (M : Mem) : Option (Int32 × Mem) :=
  some (x2, M)
set_option maxRecDepth 100000 in
theorem w_X11_sum_82 {T : Int32 → Mem → Option (Int32 × Mem)} {R : Int32} {M' : Mem} (hT : ∀ (y0 : Int32) (M : Mem) (R : Int32) (M' : Mem), T y0 M = some (R, M') → RunS l D cy ad YX11_thing dT [.ref 174, .int y0] X M (some (.int R)) M') (x2 : Int32) (M : Mem) (hF : f_X11_sum_82 T x2 M = some (R, M')) : RunF l D cy ad none YX11_sum (dT + 2) 0 0 (some (.int R)) (lay X M') 0 0 82 [(2, .int x2)] [] (lay X M) := by
  unfold f_X11_sum_82 at hF
  refine g_iload_n (Y := YX11_sum) (pc := 82) 0 dX11_sum_82 rfl ?_
  exact s_iret (Y := YX11_sum) (pc := 83) dX11_sum_83 rfl hF
def f_X11_sum_78 (T : Int32 → Mem → Option (Int32 × Mem)) (K6 : Int32 → Int32 → Mem → Option (Int32 × Mem)) (x1 : Int32) (t0 : Int32) (M : Mem) : Option (Int32 × Mem) :=
  K6 x1 t0 M
set_option maxRecDepth 100000 in
theorem w_X11_sum_78 {T : Int32 → Mem → Option (Int32 × Mem)} {R : Int32} {M' : Mem} {K6 : Int32 → Int32 → Mem → Option (Int32 × Mem)} (hT : ∀ (y0 : Int32) (M : Mem) (R : Int32) (M' : Mem), T y0 M = some (R, M') → RunS l D cy ad YX11_thing dT [.ref 174, .int y0] X M (some (.int R)) M') (hK6 : ∀ (x1 x2 : Int32) (M : Mem), K6 x1 x2 M = some (R, M') → RunF l D cy ad none YX11_sum (dT + 2) 0 0 (some (.int R)) (lay X M') 0 0 6 [(0, .ref 174), (1, .int x1), (2, .int x2)] [] (lay X M)) (x1 t0 : Int32) (M : Mem) (hF : f_X11_sum_78 T K6 x1 t0 M = some (R, M')) : RunF l D cy ad none YX11_sum (dT + 2) 0 0 (some (.int R)) (lay X M') 0 0 78 [(0, .ref 174), (1, .int x1)] [.int t0] (lay X M) := by
  unfold f_X11_sum_78 at hF
  refine g_istore_n (Y := YX11_sum) (pc := 78) (L' := [(2, .int t0), (0, .ref 174), (1, .int x1)]) dX11_sum_78 (Nat.le_of_ble_eq_true rfl) rfl ?_
  refine g_goto (Y := YX11_sum) (pc := 79) (tgt := 6) dX11_sum_79 rfl ?_
  refine g_loc [1, 2, 0] rfl ?_
  exact hK6 _ _ _ hF
def f_X11_sum_45 (T : Int32 → Mem → Option (Int32 × Mem)) (K6 : Int32 → Int32 → Mem → Option (Int32 × Mem)) (x1 : Int32) (x2 : Int32) (t0 : Int32) (M : Mem) : Option (Int32 × Mem) :=
  ml (up M 174 18 ((M 174 18) + 1)) fun M16 =>
  bd (f_X11_product T x1 M16) fun r17 M18 =>
  if t0 = 0 then
    f_X11_sum_78 T K6 x1 (x2 - r17) M18
  else
    f_X11_sum_78 T K6 x1 (x2 + r17) M18
set_option maxRecDepth 100000 in
theorem w_X11_sum_45 {T : Int32 → Mem → Option (Int32 × Mem)} {R : Int32} {M' : Mem} {K6 : Int32 → Int32 → Mem → Option (Int32 × Mem)} (hT : ∀ (y0 : Int32) (M : Mem) (R : Int32) (M' : Mem), T y0 M = some (R, M') → RunS l D cy ad YX11_thing dT [.ref 174, .int y0] X M (some (.int R)) M') (hK6 : ∀ (x1 x2 : Int32) (M : Mem), K6 x1 x2 M = some (R, M') → RunF l D cy ad none YX11_sum (dT + 2) 0 0 (some (.int R)) (lay X M') 0 0 6 [(0, .ref 174), (1, .int x1), (2, .int x2)] [] (lay X M)) (x1 x2 t0 : Int32) (M : Mem) (hF : f_X11_sum_45 T K6 x1 x2 t0 M = some (R, M')) : RunF l D cy ad none YX11_sum (dT + 2) 0 0 (some (.int R)) (lay X M') 0 0 45 [(0, .ref 174), (1, .int x1), (2, .int x2)] [.int t0] (lay X M) := by
  unfold f_X11_sum_45 at hF
  refine g_istore_n (Y := YX11_sum) (pc := 45) (L' := [(3, .int t0), (0, .ref 174), (1, .int x1), (2, .int x2)]) dX11_sum_45 (Nat.le_of_ble_eq_true rfl) rfl ?_
  refine g_aload_n (Y := YX11_sum) (pc := 46) 1 dX11_sum_46 rfl ?_
  refine g_dup (Y := YX11_sum) (pc := 47) dX11_sum_47 rfl ?_
  refine u_getI (Y := YX11_sum) (pc := 48) dX11_sum_48 fl_X11_128 k_174 ?_
  refine g_iconst (Y := YX11_sum) (pc := 51) dX11_sum_51 kI_1 ?_
  refine g_iadd (Y := YX11_sum) (pc := 52) dX11_sum_52 ?_
  refine u_putI (Y := YX11_sum) (pc := 53) dX11_sum_53 fl_X11_128  k_174 ?_
  refine g_nmM (fun M16 e => ?_)
  replace hF := ml_to e hF; clear e
  refine g_aload_n (Y := YX11_sum) (pc := 56) 1 dX11_sum_56 rfl ?_
  refine g_iload_n (Y := YX11_sum) (pc := 57) 2 dX11_sum_57 rfl ?_
  obtain ⟨r17, M18, e19, hF⟩ := bd_some hF
  refine s_callVi (Y := YX11_sum) (pc := 58) (as := [.int x1]) (st := []) (r_X11_product hT e19) miX11_product lk_X11_184 dX11_sum_58 k_174 rfl (Nat.le_of_ble_eq_true rfl) (by omega) rfl ?_
  clear e19
  refine g_istore (Y := YX11_sum) (pc := 61) (L' := [(4, .int r17), (3, .int t0), (0, .ref 174), (1, .int x1), (2, .int x2)]) dX11_sum_61 (Nat.le_of_ble_eq_true rfl) rfl ?_
  refine g_iload_n (Y := YX11_sum) (pc := 63) 1 dX11_sum_63 rfl ?_
  refine g_if_eq (Y := YX11_sum) (pc := 64) (tgt := 74) dX11_sum_64 rfl (fun c20 => ?_) (fun c20 => ?_)
  · replace hF := if_t c20 hF
    refine g_iload_n (Y := YX11_sum) (pc := 74) 4 dX11_sum_74 rfl ?_
    refine g_iload (Y := YX11_sum) (pc := 75) 0 dX11_sum_75 rfl ?_
    refine g_isub (Y := YX11_sum) (pc := 77) dX11_sum_77 ?_
    refine g_loc [2, 3] rfl ?_
    exact w_X11_sum_78 hT hK6 _ _ _ hF
  · replace hF := if_f c20 hF
    refine g_iload_n (Y := YX11_sum) (pc := 67) 4 dX11_sum_67 rfl ?_
    refine g_iload (Y := YX11_sum) (pc := 68) 0 dX11_sum_68 rfl ?_
    refine g_iadd (Y := YX11_sum) (pc := 70) dX11_sum_70 ?_
    refine g_goto (Y := YX11_sum) (pc := 71) (tgt := 78) dX11_sum_71 rfl ?_
    refine g_loc [2, 3] rfl ?_
    exact w_X11_sum_78 hT hK6 _ _ _ hF
def f_X11_sum_31 (T : Int32 → Mem → Option (Int32 × Mem)) (K6 : Int32 → Int32 → Mem → Option (Int32 × Mem)) (x1 : Int32) (x2 : Int32) (M : Mem) : Option (Int32 × Mem) :=
  bd (f_X11_here M) fun r12 M13 =>
  if r12 = 43 then
    f_X11_sum_45 T K6 x1 x2 1 M13
  else
    f_X11_sum_45 T K6 x1 x2 0 M13
set_option maxRecDepth 100000 in
theorem w_X11_sum_31 {T : Int32 → Mem → Option (Int32 × Mem)} {R : Int32} {M' : Mem} {K6 : Int32 → Int32 → Mem → Option (Int32 × Mem)} (hT : ∀ (y0 : Int32) (M : Mem) (R : Int32) (M' : Mem), T y0 M = some (R, M') → RunS l D cy ad YX11_thing dT [.ref 174, .int y0] X M (some (.int R)) M') (hK6 : ∀ (x1 x2 : Int32) (M : Mem), K6 x1 x2 M = some (R, M') → RunF l D cy ad none YX11_sum (dT + 2) 0 0 (some (.int R)) (lay X M') 0 0 6 [(0, .ref 174), (1, .int x1), (2, .int x2)] [] (lay X M)) (x1 x2 : Int32) (M : Mem) (hF : f_X11_sum_31 T K6 x1 x2 M = some (R, M')) : RunF l D cy ad none YX11_sum (dT + 2) 0 0 (some (.int R)) (lay X M') 0 0 31 [(0, .ref 174), (1, .int x1), (2, .int x2)] [] (lay X M) := by
  unfold f_X11_sum_31 at hF
  refine g_aload_n (Y := YX11_sum) (pc := 31) 0 dX11_sum_31 rfl ?_
  obtain ⟨r12, M13, e14, hF⟩ := bd_some hF
  refine s_callVi (Y := YX11_sum) (pc := 32) (as := []) (st := []) (r_X11_here  e14) miX11_here lk_X11_138 dX11_sum_32 k_174 rfl (Nat.le_of_ble_eq_true rfl) (by omega) rfl ?_
  clear e14
  refine g_bipush (Y := YX11_sum) (pc := 35) dX11_sum_35 kB_43 ?_
  refine g_icmp_ne (Y := YX11_sum) (pc := 37) (tgt := 44) dX11_sum_37 rfl (fun c15 => ?_) (fun c15 => ?_)
  · replace hF := if_f c15 hF
    refine g_iconst (Y := YX11_sum) (pc := 44) dX11_sum_44 kI_0 ?_
    exact w_X11_sum_45 hT hK6 _ _ _ _ hF
  · replace hF := if_t c15 hF
    refine g_iconst (Y := YX11_sum) (pc := 40) dX11_sum_40 kI_1 ?_
    refine g_goto (Y := YX11_sum) (pc := 41) (tgt := 45) dX11_sum_41 rfl ?_
    exact w_X11_sum_45 hT hK6 _ _ _ _ hF
def f_X11_sum_6 (T : Int32 → Mem → Option (Int32 × Mem)) : Nat → Int32 → Int32 → Mem → Option (Int32 × Mem)
  | 0, _, _, _ => none
  | n + 1, x1, x2, M =>
    bd (f_X11_fine M) fun r4 M5 =>
    if r4 = 0 then
      f_X11_sum_82 T x2 M5
    else
      bd (f_X11_here M5) fun r8 M9 =>
      if r8 = 43 then
        f_X11_sum_31 T (f_X11_sum_6 T n) x1 x2 M9
      else
        bd (f_X11_here M9) fun r21 M22 =>
        if r21 = 45 then
          f_X11_sum_31 T (f_X11_sum_6 T n) x1 x2 M22
        else
          f_X11_sum_82 T x2 M22
set_option maxRecDepth 100000 in
theorem w_X11_sum_6 {T : Int32 → Mem → Option (Int32 × Mem)} {R : Int32} {M' : Mem} (hT : ∀ (y0 : Int32) (M : Mem) (R : Int32) (M' : Mem), T y0 M = some (R, M') → RunS l D cy ad YX11_thing dT [.ref 174, .int y0] X M (some (.int R)) M') : ∀ (n : Nat) (x1 x2 : Int32) (M : Mem), f_X11_sum_6 T n x1 x2 M = some (R, M') → RunF l D cy ad none YX11_sum (dT + 2) 0 0 (some (.int R)) (lay X M') 0 0 6 [(0, .ref 174), (1, .int x1), (2, .int x2)] [] (lay X M) := by
  intro n
  induction n with
  | zero => intro x1 x2 M hF; exact absurd hF (by unfold f_X11_sum_6; exact fun h => nomatch h)
  | succ n ih =>
    intro x1 x2 M hF
    unfold f_X11_sum_6 at hF
    refine g_aload_n (Y := YX11_sum) (pc := 6) 0 dX11_sum_6 rfl ?_
    obtain ⟨r4, M5, e6, hF⟩ := bd_some hF
    refine s_callVi (Y := YX11_sum) (pc := 7) (as := []) (st := []) (r_X11_fine  e6) miX11_fine lk_X11_134 dX11_sum_7 k_174 rfl (Nat.le_of_ble_eq_true rfl) (by omega) rfl ?_
    clear e6
    refine g_if_eq (Y := YX11_sum) (pc := 10) (tgt := 82) dX11_sum_10 rfl (fun c7 => ?_) (fun c7 => ?_)
    · replace hF := if_t c7 hF
      refine g_loc [2] rfl ?_
      exact w_X11_sum_82 hT _ _ hF
    · replace hF := if_f c7 hF
      refine g_aload_n (Y := YX11_sum) (pc := 13) 0 dX11_sum_13 rfl ?_
      obtain ⟨r8, M9, e10, hF⟩ := bd_some hF
      refine s_callVi (Y := YX11_sum) (pc := 14) (as := []) (st := []) (r_X11_here  e10) miX11_here lk_X11_138 dX11_sum_14 k_174 rfl (Nat.le_of_ble_eq_true rfl) (by omega) rfl ?_
      clear e10
      refine g_bipush (Y := YX11_sum) (pc := 17) dX11_sum_17 kB_43 ?_
      refine g_icmp_eq (Y := YX11_sum) (pc := 19) (tgt := 31) dX11_sum_19 rfl (fun c11 => ?_) (fun c11 => ?_)
      · replace hF := if_t c11 hF
        exact w_X11_sum_31 hT ih _ _ _ hF
      · replace hF := if_f c11 hF
        refine g_aload_n (Y := YX11_sum) (pc := 22) 0 dX11_sum_22 rfl ?_
        obtain ⟨r21, M22, e23, hF⟩ := bd_some hF
        refine s_callVi (Y := YX11_sum) (pc := 23) (as := []) (st := []) (r_X11_here  e23) miX11_here lk_X11_138 dX11_sum_23 k_174 rfl (Nat.le_of_ble_eq_true rfl) (by omega) rfl ?_
        clear e23
        refine g_bipush (Y := YX11_sum) (pc := 26) dX11_sum_26 kB_45 ?_
        refine g_icmp_ne (Y := YX11_sum) (pc := 28) (tgt := 82) dX11_sum_28 rfl (fun c24 => ?_) (fun c24 => ?_)
        · replace hF := if_f c24 hF
          refine g_loc [2] rfl ?_
          exact w_X11_sum_82 hT _ _ hF
        · replace hF := if_t c24 hF
          exact w_X11_sum_31 hT ih _ _ _ hF
def f_X11_sum_0 (T : Int32 → Mem → Option (Int32 × Mem)) (x1 : Int32) (M : Mem) : Option (Int32 × Mem) :=
  bd (f_X11_product T x1 M) fun r1 M2 =>
  f_X11_sum_6 T FU x1 r1 M2
set_option maxRecDepth 100000 in
theorem w_X11_sum_0 {T : Int32 → Mem → Option (Int32 × Mem)} {R : Int32} {M' : Mem} (hT : ∀ (y0 : Int32) (M : Mem) (R : Int32) (M' : Mem), T y0 M = some (R, M') → RunS l D cy ad YX11_thing dT [.ref 174, .int y0] X M (some (.int R)) M') (x1 : Int32) (M : Mem) (hF : f_X11_sum_0 T x1 M = some (R, M')) : RunF l D cy ad none YX11_sum (dT + 2) 0 0 (some (.int R)) (lay X M') 0 0 0 [(0, .ref 174), (1, .int x1)] [] (lay X M) := by
  unfold f_X11_sum_0 at hF
  refine g_aload_n (Y := YX11_sum) (pc := 0) 0 dX11_sum_0 rfl ?_
  refine g_iload_n (Y := YX11_sum) (pc := 1) 1 dX11_sum_1 rfl ?_
  obtain ⟨r1, M2, e3, hF⟩ := bd_some hF
  refine s_callVi (Y := YX11_sum) (pc := 2) (as := [.int x1]) (st := []) (r_X11_product hT e3) miX11_product lk_X11_184 dX11_sum_2 k_174 rfl (Nat.le_of_ble_eq_true rfl) (by omega) rfl ?_
  clear e3
  refine g_istore_n (Y := YX11_sum) (pc := 5) (L' := [(2, .int r1), (0, .ref 174), (1, .int x1)]) dX11_sum_5 (Nat.le_of_ble_eq_true rfl) rfl ?_
  refine g_loc [1, 2, 0] rfl ?_
  exact w_X11_sum_6 hT _ _ _ _ hF
def f_X11_sum (T : Int32 → Mem → Option (Int32 × Mem)) (x1 : Int32) (M : Mem) : Option (Int32 × Mem) := f_X11_sum_0 T x1 M
theorem r_X11_sum {x1 R : Int32} {M M' : Mem} {T : Int32 → Mem → Option (Int32 × Mem)} (hT : ∀ (y0 : Int32) (M : Mem) (R : Int32) (M' : Mem), T y0 M = some (R, M') → RunS l D cy ad YX11_thing dT [.ref 174, .int y0] X M (some (.int R)) M') (hF : f_X11_sum T x1 M = some (R, M')) : RunS l D cy ad YX11_sum (dT + 2) [.ref 174, .int x1] X M (some (.int R)) M' := Run.of 1 (miX11_sum).1 (Nat.le_of_ble_eq_true rfl) (w_X11_sum_0 hT _ _ hF)
def f_X11_held_77 (T : Int32 → Mem → Option (Int32 × Mem)) (t0 : Int32) (M : Mem) : Option (Int32 × Mem) :=
  some (t0, M)
set_option maxRecDepth 100000 in
theorem w_X11_held_77 {T : Int32 → Mem → Option (Int32 × Mem)} {R : Int32} {M' : Mem} (hT : ∀ (y0 : Int32) (M : Mem) (R : Int32) (M' : Mem), T y0 M = some (R, M') → RunS l D cy ad YX11_thing dT [.ref 174, .int y0] X M (some (.int R)) M') (t0 : Int32) (M : Mem) (hF : f_X11_held_77 T t0 M = some (R, M')) : RunF l D cy ad none YX11_held (dT + 3) 0 0 (some (.int R)) (lay X M') 0 0 77 [] [.int t0] (lay X M) := by
  unfold f_X11_held_77 at hF
  exact s_iret (Y := YX11_held) (pc := 77) dX11_held_77 rfl hF
def f_X11_held_53 (T : Int32 → Mem → Option (Int32 × Mem)) (t0 : Int32) (M : Mem) : Option (Int32 × Mem) :=
  some (t0, M)
set_option maxRecDepth 100000 in
theorem w_X11_held_53 {T : Int32 → Mem → Option (Int32 × Mem)} {R : Int32} {M' : Mem} (hT : ∀ (y0 : Int32) (M : Mem) (R : Int32) (M' : Mem), T y0 M = some (R, M') → RunS l D cy ad YX11_thing dT [.ref 174, .int y0] X M (some (.int R)) M') (t0 : Int32) (M : Mem) (hF : f_X11_held_53 T t0 M = some (R, M')) : RunF l D cy ad none YX11_held (dT + 3) 0 0 (some (.int R)) (lay X M') 0 0 53 [] [.int t0] (lay X M) := by
  unfold f_X11_held_53 at hF
  exact s_iret (Y := YX11_held) (pc := 53) dX11_held_53 rfl hF
def f_X11_held_29 (T : Int32 → Mem → Option (Int32 × Mem)) (t0 : Int32) (M : Mem) : Option (Int32 × Mem) :=
  some (t0, M)
set_option maxRecDepth 100000 in
theorem w_X11_held_29 {T : Int32 → Mem → Option (Int32 × Mem)} {R : Int32} {M' : Mem} (hT : ∀ (y0 : Int32) (M : Mem) (R : Int32) (M' : Mem), T y0 M = some (R, M') → RunS l D cy ad YX11_thing dT [.ref 174, .int y0] X M (some (.int R)) M') (t0 : Int32) (M : Mem) (hF : f_X11_held_29 T t0 M = some (R, M')) : RunF l D cy ad none YX11_held (dT + 3) 0 0 (some (.int R)) (lay X M') 0 0 29 [] [.int t0] (lay X M) := by
  unfold f_X11_held_29 at hF
  exact s_iret (Y := YX11_held) (pc := 29) dX11_held_29 rfl hF
def f_X11_held_0 (T : Int32 → Mem → Option (Int32 × Mem)) (x1 : Int32) (M : Mem) : Option (Int32 × Mem) :=
  bd (f_X11_sum T x1 M) fun r1 M2 =>
  bd (f_X11_passes 60 M2) fun r4 M5 =>
  if r4 = 0 then
    bd (f_X11_passes 62 M5) fun r8 M9 =>
    if r8 = 0 then
      bd (f_X11_passes 61 M9) fun r12 M13 =>
      if r12 = 0 then
        some (r1, M13)
      else
        bd (f_X11_sum T x1 M13) fun r16 M17 =>
        if r1 = r16 then
          f_X11_held_77 T 1 M17
        else
          f_X11_held_77 T 0 M17
    else
      bd (f_X11_sum T x1 M9) fun r20 M21 =>
      if r20 < r1 then
        f_X11_held_53 T 1 M21
      else
        f_X11_held_53 T 0 M21
  else
    bd (f_X11_sum T x1 M5) fun r24 M25 =>
    if r1 < r24 then
      f_X11_held_29 T 1 M25
    else
      f_X11_held_29 T 0 M25
set_option maxRecDepth 100000 in
theorem w_X11_held_0 {T : Int32 → Mem → Option (Int32 × Mem)} {R : Int32} {M' : Mem} (hT : ∀ (y0 : Int32) (M : Mem) (R : Int32) (M' : Mem), T y0 M = some (R, M') → RunS l D cy ad YX11_thing dT [.ref 174, .int y0] X M (some (.int R)) M') (x1 : Int32) (M : Mem) (hF : f_X11_held_0 T x1 M = some (R, M')) : RunF l D cy ad none YX11_held (dT + 3) 0 0 (some (.int R)) (lay X M') 0 0 0 [(0, .ref 174), (1, .int x1)] [] (lay X M) := by
  unfold f_X11_held_0 at hF
  refine g_aload_n (Y := YX11_held) (pc := 0) 0 dX11_held_0 rfl ?_
  refine g_iload_n (Y := YX11_held) (pc := 1) 1 dX11_held_1 rfl ?_
  obtain ⟨r1, M2, e3, hF⟩ := bd_some hF
  refine s_callVi (Y := YX11_held) (pc := 2) (as := [.int x1]) (st := []) (r_X11_sum hT e3) miX11_sum lk_X11_181 dX11_held_2 k_174 rfl (Nat.le_of_ble_eq_true rfl) (by omega) rfl ?_
  clear e3
  refine g_istore_n (Y := YX11_held) (pc := 5) (L' := [(2, .int r1), (0, .ref 174), (1, .int x1)]) dX11_held_5 (Nat.le_of_ble_eq_true rfl) rfl ?_
  refine g_aload_n (Y := YX11_held) (pc := 6) 1 dX11_held_6 rfl ?_
  refine g_bipush (Y := YX11_held) (pc := 7) dX11_held_7 kB_60 ?_
  obtain ⟨r4, M5, e6, hF⟩ := bd_some hF
  refine s_callVi (Y := YX11_held) (pc := 9) (as := [.int 60]) (st := []) (r_X11_passes  e6) miX11_passes lk_X11_171 dX11_held_9 k_174 rfl (Nat.le_of_ble_eq_true rfl) (by omega) rfl ?_
  clear e6
  refine g_if_eq (Y := YX11_held) (pc := 12) (tgt := 30) dX11_held_12 rfl (fun c7 => ?_) (fun c7 => ?_)
  · replace hF := if_t c7 hF
    refine g_aload_n (Y := YX11_held) (pc := 30) 1 dX11_held_30 rfl ?_
    refine g_bipush (Y := YX11_held) (pc := 31) dX11_held_31 kB_62 ?_
    obtain ⟨r8, M9, e10, hF⟩ := bd_some hF
    refine s_callVi (Y := YX11_held) (pc := 33) (as := [.int 62]) (st := []) (r_X11_passes  e10) miX11_passes lk_X11_171 dX11_held_33 k_174 rfl (Nat.le_of_ble_eq_true rfl) (by omega) rfl ?_
    clear e10
    refine g_if_eq (Y := YX11_held) (pc := 36) (tgt := 54) dX11_held_36 rfl (fun c11 => ?_) (fun c11 => ?_)
    · replace hF := if_t c11 hF
      refine g_aload_n (Y := YX11_held) (pc := 54) 1 dX11_held_54 rfl ?_
      refine g_bipush (Y := YX11_held) (pc := 55) dX11_held_55 kB_61 ?_
      obtain ⟨r12, M13, e14, hF⟩ := bd_some hF
      refine s_callVi (Y := YX11_held) (pc := 57) (as := [.int 61]) (st := []) (r_X11_passes  e14) miX11_passes lk_X11_171 dX11_held_57 k_174 rfl (Nat.le_of_ble_eq_true rfl) (by omega) rfl ?_
      clear e14
      refine g_if_eq (Y := YX11_held) (pc := 60) (tgt := 78) dX11_held_60 rfl (fun c15 => ?_) (fun c15 => ?_)
      · replace hF := if_t c15 hF
        refine g_iload_n (Y := YX11_held) (pc := 78) 0 dX11_held_78 rfl ?_
        exact s_iret (Y := YX11_held) (pc := 79) dX11_held_79 rfl hF
      · replace hF := if_f c15 hF
        refine g_iload_n (Y := YX11_held) (pc := 63) 0 dX11_held_63 rfl ?_
        refine g_aload_n (Y := YX11_held) (pc := 64) 1 dX11_held_64 rfl ?_
        refine g_iload_n (Y := YX11_held) (pc := 65) 2 dX11_held_65 rfl ?_
        obtain ⟨r16, M17, e18, hF⟩ := bd_some hF
        refine s_callVi (Y := YX11_held) (pc := 66) (as := [.int x1]) (st := [.int r1]) (r_X11_sum hT e18) miX11_sum lk_X11_181 dX11_held_66 k_174 rfl (Nat.le_of_ble_eq_true rfl) (by omega) rfl ?_
        clear e18
        refine g_icmp_ne (Y := YX11_held) (pc := 69) (tgt := 76) dX11_held_69 rfl (fun c19 => ?_) (fun c19 => ?_)
        · replace hF := if_f c19 hF
          refine g_iconst (Y := YX11_held) (pc := 76) dX11_held_76 kI_0 ?_
          refine g_loc [] rfl ?_
          exact w_X11_held_77 hT _ _ hF
        · replace hF := if_t c19 hF
          refine g_iconst (Y := YX11_held) (pc := 72) dX11_held_72 kI_1 ?_
          refine g_goto (Y := YX11_held) (pc := 73) (tgt := 77) dX11_held_73 rfl ?_
          refine g_loc [] rfl ?_
          exact w_X11_held_77 hT _ _ hF
    · replace hF := if_f c11 hF
      refine g_iload_n (Y := YX11_held) (pc := 39) 0 dX11_held_39 rfl ?_
      refine g_aload_n (Y := YX11_held) (pc := 40) 1 dX11_held_40 rfl ?_
      refine g_iload_n (Y := YX11_held) (pc := 41) 2 dX11_held_41 rfl ?_
      obtain ⟨r20, M21, e22, hF⟩ := bd_some hF
      refine s_callVi (Y := YX11_held) (pc := 42) (as := [.int x1]) (st := [.int r1]) (r_X11_sum hT e22) miX11_sum lk_X11_181 dX11_held_42 k_174 rfl (Nat.le_of_ble_eq_true rfl) (by omega) rfl ?_
      clear e22
      refine g_icmp_le (Y := YX11_held) (pc := 45) (tgt := 52) dX11_held_45 rfl (fun c23 => ?_) (fun c23 => ?_)
      · replace hF := if_f c23 hF
        refine g_iconst (Y := YX11_held) (pc := 52) dX11_held_52 kI_0 ?_
        refine g_loc [] rfl ?_
        exact w_X11_held_53 hT _ _ hF
      · replace hF := if_t c23 hF
        refine g_iconst (Y := YX11_held) (pc := 48) dX11_held_48 kI_1 ?_
        refine g_goto (Y := YX11_held) (pc := 49) (tgt := 53) dX11_held_49 rfl ?_
        refine g_loc [] rfl ?_
        exact w_X11_held_53 hT _ _ hF
  · replace hF := if_f c7 hF
    refine g_iload_n (Y := YX11_held) (pc := 15) 0 dX11_held_15 rfl ?_
    refine g_aload_n (Y := YX11_held) (pc := 16) 1 dX11_held_16 rfl ?_
    refine g_iload_n (Y := YX11_held) (pc := 17) 2 dX11_held_17 rfl ?_
    obtain ⟨r24, M25, e26, hF⟩ := bd_some hF
    refine s_callVi (Y := YX11_held) (pc := 18) (as := [.int x1]) (st := [.int r1]) (r_X11_sum hT e26) miX11_sum lk_X11_181 dX11_held_18 k_174 rfl (Nat.le_of_ble_eq_true rfl) (by omega) rfl ?_
    clear e26
    refine g_icmp_ge (Y := YX11_held) (pc := 21) (tgt := 28) dX11_held_21 rfl (fun c27 => ?_) (fun c27 => ?_)
    · replace hF := if_f c27 hF
      refine g_iconst (Y := YX11_held) (pc := 28) dX11_held_28 kI_0 ?_
      refine g_loc [] rfl ?_
      exact w_X11_held_29 hT _ _ hF
    · replace hF := if_t c27 hF
      refine g_iconst (Y := YX11_held) (pc := 24) dX11_held_24 kI_1 ?_
      refine g_goto (Y := YX11_held) (pc := 25) (tgt := 29) dX11_held_25 rfl ?_
      refine g_loc [] rfl ?_
      exact w_X11_held_29 hT _ _ hF
def f_X11_held (T : Int32 → Mem → Option (Int32 × Mem)) (x1 : Int32) (M : Mem) : Option (Int32 × Mem) := f_X11_held_0 T x1 M
theorem r_X11_held {x1 R : Int32} {M M' : Mem} {T : Int32 → Mem → Option (Int32 × Mem)} (hT : ∀ (y0 : Int32) (M : Mem) (R : Int32) (M' : Mem), T y0 M = some (R, M') → RunS l D cy ad YX11_thing dT [.ref 174, .int y0] X M (some (.int R)) M') (hF : f_X11_held T x1 M = some (R, M')) : RunS l D cy ad YX11_held (dT + 3) [.ref 174, .int x1] X M (some (.int R)) M' := Run.of 1 (miX11_held).1 (Nat.le_of_ble_eq_true rfl) (w_X11_held_0 hT _ _ hF)
def f_X11_thing_167 (T : Int32 → Mem → Option (Int32 × Mem)) (t0 : Int32) (M : Mem) : Option (Int32 × Mem) :=
  some (t0, M)
set_option maxRecDepth 100000 in
theorem w_X11_thing_167 {T : Int32 → Mem → Option (Int32 × Mem)} {R : Int32} {M' : Mem} (hT : ∀ (y0 : Int32) (M : Mem) (R : Int32) (M' : Mem), T y0 M = some (R, M') → RunS l D cy ad YX11_thing dT [.ref 174, .int y0] X M (some (.int R)) M') (t0 : Int32) (M : Mem) (hF : f_X11_thing_167 T t0 M = some (R, M')) : RunF l D cy ad none YX11_thing (dT + 4) 0 0 (some (.int R)) (lay X M') 0 0 167 [] [.int t0] (lay X M) := by
  unfold f_X11_thing_167 at hF
  exact s_iret (Y := YX11_thing) (pc := 167) dX11_thing_167 rfl hF
def f_X11_thing_141 (T : Int32 → Mem → Option (Int32 × Mem)) (x2 : Int32) (M : Mem) : Option (Int32 × Mem) :=
  ml (up M 174 18 ((M 174 18) + 1)) fun M18 =>
  if (M18 174 23) = 0 then
    f_X11_thing_167 T 0 M18
  else
    bd (f_X11_valueOf x2 M18) fun r20 M21 =>
    f_X11_thing_167 T r20 M21
set_option maxRecDepth 100000 in
theorem w_X11_thing_141 {T : Int32 → Mem → Option (Int32 × Mem)} {R : Int32} {M' : Mem} (hT : ∀ (y0 : Int32) (M : Mem) (R : Int32) (M' : Mem), T y0 M = some (R, M') → RunS l D cy ad YX11_thing dT [.ref 174, .int y0] X M (some (.int R)) M') (x2 : Int32) (M : Mem) (hF : f_X11_thing_141 T x2 M = some (R, M')) : RunF l D cy ad none YX11_thing (dT + 4) 0 0 (some (.int R)) (lay X M') 0 0 141 [(0, .ref 174), (2, .int x2)] [] (lay X M) := by
  unfold f_X11_thing_141 at hF
  refine g_aload_n (Y := YX11_thing) (pc := 141) 0 dX11_thing_141 rfl ?_
  refine g_dup (Y := YX11_thing) (pc := 142) dX11_thing_142 rfl ?_
  refine u_getI (Y := YX11_thing) (pc := 143) dX11_thing_143 fl_X11_128 k_174 ?_
  refine g_iconst (Y := YX11_thing) (pc := 146) dX11_thing_146 kI_1 ?_
  refine g_iadd (Y := YX11_thing) (pc := 147) dX11_thing_147 ?_
  refine u_putI (Y := YX11_thing) (pc := 148) dX11_thing_148 fl_X11_128  k_174 ?_
  refine g_nmM (fun M18 e => ?_)
  replace hF := ml_to e hF; clear e
  refine g_aload_n (Y := YX11_thing) (pc := 151) 0 dX11_thing_151 rfl ?_
  refine u_getZ (Y := YX11_thing) (pc := 152) dX11_thing_152 fl_X11_193 k_174 ?_
  refine g_if_eq (Y := YX11_thing) (pc := 155) (tgt := 166) dX11_thing_155 rfl (fun c19 => ?_) (fun c19 => ?_)
  · replace hF := if_t c19 hF
    refine g_iconst (Y := YX11_thing) (pc := 166) dX11_thing_166 kI_0 ?_
    refine g_loc [] rfl ?_
    exact w_X11_thing_167 hT _ _ hF
  · replace hF := if_f c19 hF
    refine g_aload_n (Y := YX11_thing) (pc := 158) 0 dX11_thing_158 rfl ?_
    refine g_iload_n (Y := YX11_thing) (pc := 159) 1 dX11_thing_159 rfl ?_
    obtain ⟨r20, M21, e22, hF⟩ := bd_some hF
    refine s_callVi (Y := YX11_thing) (pc := 160) (as := [.int x2]) (st := []) (r_X11_valueOf  e22) miX11_valueOf lk_X11_197 dX11_thing_160 k_174 rfl (Nat.le_of_ble_eq_true rfl) (by omega) rfl ?_
    clear e22
    refine g_goto (Y := YX11_thing) (pc := 163) (tgt := 167) dX11_thing_163 rfl ?_
    refine g_loc [] rfl ?_
    exact w_X11_thing_167 hT _ _ hF
def f_X11_thing_78 (T : Int32 → Mem → Option (Int32 × Mem)) (x2 : Int32) (M : Mem) : Option (Int32 × Mem) :=
  bd (f_X11_in x2 48 57 M) fun r13 M14 =>
  if r13 = 0 then
    if x2 = 115 then
      f_X11_thing_141 T x2 M14
    else
      if x2 = 122 then
        f_X11_thing_141 T x2 M14
      else
        if x2 = 114 then
          f_X11_thing_141 T x2 M14
        else
          if x2 = 105 then
            f_X11_thing_141 T x2 M14
          else
            if x2 = 99 then
              f_X11_thing_141 T x2 M14
            else
              if x2 = 111 then
                f_X11_thing_141 T x2 M14
              else
                bd (f_X11_fault (M14 174 18) M14) fun _ M29 =>
                some (0, M29)
  else
    bd (f_X11_number 3 M14) fun r31 M32 =>
    some (r31, M32)
set_option maxRecDepth 100000 in
theorem w_X11_thing_78 {T : Int32 → Mem → Option (Int32 × Mem)} {R : Int32} {M' : Mem} (hT : ∀ (y0 : Int32) (M : Mem) (R : Int32) (M' : Mem), T y0 M = some (R, M') → RunS l D cy ad YX11_thing dT [.ref 174, .int y0] X M (some (.int R)) M') (x2 : Int32) (M : Mem) (hF : f_X11_thing_78 T x2 M = some (R, M')) : RunF l D cy ad none YX11_thing (dT + 4) 0 0 (some (.int R)) (lay X M') 0 0 78 [(0, .ref 174), (2, .int x2)] [] (lay X M) := by
  unfold f_X11_thing_78 at hF
  refine g_iload_n (Y := YX11_thing) (pc := 78) 1 dX11_thing_78 rfl ?_
  refine g_bipush (Y := YX11_thing) (pc := 79) dX11_thing_79 kB_48 ?_
  refine g_bipush (Y := YX11_thing) (pc := 81) dX11_thing_81 kB_57 ?_
  obtain ⟨r13, M14, e15, hF⟩ := bd_some hF
  refine s_callSi (Y := YX11_thing) (pc := 83) (as := [.int x2, .int 48, .int 57]) (st := []) (r_X11_in  e15) msX11_in lk_X11_109 dX11_thing_83 rfl (Nat.le_of_ble_eq_true rfl) (by omega) rfl ?_
  clear e15
  refine g_if_eq (Y := YX11_thing) (pc := 86) (tgt := 95) dX11_thing_86 rfl (fun c16 => ?_) (fun c16 => ?_)
  · replace hF := if_t c16 hF
    refine g_iload_n (Y := YX11_thing) (pc := 95) 1 dX11_thing_95 rfl ?_
    refine g_bipush (Y := YX11_thing) (pc := 96) dX11_thing_96 kB_115 ?_
    refine g_icmp_eq (Y := YX11_thing) (pc := 98) (tgt := 141) dX11_thing_98 rfl (fun c17 => ?_) (fun c17 => ?_)
    · replace hF := if_t c17 hF
      exact w_X11_thing_141 hT _ _ hF
    · replace hF := if_f c17 hF
      refine g_iload_n (Y := YX11_thing) (pc := 101) 1 dX11_thing_101 rfl ?_
      refine g_bipush (Y := YX11_thing) (pc := 102) dX11_thing_102 kB_122 ?_
      refine g_icmp_eq (Y := YX11_thing) (pc := 104) (tgt := 141) dX11_thing_104 rfl (fun c23 => ?_) (fun c23 => ?_)
      · replace hF := if_t c23 hF
        exact w_X11_thing_141 hT _ _ hF
      · replace hF := if_f c23 hF
        refine g_iload_n (Y := YX11_thing) (pc := 107) 1 dX11_thing_107 rfl ?_
        refine g_bipush (Y := YX11_thing) (pc := 108) dX11_thing_108 kB_114 ?_
        refine g_icmp_eq (Y := YX11_thing) (pc := 110) (tgt := 141) dX11_thing_110 rfl (fun c24 => ?_) (fun c24 => ?_)
        · replace hF := if_t c24 hF
          exact w_X11_thing_141 hT _ _ hF
        · replace hF := if_f c24 hF
          refine g_iload_n (Y := YX11_thing) (pc := 113) 1 dX11_thing_113 rfl ?_
          refine g_bipush (Y := YX11_thing) (pc := 114) dX11_thing_114 kB_105 ?_
          refine g_icmp_eq (Y := YX11_thing) (pc := 116) (tgt := 141) dX11_thing_116 rfl (fun c25 => ?_) (fun c25 => ?_)
          · replace hF := if_t c25 hF
            exact w_X11_thing_141 hT _ _ hF
          · replace hF := if_f c25 hF
            refine g_iload_n (Y := YX11_thing) (pc := 119) 1 dX11_thing_119 rfl ?_
            refine g_bipush (Y := YX11_thing) (pc := 120) dX11_thing_120 kB_99 ?_
            refine g_icmp_eq (Y := YX11_thing) (pc := 122) (tgt := 141) dX11_thing_122 rfl (fun c26 => ?_) (fun c26 => ?_)
            · replace hF := if_t c26 hF
              exact w_X11_thing_141 hT _ _ hF
            · replace hF := if_f c26 hF
              refine g_iload_n (Y := YX11_thing) (pc := 125) 1 dX11_thing_125 rfl ?_
              refine g_bipush (Y := YX11_thing) (pc := 126) dX11_thing_126 kB_111 ?_
              refine g_icmp_eq (Y := YX11_thing) (pc := 128) (tgt := 141) dX11_thing_128 rfl (fun c27 => ?_) (fun c27 => ?_)
              · replace hF := if_t c27 hF
                exact w_X11_thing_141 hT _ _ hF
              · replace hF := if_f c27 hF
                refine g_aload_n (Y := YX11_thing) (pc := 131) 0 dX11_thing_131 rfl ?_
                refine g_aload_n (Y := YX11_thing) (pc := 132) 0 dX11_thing_132 rfl ?_
                refine u_getI (Y := YX11_thing) (pc := 133) dX11_thing_133 fl_X11_128 k_174 ?_
                obtain ⟨r28, M29, e30, hF⟩ := bd_some hF
                refine s_callVv (Y := YX11_thing) (pc := 136) (as := [.int (M14 174 18)]) (st := []) (r_X11_fault  e30) miX11_fault lk_X11_142 dX11_thing_136 k_174 rfl (Nat.le_of_ble_eq_true rfl) (by omega) rfl ?_
                clear e30
                refine g_iconst (Y := YX11_thing) (pc := 139) dX11_thing_139 kI_0 ?_
                exact s_iret (Y := YX11_thing) (pc := 140) dX11_thing_140 rfl hF
  · replace hF := if_f c16 hF
    refine g_aload_n (Y := YX11_thing) (pc := 89) 0 dX11_thing_89 rfl ?_
    refine g_iconst (Y := YX11_thing) (pc := 90) dX11_thing_90 kI_3 ?_
    obtain ⟨r31, M32, e33, hF⟩ := bd_some hF
    refine s_callVi (Y := YX11_thing) (pc := 91) (as := [.int 3]) (st := []) (r_X11_number  e33) miX11_number lk_X11_156 dX11_thing_91 k_174 rfl (Nat.le_of_ble_eq_true rfl) (by omega) rfl ?_
    clear e33
    exact s_iret (Y := YX11_thing) (pc := 94) dX11_thing_94 rfl hF
def f_X11_thing_76 (T : Int32 → Mem → Option (Int32 × Mem)) (x3 : Int32) (M : Mem) : Option (Int32 × Mem) :=
  some (x3, M)
set_option maxRecDepth 100000 in
theorem w_X11_thing_76 {T : Int32 → Mem → Option (Int32 × Mem)} {R : Int32} {M' : Mem} (hT : ∀ (y0 : Int32) (M : Mem) (R : Int32) (M' : Mem), T y0 M = some (R, M') → RunS l D cy ad YX11_thing dT [.ref 174, .int y0] X M (some (.int R)) M') (x3 : Int32) (M : Mem) (hF : f_X11_thing_76 T x3 M = some (R, M')) : RunF l D cy ad none YX11_thing (dT + 4) 0 0 (some (.int R)) (lay X M') 0 0 76 [(3, .int x3)] [] (lay X M) := by
  unfold f_X11_thing_76 at hF
  refine g_iload_n (Y := YX11_thing) (pc := 76) 0 dX11_thing_76 rfl ?_
  exact s_iret (Y := YX11_thing) (pc := 77) dX11_thing_77 rfl hF
def f_X11_thing_0 (T : Int32 → Mem → Option (Int32 × Mem)) (x1 : Int32) (M : Mem) : Option (Int32 × Mem) :=
  bd (f_X11_passes 45 M) fun r1 M2 =>
  if r1 = 0 then
    bd (f_X11_fine M2) fun r5 M6 =>
    if r5 = 0 then
      some (0, M6)
    else
      bd (f_X11_here M6) fun r9 M10 =>
      if r9 = 40 then
        if x1 < 4 then
          ml (up M10 174 18 ((M10 174 18) + 1)) fun M35 =>
          bd (f_X11_held T (x1 + 1) M35) fun r36 M37 =>
          bd (f_X11_passes 41 M37) fun r39 M40 =>
          if r39 = 0 then
            bd (f_X11_fault (M40 174 18) M40) fun _ M44 =>
            f_X11_thing_76 T r36 M44
          else
            f_X11_thing_76 T r36 M40
        else
          f_X11_thing_78 T r9 M10
      else
        f_X11_thing_78 T r9 M10
  else
    bd (T x1 M2) fun r46 M47 =>
    some ((-r46), M47)
set_option maxRecDepth 100000 in
theorem w_X11_thing_0 {T : Int32 → Mem → Option (Int32 × Mem)} {R : Int32} {M' : Mem} (hT : ∀ (y0 : Int32) (M : Mem) (R : Int32) (M' : Mem), T y0 M = some (R, M') → RunS l D cy ad YX11_thing dT [.ref 174, .int y0] X M (some (.int R)) M') (x1 : Int32) (M : Mem) (hF : f_X11_thing_0 T x1 M = some (R, M')) : RunF l D cy ad none YX11_thing (dT + 4) 0 0 (some (.int R)) (lay X M') 0 0 0 [(0, .ref 174), (1, .int x1)] [] (lay X M) := by
  unfold f_X11_thing_0 at hF
  refine g_aload_n (Y := YX11_thing) (pc := 0) 0 dX11_thing_0 rfl ?_
  refine g_bipush (Y := YX11_thing) (pc := 1) dX11_thing_1 kB_45 ?_
  obtain ⟨r1, M2, e3, hF⟩ := bd_some hF
  refine s_callVi (Y := YX11_thing) (pc := 3) (as := [.int 45]) (st := []) (r_X11_passes  e3) miX11_passes lk_X11_171 dX11_thing_3 k_174 rfl (Nat.le_of_ble_eq_true rfl) (by omega) rfl ?_
  clear e3
  refine g_if_eq (Y := YX11_thing) (pc := 6) (tgt := 16) dX11_thing_6 rfl (fun c4 => ?_) (fun c4 => ?_)
  · replace hF := if_t c4 hF
    refine g_aload_n (Y := YX11_thing) (pc := 16) 0 dX11_thing_16 rfl ?_
    obtain ⟨r5, M6, e7, hF⟩ := bd_some hF
    refine s_callVi (Y := YX11_thing) (pc := 17) (as := []) (st := []) (r_X11_fine  e7) miX11_fine lk_X11_134 dX11_thing_17 k_174 rfl (Nat.le_of_ble_eq_true rfl) (by omega) rfl ?_
    clear e7
    refine g_if_ne (Y := YX11_thing) (pc := 20) (tgt := 25) dX11_thing_20 rfl (fun c8 => ?_) (fun c8 => ?_)
    · replace hF := if_f c8 hF
      refine g_aload_n (Y := YX11_thing) (pc := 25) 0 dX11_thing_25 rfl ?_
      obtain ⟨r9, M10, e11, hF⟩ := bd_some hF
      refine s_callVi (Y := YX11_thing) (pc := 26) (as := []) (st := []) (r_X11_here  e11) miX11_here lk_X11_138 dX11_thing_26 k_174 rfl (Nat.le_of_ble_eq_true rfl) (by omega) rfl ?_
      clear e11
      refine g_istore_n (Y := YX11_thing) (pc := 29) (L' := [(2, .int r9), (0, .ref 174), (1, .int x1)]) dX11_thing_29 (Nat.le_of_ble_eq_true rfl) rfl ?_
      refine g_iload_n (Y := YX11_thing) (pc := 30) 0 dX11_thing_30 rfl ?_
      refine g_bipush (Y := YX11_thing) (pc := 31) dX11_thing_31 kB_40 ?_
      refine g_icmp_ne (Y := YX11_thing) (pc := 33) (tgt := 78) dX11_thing_33 rfl (fun c12 => ?_) (fun c12 => ?_)
      · replace hF := if_f c12 hF
        refine g_loc [1, 0] rfl ?_
        exact w_X11_thing_78 hT _ _ hF
      · replace hF := if_t c12 hF
        refine g_iload_n (Y := YX11_thing) (pc := 36) 2 dX11_thing_36 rfl ?_
        refine g_iconst (Y := YX11_thing) (pc := 37) dX11_thing_37 kI_4 ?_
        refine g_icmp_ge (Y := YX11_thing) (pc := 38) (tgt := 78) dX11_thing_38 rfl (fun c34 => ?_) (fun c34 => ?_)
        · replace hF := if_f c34 hF
          refine g_loc [1, 0] rfl ?_
          exact w_X11_thing_78 hT _ _ hF
        · replace hF := if_t c34 hF
          refine g_aload_n (Y := YX11_thing) (pc := 41) 1 dX11_thing_41 rfl ?_
          refine g_dup (Y := YX11_thing) (pc := 42) dX11_thing_42 rfl ?_
          refine u_getI (Y := YX11_thing) (pc := 43) dX11_thing_43 fl_X11_128 k_174 ?_
          refine g_iconst (Y := YX11_thing) (pc := 46) dX11_thing_46 kI_1 ?_
          refine g_iadd (Y := YX11_thing) (pc := 47) dX11_thing_47 ?_
          refine u_putI (Y := YX11_thing) (pc := 48) dX11_thing_48 fl_X11_128  k_174 ?_
          refine g_nmM (fun M35 e => ?_)
          replace hF := ml_to e hF; clear e
          refine g_aload_n (Y := YX11_thing) (pc := 51) 1 dX11_thing_51 rfl ?_
          refine g_iload_n (Y := YX11_thing) (pc := 52) 2 dX11_thing_52 rfl ?_
          refine g_iconst (Y := YX11_thing) (pc := 53) dX11_thing_53 kI_1 ?_
          refine g_iadd (Y := YX11_thing) (pc := 54) dX11_thing_54 ?_
          obtain ⟨r36, M37, e38, hF⟩ := bd_some hF
          refine s_callVi (Y := YX11_thing) (pc := 55) (as := [.int (x1 + 1)]) (st := []) (r_X11_held hT e38) miX11_held lk_X11_190 dX11_thing_55 k_174 rfl (Nat.le_of_ble_eq_true rfl) (by omega) rfl ?_
          clear e38
          refine g_istore_n (Y := YX11_thing) (pc := 58) (L' := [(3, .int r36), (2, .int r9), (0, .ref 174), (1, .int x1)]) dX11_thing_58 (Nat.le_of_ble_eq_true rfl) rfl ?_
          refine g_aload_n (Y := YX11_thing) (pc := 59) 2 dX11_thing_59 rfl ?_
          refine g_bipush (Y := YX11_thing) (pc := 60) dX11_thing_60 kB_41 ?_
          obtain ⟨r39, M40, e41, hF⟩ := bd_some hF
          refine s_callVi (Y := YX11_thing) (pc := 62) (as := [.int 41]) (st := []) (r_X11_passes  e41) miX11_passes lk_X11_171 dX11_thing_62 k_174 rfl (Nat.le_of_ble_eq_true rfl) (by omega) rfl ?_
          clear e41
          refine g_if_ne (Y := YX11_thing) (pc := 65) (tgt := 76) dX11_thing_65 rfl (fun c42 => ?_) (fun c42 => ?_)
          · replace hF := if_f c42 hF
            refine g_loc [0] rfl ?_
            exact w_X11_thing_76 hT _ _ hF
          · replace hF := if_t c42 hF
            refine g_aload_n (Y := YX11_thing) (pc := 68) 2 dX11_thing_68 rfl ?_
            refine g_aload_n (Y := YX11_thing) (pc := 69) 2 dX11_thing_69 rfl ?_
            refine u_getI (Y := YX11_thing) (pc := 70) dX11_thing_70 fl_X11_128 k_174 ?_
            obtain ⟨r43, M44, e45, hF⟩ := bd_some hF
            refine s_callVv (Y := YX11_thing) (pc := 73) (as := [.int (M40 174 18)]) (st := []) (r_X11_fault  e45) miX11_fault lk_X11_142 dX11_thing_73 k_174 rfl (Nat.le_of_ble_eq_true rfl) (by omega) rfl ?_
            clear e45
            refine g_loc [0] rfl ?_
            exact w_X11_thing_76 hT _ _ hF
    · replace hF := if_t c8 hF
      refine g_iconst (Y := YX11_thing) (pc := 23) dX11_thing_23 kI_0 ?_
      exact s_iret (Y := YX11_thing) (pc := 24) dX11_thing_24 rfl hF
  · replace hF := if_f c4 hF
    refine g_aload_n (Y := YX11_thing) (pc := 9) 0 dX11_thing_9 rfl ?_
    refine g_iload_n (Y := YX11_thing) (pc := 10) 1 dX11_thing_10 rfl ?_
    obtain ⟨r46, M47, e48, hF⟩ := bd_some hF
    refine s_callVi (Y := YX11_thing) (pc := 11) (as := [.int x1]) (st := []) (hT _ _ _ _ e48) miX11_thing lk_X11_187 dX11_thing_11 k_174 rfl (Nat.le_of_ble_eq_true rfl) (by omega) rfl ?_
    clear e48
    refine g_ineg (Y := YX11_thing) (pc := 14) dX11_thing_14 ?_
    exact s_iret (Y := YX11_thing) (pc := 15) dX11_thing_15 rfl hF
def b_X11_thing (T : Int32 → Mem → Option (Int32 × Mem)) (x1 : Int32) (M : Mem) : Option (Int32 × Mem) := f_X11_thing_0 T x1 M
theorem rb_X11_thing {x1 R : Int32} {M M' : Mem} {T : Int32 → Mem → Option (Int32 × Mem)} (hT : ∀ (y0 : Int32) (M : Mem) (R : Int32) (M' : Mem), T y0 M = some (R, M') → RunS l D cy ad YX11_thing dT [.ref 174, .int y0] X M (some (.int R)) M') (hF : b_X11_thing T x1 M = some (R, M')) : RunS l D cy ad YX11_thing (dT + 4) [.ref 174, .int x1] X M (some (.int R)) M' := Run.of 1 (miX11_thing).1 (Nat.le_of_ble_eq_true rfl) (w_X11_thing_0 hT _ _ hF)
def f_X11_thing : Nat → Int32 → Mem → Option (Int32 × Mem)
  | 0, _, _ => none
  | n + 1, x1, M => b_X11_thing (f_X11_thing n) x1 M
theorem rn_X11_thing : ∀ (n : Nat) (x1 : Int32) (M : Mem) (R : Int32) (M' : Mem), f_X11_thing n x1 M = some (R, M') → RunS l D cy ad YX11_thing (4 * n) [.ref 174, .int x1] X M (some (.int R)) M'
  | 0, _, _, _, _, h => nomatch h
  | n + 1, x1, M, R, M', h => rb_X11_thing (dT := 4 * n) (fun y0 M R M' h => rn_X11_thing n y0 M R M' h) h
theorem r_X11_thing {x1 : Int32} {M M' : Mem} {R : Int32} (hF : f_X11_thing RU x1 M = some (R, M')) : RunS l D cy ad YX11_thing 400 [.ref 174, .int x1] X M (some (.int R)) M' := rn_X11_thing RU x1 M R M' hF
def f_X11_rule_73  : Nat → Int32 → Int32 → Mem → Option (Int32 × Mem)
  | 0, _, _, _ => none
  | n + 1, x1, x2, M =>
    if x2 < x1 then
      gd (0 ≤ x2 ∧ x2.toNatClampNeg < 80) <|
      gd (0 ≤ x2 ∧ x2.toNatClampNeg < 40) <|
      ml (up M 186 x2.toNatClampNeg (vp_nar .byte (M 183 x2.toNatClampNeg))) fun M13 =>
      vl (x2 + 1) fun v14 =>
      f_X11_rule_73 n x1 v14 M13
    else
      ml (up M 174 22 x1) fun M10 =>
      some (0, M10)
set_option maxRecDepth 100000 in
theorem w_X11_rule_73 {R : Int32} {M' : Mem}  : ∀ (n : Nat) (x1 x2 : Int32) (M : Mem), f_X11_rule_73 n x1 x2 M = some (R, M') → RunF l D cy ad none YX11_rule 404 0 0 (some (.int R)) (lay X M') 0 0 73 [(0, .ref 174), (1, .int x1), (2, .int x2)] [] (lay X M) := by
  intro n
  induction n with
  | zero => intro x1 x2 M hF; exact absurd hF (by unfold f_X11_rule_73; exact fun h => nomatch h)
  | succ n ih =>
    intro x1 x2 M hF
    unfold f_X11_rule_73 at hF
    refine g_iload_n (Y := YX11_rule) (pc := 73) 2 dX11_rule_73 rfl ?_
    refine g_iload_n (Y := YX11_rule) (pc := 74) 1 dX11_rule_74 rfl ?_
    refine g_icmp_ge (Y := YX11_rule) (pc := 75) (tgt := 96) dX11_rule_75 rfl (fun c9 => ?_) (fun c9 => ?_)
    · replace hF := if_f c9 hF
      refine g_aload_n (Y := YX11_rule) (pc := 96) 0 dX11_rule_96 rfl ?_
      refine g_iload_n (Y := YX11_rule) (pc := 97) 1 dX11_rule_97 rfl ?_
      refine u_putI (Y := YX11_rule) (pc := 98) dX11_rule_98 fl_X11_206  k_174 ?_
      refine g_nmM (fun M10 e => ?_)
      replace hF := ml_to e hF; clear e
      refine g_iconst (Y := YX11_rule) (pc := 101) dX11_rule_101 kI_0 ?_
      exact s_iret (Y := YX11_rule) (pc := 102) dX11_rule_102 rfl hF
    · replace hF := if_t c9 hF
      refine g_aload_n (Y := YX11_rule) (pc := 78) 0 dX11_rule_78 rfl ?_
      refine u_getR (Y := YX11_rule) (pc := 79) (j := 186) dX11_rule_79 fl_X11_45 k_174 rf_174_21 ?_
      refine g_iload_n (Y := YX11_rule) (pc := 82) 2 dX11_rule_82 rfl ?_
      refine g_aload_n (Y := YX11_rule) (pc := 83) 0 dX11_rule_83 rfl ?_
      refine u_getR (Y := YX11_rule) (pc := 84) (j := 183) dX11_rule_84 fl_X11_35 k_174 rf_174_10 ?_
      refine g_iload_n (Y := YX11_rule) (pc := 87) 2 dX11_rule_87 rfl ?_
      obtain ⟨g11, hF⟩ := gd_some hF
      refine s_bald (Y := YX11_rule) (pc := 88) dX11_rule_88 k_183 n_183 g11 ?_
      obtain ⟨g12, hF⟩ := gd_some hF
      refine s_bast (Y := YX11_rule) (pc := 89) dX11_rule_89 k_186 n_186 g12 ?_
      refine g_nmM (fun M13 e => ?_)
      replace hF := ml_to e hF; clear e
      refine s_iinc (Y := YX11_rule) (pc := 90) (j := 2) (L' := fun y => [(2, .int y), (0, .ref 174), (1, .int x1)]) dX11_rule_90 kI_1 rfl (Nat.le_of_ble_eq_true rfl) (fun _ => rfl) (fun v14 e => ?_)
      replace hF := vl_to e hF; clear e
      refine g_goto (Y := YX11_rule) (pc := 93) (tgt := 73) dX11_rule_93 rfl ?_
      refine g_loc [1, 2, 0] rfl ?_
      exact ih _ _ _ hF
def f_X11_rule_71  (x1 : Int32) (M : Mem) : Option (Int32 × Mem) :=
  f_X11_rule_73 FU x1 0 M
set_option maxRecDepth 100000 in
theorem w_X11_rule_71 {R : Int32} {M' : Mem}  (x1 : Int32) (M : Mem) (hF : f_X11_rule_71 x1 M = some (R, M')) : RunF l D cy ad none YX11_rule 404 0 0 (some (.int R)) (lay X M') 0 0 71 [(0, .ref 174), (1, .int x1)] [] (lay X M) := by
  unfold f_X11_rule_71 at hF
  refine g_iconst (Y := YX11_rule) (pc := 71) dX11_rule_71 kI_0 ?_
  refine g_istore_n (Y := YX11_rule) (pc := 72) (L' := [(2, .int 0), (0, .ref 174), (1, .int x1)]) dX11_rule_72 (Nat.le_of_ble_eq_true rfl) rfl ?_
  refine g_loc [1, 2, 0] rfl ?_
  exact w_X11_rule_73  _ _ _ _ hF
def f_X11_rule_57  (x1 : Int32) (M : Mem) : Option (Int32 × Mem) :=
  bd (f_X11_fine M) fun r19 M20 =>
  if r19 = 0 then
    some (((-1) - (M20 174 19)), M20)
  else
    f_X11_rule_71 x1 M20
set_option maxRecDepth 100000 in
theorem w_X11_rule_57 {R : Int32} {M' : Mem}  (x1 : Int32) (M : Mem) (hF : f_X11_rule_57 x1 M = some (R, M')) : RunF l D cy ad none YX11_rule 404 0 0 (some (.int R)) (lay X M') 0 0 57 [(0, .ref 174), (1, .int x1)] [] (lay X M) := by
  unfold f_X11_rule_57 at hF
  refine g_aload_n (Y := YX11_rule) (pc := 57) 0 dX11_rule_57 rfl ?_
  obtain ⟨r19, M20, e21, hF⟩ := bd_some hF
  refine s_callVi (Y := YX11_rule) (pc := 58) (as := []) (st := []) (r_X11_fine  e21) miX11_fine lk_X11_134 dX11_rule_58 k_174 rfl (Nat.le_of_ble_eq_true rfl) (Nat.le_of_ble_eq_true rfl) rfl ?_
  clear e21
  refine g_if_ne (Y := YX11_rule) (pc := 61) (tgt := 71) dX11_rule_61 rfl (fun c22 => ?_) (fun c22 => ?_)
  · replace hF := if_f c22 hF
    exact w_X11_rule_71  _ _ hF
  · replace hF := if_t c22 hF
    refine g_iconst (Y := YX11_rule) (pc := 64) dX11_rule_64 kI_m1 ?_
    refine g_aload_n (Y := YX11_rule) (pc := 65) 0 dX11_rule_65 rfl ?_
    refine u_getI (Y := YX11_rule) (pc := 66) dX11_rule_66 fl_X11_131 k_174 ?_
    refine g_isub (Y := YX11_rule) (pc := 69) dX11_rule_69 ?_
    exact s_iret (Y := YX11_rule) (pc := 70) dX11_rule_70 rfl hF
def f_X11_rule_0  (M : Mem) : Option (Int32 × Mem) :=
  ml (up M 174 14 0) fun M1 =>
  vl ((M1 174 11)) fun v2 =>
  bd (f_X11_begin 183 v2 40 M1) fun _ M4 =>
  ml (up M4 174 11 0) fun M6 =>
  ml (up M6 174 23 0) fun M7 =>
  if 0 < v2 then
    bd (f_X11_held (f_X11_thing RU) 0 M7) fun r15 M16 =>
    if (M16 174 18) < v2 then
      bd (f_X11_fault (M16 174 18) M16) fun _ M24 =>
      f_X11_rule_57 v2 M24
    else
      f_X11_rule_57 v2 M16
  else
    f_X11_rule_71 v2 M7
set_option maxRecDepth 100000 in
theorem w_X11_rule_0 {R : Int32} {M' : Mem}  (M : Mem) (hF : f_X11_rule_0  M = some (R, M')) : RunF l D cy ad none YX11_rule 404 0 0 (some (.int R)) (lay X M') 0 0 0 [(0, .ref 174)] [] (lay X M) := by
  unfold f_X11_rule_0 at hF
  refine g_aload_n (Y := YX11_rule) (pc := 0) 0 dX11_rule_0 rfl ?_
  refine g_iconst (Y := YX11_rule) (pc := 1) dX11_rule_1 kI_0 ?_
  refine u_putI (Y := YX11_rule) (pc := 2) dX11_rule_2 fl_X11_99  k_174 ?_
  refine g_nmM (fun M1 e => ?_)
  replace hF := ml_to e hF; clear e
  refine g_aload_n (Y := YX11_rule) (pc := 5) 0 dX11_rule_5 rfl ?_
  refine u_getI (Y := YX11_rule) (pc := 6) dX11_rule_6 fl_X11_116 k_174 ?_
  refine g_nm (fun v2 e => ?_)
  replace hF := vl_to e hF; clear e
  refine g_istore_n (Y := YX11_rule) (pc := 9) (L' := [(1, .int v2), (0, .ref 174)]) dX11_rule_9 (Nat.le_of_ble_eq_true rfl) rfl ?_
  refine g_aload_n (Y := YX11_rule) (pc := 10) 1 dX11_rule_10 rfl ?_
  refine g_aload_n (Y := YX11_rule) (pc := 11) 1 dX11_rule_11 rfl ?_
  refine u_getR (Y := YX11_rule) (pc := 12) (j := 183) dX11_rule_12 fl_X11_35 k_174 rf_174_10 ?_
  refine g_iload_n (Y := YX11_rule) (pc := 15) 0 dX11_rule_15 rfl ?_
  refine g_bipush (Y := YX11_rule) (pc := 16) dX11_rule_16 kB_40 ?_
  obtain ⟨r3, M4, e5, hF⟩ := bd_some hF
  refine s_callVv (Y := YX11_rule) (pc := 18) (as := [.ref 183, .int v2, .int 40]) (st := []) (r_X11_begin (Or.inl rfl) e5) miX11_begin lk_X11_164 dX11_rule_18 k_174 rfl (Nat.le_of_ble_eq_true rfl) (Nat.le_of_ble_eq_true rfl) rfl ?_
  clear e5
  refine g_aload_n (Y := YX11_rule) (pc := 21) 1 dX11_rule_21 rfl ?_
  refine g_iconst (Y := YX11_rule) (pc := 22) dX11_rule_22 kI_0 ?_
  refine u_putI (Y := YX11_rule) (pc := 23) dX11_rule_23 fl_X11_116  k_174 ?_
  refine g_nmM (fun M6 e => ?_)
  replace hF := ml_to e hF; clear e
  refine g_aload_n (Y := YX11_rule) (pc := 26) 1 dX11_rule_26 rfl ?_
  refine g_iconst (Y := YX11_rule) (pc := 27) dX11_rule_27 kI_0 ?_
  refine u_putZ (Y := YX11_rule) (pc := 28) dX11_rule_28 fl_X11_193 (Or.inl rfl) k_174 ?_
  refine g_nmM (fun M7 e => ?_)
  replace hF := ml_to e hF; clear e
  refine g_iload_n (Y := YX11_rule) (pc := 31) 0 dX11_rule_31 rfl ?_
  refine g_if_le (Y := YX11_rule) (pc := 32) (tgt := 71) dX11_rule_32 rfl (fun c8 => ?_) (fun c8 => ?_)
  · replace hF := if_f c8 hF
    refine g_loc [1, 0] rfl ?_
    exact w_X11_rule_71  _ _ hF
  · replace hF := if_t c8 hF
    refine g_aload_n (Y := YX11_rule) (pc := 35) 1 dX11_rule_35 rfl ?_
    refine g_iconst (Y := YX11_rule) (pc := 36) dX11_rule_36 kI_0 ?_
    obtain ⟨r15, M16, e17, hF⟩ := bd_some hF
    refine s_callVi (Y := YX11_rule) (pc := 37) (as := [.int 0]) (st := []) (r_X11_held (rn_X11_thing RU) e17) miX11_held lk_X11_190 dX11_rule_37 k_174 rfl (Nat.le_of_ble_eq_true rfl) (Nat.le_of_ble_eq_true rfl) rfl ?_
    clear e17
    refine g_pop (Y := YX11_rule) (pc := 40) dX11_rule_40 rfl ?_
    refine g_aload_n (Y := YX11_rule) (pc := 41) 1 dX11_rule_41 rfl ?_
    refine u_getI (Y := YX11_rule) (pc := 42) dX11_rule_42 fl_X11_128 k_174 ?_
    refine g_iload_n (Y := YX11_rule) (pc := 45) 0 dX11_rule_45 rfl ?_
    refine g_icmp_ge (Y := YX11_rule) (pc := 46) (tgt := 57) dX11_rule_46 rfl (fun c18 => ?_) (fun c18 => ?_)
    · replace hF := if_f c18 hF
      refine g_loc [1, 0] rfl ?_
      exact w_X11_rule_57  _ _ hF
    · replace hF := if_t c18 hF
      refine g_aload_n (Y := YX11_rule) (pc := 49) 1 dX11_rule_49 rfl ?_
      refine g_aload_n (Y := YX11_rule) (pc := 50) 1 dX11_rule_50 rfl ?_
      refine u_getI (Y := YX11_rule) (pc := 51) dX11_rule_51 fl_X11_128 k_174 ?_
      obtain ⟨r23, M24, e25, hF⟩ := bd_some hF
      refine s_callVv (Y := YX11_rule) (pc := 54) (as := [.int (M16 174 18)]) (st := []) (r_X11_fault  e25) miX11_fault lk_X11_142 dX11_rule_54 k_174 rfl (Nat.le_of_ble_eq_true rfl) (Nat.le_of_ble_eq_true rfl) rfl ?_
      clear e25
      refine g_loc [1, 0] rfl ?_
      exact w_X11_rule_57  _ _ hF
def f_X11_rule (M : Mem) : Option (Int32 × Mem) := f_X11_rule_0 M
theorem r_X11_rule {R : Int32} {M M' : Mem}  (hF : f_X11_rule  M = some (R, M')) : RunS l D cy ad YX11_rule 404 [.ref 174] X M (some (.int R)) M' := Run.of 0 (miX11_rule).1 (Nat.le_of_ble_eq_true rfl) (w_X11_rule_0  _ hF)
end NXG
