theorem dX1_reckon_0 : decode cX1_reckon 0 = .ok (.iconst 0, 1) := by decide +kernel
theorem dX1_reckon_1 : decode cX1_reckon 1 = .ok (.istore_n 1, 1) := by decide +kernel
theorem dX1_reckon_2 : decode cX1_reckon 2 = .ok (.iload_n 1, 1) := by decide +kernel
theorem dX1_reckon_3 : decode cX1_reckon 3 = .ok (.aload_n 0, 1) := by decide +kernel
theorem dX1_reckon_4 : decode cX1_reckon 4 = .ok (.getfield 18, 3) := by decide +kernel
theorem dX1_reckon_7 : decode cX1_reckon 7 = .ok (.if_icmp .ge 84, 3) := by decide +kernel
theorem dX1_reckon_10 : decode cX1_reckon 10 = .ok (.iconst 0, 1) := by decide +kernel
theorem dX1_reckon_11 : decode cX1_reckon 11 = .ok (.istore_n 2, 1) := by decide +kernel
theorem dX1_reckon_12 : decode cX1_reckon 12 = .ok (.iload_n 2, 1) := by decide +kernel
theorem dX1_reckon_13 : decode cX1_reckon 13 = .ok (.aload_n 0, 1) := by decide +kernel
theorem dX1_reckon_14 : decode cX1_reckon 14 = .ok (.getfield 9, 3) := by decide +kernel
theorem dX1_reckon_17 : decode cX1_reckon 17 = .ok (.if_icmp .ge 68, 3) := by decide +kernel
theorem dX1_reckon_20 : decode cX1_reckon 20 = .ok (.aload_n 0, 1) := by decide +kernel
theorem dX1_reckon_21 : decode cX1_reckon 21 = .ok (.getfield 34, 3) := by decide +kernel
theorem dX1_reckon_24 : decode cX1_reckon 24 = .ok (.iload_n 1, 1) := by decide +kernel
theorem dX1_reckon_25 : decode cX1_reckon 25 = .ok (.iaload, 1) := by decide +kernel
theorem dX1_reckon_26 : decode cX1_reckon 26 = .ok (.iload_n 2, 1) := by decide +kernel
theorem dX1_reckon_27 : decode cX1_reckon 27 = .ok (.ishr, 1) := by decide +kernel
theorem dX1_reckon_28 : decode cX1_reckon 28 = .ok (.iconst 1, 1) := by decide +kernel
theorem dX1_reckon_29 : decode cX1_reckon 29 = .ok (.iand, 1) := by decide +kernel
theorem dX1_reckon_30 : decode cX1_reckon 30 = .ok (.iconst 1, 1) := by decide +kernel
theorem dX1_reckon_31 : decode cX1_reckon 31 = .ok (.if_icmp .ne 7, 3) := by decide +kernel
theorem dX1_reckon_34 : decode cX1_reckon 34 = .ok (.iconst 1, 1) := by decide +kernel
theorem dX1_reckon_35 : decode cX1_reckon 35 = .ok (.goto 4, 3) := by decide +kernel
theorem dX1_reckon_38 : decode cX1_reckon 38 = .ok (.iconst 0, 1) := by decide +kernel
theorem dX1_reckon_39 : decode cX1_reckon 39 = .ok (.istore_n 3, 1) := by decide +kernel
theorem dX1_reckon_40 : decode cX1_reckon 40 = .ok (.iload_n 3, 1) := by decide +kernel
theorem dX1_reckon_41 : decode cX1_reckon 41 = .ok (.ifCond .eq 7, 3) := by decide +kernel
theorem dX1_reckon_44 : decode cX1_reckon 44 = .ok (.iconst 0, 1) := by decide +kernel
theorem dX1_reckon_45 : decode cX1_reckon 45 = .ok (.goto 13, 3) := by decide +kernel
theorem dX1_reckon_48 : decode cX1_reckon 48 = .ok (.aload_n 0, 1) := by decide +kernel
theorem dX1_reckon_49 : decode cX1_reckon 49 = .ok (.getfield 48, 3) := by decide +kernel
theorem dX1_reckon_52 : decode cX1_reckon 52 = .ok (.aload_n 0, 1) := by decide +kernel
theorem dX1_reckon_53 : decode cX1_reckon 53 = .ok (.iload_n 1, 1) := by decide +kernel
theorem dX1_reckon_54 : decode cX1_reckon 54 = .ok (.iload_n 2, 1) := by decide +kernel
theorem dX1_reckon_55 : decode cX1_reckon 55 = .ok (.invokevirtual 52, 3) := by decide +kernel
theorem dX1_reckon_58 : decode cX1_reckon 58 = .ok (.istore 4, 2) := by decide +kernel
theorem dX1_reckon_60 : decode cX1_reckon 60 = .ok (.aload_n 0, 1) := by decide +kernel
theorem dX1_reckon_61 : decode cX1_reckon 61 = .ok (.getfield 42, 3) := by decide +kernel
theorem dX1_reckon_64 : decode cX1_reckon 64 = .ok (.iload_n 1, 1) := by decide +kernel
theorem dX1_reckon_65 : decode cX1_reckon 65 = .ok (.aaload, 1) := by decide +kernel
theorem dX1_reckon_66 : decode cX1_reckon 66 = .ok (.iload_n 2, 1) := by decide +kernel
theorem dX1_reckon_67 : decode cX1_reckon 67 = .ok (.iconst 0, 1) := by decide +kernel
theorem dX1_reckon_68 : decode cX1_reckon 68 = .ok (.bipush 30, 2) := by decide +kernel
theorem dX1_reckon_70 : decode cX1_reckon 70 = .ok (.iload 4, 2) := by decide +kernel
theorem dX1_reckon_72 : decode cX1_reckon 72 = .ok (.invokestatic 56, 3) := by decide +kernel
theorem dX1_reckon_75 : decode cX1_reckon 75 = .ok (.invokestatic 62, 3) := by decide +kernel
theorem dX1_reckon_78 : decode cX1_reckon 78 = .ok (.iastore, 1) := by decide +kernel
theorem dX1_reckon_79 : decode cX1_reckon 79 = .ok (.iinc 2 1, 3) := by decide +kernel
theorem dX1_reckon_82 : decode cX1_reckon 82 = .ok (.goto (-70), 3) := by decide +kernel
theorem dX1_reckon_85 : decode cX1_reckon 85 = .ok (.iinc 1 1, 3) := by decide +kernel
theorem dX1_reckon_88 : decode cX1_reckon 88 = .ok (.goto (-86), 3) := by decide +kernel
theorem dX1_reckon_91 : decode cX1_reckon 91 = .ok (.return_, 1) := by decide +kernel
theorem dX10_groups_0 : decode cX10_groups 0 = .ok (.aload_n 0, 1) := by decide +kernel
theorem dX10_groups_1 : decode cX10_groups 1 = .ok (.getfield 28, 3) := by decide +kernel
theorem dX10_groups_4 : decode cX10_groups 4 = .ok (.invokevirtual 126, 3) := by decide +kernel
theorem dX10_groups_7 : decode cX10_groups 7 = .ok (.istore_n 1, 1) := by decide +kernel
theorem dX10_groups_8 : decode cX10_groups 8 = .ok (.aload_n 0, 1) := by decide +kernel
theorem dX10_groups_9 : decode cX10_groups 9 = .ok (.getfield 10, 3) := by decide +kernel
theorem dX10_groups_12 : decode cX10_groups 12 = .ok (.iconst 0, 1) := by decide +kernel
theorem dX10_groups_13 : decode cX10_groups 13 = .ok (.putfield 120, 3) := by decide +kernel
theorem dX10_groups_16 : decode cX10_groups 16 = .ok (.iload_n 1, 1) := by decide +kernel
theorem dX10_groups_17 : decode cX10_groups 17 = .ok (.ifCond .le 30, 3) := by decide +kernel
theorem dX10_groups_20 : decode cX10_groups 20 = .ok (.aload_n 0, 1) := by decide +kernel
theorem dX10_groups_21 : decode cX10_groups 21 = .ok (.getfield 19, 3) := by decide +kernel
theorem dX10_groups_24 : decode cX10_groups 24 = .ok (.dup, 1) := by decide +kernel
theorem dX10_groups_25 : decode cX10_groups 25 = .ok (.getfield 129, 3) := by decide +kernel
theorem dX10_groups_28 : decode cX10_groups 28 = .ok (.iload_n 1, 1) := by decide +kernel
theorem dX10_groups_29 : decode cX10_groups 29 = .ok (.iadd, 1) := by decide +kernel
theorem dX10_groups_30 : decode cX10_groups 30 = .ok (.putfield 129, 3) := by decide +kernel
theorem dX10_groups_33 : decode cX10_groups 33 = .ok (.aload_n 0, 1) := by decide +kernel
theorem dX10_groups_34 : decode cX10_groups 34 = .ok (.getfield 19, 3) := by decide +kernel
theorem dX10_groups_37 : decode cX10_groups 37 = .ok (.invokevirtual 132, 3) := by decide +kernel
theorem dX10_groups_40 : decode cX10_groups 40 = .ok (.aload_n 0, 1) := by decide +kernel
theorem dX10_groups_41 : decode cX10_groups 41 = .ok (.getfield 51, 3) := by decide +kernel
theorem dX10_groups_44 : decode cX10_groups 44 = .ok (.invokevirtual 135, 3) := by decide +kernel
theorem dX10_groups_47 : decode cX10_groups 47 = .ok (.iload_n 1, 1) := by decide +kernel
theorem dX10_groups_48 : decode cX10_groups 48 = .ok (.ireturn, 1) := by decide +kernel
theorem dX3_faultOf_0 : decode cX3_faultOf 0 = .ok (.aload_n 1, 1) := by decide +kernel
theorem dX3_faultOf_1 : decode cX3_faultOf 1 = .ok (.getfield 22, 3) := by decide +kernel
theorem dX3_faultOf_4 : decode cX3_faultOf 4 = .ok (.ifCond .ne 5, 3) := by decide +kernel
theorem dX3_faultOf_7 : decode cX3_faultOf 7 = .ok (.iconst (-1), 1) := by decide +kernel
theorem dX3_faultOf_8 : decode cX3_faultOf 8 = .ok (.ireturn, 1) := by decide +kernel
theorem dX3_faultOf_9 : decode cX3_faultOf 9 = .ok (.aload_n 0, 1) := by decide +kernel
theorem dX3_faultOf_10 : decode cX3_faultOf 10 = .ok (.aload_n 1, 1) := by decide +kernel
theorem dX3_faultOf_11 : decode cX3_faultOf 11 = .ok (.getfield 25, 3) := by decide +kernel
theorem dX3_faultOf_14 : decode cX3_faultOf 14 = .ok (.putfield 19, 3) := by decide +kernel
theorem dX3_faultOf_17 : decode cX3_faultOf 17 = .ok (.aload_n 0, 1) := by decide +kernel
theorem dX3_faultOf_18 : decode cX3_faultOf 18 = .ok (.aload_n 1, 1) := by decide +kernel
theorem dX3_faultOf_19 : decode cX3_faultOf 19 = .ok (.getfield 22, 3) := by decide +kernel
theorem dX3_faultOf_22 : decode cX3_faultOf 22 = .ok (.bipush 40, 2) := by decide +kernel
theorem dX3_faultOf_24 : decode cX3_faultOf 24 = .ok (.invokestatic 26, 3) := by decide +kernel
theorem dX3_faultOf_27 : decode cX3_faultOf 27 = .ok (.putfield 32, 3) := by decide +kernel
theorem dX3_faultOf_30 : decode cX3_faultOf 30 = .ok (.aload_n 0, 1) := by decide +kernel
theorem dX3_faultOf_31 : decode cX3_faultOf 31 = .ok (.aload_n 1, 1) := by decide +kernel
theorem dX3_faultOf_32 : decode cX3_faultOf 32 = .ok (.getfield 22, 3) := by decide +kernel
theorem dX3_faultOf_35 : decode cX3_faultOf 35 = .ok (.bipush 40, 2) := by decide +kernel
theorem dX3_faultOf_37 : decode cX3_faultOf 37 = .ok (.if_icmp .le 7, 3) := by decide +kernel
theorem dX3_faultOf_40 : decode cX3_faultOf 40 = .ok (.iconst 1, 1) := by decide +kernel
theorem dX3_faultOf_41 : decode cX3_faultOf 41 = .ok (.goto 4, 3) := by decide +kernel
theorem dX3_faultOf_44 : decode cX3_faultOf 44 = .ok (.iconst 0, 1) := by decide +kernel
theorem dX3_faultOf_45 : decode cX3_faultOf 45 = .ok (.putfield 35, 3) := by decide +kernel
theorem dX3_faultOf_48 : decode cX3_faultOf 48 = .ok (.aload_n 0, 1) := by decide +kernel
theorem dX3_faultOf_49 : decode cX3_faultOf 49 = .ok (.invokevirtual 39, 3) := by decide +kernel
theorem dX3_faultOf_52 : decode cX3_faultOf 52 = .ok (.pop, 1) := by decide +kernel
theorem dX3_faultOf_53 : decode cX3_faultOf 53 = .ok (.aload_n 0, 1) := by decide +kernel
theorem dX3_faultOf_54 : decode cX3_faultOf 54 = .ok (.getfield 43, 3) := by decide +kernel
theorem dX3_faultOf_57 : decode cX3_faultOf 57 = .ok (.ireturn, 1) := by decide +kernel
theorem dX3_take_0 : decode cX3_take 0 = .ok (.aload_n 0, 1) := by decide +kernel
theorem dX3_take_1 : decode cX3_take 1 = .ok (.aload_n 1, 1) := by decide +kernel
theorem dX3_take_2 : decode cX3_take 2 = .ok (.getfield 22, 3) := by decide +kernel
theorem dX3_take_5 : decode cX3_take 5 = .ok (.bipush 40, 2) := by decide +kernel
theorem dX3_take_7 : decode cX3_take 7 = .ok (.invokestatic 26, 3) := by decide +kernel
theorem dX3_take_10 : decode cX3_take 10 = .ok (.putfield 15, 3) := by decide +kernel
theorem dX3_take_13 : decode cX3_take 13 = .ok (.aload_n 1, 1) := by decide +kernel
theorem dX3_take_14 : decode cX3_take 14 = .ok (.getfield 25, 3) := by decide +kernel
theorem dX3_take_17 : decode cX3_take 17 = .ok (.iconst 0, 1) := by decide +kernel
theorem dX3_take_18 : decode cX3_take 18 = .ok (.aload_n 0, 1) := by decide +kernel
theorem dX3_take_19 : decode cX3_take 19 = .ok (.getfield 11, 3) := by decide +kernel
theorem dX3_take_22 : decode cX3_take 22 = .ok (.iconst 0, 1) := by decide +kernel
theorem dX3_take_23 : decode cX3_take 23 = .ok (.aload_n 0, 1) := by decide +kernel
theorem dX3_take_24 : decode cX3_take 24 = .ok (.getfield 15, 3) := by decide +kernel
theorem dX3_take_27 : decode cX3_take 27 = .ok (.invokestatic 46, 3) := by decide +kernel
theorem dX3_take_30 : decode cX3_take 30 = .ok (.return_, 1) := by decide +kernel
theorem dX10_rule_0 : decode cX10_rule 0 = .ok (.aload_n 0, 1) := by decide +kernel
theorem dX10_rule_1 : decode cX10_rule 1 = .ok (.getfield 19, 3) := by decide +kernel
theorem dX10_rule_4 : decode cX10_rule 4 = .ok (.getfield 138, 3) := by decide +kernel
theorem dX10_rule_7 : decode cX10_rule 7 = .ok (.aload_n 0, 1) := by decide +kernel
theorem dX10_rule_8 : decode cX10_rule 8 = .ok (.getfield 10, 3) := by decide +kernel
theorem dX10_rule_11 : decode cX10_rule 11 = .ok (.invokevirtual 142, 3) := by decide +kernel
theorem dX10_rule_14 : decode cX10_rule 14 = .ok (.istore_n 1, 1) := by decide +kernel
theorem dX10_rule_15 : decode cX10_rule 15 = .ok (.iload_n 1, 1) := by decide +kernel
theorem dX10_rule_16 : decode cX10_rule 16 = .ok (.iconst (-1), 1) := by decide +kernel
theorem dX10_rule_17 : decode cX10_rule 17 = .ok (.if_icmp .ne 24, 3) := by decide +kernel
theorem dX10_rule_20 : decode cX10_rule 20 = .ok (.aload_n 0, 1) := by decide +kernel
theorem dX10_rule_21 : decode cX10_rule 21 = .ok (.getfield 19, 3) := by decide +kernel
theorem dX10_rule_24 : decode cX10_rule 24 = .ok (.getfield 138, 3) := by decide +kernel
theorem dX10_rule_27 : decode cX10_rule 27 = .ok (.aload_n 0, 1) := by decide +kernel
theorem dX10_rule_28 : decode cX10_rule 28 = .ok (.getfield 10, 3) := by decide +kernel
theorem dX10_rule_31 : decode cX10_rule 31 = .ok (.invokevirtual 148, 3) := by decide +kernel
theorem dX10_rule_34 : decode cX10_rule 34 = .ok (.aload_n 0, 1) := by decide +kernel
theorem dX10_rule_35 : decode cX10_rule 35 = .ok (.getfield 19, 3) := by decide +kernel
theorem dX10_rule_38 : decode cX10_rule 38 = .ok (.invokevirtual 132, 3) := by decide +kernel
theorem dX10_rule_41 : decode cX10_rule 41 = .ok (.aload_n 0, 1) := by decide +kernel
theorem dX10_rule_42 : decode cX10_rule 42 = .ok (.getfield 10, 3) := by decide +kernel
theorem dX10_rule_45 : decode cX10_rule 45 = .ok (.iconst 0, 1) := by decide +kernel
theorem dX10_rule_46 : decode cX10_rule 46 = .ok (.putfield 120, 3) := by decide +kernel
theorem dX10_rule_49 : decode cX10_rule 49 = .ok (.iload_n 1, 1) := by decide +kernel
theorem dX10_rule_50 : decode cX10_rule 50 = .ok (.iconst (-1), 1) := by decide +kernel
theorem dX10_rule_51 : decode cX10_rule 51 = .ok (.if_icmp .ne 7, 3) := by decide +kernel
theorem dX10_rule_54 : decode cX10_rule 54 = .ok (.iconst 0, 1) := by decide +kernel
theorem dX10_rule_55 : decode cX10_rule 55 = .ok (.goto 6, 3) := by decide +kernel
theorem dX10_rule_58 : decode cX10_rule 58 = .ok (.iconst (-1), 1) := by decide +kernel
theorem dX10_rule_59 : decode cX10_rule 59 = .ok (.iload_n 1, 1) := by decide +kernel
theorem dX10_rule_60 : decode cX10_rule 60 = .ok (.isub, 1) := by decide +kernel
theorem dX10_rule_61 : decode cX10_rule 61 = .ok (.ireturn, 1) := by decide +kernel
theorem dX10_stay_0 : decode cX10_stay 0 = .ok (.aload_n 0, 1) := by decide +kernel
theorem dX10_stay_1 : decode cX10_stay 1 = .ok (.getfield 19, 3) := by decide +kernel
theorem dX10_stay_4 : decode cX10_stay 4 = .ok (.iload_n 1, 1) := by decide +kernel
theorem dX10_stay_5 : decode cX10_stay 5 = .ok (.invokevirtual 152, 3) := by decide +kernel
theorem dX10_stay_8 : decode cX10_stay 8 = .ok (.ifCond .eq 28, 3) := by decide +kernel
theorem dX10_stay_11 : decode cX10_stay 11 = .ok (.aload_n 0, 1) := by decide +kernel
theorem dX10_stay_12 : decode cX10_stay 12 = .ok (.getfield 19, 3) := by decide +kernel
theorem dX10_stay_15 : decode cX10_stay 15 = .ok (.iload_n 2, 1) := by decide +kernel
theorem dX10_stay_16 : decode cX10_stay 16 = .ok (.invokevirtual 185, 3) := by decide +kernel
theorem dX10_stay_19 : decode cX10_stay 19 = .ok (.ifCond .eq 17, 3) := by decide +kernel
theorem dX10_stay_22 : decode cX10_stay 22 = .ok (.aload_n 0, 1) := by decide +kernel
theorem dX10_stay_23 : decode cX10_stay 23 = .ok (.getfield 19, 3) := by decide +kernel
theorem dX10_stay_26 : decode cX10_stay 26 = .ok (.getfield 201, 3) := by decide +kernel
theorem dX10_stay_29 : decode cX10_stay 29 = .ok (.iload_n 1, 1) := by decide +kernel
theorem dX10_stay_30 : decode cX10_stay 30 = .ok (.aaload, 1) := by decide +kernel
theorem dX10_stay_31 : decode cX10_stay 31 = .ok (.iload_n 2, 1) := by decide +kernel
theorem dX10_stay_32 : decode cX10_stay 32 = .ok (.iaload, 1) := by decide +kernel
theorem dX10_stay_33 : decode cX10_stay 33 = .ok (.goto 4, 3) := by decide +kernel
theorem dX10_stay_36 : decode cX10_stay 36 = .ok (.iconst (-1), 1) := by decide +kernel
theorem dX10_stay_37 : decode cX10_stay 37 = .ok (.ireturn, 1) := by decide +kernel
theorem dX10_leave_0 : decode cX10_leave 0 = .ok (.aload_n 0, 1) := by decide +kernel
theorem dX10_leave_1 : decode cX10_leave 1 = .ok (.getfield 19, 3) := by decide +kernel
theorem dX10_leave_4 : decode cX10_leave 4 = .ok (.iload_n 1, 1) := by decide +kernel
theorem dX10_leave_5 : decode cX10_leave 5 = .ok (.invokevirtual 152, 3) := by decide +kernel
theorem dX10_leave_8 : decode cX10_leave 8 = .ok (.ifCond .eq 20, 3) := by decide +kernel
theorem dX10_leave_11 : decode cX10_leave 11 = .ok (.iload_n 2, 1) := by decide +kernel
theorem dX10_leave_12 : decode cX10_leave 12 = .ok (.ifCond .lt 16, 3) := by decide +kernel
theorem dX10_leave_15 : decode cX10_leave 15 = .ok (.iload_n 2, 1) := by decide +kernel
theorem dX10_leave_16 : decode cX10_leave 16 = .ok (.iconst 1, 1) := by decide +kernel
theorem dX10_leave_17 : decode cX10_leave 17 = .ok (.aload_n 0, 1) := by decide +kernel
theorem dX10_leave_18 : decode cX10_leave 18 = .ok (.getfield 19, 3) := by decide +kernel
theorem dX10_leave_21 : decode cX10_leave 21 = .ok (.getfield 123, 3) := by decide +kernel
theorem dX10_leave_24 : decode cX10_leave 24 = .ok (.ishl, 1) := by decide +kernel
theorem dX10_leave_25 : decode cX10_leave 25 = .ok (.if_icmp .lt 5, 3) := by decide +kernel
theorem dX10_leave_28 : decode cX10_leave 28 = .ok (.iconst (-1), 1) := by decide +kernel
theorem dX10_leave_29 : decode cX10_leave 29 = .ok (.ireturn, 1) := by decide +kernel
theorem dX10_leave_30 : decode cX10_leave 30 = .ok (.aload_n 0, 1) := by decide +kernel
theorem dX10_leave_31 : decode cX10_leave 31 = .ok (.getfield 19, 3) := by decide +kernel
theorem dX10_leave_34 : decode cX10_leave 34 = .ok (.getfield 182, 3) := by decide +kernel
theorem dX10_leave_37 : decode cX10_leave 37 = .ok (.iload_n 1, 1) := by decide +kernel
theorem dX10_leave_38 : decode cX10_leave 38 = .ok (.iaload, 1) := by decide +kernel
theorem dX10_leave_39 : decode cX10_leave 39 = .ok (.istore_n 3, 1) := by decide +kernel
theorem dX10_leave_40 : decode cX10_leave 40 = .ok (.aload_n 0, 1) := by decide +kernel
theorem dX10_leave_41 : decode cX10_leave 41 = .ok (.getfield 19, 3) := by decide +kernel
theorem dX10_leave_44 : decode cX10_leave 44 = .ok (.getfield 182, 3) := by decide +kernel
theorem dX10_leave_47 : decode cX10_leave 47 = .ok (.iload_n 1, 1) := by decide +kernel
theorem dX10_leave_48 : decode cX10_leave 48 = .ok (.iload_n 2, 1) := by decide +kernel
theorem dX10_leave_49 : decode cX10_leave 49 = .ok (.iastore, 1) := by decide +kernel
theorem dX10_leave_50 : decode cX10_leave 50 = .ok (.aload_n 0, 1) := by decide +kernel
theorem dX10_leave_51 : decode cX10_leave 51 = .ok (.getfield 19, 3) := by decide +kernel
theorem dX10_leave_54 : decode cX10_leave 54 = .ok (.invokevirtual 132, 3) := by decide +kernel
theorem dX10_leave_57 : decode cX10_leave 57 = .ok (.iload_n 3, 1) := by decide +kernel
theorem dX10_leave_58 : decode cX10_leave 58 = .ok (.ireturn, 1) := by decide +kernel
theorem dX10_entryOf_0 : decode cX10_entryOf 0 = .ok (.iload_n 1, 1) := by decide +kernel
theorem dX10_entryOf_1 : decode cX10_entryOf 1 = .ok (.istore_n 2, 1) := by decide +kernel
theorem dX10_entryOf_2 : decode cX10_entryOf 2 = .ok (.iload_n 0, 1) := by decide +kernel
theorem dX10_entryOf_3 : decode cX10_entryOf 3 = .ok (.ifCond .ne 9, 3) := by decide +kernel
theorem dX10_entryOf_6 : decode cX10_entryOf 6 = .ok (.iload_n 1, 1) := by decide +kernel
theorem dX10_entryOf_7 : decode cX10_entryOf 7 = .ok (.i2b, 1) := by decide +kernel
theorem dX10_entryOf_8 : decode cX10_entryOf 8 = .ok (.istore_n 2, 1) := by decide +kernel
theorem dX10_entryOf_9 : decode cX10_entryOf 9 = .ok (.goto 11, 3) := by decide +kernel
theorem dX10_entryOf_12 : decode cX10_entryOf 12 = .ok (.iload_n 0, 1) := by decide +kernel
theorem dX10_entryOf_13 : decode cX10_entryOf 13 = .ok (.iconst 1, 1) := by decide +kernel
theorem dX10_entryOf_14 : decode cX10_entryOf 14 = .ok (.if_icmp .ne 6, 3) := by decide +kernel
theorem dX10_entryOf_17 : decode cX10_entryOf 17 = .ok (.iload_n 1, 1) := by decide +kernel
theorem dX10_entryOf_18 : decode cX10_entryOf 18 = .ok (.i2s, 1) := by decide +kernel
theorem dX10_entryOf_19 : decode cX10_entryOf 19 = .ok (.istore_n 2, 1) := by decide +kernel
theorem dX10_entryOf_20 : decode cX10_entryOf 20 = .ok (.iconst 0, 1) := by decide +kernel
theorem dX10_entryOf_21 : decode cX10_entryOf 21 = .ok (.bipush 9, 2) := by decide +kernel
theorem dX10_entryOf_23 : decode cX10_entryOf 23 = .ok (.iload_n 2, 1) := by decide +kernel
theorem dX10_entryOf_24 : decode cX10_entryOf 24 = .ok (.invokestatic 412, 3) := by decide +kernel
theorem dX10_entryOf_27 : decode cX10_entryOf 27 = .ok (.invokestatic 357, 3) := by decide +kernel
theorem dX10_entryOf_30 : decode cX10_entryOf 30 = .ok (.ireturn, 1) := by decide +kernel
theorem dX10_sheet_0 : decode cX10_sheet 0 = .ok (.iload_n 2, 1) := by decide +kernel
theorem dX10_sheet_1 : decode cX10_sheet 1 = .ok (.ifCond .lt 25, 3) := by decide +kernel
theorem dX10_sheet_4 : decode cX10_sheet 4 = .ok (.iload_n 2, 1) := by decide +kernel
theorem dX10_sheet_5 : decode cX10_sheet 5 = .ok (.iconst 3, 1) := by decide +kernel
theorem dX10_sheet_6 : decode cX10_sheet 6 = .ok (.if_icmp .gt 20, 3) := by decide +kernel
theorem dX10_sheet_9 : decode cX10_sheet 9 = .ok (.iload_n 3, 1) := by decide +kernel
theorem dX10_sheet_10 : decode cX10_sheet 10 = .ok (.bipush 6, 2) := by decide +kernel
theorem dX10_sheet_12 : decode cX10_sheet 12 = .ok (.if_icmp .gt 14, 3) := by decide +kernel
theorem dX10_sheet_15 : decode cX10_sheet 15 = .ok (.aload_n 0, 1) := by decide +kernel
theorem dX10_sheet_16 : decode cX10_sheet 16 = .ok (.getfield 19, 3) := by decide +kernel
theorem dX10_sheet_19 : decode cX10_sheet 19 = .ok (.iload_n 1, 1) := by decide +kernel
theorem dX10_sheet_20 : decode cX10_sheet 20 = .ok (.invokevirtual 185, 3) := by decide +kernel
theorem dX10_sheet_23 : decode cX10_sheet 23 = .ok (.ifCond .ne 5, 3) := by decide +kernel
theorem dX10_sheet_26 : decode cX10_sheet 26 = .ok (.iconst (-1), 1) := by decide +kernel
theorem dX10_sheet_27 : decode cX10_sheet 27 = .ok (.ireturn, 1) := by decide +kernel
theorem dX10_sheet_28 : decode cX10_sheet 28 = .ok (.iload_n 2, 1) := by decide +kernel
theorem dX10_sheet_29 : decode cX10_sheet 29 = .ok (.iconst 3, 1) := by decide +kernel
theorem dX10_sheet_30 : decode cX10_sheet 30 = .ok (.if_icmp .eq 10, 3) := by decide +kernel
theorem dX10_sheet_33 : decode cX10_sheet 33 = .ok (.iload_n 3, 1) := by decide +kernel
theorem dX10_sheet_34 : decode cX10_sheet 34 = .ok (.ifCond .ge 6, 3) := by decide +kernel
theorem dX10_sheet_37 : decode cX10_sheet 37 = .ok (.bipush (-2), 2) := by decide +kernel
theorem dX10_sheet_39 : decode cX10_sheet 39 = .ok (.ireturn, 1) := by decide +kernel
theorem dX10_sheet_40 : decode cX10_sheet 40 = .ok (.iload_n 2, 1) := by decide +kernel
theorem dX10_sheet_41 : decode cX10_sheet 41 = .ok (.iconst 3, 1) := by decide +kernel
theorem dX10_sheet_42 : decode cX10_sheet 42 = .ok (.if_icmp .ne 7, 3) := by decide +kernel
theorem dX10_sheet_45 : decode cX10_sheet 45 = .ok (.iconst 0, 1) := by decide +kernel
theorem dX10_sheet_46 : decode cX10_sheet 46 = .ok (.goto 4, 3) := by decide +kernel
theorem dX10_sheet_49 : decode cX10_sheet 49 = .ok (.iload_n 3, 1) := by decide +kernel
theorem dX10_sheet_50 : decode cX10_sheet 50 = .ok (.istore 6, 2) := by decide +kernel
theorem dX10_sheet_52 : decode cX10_sheet 52 = .ok (.iconst 0, 1) := by decide +kernel
theorem dX10_sheet_53 : decode cX10_sheet 53 = .ok (.istore 7, 2) := by decide +kernel
theorem dX10_sheet_55 : decode cX10_sheet 55 = .ok (.iconst 0, 1) := by decide +kernel
theorem dX10_sheet_56 : decode cX10_sheet 56 = .ok (.istore 8, 2) := by decide +kernel
theorem dX10_sheet_58 : decode cX10_sheet 58 = .ok (.iload 8, 2) := by decide +kernel
theorem dX10_sheet_60 : decode cX10_sheet 60 = .ok (.aload_n 0, 1) := by decide +kernel
theorem dX10_sheet_61 : decode cX10_sheet 61 = .ok (.getfield 19, 3) := by decide +kernel
theorem dX10_sheet_64 : decode cX10_sheet 64 = .ok (.getfield 129, 3) := by decide +kernel
theorem dX10_sheet_67 : decode cX10_sheet 67 = .ok (.if_icmp .ge 55, 3) := by decide +kernel
theorem dX10_sheet_70 : decode cX10_sheet 70 = .ok (.iload 8, 2) := by decide +kernel
theorem dX10_sheet_72 : decode cX10_sheet 72 = .ok (.iload 6, 2) := by decide +kernel
theorem dX10_sheet_74 : decode cX10_sheet 74 = .ok (.if_icmp .ge 18, 3) := by decide +kernel
theorem dX10_sheet_77 : decode cX10_sheet 77 = .ok (.iload_n 2, 1) := by decide +kernel
theorem dX10_sheet_78 : decode cX10_sheet 78 = .ok (.iload 4, 2) := by decide +kernel
theorem dX10_sheet_80 : decode cX10_sheet 80 = .ok (.iload 8, 2) := by decide +kernel
theorem dX10_sheet_82 : decode cX10_sheet 82 = .ok (.iload 5, 2) := by decide +kernel
theorem dX10_sheet_84 : decode cX10_sheet 84 = .ok (.imul, 1) := by decide +kernel
theorem dX10_sheet_85 : decode cX10_sheet 85 = .ok (.iadd, 1) := by decide +kernel
theorem dX10_sheet_86 : decode cX10_sheet 86 = .ok (.invokestatic 205, 3) := by decide +kernel
theorem dX10_sheet_89 : decode cX10_sheet 89 = .ok (.goto 4, 3) := by decide +kernel
theorem dX10_sheet_92 : decode cX10_sheet 92 = .ok (.iconst 0, 1) := by decide +kernel
theorem dX10_sheet_93 : decode cX10_sheet 93 = .ok (.istore 9, 2) := by decide +kernel
theorem dX10_sheet_95 : decode cX10_sheet 95 = .ok (.aload_n 0, 1) := by decide +kernel
theorem dX10_sheet_96 : decode cX10_sheet 96 = .ok (.getfield 19, 3) := by decide +kernel
theorem dX10_sheet_99 : decode cX10_sheet 99 = .ok (.getfield 208, 3) := by decide +kernel
theorem dX10_sheet_102 : decode cX10_sheet 102 = .ok (.iload 8, 2) := by decide +kernel
theorem dX10_sheet_104 : decode cX10_sheet 104 = .ok (.aaload, 1) := by decide +kernel
theorem dX10_sheet_105 : decode cX10_sheet 105 = .ok (.iload_n 1, 1) := by decide +kernel
theorem dX10_sheet_106 : decode cX10_sheet 106 = .ok (.iload 9, 2) := by decide +kernel
theorem dX10_sheet_108 : decode cX10_sheet 108 = .ok (.iastore, 1) := by decide +kernel
theorem dX10_sheet_109 : decode cX10_sheet 109 = .ok (.iload 7, 2) := by decide +kernel
theorem dX10_sheet_111 : decode cX10_sheet 111 = .ok (.iload 9, 2) := by decide +kernel
theorem dX10_sheet_113 : decode cX10_sheet 113 = .ok (.iadd, 1) := by decide +kernel
theorem dX10_sheet_114 : decode cX10_sheet 114 = .ok (.istore 7, 2) := by decide +kernel
theorem dX10_sheet_116 : decode cX10_sheet 116 = .ok (.iinc 8 1, 3) := by decide +kernel
theorem dX10_sheet_119 : decode cX10_sheet 119 = .ok (.goto (-61), 3) := by decide +kernel
theorem dX10_sheet_122 : decode cX10_sheet 122 = .ok (.aload_n 0, 1) := by decide +kernel
theorem dX10_sheet_123 : decode cX10_sheet 123 = .ok (.getfield 19, 3) := by decide +kernel
theorem dX10_sheet_126 : decode cX10_sheet 126 = .ok (.invokevirtual 132, 3) := by decide +kernel
theorem dX10_sheet_129 : decode cX10_sheet 129 = .ok (.iload_n 2, 1) := by decide +kernel
theorem dX10_sheet_130 : decode cX10_sheet 130 = .ok (.iconst 3, 1) := by decide +kernel
theorem dX10_sheet_131 : decode cX10_sheet 131 = .ok (.if_icmp .ne 8, 3) := by decide +kernel
theorem dX10_sheet_134 : decode cX10_sheet 134 = .ok (.bipush (-3), 2) := by decide +kernel
theorem dX10_sheet_136 : decode cX10_sheet 136 = .ok (.goto 5, 3) := by decide +kernel
theorem dX10_sheet_139 : decode cX10_sheet 139 = .ok (.iload 7, 2) := by decide +kernel
theorem dX10_sheet_141 : decode cX10_sheet 141 = .ok (.ireturn, 1) := by decide +kernel
theorem dX1_onWay_0 : decode cX1_onWay 0 = .ok (.aload_n 0, 1) := by decide +kernel
theorem dX1_onWay_1 : decode cX1_onWay 1 = .ok (.getfield 31, 3) := by decide +kernel
theorem dX1_onWay_4 : decode cX1_onWay 4 = .ok (.iload_n 1, 1) := by decide +kernel
theorem dX1_onWay_5 : decode cX1_onWay 5 = .ok (.iaload, 1) := by decide +kernel
theorem dX1_onWay_6 : decode cX1_onWay 6 = .ok (.iconst 1, 1) := by decide +kernel
theorem dX1_onWay_7 : decode cX1_onWay 7 = .ok (.if_icmp .ne 14, 3) := by decide +kernel
theorem dX1_onWay_10 : decode cX1_onWay 10 = .ok (.aload_n 0, 1) := by decide +kernel
theorem dX1_onWay_11 : decode cX1_onWay 11 = .ok (.getfield 9, 3) := by decide +kernel
theorem dX1_onWay_14 : decode cX1_onWay 14 = .ok (.iconst 1, 1) := by decide +kernel
theorem dX1_onWay_15 : decode cX1_onWay 15 = .ok (.isub, 1) := by decide +kernel
theorem dX1_onWay_16 : decode cX1_onWay 16 = .ok (.iload_n 2, 1) := by decide +kernel
theorem dX1_onWay_17 : decode cX1_onWay 17 = .ok (.isub, 1) := by decide +kernel
theorem dX1_onWay_18 : decode cX1_onWay 18 = .ok (.goto 4, 3) := by decide +kernel
theorem dX1_onWay_21 : decode cX1_onWay 21 = .ok (.iload_n 2, 1) := by decide +kernel
theorem dX1_onWay_22 : decode cX1_onWay 22 = .ok (.ireturn, 1) := by decide +kernel
theorem dX1_barTo_0 : decode cX1_barTo 0 = .ok (.aload_n 1, 1) := by decide +kernel
theorem dX1_barTo_1 : decode cX1_barTo 1 = .ok (.getfield 76, 3) := by decide +kernel
theorem dX1_barTo_4 : decode cX1_barTo 4 = .ok (.iload_n 2, 1) := by decide +kernel
theorem dX1_barTo_5 : decode cX1_barTo 5 = .ok (.iaload, 1) := by decide +kernel
theorem dX1_barTo_6 : decode cX1_barTo 6 = .ok (.iconst (-1), 1) := by decide +kernel
theorem dX1_barTo_7 : decode cX1_barTo 7 = .ok (.if_icmp .eq 6, 3) := by decide +kernel
theorem dX1_barTo_10 : decode cX1_barTo 10 = .ok (.bipush (-2), 2) := by decide +kernel
theorem dX1_barTo_12 : decode cX1_barTo 12 = .ok (.ireturn, 1) := by decide +kernel
theorem dX1_barTo_13 : decode cX1_barTo 13 = .ok (.aload_n 1, 1) := by decide +kernel
theorem dX1_barTo_14 : decode cX1_barTo 14 = .ok (.getfield 81, 3) := by decide +kernel
theorem dX1_barTo_17 : decode cX1_barTo 17 = .ok (.aload_n 0, 1) := by decide +kernel
theorem dX1_barTo_18 : decode cX1_barTo 18 = .ok (.getfield 21, 3) := by decide +kernel
theorem dX1_barTo_21 : decode cX1_barTo 21 = .ok (.iload_n 2, 1) := by decide +kernel
theorem dX1_barTo_22 : decode cX1_barTo 22 = .ok (.iaload, 1) := by decide +kernel
theorem dX1_barTo_23 : decode cX1_barTo 23 = .ok (.if_icmp .ge 6, 3) := by decide +kernel
theorem dX1_barTo_26 : decode cX1_barTo 26 = .ok (.bipush (-3), 2) := by decide +kernel
theorem dX1_barTo_28 : decode cX1_barTo 28 = .ok (.ireturn, 1) := by decide +kernel
theorem dX1_barTo_29 : decode cX1_barTo 29 = .ok (.aload_n 1, 1) := by decide +kernel
theorem dX1_barTo_30 : decode cX1_barTo 30 = .ok (.getfield 84, 3) := by decide +kernel
theorem dX1_barTo_33 : decode cX1_barTo 33 = .ok (.aload_n 0, 1) := by decide +kernel
theorem dX1_barTo_34 : decode cX1_barTo 34 = .ok (.iload_n 2, 1) := by decide +kernel
theorem dX1_barTo_35 : decode cX1_barTo 35 = .ok (.iconst 0, 1) := by decide +kernel
theorem dX1_barTo_36 : decode cX1_barTo 36 = .ok (.invokevirtual 73, 3) := by decide +kernel
theorem dX1_barTo_39 : decode cX1_barTo 39 = .ok (.ishr, 1) := by decide +kernel
theorem dX1_barTo_40 : decode cX1_barTo 40 = .ok (.iconst 1, 1) := by decide +kernel
theorem dX1_barTo_41 : decode cX1_barTo 41 = .ok (.iand, 1) := by decide +kernel
theorem dX1_barTo_42 : decode cX1_barTo 42 = .ok (.iconst 1, 1) := by decide +kernel
theorem dX1_barTo_43 : decode cX1_barTo 43 = .ok (.if_icmp .ne 8, 3) := by decide +kernel
theorem dX1_barTo_46 : decode cX1_barTo 46 = .ok (.bipush (-4), 2) := by decide +kernel
theorem dX1_barTo_48 : decode cX1_barTo 48 = .ok (.goto 4, 3) := by decide +kernel
theorem dX1_barTo_51 : decode cX1_barTo 51 = .ok (.iconst 0, 1) := by decide +kernel
theorem dX1_barTo_52 : decode cX1_barTo 52 = .ok (.ireturn, 1) := by decide +kernel
theorem dX7_copy_0 : decode cX7_copy 0 = .ok (.aload_n 0, 1) := by decide +kernel
theorem dX7_copy_1 : decode cX7_copy 1 = .ok (.aload_n 1, 1) := by decide +kernel
theorem dX7_copy_2 : decode cX7_copy 2 = .ok (.getfield 27, 3) := by decide +kernel
theorem dX7_copy_5 : decode cX7_copy 5 = .ok (.putfield 27, 3) := by decide +kernel
theorem dX7_copy_8 : decode cX7_copy 8 = .ok (.aload_n 0, 1) := by decide +kernel
theorem dX7_copy_9 : decode cX7_copy 9 = .ok (.aload_n 1, 1) := by decide +kernel
theorem dX7_copy_10 : decode cX7_copy 10 = .ok (.getfield 31, 3) := by decide +kernel
theorem dX7_copy_13 : decode cX7_copy 13 = .ok (.putfield 31, 3) := by decide +kernel
theorem dX7_copy_16 : decode cX7_copy 16 = .ok (.aload_n 1, 1) := by decide +kernel
theorem dX7_copy_17 : decode cX7_copy 17 = .ok (.getfield 9, 3) := by decide +kernel
theorem dX7_copy_20 : decode cX7_copy 20 = .ok (.iconst 0, 1) := by decide +kernel
theorem dX7_copy_21 : decode cX7_copy 21 = .ok (.aload_n 0, 1) := by decide +kernel
theorem dX7_copy_22 : decode cX7_copy 22 = .ok (.getfield 9, 3) := by decide +kernel
theorem dX7_copy_25 : decode cX7_copy 25 = .ok (.iconst 0, 1) := by decide +kernel
theorem dX7_copy_26 : decode cX7_copy 26 = .ok (.bipush 6, 2) := by decide +kernel
theorem dX7_copy_28 : decode cX7_copy 28 = .ok (.invokestatic 40, 3) := by decide +kernel
theorem dX7_copy_31 : decode cX7_copy 31 = .ok (.aload_n 1, 1) := by decide +kernel
theorem dX7_copy_32 : decode cX7_copy 32 = .ok (.getfield 15, 3) := by decide +kernel
theorem dX7_copy_35 : decode cX7_copy 35 = .ok (.iconst 0, 1) := by decide +kernel
theorem dX7_copy_36 : decode cX7_copy 36 = .ok (.aload_n 0, 1) := by decide +kernel
theorem dX7_copy_37 : decode cX7_copy 37 = .ok (.getfield 15, 3) := by decide +kernel
theorem dX7_copy_40 : decode cX7_copy 40 = .ok (.iconst 0, 1) := by decide +kernel
theorem dX7_copy_41 : decode cX7_copy 41 = .ok (.bipush 6, 2) := by decide +kernel
theorem dX7_copy_43 : decode cX7_copy 43 = .ok (.invokestatic 40, 3) := by decide +kernel
theorem dX7_copy_46 : decode cX7_copy 46 = .ok (.aload_n 1, 1) := by decide +kernel
theorem dX7_copy_47 : decode cX7_copy 47 = .ok (.getfield 18, 3) := by decide +kernel
theorem dX7_copy_50 : decode cX7_copy 50 = .ok (.iconst 0, 1) := by decide +kernel
theorem dX7_copy_51 : decode cX7_copy 51 = .ok (.aload_n 0, 1) := by decide +kernel
theorem dX7_copy_52 : decode cX7_copy 52 = .ok (.getfield 18, 3) := by decide +kernel
theorem dX7_copy_55 : decode cX7_copy 55 = .ok (.iconst 0, 1) := by decide +kernel
theorem dX7_copy_56 : decode cX7_copy 56 = .ok (.bipush 6, 2) := by decide +kernel
theorem dX7_copy_58 : decode cX7_copy 58 = .ok (.invokestatic 40, 3) := by decide +kernel
theorem dX7_copy_61 : decode cX7_copy 61 = .ok (.aload_n 1, 1) := by decide +kernel
theorem dX7_copy_62 : decode cX7_copy 62 = .ok (.getfield 21, 3) := by decide +kernel
theorem dX7_copy_65 : decode cX7_copy 65 = .ok (.iconst 0, 1) := by decide +kernel
theorem dX7_copy_66 : decode cX7_copy 66 = .ok (.aload_n 0, 1) := by decide +kernel
theorem dX7_copy_67 : decode cX7_copy 67 = .ok (.getfield 21, 3) := by decide +kernel
theorem dX7_copy_70 : decode cX7_copy 70 = .ok (.iconst 0, 1) := by decide +kernel
theorem dX7_copy_71 : decode cX7_copy 71 = .ok (.bipush 6, 2) := by decide +kernel
theorem dX7_copy_73 : decode cX7_copy 73 = .ok (.invokestatic 40, 3) := by decide +kernel
theorem dX7_copy_76 : decode cX7_copy 76 = .ok (.return_, 1) := by decide +kernel
theorem dX6_add_0 : decode cX6_add 0 = .ok (.aload_n 0, 1) := by decide +kernel
theorem dX6_add_1 : decode cX6_add 1 = .ok (.aload_n 0, 1) := by decide +kernel
theorem dX6_add_2 : decode cX6_add 2 = .ok (.getfield 18, 3) := by decide +kernel
theorem dX6_add_5 : decode cX6_add 5 = .ok (.iconst 1, 1) := by decide +kernel
theorem dX6_add_6 : decode cX6_add 6 = .ok (.iadd, 1) := by decide +kernel
theorem dX6_add_7 : decode cX6_add 7 = .ok (.bipush 12, 2) := by decide +kernel
theorem dX6_add_9 : decode cX6_add 9 = .ok (.if_icmp .ge 12, 3) := by decide +kernel
theorem dX6_add_12 : decode cX6_add 12 = .ok (.aload_n 0, 1) := by decide +kernel
theorem dX6_add_13 : decode cX6_add 13 = .ok (.getfield 18, 3) := by decide +kernel
theorem dX6_add_16 : decode cX6_add 16 = .ok (.iconst 1, 1) := by decide +kernel
theorem dX6_add_17 : decode cX6_add 17 = .ok (.iadd, 1) := by decide +kernel
theorem dX6_add_18 : decode cX6_add 18 = .ok (.goto 4, 3) := by decide +kernel
theorem dX6_add_21 : decode cX6_add 21 = .ok (.iconst 0, 1) := by decide +kernel
theorem dX6_add_22 : decode cX6_add 22 = .ok (.putfield 18, 3) := by decide +kernel
theorem dX6_add_25 : decode cX6_add 25 = .ok (.aload_n 0, 1) := by decide +kernel
theorem dX6_add_26 : decode cX6_add 26 = .ok (.getfield 11, 3) := by decide +kernel
theorem dX6_add_29 : decode cX6_add 29 = .ok (.aload_n 0, 1) := by decide +kernel
theorem dX6_add_30 : decode cX6_add 30 = .ok (.getfield 18, 3) := by decide +kernel
theorem dX6_add_33 : decode cX6_add 33 = .ok (.aaload, 1) := by decide +kernel
theorem dX6_add_34 : decode cX6_add 34 = .ok (.aload_n 1, 1) := by decide +kernel
theorem dX6_add_35 : decode cX6_add 35 = .ok (.invokevirtual 25, 3) := by decide +kernel
theorem dX6_add_38 : decode cX6_add 38 = .ok (.aload_n 0, 1) := by decide +kernel
theorem dX6_add_39 : decode cX6_add 39 = .ok (.bipush 12, 2) := by decide +kernel
theorem dX6_add_41 : decode cX6_add 41 = .ok (.aload_n 0, 1) := by decide +kernel
theorem dX6_add_42 : decode cX6_add 42 = .ok (.getfield 22, 3) := by decide +kernel
theorem dX6_add_45 : decode cX6_add 45 = .ok (.iconst 1, 1) := by decide +kernel
theorem dX6_add_46 : decode cX6_add 46 = .ok (.iadd, 1) := by decide +kernel
theorem dX6_add_47 : decode cX6_add 47 = .ok (.invokestatic 29, 3) := by decide +kernel
theorem dX6_add_50 : decode cX6_add 50 = .ok (.putfield 22, 3) := by decide +kernel
theorem dX6_add_53 : decode cX6_add 53 = .ok (.return_, 1) := by decide +kernel
theorem dX1_move_0 : decode cX1_move 0 = .ok (.aload_n 1, 1) := by decide +kernel
theorem dX1_move_1 : decode cX1_move 1 = .ok (.getfield 76, 3) := by decide +kernel
theorem dX1_move_4 : decode cX1_move 4 = .ok (.iload_n 2, 1) := by decide +kernel
theorem dX1_move_5 : decode cX1_move 5 = .ok (.iaload, 1) := by decide +kernel
theorem dX1_move_6 : decode cX1_move 6 = .ok (.istore 4, 2) := by decide +kernel
theorem dX1_move_8 : decode cX1_move 8 = .ok (.iload 4, 2) := by decide +kernel
theorem dX1_move_10 : decode cX1_move 10 = .ok (.ifCond .lt 27, 3) := by decide +kernel
theorem dX1_move_13 : decode cX1_move 13 = .ok (.iload 4, 2) := by decide +kernel
theorem dX1_move_15 : decode cX1_move 15 = .ok (.aload_n 0, 1) := by decide +kernel
theorem dX1_move_16 : decode cX1_move 16 = .ok (.getfield 9, 3) := by decide +kernel
theorem dX1_move_19 : decode cX1_move 19 = .ok (.if_icmp .ge 18, 3) := by decide +kernel
theorem dX1_move_22 : decode cX1_move 22 = .ok (.aload_n 1, 1) := by decide +kernel
theorem dX1_move_23 : decode cX1_move 23 = .ok (.dup, 1) := by decide +kernel
theorem dX1_move_24 : decode cX1_move 24 = .ok (.getfield 84, 3) := by decide +kernel
theorem dX1_move_27 : decode cX1_move 27 = .ok (.iconst 1, 1) := by decide +kernel
theorem dX1_move_28 : decode cX1_move 28 = .ok (.iload 4, 2) := by decide +kernel
theorem dX1_move_30 : decode cX1_move 30 = .ok (.ishl, 1) := by decide +kernel
theorem dX1_move_31 : decode cX1_move 31 = .ok (.iconst (-1), 1) := by decide +kernel
theorem dX1_move_32 : decode cX1_move 32 = .ok (.ixor, 1) := by decide +kernel
theorem dX1_move_33 : decode cX1_move 33 = .ok (.iand, 1) := by decide +kernel
theorem dX1_move_34 : decode cX1_move 34 = .ok (.putfield 84, 3) := by decide +kernel
theorem dX1_move_37 : decode cX1_move 37 = .ok (.iload_n 3, 1) := by decide +kernel
theorem dX1_move_38 : decode cX1_move 38 = .ok (.ifCond .lt 11, 3) := by decide +kernel
theorem dX1_move_41 : decode cX1_move 41 = .ok (.iload_n 3, 1) := by decide +kernel
theorem dX1_move_42 : decode cX1_move 42 = .ok (.aload_n 0, 1) := by decide +kernel
theorem dX1_move_43 : decode cX1_move 43 = .ok (.getfield 9, 3) := by decide +kernel
theorem dX1_move_46 : decode cX1_move 46 = .ok (.if_icmp .lt 29, 3) := by decide +kernel
theorem dX1_move_49 : decode cX1_move 49 = .ok (.aload_n 1, 1) := by decide +kernel
theorem dX1_move_50 : decode cX1_move 50 = .ok (.getfield 76, 3) := by decide +kernel
theorem dX1_move_53 : decode cX1_move 53 = .ok (.iload_n 2, 1) := by decide +kernel
theorem dX1_move_54 : decode cX1_move 54 = .ok (.bipush 9, 2) := by decide +kernel
theorem dX1_move_56 : decode cX1_move 56 = .ok (.iastore, 1) := by decide +kernel
theorem dX1_move_57 : decode cX1_move 57 = .ok (.aload_n 1, 1) := by decide +kernel
theorem dX1_move_58 : decode cX1_move 58 = .ok (.getfield 91, 3) := by decide +kernel
theorem dX1_move_61 : decode cX1_move 61 = .ok (.iload_n 2, 1) := by decide +kernel
theorem dX1_move_62 : decode cX1_move 62 = .ok (.iconst 0, 1) := by decide +kernel
theorem dX1_move_63 : decode cX1_move 63 = .ok (.iastore, 1) := by decide +kernel
theorem dX1_move_64 : decode cX1_move 64 = .ok (.aload_n 1, 1) := by decide +kernel
theorem dX1_move_65 : decode cX1_move 65 = .ok (.getfield 94, 3) := by decide +kernel
theorem dX1_move_68 : decode cX1_move 68 = .ok (.iload_n 2, 1) := by decide +kernel
theorem dX1_move_69 : decode cX1_move 69 = .ok (.aload_n 1, 1) := by decide +kernel
theorem dX1_move_70 : decode cX1_move 70 = .ok (.getfield 81, 3) := by decide +kernel
theorem dX1_move_73 : decode cX1_move 73 = .ok (.iastore, 1) := by decide +kernel
theorem dX1_move_74 : decode cX1_move 74 = .ok (.return_, 1) := by decide +kernel
theorem dX1_move_75 : decode cX1_move 75 = .ok (.aload_n 1, 1) := by decide +kernel
theorem dX1_move_76 : decode cX1_move 76 = .ok (.getfield 76, 3) := by decide +kernel
theorem dX1_move_79 : decode cX1_move 79 = .ok (.iload_n 2, 1) := by decide +kernel
theorem dX1_move_80 : decode cX1_move 80 = .ok (.iload_n 3, 1) := by decide +kernel
theorem dX1_move_81 : decode cX1_move 81 = .ok (.iastore, 1) := by decide +kernel
theorem dX1_move_82 : decode cX1_move 82 = .ok (.aload_n 1, 1) := by decide +kernel
theorem dX1_move_83 : decode cX1_move 83 = .ok (.getfield 91, 3) := by decide +kernel
theorem dX1_move_86 : decode cX1_move 86 = .ok (.iload_n 2, 1) := by decide +kernel
theorem dX1_move_87 : decode cX1_move 87 = .ok (.aload_n 0, 1) := by decide +kernel
theorem dX1_move_88 : decode cX1_move 88 = .ok (.getfield 42, 3) := by decide +kernel
theorem dX1_move_91 : decode cX1_move 91 = .ok (.iload_n 2, 1) := by decide +kernel
theorem dX1_move_92 : decode cX1_move 92 = .ok (.aaload, 1) := by decide +kernel
theorem dX1_move_93 : decode cX1_move 93 = .ok (.iload_n 3, 1) := by decide +kernel
theorem dX1_move_94 : decode cX1_move 94 = .ok (.iaload, 1) := by decide +kernel
theorem dX1_move_95 : decode cX1_move 95 = .ok (.iastore, 1) := by decide +kernel
theorem dX1_move_96 : decode cX1_move 96 = .ok (.aload_n 1, 1) := by decide +kernel
theorem dX1_move_97 : decode cX1_move 97 = .ok (.dup, 1) := by decide +kernel
theorem dX1_move_98 : decode cX1_move 98 = .ok (.getfield 84, 3) := by decide +kernel
theorem dX1_move_101 : decode cX1_move 101 = .ok (.iconst 1, 1) := by decide +kernel
theorem dX1_move_102 : decode cX1_move 102 = .ok (.iload_n 3, 1) := by decide +kernel
theorem dX1_move_103 : decode cX1_move 103 = .ok (.ishl, 1) := by decide +kernel
theorem dX1_move_104 : decode cX1_move 104 = .ok (.aload_n 0, 1) := by decide +kernel
theorem dX1_move_105 : decode cX1_move 105 = .ok (.getfield 15, 3) := by decide +kernel
theorem dX1_move_108 : decode cX1_move 108 = .ok (.iconst (-1), 1) := by decide +kernel
theorem dX1_move_109 : decode cX1_move 109 = .ok (.ixor, 1) := by decide +kernel
theorem dX1_move_110 : decode cX1_move 110 = .ok (.iand, 1) := by decide +kernel
theorem dX1_move_111 : decode cX1_move 111 = .ok (.ior, 1) := by decide +kernel
theorem dX1_move_112 : decode cX1_move 112 = .ok (.putfield 84, 3) := by decide +kernel
theorem dX1_move_115 : decode cX1_move 115 = .ok (.return_, 1) := by decide +kernel
theorem dX1_setOff_0 : decode cX1_setOff 0 = .ok (.aload_n 0, 1) := by decide +kernel
theorem dX1_setOff_1 : decode cX1_setOff 1 = .ok (.aload_n 1, 1) := by decide +kernel
theorem dX1_setOff_2 : decode cX1_setOff 2 = .ok (.iload_n 2, 1) := by decide +kernel
theorem dX1_setOff_3 : decode cX1_setOff 3 = .ok (.aload_n 0, 1) := by decide +kernel
theorem dX1_setOff_4 : decode cX1_setOff 4 = .ok (.iload_n 2, 1) := by decide +kernel
theorem dX1_setOff_5 : decode cX1_setOff 5 = .ok (.iconst 0, 1) := by decide +kernel
theorem dX1_setOff_6 : decode cX1_setOff 6 = .ok (.invokevirtual 73, 3) := by decide +kernel
theorem dX1_setOff_9 : decode cX1_setOff 9 = .ok (.invokevirtual 87, 3) := by decide +kernel
theorem dX1_setOff_12 : decode cX1_setOff 12 = .ok (.return_, 1) := by decide +kernel
theorem dX7_bitsInside_0 : decode cX7_bitsInside 0 = .ok (.iconst 0, 1) := by decide +kernel
theorem dX7_bitsInside_1 : decode cX7_bitsInside 1 = .ok (.istore_n 1, 1) := by decide +kernel
theorem dX7_bitsInside_2 : decode cX7_bitsInside 2 = .ok (.iconst 0, 1) := by decide +kernel
theorem dX7_bitsInside_3 : decode cX7_bitsInside 3 = .ok (.istore_n 2, 1) := by decide +kernel
theorem dX7_bitsInside_4 : decode cX7_bitsInside 4 = .ok (.iload_n 2, 1) := by decide +kernel
theorem dX7_bitsInside_5 : decode cX7_bitsInside 5 = .ok (.bipush 6, 2) := by decide +kernel
theorem dX7_bitsInside_7 : decode cX7_bitsInside 7 = .ok (.if_icmp .ge 36, 3) := by decide +kernel
theorem dX7_bitsInside_10 : decode cX7_bitsInside 10 = .ok (.aload_n 0, 1) := by decide +kernel
theorem dX7_bitsInside_11 : decode cX7_bitsInside 11 = .ok (.getfield 9, 3) := by decide +kernel
theorem dX7_bitsInside_14 : decode cX7_bitsInside 14 = .ok (.iload_n 2, 1) := by decide +kernel
theorem dX7_bitsInside_15 : decode cX7_bitsInside 15 = .ok (.iaload, 1) := by decide +kernel
theorem dX7_bitsInside_16 : decode cX7_bitsInside 16 = .ok (.iconst (-1), 1) := by decide +kernel
theorem dX7_bitsInside_17 : decode cX7_bitsInside 17 = .ok (.if_icmp .eq 20, 3) := by decide +kernel
theorem dX7_bitsInside_20 : decode cX7_bitsInside 20 = .ok (.aload_n 0, 1) := by decide +kernel
theorem dX7_bitsInside_21 : decode cX7_bitsInside 21 = .ok (.getfield 9, 3) := by decide +kernel
theorem dX7_bitsInside_24 : decode cX7_bitsInside 24 = .ok (.iload_n 2, 1) := by decide +kernel
theorem dX7_bitsInside_25 : decode cX7_bitsInside 25 = .ok (.iaload, 1) := by decide +kernel
theorem dX7_bitsInside_26 : decode cX7_bitsInside 26 = .ok (.bipush 9, 2) := by decide +kernel
theorem dX7_bitsInside_28 : decode cX7_bitsInside 28 = .ok (.if_icmp .eq 9, 3) := by decide +kernel
theorem dX7_bitsInside_31 : decode cX7_bitsInside 31 = .ok (.iload_n 1, 1) := by decide +kernel
theorem dX7_bitsInside_32 : decode cX7_bitsInside 32 = .ok (.iconst 1, 1) := by decide +kernel
theorem dX7_bitsInside_33 : decode cX7_bitsInside 33 = .ok (.iload_n 2, 1) := by decide +kernel
theorem dX7_bitsInside_34 : decode cX7_bitsInside 34 = .ok (.ishl, 1) := by decide +kernel
theorem dX7_bitsInside_35 : decode cX7_bitsInside 35 = .ok (.ior, 1) := by decide +kernel
theorem dX7_bitsInside_36 : decode cX7_bitsInside 36 = .ok (.istore_n 1, 1) := by decide +kernel
theorem dX7_bitsInside_37 : decode cX7_bitsInside 37 = .ok (.iinc 2 1, 3) := by decide +kernel
theorem dX7_bitsInside_40 : decode cX7_bitsInside 40 = .ok (.goto (-36), 3) := by decide +kernel
theorem dX7_bitsInside_43 : decode cX7_bitsInside 43 = .ok (.iload_n 1, 1) := by decide +kernel
theorem dX7_bitsInside_44 : decode cX7_bitsInside 44 = .ok (.ireturn, 1) := by decide +kernel
theorem dX10_off_0 : decode cX10_off 0 = .ok (.aload_n 0, 1) := by decide +kernel
theorem dX10_off_1 : decode cX10_off 1 = .ok (.getfield 19, 3) := by decide +kernel
theorem dX10_off_4 : decode cX10_off 4 = .ok (.iload_n 1, 1) := by decide +kernel
theorem dX10_off_5 : decode cX10_off 5 = .ok (.invokevirtual 152, 3) := by decide +kernel
theorem dX10_off_8 : decode cX10_off 8 = .ok (.ifCond .ne 5, 3) := by decide +kernel
theorem dX10_off_11 : decode cX10_off 11 = .ok (.iconst (-1), 1) := by decide +kernel
theorem dX10_off_12 : decode cX10_off 12 = .ok (.ireturn, 1) := by decide +kernel
theorem dX10_off_13 : decode cX10_off 13 = .ok (.aload_n 0, 1) := by decide +kernel
theorem dX10_off_14 : decode cX10_off 14 = .ok (.getfield 19, 3) := by decide +kernel
theorem dX10_off_17 : decode cX10_off 17 = .ok (.aload_n 0, 1) := by decide +kernel
theorem dX10_off_18 : decode cX10_off 18 = .ok (.getfield 35, 3) := by decide +kernel
theorem dX10_off_21 : decode cX10_off 21 = .ok (.iload_n 1, 1) := by decide +kernel
theorem dX10_off_22 : decode cX10_off 22 = .ok (.invokevirtual 211, 3) := by decide +kernel
theorem dX10_off_25 : decode cX10_off 25 = .ok (.istore_n 2, 1) := by decide +kernel
theorem dX10_off_26 : decode cX10_off 26 = .ok (.iload_n 2, 1) := by decide +kernel
theorem dX10_off_27 : decode cX10_off 27 = .ok (.ifCond .eq 5, 3) := by decide +kernel
theorem dX10_off_30 : decode cX10_off 30 = .ok (.iload_n 2, 1) := by decide +kernel
theorem dX10_off_31 : decode cX10_off 31 = .ok (.ireturn, 1) := by decide +kernel
theorem dX10_off_32 : decode cX10_off 32 = .ok (.aload_n 0, 1) := by decide +kernel
theorem dX10_off_33 : decode cX10_off 33 = .ok (.getfield 51, 3) := by decide +kernel
theorem dX10_off_36 : decode cX10_off 36 = .ok (.aload_n 0, 1) := by decide +kernel
theorem dX10_off_37 : decode cX10_off 37 = .ok (.getfield 35, 3) := by decide +kernel
theorem dX10_off_40 : decode cX10_off 40 = .ok (.invokevirtual 215, 3) := by decide +kernel
theorem dX10_off_43 : decode cX10_off 43 = .ok (.aload_n 0, 1) := by decide +kernel
theorem dX10_off_44 : decode cX10_off 44 = .ok (.getfield 19, 3) := by decide +kernel
theorem dX10_off_47 : decode cX10_off 47 = .ok (.aload_n 0, 1) := by decide +kernel
theorem dX10_off_48 : decode cX10_off 48 = .ok (.getfield 35, 3) := by decide +kernel
theorem dX10_off_51 : decode cX10_off 51 = .ok (.iload_n 1, 1) := by decide +kernel
theorem dX10_off_52 : decode cX10_off 52 = .ok (.invokevirtual 218, 3) := by decide +kernel
theorem dX10_off_55 : decode cX10_off 55 = .ok (.aload_n 0, 1) := by decide +kernel
theorem dX10_off_56 : decode cX10_off 56 = .ok (.getfield 35, 3) := by decide +kernel
theorem dX10_off_59 : decode cX10_off 59 = .ok (.invokevirtual 222, 3) := by decide +kernel
theorem dX10_off_62 : decode cX10_off 62 = .ok (.invokestatic 225, 3) := by decide +kernel
theorem dX10_off_65 : decode cX10_off 65 = .ok (.ireturn, 1) := by decide +kernel
theorem dX10_isInside_0 : decode cX10_isInside 0 = .ok (.aload_n 0, 1) := by decide +kernel
theorem dX10_isInside_1 : decode cX10_isInside 1 = .ok (.getfield 19, 3) := by decide +kernel
theorem dX10_isInside_4 : decode cX10_isInside 4 = .ok (.iload_n 1, 1) := by decide +kernel
theorem dX10_isInside_5 : decode cX10_isInside 5 = .ok (.invokevirtual 152, 3) := by decide +kernel
theorem dX10_isInside_8 : decode cX10_isInside 8 = .ok (.ifCond .eq 21, 3) := by decide +kernel
theorem dX10_isInside_11 : decode cX10_isInside 11 = .ok (.aload_n 0, 1) := by decide +kernel
theorem dX10_isInside_12 : decode cX10_isInside 12 = .ok (.getfield 35, 3) := by decide +kernel
theorem dX10_isInside_15 : decode cX10_isInside 15 = .ok (.invokevirtual 222, 3) := by decide +kernel
theorem dX10_isInside_18 : decode cX10_isInside 18 = .ok (.iload_n 1, 1) := by decide +kernel
theorem dX10_isInside_19 : decode cX10_isInside 19 = .ok (.invokestatic 362, 3) := by decide +kernel
theorem dX10_isInside_22 : decode cX10_isInside 22 = .ok (.ifCond .eq 7, 3) := by decide +kernel
theorem dX10_isInside_25 : decode cX10_isInside 25 = .ok (.iconst 1, 1) := by decide +kernel
theorem dX10_isInside_26 : decode cX10_isInside 26 = .ok (.goto 4, 3) := by decide +kernel
theorem dX10_isInside_29 : decode cX10_isInside 29 = .ok (.iconst 0, 1) := by decide +kernel
theorem dX10_isInside_30 : decode cX10_isInside 30 = .ok (.ireturn, 1) := by decide +kernel
theorem dX7_runOver_0 : decode cX7_runOver 0 = .ok (.iload_n 1, 1) := by decide +kernel
theorem dX7_runOver_1 : decode cX7_runOver 1 = .ok (.ifCond .lt 28, 3) := by decide +kernel
theorem dX7_runOver_4 : decode cX7_runOver 4 = .ok (.iload_n 1, 1) := by decide +kernel
theorem dX7_runOver_5 : decode cX7_runOver 5 = .ok (.bipush 6, 2) := by decide +kernel
theorem dX7_runOver_7 : decode cX7_runOver 7 = .ok (.if_icmp .ge 22, 3) := by decide +kernel
theorem dX7_runOver_10 : decode cX7_runOver 10 = .ok (.aload_n 0, 1) := by decide +kernel
theorem dX7_runOver_11 : decode cX7_runOver 11 = .ok (.getfield 15, 3) := by decide +kernel
theorem dX7_runOver_14 : decode cX7_runOver 14 = .ok (.iload_n 1, 1) := by decide +kernel
theorem dX7_runOver_15 : decode cX7_runOver 15 = .ok (.bipush 99, 2) := by decide +kernel
theorem dX7_runOver_17 : decode cX7_runOver 17 = .ok (.aload_n 0, 1) := by decide +kernel
theorem dX7_runOver_18 : decode cX7_runOver 18 = .ok (.getfield 15, 3) := by decide +kernel
theorem dX7_runOver_21 : decode cX7_runOver 21 = .ok (.iload_n 1, 1) := by decide +kernel
theorem dX7_runOver_22 : decode cX7_runOver 22 = .ok (.iaload, 1) := by decide +kernel
theorem dX7_runOver_23 : decode cX7_runOver 23 = .ok (.iload_n 2, 1) := by decide +kernel
theorem dX7_runOver_24 : decode cX7_runOver 24 = .ok (.iadd, 1) := by decide +kernel
theorem dX7_runOver_25 : decode cX7_runOver 25 = .ok (.invokestatic 60, 3) := by decide +kernel
theorem dX7_runOver_28 : decode cX7_runOver 28 = .ok (.iastore, 1) := by decide +kernel
theorem dX7_runOver_29 : decode cX7_runOver 29 = .ok (.return_, 1) := by decide +kernel
theorem dX10_over_0 : decode cX10_over 0 = .ok (.iload_n 2, 1) := by decide +kernel
theorem dX10_over_1 : decode cX10_over 1 = .ok (.iconst 1, 1) := by decide +kernel
theorem dX10_over_2 : decode cX10_over 2 = .ok (.if_icmp .lt 17, 3) := by decide +kernel
theorem dX10_over_5 : decode cX10_over 5 = .ok (.iload_n 2, 1) := by decide +kernel
theorem dX10_over_6 : decode cX10_over 6 = .ok (.bipush 30, 2) := by decide +kernel
theorem dX10_over_8 : decode cX10_over 8 = .ok (.if_icmp .gt 11, 3) := by decide +kernel
theorem dX10_over_11 : decode cX10_over 11 = .ok (.aload_n 0, 1) := by decide +kernel
theorem dX10_over_12 : decode cX10_over 12 = .ok (.iload_n 1, 1) := by decide +kernel
theorem dX10_over_13 : decode cX10_over 13 = .ok (.invokevirtual 230, 3) := by decide +kernel
theorem dX10_over_16 : decode cX10_over 16 = .ok (.ifCond .ne 5, 3) := by decide +kernel
theorem dX10_over_19 : decode cX10_over 19 = .ok (.iconst (-1), 1) := by decide +kernel
theorem dX10_over_20 : decode cX10_over 20 = .ok (.ireturn, 1) := by decide +kernel
theorem dX10_over_21 : decode cX10_over 21 = .ok (.aload_n 0, 1) := by decide +kernel
theorem dX10_over_22 : decode cX10_over 22 = .ok (.getfield 51, 3) := by decide +kernel
theorem dX10_over_25 : decode cX10_over 25 = .ok (.aload_n 0, 1) := by decide +kernel
theorem dX10_over_26 : decode cX10_over 26 = .ok (.getfield 35, 3) := by decide +kernel
theorem dX10_over_29 : decode cX10_over 29 = .ok (.invokevirtual 215, 3) := by decide +kernel
theorem dX10_over_32 : decode cX10_over 32 = .ok (.aload_n 0, 1) := by decide +kernel
theorem dX10_over_33 : decode cX10_over 33 = .ok (.getfield 35, 3) := by decide +kernel
theorem dX10_over_36 : decode cX10_over 36 = .ok (.iload_n 1, 1) := by decide +kernel
theorem dX10_over_37 : decode cX10_over 37 = .ok (.iload_n 2, 1) := by decide +kernel
theorem dX10_over_38 : decode cX10_over 38 = .ok (.invokevirtual 233, 3) := by decide +kernel
theorem dX10_over_41 : decode cX10_over 41 = .ok (.aload_n 0, 1) := by decide +kernel
theorem dX10_over_42 : decode cX10_over 42 = .ok (.getfield 35, 3) := by decide +kernel
theorem dX10_over_45 : decode cX10_over 45 = .ok (.getfield 173, 3) := by decide +kernel
theorem dX10_over_48 : decode cX10_over 48 = .ok (.iload_n 1, 1) := by decide +kernel
theorem dX10_over_49 : decode cX10_over 49 = .ok (.iaload, 1) := by decide +kernel
theorem dX10_over_50 : decode cX10_over 50 = .ok (.ireturn, 1) := by decide +kernel
theorem dX10_stand_0 : decode cX10_stand 0 = .ok (.iload_n 1, 1) := by decide +kernel
theorem dX10_stand_1 : decode cX10_stand 1 = .ok (.iconst 1, 1) := by decide +kernel
theorem dX10_stand_2 : decode cX10_stand 2 = .ok (.if_icmp .lt 9, 3) := by decide +kernel
theorem dX10_stand_5 : decode cX10_stand 5 = .ok (.iload_n 1, 1) := by decide +kernel
theorem dX10_stand_6 : decode cX10_stand 6 = .ok (.bipush 60, 2) := by decide +kernel
theorem dX10_stand_8 : decode cX10_stand 8 = .ok (.if_icmp .le 5, 3) := by decide +kernel
theorem dX10_stand_11 : decode cX10_stand 11 = .ok (.iconst (-1), 1) := by decide +kernel
theorem dX10_stand_12 : decode cX10_stand 12 = .ok (.ireturn, 1) := by decide +kernel
theorem dX10_stand_13 : decode cX10_stand 13 = .ok (.aload_n 0, 1) := by decide +kernel
theorem dX10_stand_14 : decode cX10_stand 14 = .ok (.getfield 51, 3) := by decide +kernel
theorem dX10_stand_17 : decode cX10_stand 17 = .ok (.aload_n 0, 1) := by decide +kernel
theorem dX10_stand_18 : decode cX10_stand 18 = .ok (.getfield 35, 3) := by decide +kernel
theorem dX10_stand_21 : decode cX10_stand 21 = .ok (.invokevirtual 215, 3) := by decide +kernel
theorem dX10_stand_24 : decode cX10_stand 24 = .ok (.aload_n 0, 1) := by decide +kernel
theorem dX10_stand_25 : decode cX10_stand 25 = .ok (.getfield 35, 3) := by decide +kernel
theorem dX10_stand_28 : decode cX10_stand 28 = .ok (.dup, 1) := by decide +kernel
theorem dX10_stand_29 : decode cX10_stand 29 = .ok (.getfield 237, 3) := by decide +kernel
theorem dX10_stand_32 : decode cX10_stand 32 = .ok (.iload_n 1, 1) := by decide +kernel
theorem dX10_stand_33 : decode cX10_stand 33 = .ok (.iadd, 1) := by decide +kernel
theorem dX10_stand_34 : decode cX10_stand 34 = .ok (.putfield 237, 3) := by decide +kernel
theorem dX10_stand_37 : decode cX10_stand 37 = .ok (.aload_n 0, 1) := by decide +kernel
theorem dX10_stand_38 : decode cX10_stand 38 = .ok (.getfield 35, 3) := by decide +kernel
theorem dX10_stand_41 : decode cX10_stand 41 = .ok (.getfield 237, 3) := by decide +kernel
theorem dX10_stand_44 : decode cX10_stand 44 = .ok (.ireturn, 1) := by decide +kernel
theorem dX7_bitsThrough_0 : decode cX7_bitsThrough 0 = .ok (.aload_n 0, 1) := by decide +kernel
theorem dX7_bitsThrough_1 : decode cX7_bitsThrough 1 = .ok (.bipush 9, 2) := by decide +kernel
theorem dX7_bitsThrough_3 : decode cX7_bitsThrough 3 = .ok (.invokevirtual 46, 3) := by decide +kernel
theorem dX7_bitsThrough_6 : decode cX7_bitsThrough 6 = .ok (.ireturn, 1) := by decide +kernel
theorem dX1_firstThatCan_0 : decode cX1_firstThatCan 0 = .ok (.iconst 0, 1) := by decide +kernel
theorem dX1_firstThatCan_1 : decode cX1_firstThatCan 1 = .ok (.istore_n 2, 1) := by decide +kernel
theorem dX1_firstThatCan_2 : decode cX1_firstThatCan 2 = .ok (.iload_n 2, 1) := by decide +kernel
theorem dX1_firstThatCan_3 : decode cX1_firstThatCan 3 = .ok (.aload_n 0, 1) := by decide +kernel
theorem dX1_firstThatCan_4 : decode cX1_firstThatCan 4 = .ok (.getfield 18, 3) := by decide +kernel
theorem dX1_firstThatCan_7 : decode cX1_firstThatCan 7 = .ok (.if_icmp .ge 94, 3) := by decide +kernel
theorem dX1_firstThatCan_10 : decode cX1_firstThatCan 10 = .ok (.aload_n 1, 1) := by decide +kernel
theorem dX1_firstThatCan_11 : decode cX1_firstThatCan 11 = .ok (.getfield 91, 3) := by decide +kernel
theorem dX1_firstThatCan_14 : decode cX1_firstThatCan 14 = .ok (.iload_n 2, 1) := by decide +kernel
theorem dX1_firstThatCan_15 : decode cX1_firstThatCan 15 = .ok (.iaload, 1) := by decide +kernel
theorem dX1_firstThatCan_16 : decode cX1_firstThatCan 16 = .ok (.ifCond .ne 79, 3) := by decide +kernel
theorem dX1_firstThatCan_19 : decode cX1_firstThatCan 19 = .ok (.aload_n 1, 1) := by decide +kernel
theorem dX1_firstThatCan_20 : decode cX1_firstThatCan 20 = .ok (.getfield 76, 3) := by decide +kernel
theorem dX1_firstThatCan_23 : decode cX1_firstThatCan 23 = .ok (.iload_n 2, 1) := by decide +kernel
theorem dX1_firstThatCan_24 : decode cX1_firstThatCan 24 = .ok (.iaload, 1) := by decide +kernel
theorem dX1_firstThatCan_25 : decode cX1_firstThatCan 25 = .ok (.iconst (-1), 1) := by decide +kernel
theorem dX1_firstThatCan_26 : decode cX1_firstThatCan 26 = .ok (.if_icmp .eq 69, 3) := by decide +kernel
theorem dX1_firstThatCan_29 : decode cX1_firstThatCan 29 = .ok (.aload_n 1, 1) := by decide +kernel
theorem dX1_firstThatCan_30 : decode cX1_firstThatCan 30 = .ok (.getfield 76, 3) := by decide +kernel
theorem dX1_firstThatCan_33 : decode cX1_firstThatCan 33 = .ok (.iload_n 2, 1) := by decide +kernel
theorem dX1_firstThatCan_34 : decode cX1_firstThatCan 34 = .ok (.iaload, 1) := by decide +kernel
theorem dX1_firstThatCan_35 : decode cX1_firstThatCan 35 = .ok (.bipush 9, 2) := by decide +kernel
theorem dX1_firstThatCan_37 : decode cX1_firstThatCan 37 = .ok (.if_icmp .eq 58, 3) := by decide +kernel
theorem dX1_firstThatCan_40 : decode cX1_firstThatCan 40 = .ok (.aload_n 0, 1) := by decide +kernel
theorem dX1_firstThatCan_41 : decode cX1_firstThatCan 41 = .ok (.getfield 31, 3) := by decide +kernel
theorem dX1_firstThatCan_44 : decode cX1_firstThatCan 44 = .ok (.iload_n 2, 1) := by decide +kernel
theorem dX1_firstThatCan_45 : decode cX1_firstThatCan 45 = .ok (.iaload, 1) := by decide +kernel
theorem dX1_firstThatCan_46 : decode cX1_firstThatCan 46 = .ok (.iconst 1, 1) := by decide +kernel
theorem dX1_firstThatCan_47 : decode cX1_firstThatCan 47 = .ok (.if_icmp .ne 14, 3) := by decide +kernel
theorem dX1_firstThatCan_50 : decode cX1_firstThatCan 50 = .ok (.aload_n 1, 1) := by decide +kernel
theorem dX1_firstThatCan_51 : decode cX1_firstThatCan 51 = .ok (.getfield 76, 3) := by decide +kernel
theorem dX1_firstThatCan_54 : decode cX1_firstThatCan 54 = .ok (.iload_n 2, 1) := by decide +kernel
theorem dX1_firstThatCan_55 : decode cX1_firstThatCan 55 = .ok (.iaload, 1) := by decide +kernel
theorem dX1_firstThatCan_56 : decode cX1_firstThatCan 56 = .ok (.iconst 1, 1) := by decide +kernel
theorem dX1_firstThatCan_57 : decode cX1_firstThatCan 57 = .ok (.isub, 1) := by decide +kernel
theorem dX1_firstThatCan_58 : decode cX1_firstThatCan 58 = .ok (.goto 11, 3) := by decide +kernel
theorem dX1_firstThatCan_61 : decode cX1_firstThatCan 61 = .ok (.aload_n 1, 1) := by decide +kernel
theorem dX1_firstThatCan_62 : decode cX1_firstThatCan 62 = .ok (.getfield 76, 3) := by decide +kernel
theorem dX1_firstThatCan_65 : decode cX1_firstThatCan 65 = .ok (.iload_n 2, 1) := by decide +kernel
theorem dX1_firstThatCan_66 : decode cX1_firstThatCan 66 = .ok (.iaload, 1) := by decide +kernel
theorem dX1_firstThatCan_67 : decode cX1_firstThatCan 67 = .ok (.iconst 1, 1) := by decide +kernel
theorem dX1_firstThatCan_68 : decode cX1_firstThatCan 68 = .ok (.iadd, 1) := by decide +kernel
theorem dX1_firstThatCan_69 : decode cX1_firstThatCan 69 = .ok (.istore_n 3, 1) := by decide +kernel
theorem dX1_firstThatCan_70 : decode cX1_firstThatCan 70 = .ok (.iload_n 3, 1) := by decide +kernel
theorem dX1_firstThatCan_71 : decode cX1_firstThatCan 71 = .ok (.ifCond .lt 22, 3) := by decide +kernel
theorem dX1_firstThatCan_74 : decode cX1_firstThatCan 74 = .ok (.iload_n 3, 1) := by decide +kernel
theorem dX1_firstThatCan_75 : decode cX1_firstThatCan 75 = .ok (.aload_n 0, 1) := by decide +kernel
theorem dX1_firstThatCan_76 : decode cX1_firstThatCan 76 = .ok (.getfield 9, 3) := by decide +kernel
theorem dX1_firstThatCan_79 : decode cX1_firstThatCan 79 = .ok (.if_icmp .ge 14, 3) := by decide +kernel
theorem dX1_firstThatCan_82 : decode cX1_firstThatCan 82 = .ok (.aload_n 1, 1) := by decide +kernel
theorem dX1_firstThatCan_83 : decode cX1_firstThatCan 83 = .ok (.getfield 84, 3) := by decide +kernel
theorem dX1_firstThatCan_86 : decode cX1_firstThatCan 86 = .ok (.iload_n 3, 1) := by decide +kernel
theorem dX1_firstThatCan_87 : decode cX1_firstThatCan 87 = .ok (.ishr, 1) := by decide +kernel
theorem dX1_firstThatCan_88 : decode cX1_firstThatCan 88 = .ok (.iconst 1, 1) := by decide +kernel
theorem dX1_firstThatCan_89 : decode cX1_firstThatCan 89 = .ok (.iand, 1) := by decide +kernel
theorem dX1_firstThatCan_90 : decode cX1_firstThatCan 90 = .ok (.ifCond .ne 5, 3) := by decide +kernel
theorem dX1_firstThatCan_93 : decode cX1_firstThatCan 93 = .ok (.iload_n 2, 1) := by decide +kernel
theorem dX1_firstThatCan_94 : decode cX1_firstThatCan 94 = .ok (.ireturn, 1) := by decide +kernel
theorem dX1_firstThatCan_95 : decode cX1_firstThatCan 95 = .ok (.iinc 2 1, 3) := by decide +kernel
theorem dX1_firstThatCan_98 : decode cX1_firstThatCan 98 = .ok (.goto (-96), 3) := by decide +kernel
theorem dX1_firstThatCan_101 : decode cX1_firstThatCan 101 = .ok (.iconst (-1), 1) := by decide +kernel
theorem dX1_firstThatCan_102 : decode cX1_firstThatCan 102 = .ok (.ireturn, 1) := by decide +kernel
theorem dX1_pass_0 : decode cX1_pass 0 = .ok (.aload_n 1, 1) := by decide +kernel
theorem dX1_pass_1 : decode cX1_pass 1 = .ok (.iconst 0, 1) := by decide +kernel
theorem dX1_pass_2 : decode cX1_pass 2 = .ok (.putfield 97, 3) := by decide +kernel
theorem dX1_pass_5 : decode cX1_pass 5 = .ok (.aload_n 1, 1) := by decide +kernel
theorem dX1_pass_6 : decode cX1_pass 6 = .ok (.iconst 0, 1) := by decide +kernel
theorem dX1_pass_7 : decode cX1_pass 7 = .ok (.putfield 100, 3) := by decide +kernel
theorem dX1_pass_10 : decode cX1_pass 10 = .ok (.iconst 0, 1) := by decide +kernel
theorem dX1_pass_11 : decode cX1_pass 11 = .ok (.istore_n 2, 1) := by decide +kernel
theorem dX1_pass_12 : decode cX1_pass 12 = .ok (.iload_n 2, 1) := by decide +kernel
theorem dX1_pass_13 : decode cX1_pass 13 = .ok (.aload_n 0, 1) := by decide +kernel
theorem dX1_pass_14 : decode cX1_pass 14 = .ok (.getfield 18, 3) := by decide +kernel
theorem dX1_pass_17 : decode cX1_pass 17 = .ok (.if_icmp .ge 28, 3) := by decide +kernel
theorem dX1_pass_20 : decode cX1_pass 20 = .ok (.aload_n 1, 1) := by decide +kernel
theorem dX1_pass_21 : decode cX1_pass 21 = .ok (.getfield 91, 3) := by decide +kernel
theorem dX1_pass_24 : decode cX1_pass 24 = .ok (.iload_n 2, 1) := by decide +kernel
theorem dX1_pass_25 : decode cX1_pass 25 = .ok (.iaload, 1) := by decide +kernel
theorem dX1_pass_26 : decode cX1_pass 26 = .ok (.ifCond .le 13, 3) := by decide +kernel
theorem dX1_pass_29 : decode cX1_pass 29 = .ok (.aload_n 1, 1) := by decide +kernel
theorem dX1_pass_30 : decode cX1_pass 30 = .ok (.getfield 91, 3) := by decide +kernel
theorem dX1_pass_33 : decode cX1_pass 33 = .ok (.iload_n 2, 1) := by decide +kernel
theorem dX1_pass_34 : decode cX1_pass 34 = .ok (.dup2, 1) := by decide +kernel
theorem dX1_pass_35 : decode cX1_pass 35 = .ok (.iaload, 1) := by decide +kernel
theorem dX1_pass_36 : decode cX1_pass 36 = .ok (.iconst 1, 1) := by decide +kernel
theorem dX1_pass_37 : decode cX1_pass 37 = .ok (.isub, 1) := by decide +kernel
theorem dX1_pass_38 : decode cX1_pass 38 = .ok (.iastore, 1) := by decide +kernel
theorem dX1_pass_39 : decode cX1_pass 39 = .ok (.iinc 2 1, 3) := by decide +kernel
theorem dX1_pass_42 : decode cX1_pass 42 = .ok (.goto (-30), 3) := by decide +kernel
theorem dX1_pass_45 : decode cX1_pass 45 = .ok (.iconst 0, 1) := by decide +kernel
theorem dX1_pass_46 : decode cX1_pass 46 = .ok (.istore_n 2, 1) := by decide +kernel
theorem dX1_pass_47 : decode cX1_pass 47 = .ok (.iload_n 2, 1) := by decide +kernel
theorem dX1_pass_48 : decode cX1_pass 48 = .ok (.bipush 36, 2) := by decide +kernel
theorem dX1_pass_50 : decode cX1_pass 50 = .ok (.if_icmp .ge 70, 3) := by decide +kernel
theorem dX1_pass_53 : decode cX1_pass 53 = .ok (.aload_n 0, 1) := by decide +kernel
theorem dX1_pass_54 : decode cX1_pass 54 = .ok (.aload_n 1, 1) := by decide +kernel
theorem dX1_pass_55 : decode cX1_pass 55 = .ok (.invokevirtual 103, 3) := by decide +kernel
theorem dX1_pass_58 : decode cX1_pass 58 = .ok (.istore_n 3, 1) := by decide +kernel
theorem dX1_pass_59 : decode cX1_pass 59 = .ok (.iload_n 3, 1) := by decide +kernel
theorem dX1_pass_60 : decode cX1_pass 60 = .ok (.iconst (-1), 1) := by decide +kernel
theorem dX1_pass_61 : decode cX1_pass 61 = .ok (.if_icmp .ne 6, 3) := by decide +kernel
theorem dX1_pass_64 : decode cX1_pass 64 = .ok (.goto 56, 3) := by decide +kernel
theorem dX1_pass_67 : decode cX1_pass 67 = .ok (.aload_n 1, 1) := by decide +kernel
theorem dX1_pass_68 : decode cX1_pass 68 = .ok (.dup, 1) := by decide +kernel
theorem dX1_pass_69 : decode cX1_pass 69 = .ok (.getfield 97, 3) := by decide +kernel
theorem dX1_pass_72 : decode cX1_pass 72 = .ok (.iconst 1, 1) := by decide +kernel
theorem dX1_pass_73 : decode cX1_pass 73 = .ok (.iload_n 3, 1) := by decide +kernel
theorem dX1_pass_74 : decode cX1_pass 74 = .ok (.ishl, 1) := by decide +kernel
theorem dX1_pass_75 : decode cX1_pass 75 = .ok (.ior, 1) := by decide +kernel
theorem dX1_pass_76 : decode cX1_pass 76 = .ok (.putfield 97, 3) := by decide +kernel
theorem dX1_pass_79 : decode cX1_pass 79 = .ok (.aload_n 0, 1) := by decide +kernel
theorem dX1_pass_80 : decode cX1_pass 80 = .ok (.aload_n 1, 1) := by decide +kernel
theorem dX1_pass_81 : decode cX1_pass 81 = .ok (.iload_n 3, 1) := by decide +kernel
theorem dX1_pass_82 : decode cX1_pass 82 = .ok (.aload_n 0, 1) := by decide +kernel
theorem dX1_pass_83 : decode cX1_pass 83 = .ok (.getfield 31, 3) := by decide +kernel
theorem dX1_pass_86 : decode cX1_pass 86 = .ok (.iload_n 3, 1) := by decide +kernel
theorem dX1_pass_87 : decode cX1_pass 87 = .ok (.iaload, 1) := by decide +kernel
theorem dX1_pass_88 : decode cX1_pass 88 = .ok (.iconst 1, 1) := by decide +kernel
theorem dX1_pass_89 : decode cX1_pass 89 = .ok (.if_icmp .ne 14, 3) := by decide +kernel
theorem dX1_pass_92 : decode cX1_pass 92 = .ok (.aload_n 1, 1) := by decide +kernel
theorem dX1_pass_93 : decode cX1_pass 93 = .ok (.getfield 76, 3) := by decide +kernel
theorem dX1_pass_96 : decode cX1_pass 96 = .ok (.iload_n 3, 1) := by decide +kernel
theorem dX1_pass_97 : decode cX1_pass 97 = .ok (.iaload, 1) := by decide +kernel
theorem dX1_pass_98 : decode cX1_pass 98 = .ok (.iconst 1, 1) := by decide +kernel
theorem dX1_pass_99 : decode cX1_pass 99 = .ok (.isub, 1) := by decide +kernel
theorem dX1_pass_100 : decode cX1_pass 100 = .ok (.goto 11, 3) := by decide +kernel
theorem dX1_pass_103 : decode cX1_pass 103 = .ok (.aload_n 1, 1) := by decide +kernel
theorem dX1_pass_104 : decode cX1_pass 104 = .ok (.getfield 76, 3) := by decide +kernel
theorem dX1_pass_107 : decode cX1_pass 107 = .ok (.iload_n 3, 1) := by decide +kernel
theorem dX1_pass_108 : decode cX1_pass 108 = .ok (.iaload, 1) := by decide +kernel
theorem dX1_pass_109 : decode cX1_pass 109 = .ok (.iconst 1, 1) := by decide +kernel
theorem dX1_pass_110 : decode cX1_pass 110 = .ok (.iadd, 1) := by decide +kernel
theorem dX1_pass_111 : decode cX1_pass 111 = .ok (.invokevirtual 87, 3) := by decide +kernel
theorem dX1_pass_114 : decode cX1_pass 114 = .ok (.iinc 2 1, 3) := by decide +kernel
theorem dX1_pass_117 : decode cX1_pass 117 = .ok (.goto (-70), 3) := by decide +kernel
theorem dX1_pass_120 : decode cX1_pass 120 = .ok (.iconst 0, 1) := by decide +kernel
theorem dX1_pass_121 : decode cX1_pass 121 = .ok (.istore_n 2, 1) := by decide +kernel
theorem dX1_pass_122 : decode cX1_pass 122 = .ok (.iload_n 2, 1) := by decide +kernel
theorem dX1_pass_123 : decode cX1_pass 123 = .ok (.aload_n 0, 1) := by decide +kernel
theorem dX1_pass_124 : decode cX1_pass 124 = .ok (.getfield 18, 3) := by decide +kernel
theorem dX1_pass_127 : decode cX1_pass 127 = .ok (.if_icmp .ge 61, 3) := by decide +kernel
theorem dX1_pass_130 : decode cX1_pass 130 = .ok (.aload_n 1, 1) := by decide +kernel
theorem dX1_pass_131 : decode cX1_pass 131 = .ok (.getfield 91, 3) := by decide +kernel
theorem dX1_pass_134 : decode cX1_pass 134 = .ok (.iload_n 2, 1) := by decide +kernel
theorem dX1_pass_135 : decode cX1_pass 135 = .ok (.iaload, 1) := by decide +kernel
theorem dX1_pass_136 : decode cX1_pass 136 = .ok (.ifCond .ne 46, 3) := by decide +kernel
theorem dX1_pass_139 : decode cX1_pass 139 = .ok (.aload_n 1, 1) := by decide +kernel
theorem dX1_pass_140 : decode cX1_pass 140 = .ok (.getfield 76, 3) := by decide +kernel
theorem dX1_pass_143 : decode cX1_pass 143 = .ok (.iload_n 2, 1) := by decide +kernel
theorem dX1_pass_144 : decode cX1_pass 144 = .ok (.iaload, 1) := by decide +kernel
theorem dX1_pass_145 : decode cX1_pass 145 = .ok (.iconst (-1), 1) := by decide +kernel
theorem dX1_pass_146 : decode cX1_pass 146 = .ok (.if_icmp .eq 36, 3) := by decide +kernel
theorem dX1_pass_149 : decode cX1_pass 149 = .ok (.aload_n 1, 1) := by decide +kernel
theorem dX1_pass_150 : decode cX1_pass 150 = .ok (.getfield 76, 3) := by decide +kernel
theorem dX1_pass_153 : decode cX1_pass 153 = .ok (.iload_n 2, 1) := by decide +kernel
theorem dX1_pass_154 : decode cX1_pass 154 = .ok (.iaload, 1) := by decide +kernel
theorem dX1_pass_155 : decode cX1_pass 155 = .ok (.bipush 9, 2) := by decide +kernel
theorem dX1_pass_157 : decode cX1_pass 157 = .ok (.if_icmp .eq 25, 3) := by decide +kernel
theorem dX1_pass_160 : decode cX1_pass 160 = .ok (.aload_n 1, 1) := by decide +kernel
theorem dX1_pass_161 : decode cX1_pass 161 = .ok (.dup, 1) := by decide +kernel
theorem dX1_pass_162 : decode cX1_pass 162 = .ok (.getfield 100, 3) := by decide +kernel
theorem dX1_pass_165 : decode cX1_pass 165 = .ok (.iconst 1, 1) := by decide +kernel
theorem dX1_pass_166 : decode cX1_pass 166 = .ok (.iload_n 2, 1) := by decide +kernel
theorem dX1_pass_167 : decode cX1_pass 167 = .ok (.ishl, 1) := by decide +kernel
theorem dX1_pass_168 : decode cX1_pass 168 = .ok (.ior, 1) := by decide +kernel
theorem dX1_pass_169 : decode cX1_pass 169 = .ok (.putfield 100, 3) := by decide +kernel
theorem dX1_pass_172 : decode cX1_pass 172 = .ok (.aload_n 1, 1) := by decide +kernel
theorem dX1_pass_173 : decode cX1_pass 173 = .ok (.getfield 107, 3) := by decide +kernel
theorem dX1_pass_176 : decode cX1_pass 176 = .ok (.iload_n 2, 1) := by decide +kernel
theorem dX1_pass_177 : decode cX1_pass 177 = .ok (.dup2, 1) := by decide +kernel
theorem dX1_pass_178 : decode cX1_pass 178 = .ok (.iaload, 1) := by decide +kernel
theorem dX1_pass_179 : decode cX1_pass 179 = .ok (.iconst 1, 1) := by decide +kernel
theorem dX1_pass_180 : decode cX1_pass 180 = .ok (.iadd, 1) := by decide +kernel
theorem dX1_pass_181 : decode cX1_pass 181 = .ok (.iastore, 1) := by decide +kernel
theorem dX1_pass_182 : decode cX1_pass 182 = .ok (.iinc 2 1, 3) := by decide +kernel
theorem dX1_pass_185 : decode cX1_pass 185 = .ok (.goto (-63), 3) := by decide +kernel
theorem dX1_pass_188 : decode cX1_pass 188 = .ok (.aload_n 1, 1) := by decide +kernel
theorem dX1_pass_189 : decode cX1_pass 189 = .ok (.dup, 1) := by decide +kernel
theorem dX1_pass_190 : decode cX1_pass 190 = .ok (.getfield 81, 3) := by decide +kernel
theorem dX1_pass_193 : decode cX1_pass 193 = .ok (.iconst 1, 1) := by decide +kernel
theorem dX1_pass_194 : decode cX1_pass 194 = .ok (.iadd, 1) := by decide +kernel
theorem dX1_pass_195 : decode cX1_pass 195 = .ok (.putfield 81, 3) := by decide +kernel
theorem dX1_pass_198 : decode cX1_pass 198 = .ok (.return_, 1) := by decide +kernel
theorem dX10_clearRow_0 : decode cX10_clearRow 0 = .ok (.aload_n 0, 1) := by decide +kernel
theorem dX10_clearRow_1 : decode cX10_clearRow 1 = .ok (.iconst 0, 1) := by decide +kernel
theorem dX10_clearRow_2 : decode cX10_clearRow 2 = .ok (.putfield 101, 3) := by decide +kernel
theorem dX10_clearRow_5 : decode cX10_clearRow 5 = .ok (.return_, 1) := by decide +kernel
theorem dX10_tell_0 : decode cX10_tell 0 = .ok (.aload_n 0, 1) := by decide +kernel
theorem dX10_tell_1 : decode cX10_tell 1 = .ok (.getfield 101, 3) := by decide +kernel
theorem dX10_tell_4 : decode cX10_tell 4 = .ok (.bipush 12, 2) := by decide +kernel
theorem dX10_tell_6 : decode cX10_tell 6 = .ok (.if_icmp .ge 23, 3) := by decide +kernel
theorem dX10_tell_9 : decode cX10_tell 9 = .ok (.aload_n 0, 1) := by decide +kernel
theorem dX10_tell_10 : decode cX10_tell 10 = .ok (.getfield 98, 3) := by decide +kernel
theorem dX10_tell_13 : decode cX10_tell 13 = .ok (.aload_n 0, 1) := by decide +kernel
theorem dX10_tell_14 : decode cX10_tell 14 = .ok (.getfield 101, 3) := by decide +kernel
theorem dX10_tell_17 : decode cX10_tell 17 = .ok (.iload_n 1, 1) := by decide +kernel
theorem dX10_tell_18 : decode cX10_tell 18 = .ok (.iastore, 1) := by decide +kernel
theorem dX10_tell_19 : decode cX10_tell 19 = .ok (.aload_n 0, 1) := by decide +kernel
theorem dX10_tell_20 : decode cX10_tell 20 = .ok (.dup, 1) := by decide +kernel
theorem dX10_tell_21 : decode cX10_tell 21 = .ok (.getfield 101, 3) := by decide +kernel
theorem dX10_tell_24 : decode cX10_tell 24 = .ok (.iconst 1, 1) := by decide +kernel
theorem dX10_tell_25 : decode cX10_tell 25 = .ok (.iadd, 1) := by decide +kernel
theorem dX10_tell_26 : decode cX10_tell 26 = .ok (.putfield 101, 3) := by decide +kernel
theorem dX10_tell_29 : decode cX10_tell 29 = .ok (.return_, 1) := by decide +kernel
theorem dX10_minute_0 : decode cX10_minute 0 = .ok (.aload_n 0, 1) := by decide +kernel
theorem dX10_minute_1 : decode cX10_minute 1 = .ok (.getfield 51, 3) := by decide +kernel
theorem dX10_minute_4 : decode cX10_minute 4 = .ok (.aload_n 0, 1) := by decide +kernel
theorem dX10_minute_5 : decode cX10_minute 5 = .ok (.getfield 35, 3) := by decide +kernel
theorem dX10_minute_8 : decode cX10_minute 8 = .ok (.invokevirtual 215, 3) := by decide +kernel
theorem dX10_minute_11 : decode cX10_minute 11 = .ok (.aload_n 0, 1) := by decide +kernel
theorem dX10_minute_12 : decode cX10_minute 12 = .ok (.getfield 35, 3) := by decide +kernel
theorem dX10_minute_15 : decode cX10_minute 15 = .ok (.invokevirtual 240, 3) := by decide +kernel
theorem dX10_minute_18 : decode cX10_minute 18 = .ok (.istore_n 1, 1) := by decide +kernel
theorem dX10_minute_19 : decode cX10_minute 19 = .ok (.aload_n 0, 1) := by decide +kernel
theorem dX10_minute_20 : decode cX10_minute 20 = .ok (.getfield 19, 3) := by decide +kernel
theorem dX10_minute_23 : decode cX10_minute 23 = .ok (.aload_n 0, 1) := by decide +kernel
theorem dX10_minute_24 : decode cX10_minute 24 = .ok (.getfield 35, 3) := by decide +kernel
theorem dX10_minute_27 : decode cX10_minute 27 = .ok (.invokevirtual 243, 3) := by decide +kernel
theorem dX10_minute_30 : decode cX10_minute 30 = .ok (.aload_n 0, 1) := by decide +kernel
theorem dX10_minute_31 : decode cX10_minute 31 = .ok (.invokevirtual 246, 3) := by decide +kernel
theorem dX10_minute_34 : decode cX10_minute 34 = .ok (.aload_n 0, 1) := by decide +kernel
theorem dX10_minute_35 : decode cX10_minute 35 = .ok (.aload_n 0, 1) := by decide +kernel
theorem dX10_minute_36 : decode cX10_minute 36 = .ok (.getfield 35, 3) := by decide +kernel
theorem dX10_minute_39 : decode cX10_minute 39 = .ok (.getfield 249, 3) := by decide +kernel
theorem dX10_minute_42 : decode cX10_minute 42 = .ok (.invokevirtual 252, 3) := by decide +kernel
theorem dX10_minute_45 : decode cX10_minute 45 = .ok (.aload_n 0, 1) := by decide +kernel
theorem dX10_minute_46 : decode cX10_minute 46 = .ok (.aload_n 0, 1) := by decide +kernel
theorem dX10_minute_47 : decode cX10_minute 47 = .ok (.getfield 35, 3) := by decide +kernel
theorem dX10_minute_50 : decode cX10_minute 50 = .ok (.getfield 256, 3) := by decide +kernel
theorem dX10_minute_53 : decode cX10_minute 53 = .ok (.invokevirtual 252, 3) := by decide +kernel
theorem dX10_minute_56 : decode cX10_minute 56 = .ok (.aload_n 0, 1) := by decide +kernel
theorem dX10_minute_57 : decode cX10_minute 57 = .ok (.getfield 35, 3) := by decide +kernel
theorem dX10_minute_60 : decode cX10_minute 60 = .ok (.invokevirtual 240, 3) := by decide +kernel
theorem dX10_minute_63 : decode cX10_minute 63 = .ok (.iload_n 1, 1) := by decide +kernel
theorem dX10_minute_64 : decode cX10_minute 64 = .ok (.iconst (-1), 1) := by decide +kernel
theorem dX10_minute_65 : decode cX10_minute 65 = .ok (.ixor, 1) := by decide +kernel
theorem dX10_minute_66 : decode cX10_minute 66 = .ok (.iand, 1) := by decide +kernel
theorem dX10_minute_67 : decode cX10_minute 67 = .ok (.invokestatic 225, 3) := by decide +kernel
theorem dX10_minute_70 : decode cX10_minute 70 = .ok (.ireturn, 1) := by decide +kernel
theorem dX7_waitedBy_0 : decode cX7_waitedBy 0 = .ok (.iconst 0, 1) := by decide +kernel
theorem dX7_waitedBy_1 : decode cX7_waitedBy 1 = .ok (.istore_n 2, 1) := by decide +kernel
theorem dX7_waitedBy_2 : decode cX7_waitedBy 2 = .ok (.iconst 0, 1) := by decide +kernel
theorem dX7_waitedBy_3 : decode cX7_waitedBy 3 = .ok (.istore_n 3, 1) := by decide +kernel
theorem dX7_waitedBy_4 : decode cX7_waitedBy 4 = .ok (.iload_n 3, 1) := by decide +kernel
theorem dX7_waitedBy_5 : decode cX7_waitedBy 5 = .ok (.bipush 6, 2) := by decide +kernel
theorem dX7_waitedBy_7 : decode cX7_waitedBy 7 = .ok (.if_icmp .ge 26, 3) := by decide +kernel
theorem dX7_waitedBy_10 : decode cX7_waitedBy 10 = .ok (.iload_n 1, 1) := by decide +kernel
theorem dX7_waitedBy_11 : decode cX7_waitedBy 11 = .ok (.iload_n 3, 1) := by decide +kernel
theorem dX7_waitedBy_12 : decode cX7_waitedBy 12 = .ok (.invokestatic 50, 3) := by decide +kernel
theorem dX7_waitedBy_15 : decode cX7_waitedBy 15 = .ok (.ifCond .eq 12, 3) := by decide +kernel
theorem dX7_waitedBy_18 : decode cX7_waitedBy 18 = .ok (.iload_n 2, 1) := by decide +kernel
theorem dX7_waitedBy_19 : decode cX7_waitedBy 19 = .ok (.aload_n 0, 1) := by decide +kernel
theorem dX7_waitedBy_20 : decode cX7_waitedBy 20 = .ok (.getfield 18, 3) := by decide +kernel
theorem dX7_waitedBy_23 : decode cX7_waitedBy 23 = .ok (.iload_n 3, 1) := by decide +kernel
theorem dX7_waitedBy_24 : decode cX7_waitedBy 24 = .ok (.iaload, 1) := by decide +kernel
theorem dX7_waitedBy_25 : decode cX7_waitedBy 25 = .ok (.iadd, 1) := by decide +kernel
theorem dX7_waitedBy_26 : decode cX7_waitedBy 26 = .ok (.istore_n 2, 1) := by decide +kernel
theorem dX7_waitedBy_27 : decode cX7_waitedBy 27 = .ok (.iinc 3 1, 3) := by decide +kernel
theorem dX7_waitedBy_30 : decode cX7_waitedBy 30 = .ok (.goto (-26), 3) := by decide +kernel
theorem dX7_waitedBy_33 : decode cX7_waitedBy 33 = .ok (.iload_n 2, 1) := by decide +kernel
theorem dX7_waitedBy_34 : decode cX7_waitedBy 34 = .ok (.ireturn, 1) := by decide +kernel
theorem dX1_quietMinutes_0 : decode cX1_quietMinutes 0 = .ok (.aload_n 0, 1) := by decide +kernel
theorem dX1_quietMinutes_1 : decode cX1_quietMinutes 1 = .ok (.aload_n 1, 1) := by decide +kernel
theorem dX1_quietMinutes_2 : decode cX1_quietMinutes 2 = .ok (.invokevirtual 103, 3) := by decide +kernel
theorem dX1_quietMinutes_5 : decode cX1_quietMinutes 5 = .ok (.iconst (-1), 1) := by decide +kernel
theorem dX1_quietMinutes_6 : decode cX1_quietMinutes 6 = .ok (.if_icmp .eq 5, 3) := by decide +kernel
theorem dX1_quietMinutes_9 : decode cX1_quietMinutes 9 = .ok (.iconst 0, 1) := by decide +kernel
theorem dX1_quietMinutes_10 : decode cX1_quietMinutes 10 = .ok (.ireturn, 1) := by decide +kernel
theorem dX1_quietMinutes_11 : decode cX1_quietMinutes 11 = .ok (.iload_n 2, 1) := by decide +kernel
theorem dX1_quietMinutes_12 : decode cX1_quietMinutes 12 = .ok (.istore_n 3, 1) := by decide +kernel
theorem dX1_quietMinutes_13 : decode cX1_quietMinutes 13 = .ok (.iconst 0, 1) := by decide +kernel
theorem dX1_quietMinutes_14 : decode cX1_quietMinutes 14 = .ok (.istore 4, 2) := by decide +kernel
theorem dX1_quietMinutes_16 : decode cX1_quietMinutes 16 = .ok (.iload 4, 2) := by decide +kernel
theorem dX1_quietMinutes_18 : decode cX1_quietMinutes 18 = .ok (.aload_n 0, 1) := by decide +kernel
theorem dX1_quietMinutes_19 : decode cX1_quietMinutes 19 = .ok (.getfield 18, 3) := by decide +kernel
theorem dX1_quietMinutes_22 : decode cX1_quietMinutes 22 = .ok (.if_icmp .ge 33, 3) := by decide +kernel
theorem dX1_quietMinutes_25 : decode cX1_quietMinutes 25 = .ok (.aload_n 1, 1) := by decide +kernel
theorem dX1_quietMinutes_26 : decode cX1_quietMinutes 26 = .ok (.getfield 91, 3) := by decide +kernel
theorem dX1_quietMinutes_29 : decode cX1_quietMinutes 29 = .ok (.iload 4, 2) := by decide +kernel
theorem dX1_quietMinutes_31 : decode cX1_quietMinutes 31 = .ok (.iaload, 1) := by decide +kernel
theorem dX1_quietMinutes_32 : decode cX1_quietMinutes 32 = .ok (.ifCond .le 17, 3) := by decide +kernel
theorem dX1_quietMinutes_35 : decode cX1_quietMinutes 35 = .ok (.iload_n 3, 1) := by decide +kernel
theorem dX1_quietMinutes_36 : decode cX1_quietMinutes 36 = .ok (.aload_n 1, 1) := by decide +kernel
theorem dX1_quietMinutes_37 : decode cX1_quietMinutes 37 = .ok (.getfield 91, 3) := by decide +kernel
theorem dX1_quietMinutes_40 : decode cX1_quietMinutes 40 = .ok (.iload 4, 2) := by decide +kernel
theorem dX1_quietMinutes_42 : decode cX1_quietMinutes 42 = .ok (.iaload, 1) := by decide +kernel
theorem dX1_quietMinutes_43 : decode cX1_quietMinutes 43 = .ok (.iconst 1, 1) := by decide +kernel
theorem dX1_quietMinutes_44 : decode cX1_quietMinutes 44 = .ok (.isub, 1) := by decide +kernel
theorem dX1_quietMinutes_45 : decode cX1_quietMinutes 45 = .ok (.invokestatic 56, 3) := by decide +kernel
theorem dX1_quietMinutes_48 : decode cX1_quietMinutes 48 = .ok (.istore_n 3, 1) := by decide +kernel
theorem dX1_quietMinutes_49 : decode cX1_quietMinutes 49 = .ok (.iinc 4 1, 3) := by decide +kernel
theorem dX1_quietMinutes_52 : decode cX1_quietMinutes 52 = .ok (.goto (-36), 3) := by decide +kernel
theorem dX1_quietMinutes_55 : decode cX1_quietMinutes 55 = .ok (.iload_n 3, 1) := by decide +kernel
theorem dX1_quietMinutes_56 : decode cX1_quietMinutes 56 = .ok (.ireturn, 1) := by decide +kernel
theorem dX1_advance_0 : decode cX1_advance 0 = .ok (.aload_n 0, 1) := by decide +kernel
theorem dX1_advance_1 : decode cX1_advance 1 = .ok (.aload_n 1, 1) := by decide +kernel
theorem dX1_advance_2 : decode cX1_advance 2 = .ok (.iload_n 2, 1) := by decide +kernel
theorem dX1_advance_3 : decode cX1_advance 3 = .ok (.iconst 1, 1) := by decide +kernel
theorem dX1_advance_4 : decode cX1_advance 4 = .ok (.isub, 1) := by decide +kernel
theorem dX1_advance_5 : decode cX1_advance 5 = .ok (.invokevirtual 110, 3) := by decide +kernel
theorem dX1_advance_8 : decode cX1_advance 8 = .ok (.istore_n 3, 1) := by decide +kernel
theorem dX1_advance_9 : decode cX1_advance 9 = .ok (.iload_n 3, 1) := by decide +kernel
theorem dX1_advance_10 : decode cX1_advance 10 = .ok (.ifCond .le 89, 3) := by decide +kernel
theorem dX1_advance_13 : decode cX1_advance 13 = .ok (.aload_n 1, 1) := by decide +kernel
theorem dX1_advance_14 : decode cX1_advance 14 = .ok (.dup, 1) := by decide +kernel
theorem dX1_advance_15 : decode cX1_advance 15 = .ok (.getfield 81, 3) := by decide +kernel
theorem dX1_advance_18 : decode cX1_advance 18 = .ok (.iload_n 3, 1) := by decide +kernel
theorem dX1_advance_19 : decode cX1_advance 19 = .ok (.iadd, 1) := by decide +kernel
theorem dX1_advance_20 : decode cX1_advance 20 = .ok (.putfield 81, 3) := by decide +kernel
theorem dX1_advance_23 : decode cX1_advance 23 = .ok (.iconst 0, 1) := by decide +kernel
theorem dX1_advance_24 : decode cX1_advance 24 = .ok (.istore 4, 2) := by decide +kernel
theorem dX1_advance_26 : decode cX1_advance 26 = .ok (.iload 4, 2) := by decide +kernel
theorem dX1_advance_28 : decode cX1_advance 28 = .ok (.aload_n 0, 1) := by decide +kernel
theorem dX1_advance_29 : decode cX1_advance 29 = .ok (.getfield 18, 3) := by decide +kernel
theorem dX1_advance_32 : decode cX1_advance 32 = .ok (.if_icmp .ge 67, 3) := by decide +kernel
theorem dX1_advance_35 : decode cX1_advance 35 = .ok (.aload_n 1, 1) := by decide +kernel
theorem dX1_advance_36 : decode cX1_advance 36 = .ok (.getfield 91, 3) := by decide +kernel
theorem dX1_advance_39 : decode cX1_advance 39 = .ok (.iload 4, 2) := by decide +kernel
theorem dX1_advance_41 : decode cX1_advance 41 = .ok (.iaload, 1) := by decide +kernel
theorem dX1_advance_42 : decode cX1_advance 42 = .ok (.ifCond .le 17, 3) := by decide +kernel
theorem dX1_advance_45 : decode cX1_advance 45 = .ok (.aload_n 1, 1) := by decide +kernel
theorem dX1_advance_46 : decode cX1_advance 46 = .ok (.getfield 91, 3) := by decide +kernel
theorem dX1_advance_49 : decode cX1_advance 49 = .ok (.iload 4, 2) := by decide +kernel
theorem dX1_advance_51 : decode cX1_advance 51 = .ok (.dup2, 1) := by decide +kernel
theorem dX1_advance_52 : decode cX1_advance 52 = .ok (.iaload, 1) := by decide +kernel
theorem dX1_advance_53 : decode cX1_advance 53 = .ok (.iload_n 3, 1) := by decide +kernel
theorem dX1_advance_54 : decode cX1_advance 54 = .ok (.isub, 1) := by decide +kernel
theorem dX1_advance_55 : decode cX1_advance 55 = .ok (.iastore, 1) := by decide +kernel
theorem dX1_advance_56 : decode cX1_advance 56 = .ok (.goto 37, 3) := by decide +kernel
theorem dX1_advance_59 : decode cX1_advance 59 = .ok (.aload_n 1, 1) := by decide +kernel
theorem dX1_advance_60 : decode cX1_advance 60 = .ok (.getfield 76, 3) := by decide +kernel
theorem dX1_advance_63 : decode cX1_advance 63 = .ok (.iload 4, 2) := by decide +kernel
theorem dX1_advance_65 : decode cX1_advance 65 = .ok (.iaload, 1) := by decide +kernel
theorem dX1_advance_66 : decode cX1_advance 66 = .ok (.iconst (-1), 1) := by decide +kernel
theorem dX1_advance_67 : decode cX1_advance 67 = .ok (.if_icmp .eq 26, 3) := by decide +kernel
theorem dX1_advance_70 : decode cX1_advance 70 = .ok (.aload_n 1, 1) := by decide +kernel
theorem dX1_advance_71 : decode cX1_advance 71 = .ok (.getfield 76, 3) := by decide +kernel
theorem dX1_advance_74 : decode cX1_advance 74 = .ok (.iload 4, 2) := by decide +kernel
theorem dX1_advance_76 : decode cX1_advance 76 = .ok (.iaload, 1) := by decide +kernel
theorem dX1_advance_77 : decode cX1_advance 77 = .ok (.bipush 9, 2) := by decide +kernel
theorem dX1_advance_79 : decode cX1_advance 79 = .ok (.if_icmp .eq 14, 3) := by decide +kernel
theorem dX1_advance_82 : decode cX1_advance 82 = .ok (.aload_n 1, 1) := by decide +kernel
theorem dX1_advance_83 : decode cX1_advance 83 = .ok (.getfield 107, 3) := by decide +kernel
theorem dX1_advance_86 : decode cX1_advance 86 = .ok (.iload 4, 2) := by decide +kernel
theorem dX1_advance_88 : decode cX1_advance 88 = .ok (.dup2, 1) := by decide +kernel
theorem dX1_advance_89 : decode cX1_advance 89 = .ok (.iaload, 1) := by decide +kernel
theorem dX1_advance_90 : decode cX1_advance 90 = .ok (.iload_n 3, 1) := by decide +kernel
theorem dX1_advance_91 : decode cX1_advance 91 = .ok (.iadd, 1) := by decide +kernel
theorem dX1_advance_92 : decode cX1_advance 92 = .ok (.iastore, 1) := by decide +kernel
theorem dX1_advance_93 : decode cX1_advance 93 = .ok (.iinc 4 1, 3) := by decide +kernel
theorem dX1_advance_96 : decode cX1_advance 96 = .ok (.goto (-70), 3) := by decide +kernel
theorem dX1_advance_99 : decode cX1_advance 99 = .ok (.aload_n 0, 1) := by decide +kernel
theorem dX1_advance_100 : decode cX1_advance 100 = .ok (.aload_n 1, 1) := by decide +kernel
theorem dX1_advance_101 : decode cX1_advance 101 = .ok (.invokevirtual 114, 3) := by decide +kernel
theorem dX1_advance_104 : decode cX1_advance 104 = .ok (.return_, 1) := by decide +kernel
theorem dX1_goOn_0 : decode cX1_goOn 0 = .ok (.aload_n 1, 1) := by decide +kernel
theorem dX1_goOn_1 : decode cX1_goOn 1 = .ok (.getfield 81, 3) := by decide +kernel
theorem dX1_goOn_4 : decode cX1_goOn 4 = .ok (.iload_n 2, 1) := by decide +kernel
theorem dX1_goOn_5 : decode cX1_goOn 5 = .ok (.iadd, 1) := by decide +kernel
theorem dX1_goOn_6 : decode cX1_goOn 6 = .ok (.istore_n 3, 1) := by decide +kernel
theorem dX1_goOn_7 : decode cX1_goOn 7 = .ok (.iconst 0, 1) := by decide +kernel
theorem dX1_goOn_8 : decode cX1_goOn 8 = .ok (.istore 4, 2) := by decide +kernel
theorem dX1_goOn_10 : decode cX1_goOn 10 = .ok (.iload 4, 2) := by decide +kernel
theorem dX1_goOn_12 : decode cX1_goOn 12 = .ok (.iload_n 2, 1) := by decide +kernel
theorem dX1_goOn_13 : decode cX1_goOn 13 = .ok (.if_icmp .ge 28, 3) := by decide +kernel
theorem dX1_goOn_16 : decode cX1_goOn 16 = .ok (.aload_n 1, 1) := by decide +kernel
theorem dX1_goOn_17 : decode cX1_goOn 17 = .ok (.getfield 81, 3) := by decide +kernel
theorem dX1_goOn_20 : decode cX1_goOn 20 = .ok (.iload_n 3, 1) := by decide +kernel
theorem dX1_goOn_21 : decode cX1_goOn 21 = .ok (.if_icmp .ge 20, 3) := by decide +kernel
theorem dX1_goOn_24 : decode cX1_goOn 24 = .ok (.aload_n 0, 1) := by decide +kernel
theorem dX1_goOn_25 : decode cX1_goOn 25 = .ok (.aload_n 1, 1) := by decide +kernel
theorem dX1_goOn_26 : decode cX1_goOn 26 = .ok (.iload_n 3, 1) := by decide +kernel
theorem dX1_goOn_27 : decode cX1_goOn 27 = .ok (.aload_n 1, 1) := by decide +kernel
theorem dX1_goOn_28 : decode cX1_goOn 28 = .ok (.getfield 81, 3) := by decide +kernel
theorem dX1_goOn_31 : decode cX1_goOn 31 = .ok (.isub, 1) := by decide +kernel
theorem dX1_goOn_32 : decode cX1_goOn 32 = .ok (.invokevirtual 118, 3) := by decide +kernel
theorem dX1_goOn_35 : decode cX1_goOn 35 = .ok (.iinc 4 1, 3) := by decide +kernel
theorem dX1_goOn_38 : decode cX1_goOn 38 = .ok (.goto (-28), 3) := by decide +kernel
theorem dX1_goOn_41 : decode cX1_goOn 41 = .ok (.return_, 1) := by decide +kernel
theorem dX10_minutes_0 : decode cX10_minutes 0 = .ok (.iload_n 1, 1) := by decide +kernel
theorem dX10_minutes_1 : decode cX10_minutes 1 = .ok (.ifCond .lt 9, 3) := by decide +kernel
theorem dX10_minutes_4 : decode cX10_minutes 4 = .ok (.iload_n 1, 1) := by decide +kernel
theorem dX10_minutes_5 : decode cX10_minutes 5 = .ok (.bipush 90, 2) := by decide +kernel
theorem dX10_minutes_7 : decode cX10_minutes 7 = .ok (.if_icmp .le 5, 3) := by decide +kernel
theorem dX10_minutes_10 : decode cX10_minutes 10 = .ok (.iconst (-1), 1) := by decide +kernel
theorem dX10_minutes_11 : decode cX10_minutes 11 = .ok (.ireturn, 1) := by decide +kernel
theorem dX10_minutes_12 : decode cX10_minutes 12 = .ok (.iload_n 1, 1) := by decide +kernel
theorem dX10_minutes_13 : decode cX10_minutes 13 = .ok (.ifCond .le 14, 3) := by decide +kernel
theorem dX10_minutes_16 : decode cX10_minutes 16 = .ok (.aload_n 0, 1) := by decide +kernel
theorem dX10_minutes_17 : decode cX10_minutes 17 = .ok (.getfield 51, 3) := by decide +kernel
theorem dX10_minutes_20 : decode cX10_minutes 20 = .ok (.aload_n 0, 1) := by decide +kernel
theorem dX10_minutes_21 : decode cX10_minutes 21 = .ok (.getfield 35, 3) := by decide +kernel
theorem dX10_minutes_24 : decode cX10_minutes 24 = .ok (.invokevirtual 215, 3) := by decide +kernel
theorem dX10_minutes_27 : decode cX10_minutes 27 = .ok (.aload_n 0, 1) := by decide +kernel
theorem dX10_minutes_28 : decode cX10_minutes 28 = .ok (.getfield 35, 3) := by decide +kernel
theorem dX10_minutes_31 : decode cX10_minutes 31 = .ok (.invokevirtual 240, 3) := by decide +kernel
theorem dX10_minutes_34 : decode cX10_minutes 34 = .ok (.istore_n 2, 1) := by decide +kernel
theorem dX10_minutes_35 : decode cX10_minutes 35 = .ok (.aload_n 0, 1) := by decide +kernel
theorem dX10_minutes_36 : decode cX10_minutes 36 = .ok (.getfield 35, 3) := by decide +kernel
theorem dX10_minutes_39 : decode cX10_minutes 39 = .ok (.aload_n 0, 1) := by decide +kernel
theorem dX10_minutes_40 : decode cX10_minutes 40 = .ok (.getfield 19, 3) := by decide +kernel
theorem dX10_minutes_43 : decode cX10_minutes 43 = .ok (.invokevirtual 194, 3) := by decide +kernel
theorem dX10_minutes_46 : decode cX10_minutes 46 = .ok (.invokevirtual 259, 3) := by decide +kernel
theorem dX10_minutes_49 : decode cX10_minutes 49 = .ok (.istore_n 3, 1) := by decide +kernel
theorem dX10_minutes_50 : decode cX10_minutes 50 = .ok (.aload_n 0, 1) := by decide +kernel
theorem dX10_minutes_51 : decode cX10_minutes 51 = .ok (.getfield 19, 3) := by decide +kernel
theorem dX10_minutes_54 : decode cX10_minutes 54 = .ok (.aload_n 0, 1) := by decide +kernel
theorem dX10_minutes_55 : decode cX10_minutes 55 = .ok (.getfield 35, 3) := by decide +kernel
theorem dX10_minutes_58 : decode cX10_minutes 58 = .ok (.iload_n 1, 1) := by decide +kernel
theorem dX10_minutes_59 : decode cX10_minutes 59 = .ok (.invokevirtual 262, 3) := by decide +kernel
theorem dX10_minutes_62 : decode cX10_minutes 62 = .ok (.aload_n 0, 1) := by decide +kernel
theorem dX10_minutes_63 : decode cX10_minutes 63 = .ok (.getfield 35, 3) := by decide +kernel
theorem dX10_minutes_66 : decode cX10_minutes 66 = .ok (.invokevirtual 240, 3) := by decide +kernel
theorem dX10_minutes_69 : decode cX10_minutes 69 = .ok (.iload_n 2, 1) := by decide +kernel
theorem dX10_minutes_70 : decode cX10_minutes 70 = .ok (.iconst (-1), 1) := by decide +kernel
theorem dX10_minutes_71 : decode cX10_minutes 71 = .ok (.ixor, 1) := by decide +kernel
theorem dX10_minutes_72 : decode cX10_minutes 72 = .ok (.iand, 1) := by decide +kernel
theorem dX10_minutes_73 : decode cX10_minutes 73 = .ok (.istore_n 2, 1) := by decide +kernel
theorem dX10_minutes_74 : decode cX10_minutes 74 = .ok (.aload_n 0, 1) := by decide +kernel
theorem dX10_minutes_75 : decode cX10_minutes 75 = .ok (.invokevirtual 246, 3) := by decide +kernel
theorem dX10_minutes_78 : decode cX10_minutes 78 = .ok (.aload_n 0, 1) := by decide +kernel
theorem dX10_minutes_79 : decode cX10_minutes 79 = .ok (.iload_n 2, 1) := by decide +kernel
theorem dX10_minutes_80 : decode cX10_minutes 80 = .ok (.invokevirtual 252, 3) := by decide +kernel
theorem dX10_minutes_83 : decode cX10_minutes 83 = .ok (.aload_n 0, 1) := by decide +kernel
theorem dX10_minutes_84 : decode cX10_minutes 84 = .ok (.aload_n 0, 1) := by decide +kernel
theorem dX10_minutes_85 : decode cX10_minutes 85 = .ok (.getfield 35, 3) := by decide +kernel
theorem dX10_minutes_88 : decode cX10_minutes 88 = .ok (.aload_n 0, 1) := by decide +kernel
theorem dX10_minutes_89 : decode cX10_minutes 89 = .ok (.getfield 19, 3) := by decide +kernel
theorem dX10_minutes_92 : decode cX10_minutes 92 = .ok (.invokevirtual 194, 3) := by decide +kernel
theorem dX10_minutes_95 : decode cX10_minutes 95 = .ok (.invokevirtual 259, 3) := by decide +kernel
theorem dX10_minutes_98 : decode cX10_minutes 98 = .ok (.iload_n 3, 1) := by decide +kernel
theorem dX10_minutes_99 : decode cX10_minutes 99 = .ok (.isub, 1) := by decide +kernel
theorem dX10_minutes_100 : decode cX10_minutes 100 = .ok (.invokevirtual 252, 3) := by decide +kernel
theorem dX10_minutes_103 : decode cX10_minutes 103 = .ok (.iload_n 2, 1) := by decide +kernel
theorem dX10_minutes_104 : decode cX10_minutes 104 = .ok (.invokestatic 225, 3) := by decide +kernel
theorem dX10_minutes_107 : decode cX10_minutes 107 = .ok (.ireturn, 1) := by decide +kernel
section NXG
variable {l : Launch} {D : va_G} {cy : Nat → ClassId} {ad : Nat → Nat} {dT : Nat} {X : Mm}
def f_X1_reckon_58 (K2 : Int32 → Mem → Option (Int32 × Mem)) (K12 : Int32 → Int32 → Mem → Option (Int32 × Mem)) (x1 : Int32) (x2 : Int32) (t0 : Int32) (M : Mem) : Option (Int32 × Mem) :=
  gd (0 ≤ x1 ∧ x1.toNatClampNeg < 6) <|
  vl ((if t0 < (30 : Int32) then t0 else (30 : Int32))) fun v12 =>
  vl ((if (0 : Int32) < v12 then v12 else (0 : Int32))) fun v13 =>
  gd (0 ≤ x2 ∧ x2.toNatClampNeg < 6) <|
  ml (up M (17 + x1.toNatClampNeg) x2.toNatClampNeg v13) fun M15 =>
  vl (x2 + 1) fun v16 =>
  K12 x1 v16 M15
set_option maxRecDepth 100000 in
theorem w_X1_reckon_58 {R : Int32} {M' : Mem} {K2 : Int32 → Mem → Option (Int32 × Mem)} {K12 : Int32 → Int32 → Mem → Option (Int32 × Mem)} (hK2 : ∀ (x1 : Int32) (M : Mem), K2 x1 M = some (R, M') → RunF l D cy ad none YX1_reckon 507 0 0 none (lay X M') 0 0 2 [(0, .ref 3), (1, .int x1)] [] (lay X M)) (hK12 : ∀ (x1 x2 : Int32) (M : Mem), K12 x1 x2 M = some (R, M') → RunF l D cy ad none YX1_reckon 507 0 0 none (lay X M') 0 0 12 [(0, .ref 3), (1, .int x1), (2, .int x2)] [] (lay X M)) (x1 x2 t0 : Int32) (M : Mem) (hF : f_X1_reckon_58 K2 K12 x1 x2 t0 M = some (R, M')) : RunF l D cy ad none YX1_reckon 507 0 0 none (lay X M') 0 0 58 [(0, .ref 3), (1, .int x1), (2, .int x2)] [.int t0] (lay X M) := by
  unfold f_X1_reckon_58 at hF
  refine g_istore (Y := YX1_reckon) (pc := 58) (L' := [(4, .int t0), (0, .ref 3), (1, .int x1), (2, .int x2)]) dX1_reckon_58 (Nat.le_of_ble_eq_true rfl) rfl ?_
  refine g_aload_n (Y := YX1_reckon) (pc := 60) 1 dX1_reckon_60 rfl ?_
  refine u_getR (Y := YX1_reckon) (pc := 61) (j := 16) dX1_reckon_61 fl_X1_42 k_3 rf_3_9 ?_
  refine g_iload_n (Y := YX1_reckon) (pc := 64) 2 dX1_reckon_64 rfl ?_
  obtain ⟨g11, hF⟩ := gd_some hF
  refine s_aaldA (Y := YX1_reckon) (pc := 65) dX1_reckon_65 k_16 n_16 g11 (stay_r g11.2) ?_
  refine g_iload_n (Y := YX1_reckon) (pc := 66) 3 dX1_reckon_66 rfl ?_
  refine g_iconst (Y := YX1_reckon) (pc := 67) dX1_reckon_67 kI_0 ?_
  refine g_bipush (Y := YX1_reckon) (pc := 68) dX1_reckon_68 kB_30 ?_
  refine g_iload (Y := YX1_reckon) (pc := 70) 0 dX1_reckon_70 rfl ?_
  refine s_min (Y := YX1_reckon) (pc := 72) dX1_reckon_72 lk_X1_56 w_min (Nat.le_of_ble_eq_true rfl) (Nat.le_of_ble_eq_true rfl) ?_
  refine g_nm (fun v12 e => ?_)
  replace hF := vl_to e hF; clear e
  refine s_max (Y := YX1_reckon) (pc := 75) dX1_reckon_75 lk_X1_62 w_max (Nat.le_of_ble_eq_true rfl) (Nat.le_of_ble_eq_true rfl) ?_
  refine g_nm (fun v13 e => ?_)
  replace hF := vl_to e hF; clear e
  obtain ⟨g14, hF⟩ := gd_some hF
  refine s_iast (Y := YX1_reckon) (pc := 78) dX1_reckon_78 (stay_all _ g11.2).2.1 (stay_all _ g11.2).2.2 g14 ?_
  refine g_nmM (fun M15 e => ?_)
  replace hF := ml_to e hF; clear e
  refine s_iinc (Y := YX1_reckon) (pc := 79) (j := 3) (L' := fun y => [(2, .int y), (4, .int t0), (0, .ref 3), (1, .int x1)]) dX1_reckon_79 kI_1 rfl (Nat.le_of_ble_eq_true rfl) (fun _ => rfl) (fun v16 e => ?_)
  replace hF := vl_to e hF; clear e
  refine g_goto (Y := YX1_reckon) (pc := 82) (tgt := 12) dX1_reckon_82 rfl ?_
  refine g_loc [2, 3, 0] rfl ?_
  exact hK12 _ _ _ hF
def f_X1_reckon_39 (K2 : Int32 → Mem → Option (Int32 × Mem)) (K12 : Int32 → Int32 → Mem → Option (Int32 × Mem)) (x1 : Int32) (x2 : Int32) (t0 : Int32) (M : Mem) : Option (Int32 × Mem) :=
  if t0 = 0 then
    bd (f_X3_valueOf x1 x2 M) fun r8 M9 =>
    f_X1_reckon_58 K2 K12 x1 x2 r8 M9
  else
    f_X1_reckon_58 K2 K12 x1 x2 0 M
set_option maxRecDepth 100000 in
theorem w_X1_reckon_39 {R : Int32} {M' : Mem} {K2 : Int32 → Mem → Option (Int32 × Mem)} {K12 : Int32 → Int32 → Mem → Option (Int32 × Mem)} (hK2 : ∀ (x1 : Int32) (M : Mem), K2 x1 M = some (R, M') → RunF l D cy ad none YX1_reckon 507 0 0 none (lay X M') 0 0 2 [(0, .ref 3), (1, .int x1)] [] (lay X M)) (hK12 : ∀ (x1 x2 : Int32) (M : Mem), K12 x1 x2 M = some (R, M') → RunF l D cy ad none YX1_reckon 507 0 0 none (lay X M') 0 0 12 [(0, .ref 3), (1, .int x1), (2, .int x2)] [] (lay X M)) (x1 x2 t0 : Int32) (M : Mem) (hF : f_X1_reckon_39 K2 K12 x1 x2 t0 M = some (R, M')) : RunF l D cy ad none YX1_reckon 507 0 0 none (lay X M') 0 0 39 [(0, .ref 3), (1, .int x1), (2, .int x2)] [.int t0] (lay X M) := by
  unfold f_X1_reckon_39 at hF
  refine g_istore_n (Y := YX1_reckon) (pc := 39) (L' := [(3, .int t0), (0, .ref 3), (1, .int x1), (2, .int x2)]) dX1_reckon_39 (Nat.le_of_ble_eq_true rfl) rfl ?_
  refine g_iload_n (Y := YX1_reckon) (pc := 40) 0 dX1_reckon_40 rfl ?_
  refine g_if_eq (Y := YX1_reckon) (pc := 41) (tgt := 48) dX1_reckon_41 rfl (fun c7 => ?_) (fun c7 => ?_)
  · replace hF := if_t c7 hF
    refine g_aload_n (Y := YX1_reckon) (pc := 48) 1 dX1_reckon_48 rfl ?_
    refine u_getR (Y := YX1_reckon) (pc := 49) (j := 23) dX1_reckon_49 fl_X1_48 k_3 rf_3_10 ?_
    refine g_aload_n (Y := YX1_reckon) (pc := 52) 1 dX1_reckon_52 rfl ?_
    refine g_iload_n (Y := YX1_reckon) (pc := 53) 2 dX1_reckon_53 rfl ?_
    refine g_iload_n (Y := YX1_reckon) (pc := 54) 3 dX1_reckon_54 rfl ?_
    obtain ⟨r8, M9, e10, hF⟩ := bd_some hF
    refine s_callVi (Y := YX1_reckon) (pc := 55) (as := [.ref 3, .int x1, .int x2]) (st := []) (r_X3_valueOf  e10) miX3_valueOf lk_X1_52 dX1_reckon_55 k_23 rfl (Nat.le_of_ble_eq_true rfl) (Nat.le_of_ble_eq_true rfl) rfl ?_
    clear e10
    refine g_loc [1, 2, 3] rfl ?_
    exact w_X1_reckon_58 hK2 hK12 _ _ _ _ hF
  · replace hF := if_f c7 hF
    refine g_iconst (Y := YX1_reckon) (pc := 44) dX1_reckon_44 kI_0 ?_
    refine g_goto (Y := YX1_reckon) (pc := 45) (tgt := 58) dX1_reckon_45 rfl ?_
    refine g_loc [1, 2, 3] rfl ?_
    exact w_X1_reckon_58 hK2 hK12 _ _ _ _ hF
def f_X1_reckon_12 (K2 : Int32 → Mem → Option (Int32 × Mem)) : Nat → Int32 → Int32 → Mem → Option (Int32 × Mem)
  | 0, _, _, _ => none
  | n + 1, x1, x2, M =>
    if x2 < (M 3 0) then
      gd (0 ≤ x1 ∧ x1.toNatClampNeg < 6) <|
      vl ((((M 8 x1.toNatClampNeg) >>> (x2 &&& 31)) &&& 1)) fun v5 =>
      if v5 = 1 then
        f_X1_reckon_39 K2 (f_X1_reckon_12 K2 n) x1 x2 1 M
      else
        f_X1_reckon_39 K2 (f_X1_reckon_12 K2 n) x1 x2 0 M
    else
      vl (x1 + 1) fun v3 =>
      K2 v3 M
set_option maxRecDepth 100000 in
theorem w_X1_reckon_12 {R : Int32} {M' : Mem} {K2 : Int32 → Mem → Option (Int32 × Mem)} (hK2 : ∀ (x1 : Int32) (M : Mem), K2 x1 M = some (R, M') → RunF l D cy ad none YX1_reckon 507 0 0 none (lay X M') 0 0 2 [(0, .ref 3), (1, .int x1)] [] (lay X M)) : ∀ (n : Nat) (x1 x2 : Int32) (M : Mem), f_X1_reckon_12 K2 n x1 x2 M = some (R, M') → RunF l D cy ad none YX1_reckon 507 0 0 none (lay X M') 0 0 12 [(0, .ref 3), (1, .int x1), (2, .int x2)] [] (lay X M) := by
  intro n
  induction n with
  | zero => intro x1 x2 M hF; exact absurd hF (by unfold f_X1_reckon_12; exact fun h => nomatch h)
  | succ n ih =>
    intro x1 x2 M hF
    unfold f_X1_reckon_12 at hF
    refine g_iload_n (Y := YX1_reckon) (pc := 12) 2 dX1_reckon_12 rfl ?_
    refine g_aload_n (Y := YX1_reckon) (pc := 13) 0 dX1_reckon_13 rfl ?_
    refine u_getI (Y := YX1_reckon) (pc := 14) dX1_reckon_14 fl_X1_9 k_3 ?_
    refine g_icmp_ge (Y := YX1_reckon) (pc := 17) (tgt := 85) dX1_reckon_17 rfl (fun c2 => ?_) (fun c2 => ?_)
    · replace hF := if_f c2 hF
      refine s_iinc (Y := YX1_reckon) (pc := 85) (j := 1) (L' := fun y => [(1, .int y), (0, .ref 3), (2, .int x2)]) dX1_reckon_85 kI_1 rfl (Nat.le_of_ble_eq_true rfl) (fun _ => rfl) (fun v3 e => ?_)
      replace hF := vl_to e hF; clear e
      refine g_goto (Y := YX1_reckon) (pc := 88) (tgt := 2) dX1_reckon_88 rfl ?_
      refine g_loc [1, 0] rfl ?_
      exact hK2 _ _ hF
    · replace hF := if_t c2 hF
      refine g_aload_n (Y := YX1_reckon) (pc := 20) 0 dX1_reckon_20 rfl ?_
      refine u_getR (Y := YX1_reckon) (pc := 21) (j := 8) dX1_reckon_21 fl_X1_34 k_3 rf_3_7 ?_
      refine g_iload_n (Y := YX1_reckon) (pc := 24) 1 dX1_reckon_24 rfl ?_
      obtain ⟨g4, hF⟩ := gd_some hF
      refine s_iald (Y := YX1_reckon) (pc := 25) dX1_reckon_25 k_8 n_8 g4 ?_
      refine g_iload_n (Y := YX1_reckon) (pc := 26) 2 dX1_reckon_26 rfl ?_
      refine g_ishr (Y := YX1_reckon) (pc := 27) dX1_reckon_27 ?_
      refine g_iconst (Y := YX1_reckon) (pc := 28) dX1_reckon_28 kI_1 ?_
      refine g_iand (Y := YX1_reckon) (pc := 29) dX1_reckon_29 ?_
      refine g_nm (fun v5 e => ?_)
      replace hF := vl_to e hF; clear e
      refine g_iconst (Y := YX1_reckon) (pc := 30) dX1_reckon_30 kI_1 ?_
      refine g_icmp_ne (Y := YX1_reckon) (pc := 31) (tgt := 38) dX1_reckon_31 rfl (fun c6 => ?_) (fun c6 => ?_)
      · replace hF := if_f c6 hF
        refine g_iconst (Y := YX1_reckon) (pc := 38) dX1_reckon_38 kI_0 ?_
        exact w_X1_reckon_39 hK2 ih _ _ _ _ hF
      · replace hF := if_t c6 hF
        refine g_iconst (Y := YX1_reckon) (pc := 34) dX1_reckon_34 kI_1 ?_
        refine g_goto (Y := YX1_reckon) (pc := 35) (tgt := 39) dX1_reckon_35 rfl ?_
        exact w_X1_reckon_39 hK2 ih _ _ _ _ hF
def f_X1_reckon_2  : Nat → Int32 → Mem → Option (Int32 × Mem)
  | 0, _, _ => none
  | n + 1, x1, M =>
    if x1 < (M 3 2) then
      f_X1_reckon_12 (f_X1_reckon_2 n) FU x1 0 M
    else
      some (0, M)
set_option maxRecDepth 100000 in
theorem w_X1_reckon_2 {R : Int32} {M' : Mem}  : ∀ (n : Nat) (x1 : Int32) (M : Mem), f_X1_reckon_2 n x1 M = some (R, M') → RunF l D cy ad none YX1_reckon 507 0 0 none (lay X M') 0 0 2 [(0, .ref 3), (1, .int x1)] [] (lay X M) := by
  intro n
  induction n with
  | zero => intro x1 M hF; exact absurd hF (by unfold f_X1_reckon_2; exact fun h => nomatch h)
  | succ n ih =>
    intro x1 M hF
    unfold f_X1_reckon_2 at hF
    refine g_iload_n (Y := YX1_reckon) (pc := 2) 1 dX1_reckon_2 rfl ?_
    refine g_aload_n (Y := YX1_reckon) (pc := 3) 0 dX1_reckon_3 rfl ?_
    refine u_getI (Y := YX1_reckon) (pc := 4) dX1_reckon_4 fl_X1_18 k_3 ?_
    refine g_icmp_ge (Y := YX1_reckon) (pc := 7) (tgt := 91) dX1_reckon_7 rfl (fun c1 => ?_) (fun c1 => ?_)
    · replace hF := if_f c1 hF
      exact s_vret (Y := YX1_reckon) (pc := 91) dX1_reckon_91 rfl hF
    · replace hF := if_t c1 hF
      refine g_iconst (Y := YX1_reckon) (pc := 10) dX1_reckon_10 kI_0 ?_
      refine g_istore_n (Y := YX1_reckon) (pc := 11) (L' := [(2, .int 0), (0, .ref 3), (1, .int x1)]) dX1_reckon_11 (Nat.le_of_ble_eq_true rfl) rfl ?_
      refine g_loc [1, 2, 0] rfl ?_
      exact w_X1_reckon_12 ih _ _ _ _ hF
def f_X1_reckon_0  (M : Mem) : Option (Int32 × Mem) :=
  f_X1_reckon_2 FU 0 M
set_option maxRecDepth 100000 in
theorem w_X1_reckon_0 {R : Int32} {M' : Mem}  (M : Mem) (hF : f_X1_reckon_0  M = some (R, M')) : RunF l D cy ad none YX1_reckon 507 0 0 none (lay X M') 0 0 0 [(0, .ref 3)] [] (lay X M) := by
  unfold f_X1_reckon_0 at hF
  refine g_iconst (Y := YX1_reckon) (pc := 0) dX1_reckon_0 kI_0 ?_
  refine g_istore_n (Y := YX1_reckon) (pc := 1) (L' := [(1, .int 0), (0, .ref 3)]) dX1_reckon_1 (Nat.le_of_ble_eq_true rfl) rfl ?_
  refine g_loc [1, 0] rfl ?_
  exact w_X1_reckon_2  _ _ _ hF
def f_X1_reckon (M : Mem) : Option (Int32 × Mem) := f_X1_reckon_0 M
theorem r_X1_reckon {R : Int32} {M M' : Mem}  (hF : f_X1_reckon  M = some (R, M')) : RunS l D cy ad YX1_reckon 507 [.ref 3] X M none M' := Run.of 0 (miX1_reckon).1 (Nat.le_of_ble_eq_true rfl) (w_X1_reckon_0  _ hF)
def f_X10_groups_47  (x1 : Int32) (M : Mem) : Option (Int32 × Mem) :=
  some (x1, M)
set_option maxRecDepth 100000 in
theorem w_X10_groups_47 {R : Int32} {M' : Mem}  (x1 : Int32) (M : Mem) (hF : f_X10_groups_47 x1 M = some (R, M')) : RunF l D cy ad none YX10_groups 508 0 0 (some (.int R)) (lay X M') 0 0 47 [(1, .int x1)] [] (lay X M) := by
  unfold f_X10_groups_47 at hF
  refine g_iload_n (Y := YX10_groups) (pc := 47) 0 dX10_groups_47 rfl ?_
  exact s_iret (Y := YX10_groups) (pc := 48) dX10_groups_48 rfl hF
def f_X10_groups_0  (M : Mem) : Option (Int32 × Mem) :=
  bd (f_X4_read M) fun r1 M2 =>
  ml (up M2 1 1 0) fun M4 =>
  if 0 < r1 then
    ml (up M4 3 2 ((M4 3 2) + r1)) fun M6 =>
    bd (f_X1_reckon M6) fun _ M8 =>
    bd (f_X6_clear M8) fun _ M11 =>
    f_X10_groups_47 r1 M11
  else
    f_X10_groups_47 r1 M4
set_option maxRecDepth 100000 in
theorem w_X10_groups_0 {R : Int32} {M' : Mem}  (M : Mem) (hF : f_X10_groups_0  M = some (R, M')) : RunF l D cy ad none YX10_groups 508 0 0 (some (.int R)) (lay X M') 0 0 0 [(0, .ref 0)] [] (lay X M) := by
  unfold f_X10_groups_0 at hF
  refine g_aload_n (Y := YX10_groups) (pc := 0) 0 dX10_groups_0 rfl ?_
  refine u_getR (Y := YX10_groups) (pc := 1) (j := 25) dX10_groups_1 fl_X10_28 k_0 rf_0_2 ?_
  obtain ⟨r1, M2, e3, hF⟩ := bd_some hF
  refine s_callVi (Y := YX10_groups) (pc := 4) (as := []) (st := []) (r_X4_read  e3) miX4_read lk_X10_126 dX10_groups_4 k_25 rfl (Nat.le_of_ble_eq_true rfl) (Nat.le_of_ble_eq_true rfl) rfl ?_
  clear e3
  refine g_istore_n (Y := YX10_groups) (pc := 7) (L' := [(1, .int r1), (0, .ref 0)]) dX10_groups_7 (Nat.le_of_ble_eq_true rfl) rfl ?_
  refine g_aload_n (Y := YX10_groups) (pc := 8) 1 dX10_groups_8 rfl ?_
  refine u_getR (Y := YX10_groups) (pc := 9) (j := 1) dX10_groups_9 fl_X10_10 k_0 rf_0_0 ?_
  refine g_iconst (Y := YX10_groups) (pc := 12) dX10_groups_12 kI_0 ?_
  refine u_putI (Y := YX10_groups) (pc := 13) dX10_groups_13 fl_X10_120  k_1 ?_
  refine g_nmM (fun M4 e => ?_)
  replace hF := ml_to e hF; clear e
  refine g_iload_n (Y := YX10_groups) (pc := 16) 0 dX10_groups_16 rfl ?_
  refine g_if_le (Y := YX10_groups) (pc := 17) (tgt := 47) dX10_groups_17 rfl (fun c5 => ?_) (fun c5 => ?_)
  · replace hF := if_f c5 hF
    refine g_loc [0] rfl ?_
    exact w_X10_groups_47  _ _ hF
  · replace hF := if_t c5 hF
    refine g_aload_n (Y := YX10_groups) (pc := 20) 1 dX10_groups_20 rfl ?_
    refine u_getR (Y := YX10_groups) (pc := 21) (j := 3) dX10_groups_21 fl_X10_19 k_0 rf_0_1 ?_
    refine g_dup (Y := YX10_groups) (pc := 24) dX10_groups_24 rfl ?_
    refine u_getI (Y := YX10_groups) (pc := 25) dX10_groups_25 fl_X10_129 k_3 ?_
    refine g_iload_n (Y := YX10_groups) (pc := 28) 0 dX10_groups_28 rfl ?_
    refine g_iadd (Y := YX10_groups) (pc := 29) dX10_groups_29 ?_
    refine u_putI (Y := YX10_groups) (pc := 30) dX10_groups_30 fl_X10_129  k_3 ?_
    refine g_nmM (fun M6 e => ?_)
    replace hF := ml_to e hF; clear e
    refine g_aload_n (Y := YX10_groups) (pc := 33) 1 dX10_groups_33 rfl ?_
    refine u_getR (Y := YX10_groups) (pc := 34) (j := 3) dX10_groups_34 fl_X10_19 k_0 rf_0_1 ?_
    obtain ⟨r7, M8, e9, hF⟩ := bd_some hF
    refine s_callVv (Y := YX10_groups) (pc := 37) (as := []) (st := []) (r_X1_reckon  e9) miX1_reckon lk_X10_132 dX10_groups_37 k_3 rfl (Nat.le_of_ble_eq_true rfl) (Nat.le_of_ble_eq_true rfl) rfl ?_
    clear e9
    refine g_aload_n (Y := YX10_groups) (pc := 40) 1 dX10_groups_40 rfl ?_
    refine u_getR (Y := YX10_groups) (pc := 41) (j := 46) dX10_groups_41 fl_X10_51 k_0 rf_0_7 ?_
    obtain ⟨r10, M11, e12, hF⟩ := bd_some hF
    refine s_callVv (Y := YX10_groups) (pc := 44) (as := []) (st := []) (r_X6_clear  e12) miX6_clear lk_X10_135 dX10_groups_44 k_46 rfl (Nat.le_of_ble_eq_true rfl) (Nat.le_of_ble_eq_true rfl) rfl ?_
    clear e12
    refine g_loc [0] rfl ?_
    exact w_X10_groups_47  _ _ hF
def f_X10_groups (M : Mem) : Option (Int32 × Mem) := f_X10_groups_0 M
theorem r_X10_groups {R : Int32} {M M' : Mem}  (hF : f_X10_groups  M = some (R, M')) : RunS l D cy ad YX10_groups 508 [.ref 0] X M (some (.int R)) M' := Run.of 0 (miX10_groups).1 (Nat.le_of_ble_eq_true rfl) (w_X10_groups_0  _ hF)
def f_X3_faultOf_45  (t0 : Int32) (M : Mem) : Option (Int32 × Mem) :=
  gd (t0 = 0 ∨ t0 = 1) <|
  ml (up M 23 4 t0) fun M7 =>
  bd (f_X3_readAll M7) fun r8 M9 =>
  some ((M9 23 6), M9)
set_option maxRecDepth 100000 in
theorem w_X3_faultOf_45 {R : Int32} {M' : Mem}  (t0 : Int32) (M : Mem) (hF : f_X3_faultOf_45 t0 M = some (R, M')) : RunF l D cy ad none YX3_faultOf 506 0 0 (some (.int R)) (lay X M') 0 0 45 [(0, .ref 23)] [.int t0, .ref 23] (lay X M) := by
  unfold f_X3_faultOf_45 at hF
  obtain ⟨g6, hF⟩ := gd_some hF
  refine u_putZ (Y := YX3_faultOf) (pc := 45) dX3_faultOf_45 fl_X3_35 g6 k_23 ?_
  refine g_nmM (fun M7 e => ?_)
  replace hF := ml_to e hF; clear e
  refine g_aload_n (Y := YX3_faultOf) (pc := 48) 0 dX3_faultOf_48 rfl ?_
  obtain ⟨r8, M9, e10, hF⟩ := bd_some hF
  refine s_callVi (Y := YX3_faultOf) (pc := 49) (as := []) (st := []) (r_X3_readAll  e10) miX3_readAll lk_X3_39 dX3_faultOf_49 k_23 rfl (Nat.le_of_ble_eq_true rfl) (Nat.le_of_ble_eq_true rfl) rfl ?_
  clear e10
  refine g_pop (Y := YX3_faultOf) (pc := 52) dX3_faultOf_52 rfl ?_
  refine g_aload_n (Y := YX3_faultOf) (pc := 53) 0 dX3_faultOf_53 rfl ?_
  refine u_getI (Y := YX3_faultOf) (pc := 54) dX3_faultOf_54 fl_X3_43 k_23 ?_
  exact s_iret (Y := YX3_faultOf) (pc := 57) dX3_faultOf_57 rfl hF
def f_X3_faultOf_0  (M : Mem) : Option (Int32 × Mem) :=
  if (M 1 1) = 0 then
    some ((-1), M)
  else
    ml (up M 23 2 1) fun M2 =>
    vl ((if (40 : Int32) < (M2 1 1) then (40 : Int32) else (M2 1 1))) fun v3 =>
    ml (up M2 23 3 v3) fun M4 =>
    if 40 < (M4 1 1) then
      f_X3_faultOf_45 1 M4
    else
      f_X3_faultOf_45 0 M4
set_option maxRecDepth 100000 in
theorem w_X3_faultOf_0 {R : Int32} {M' : Mem}  (M : Mem) (hF : f_X3_faultOf_0  M = some (R, M')) : RunF l D cy ad none YX3_faultOf 506 0 0 (some (.int R)) (lay X M') 0 0 0 [(0, .ref 23), (1, .ref 1)] [] (lay X M) := by
  unfold f_X3_faultOf_0 at hF
  refine g_aload_n (Y := YX3_faultOf) (pc := 0) 1 dX3_faultOf_0 rfl ?_
  refine u_getI (Y := YX3_faultOf) (pc := 1) dX3_faultOf_1 fl_X3_22 k_1 ?_
  refine g_if_ne (Y := YX3_faultOf) (pc := 4) (tgt := 9) dX3_faultOf_4 rfl (fun c1 => ?_) (fun c1 => ?_)
  · replace hF := if_f c1 hF
    refine g_aload_n (Y := YX3_faultOf) (pc := 9) 0 dX3_faultOf_9 rfl ?_
    refine g_aload_n (Y := YX3_faultOf) (pc := 10) 1 dX3_faultOf_10 rfl ?_
    refine u_getR (Y := YX3_faultOf) (pc := 11) (j := 2) dX3_faultOf_11 fl_X3_25 k_1 rf_1_0 ?_
    refine s_putSrc (Y := YX3_faultOf) (pc := 14) 1 (by decide) dX3_faultOf_14 fl_X3_19.1 ?_
    refine g_nmM (fun M2 e => ?_)
    replace hF := ml_to e hF; clear e
    refine g_aload_n (Y := YX3_faultOf) (pc := 17) 0 dX3_faultOf_17 rfl ?_
    refine g_aload_n (Y := YX3_faultOf) (pc := 18) 1 dX3_faultOf_18 rfl ?_
    refine u_getI (Y := YX3_faultOf) (pc := 19) dX3_faultOf_19 fl_X3_22 k_1 ?_
    refine g_bipush (Y := YX3_faultOf) (pc := 22) dX3_faultOf_22 kB_40 ?_
    refine s_min (Y := YX3_faultOf) (pc := 24) dX3_faultOf_24 lk_X3_26 w_min (Nat.le_of_ble_eq_true rfl) (Nat.le_of_ble_eq_true rfl) ?_
    refine g_nm (fun v3 e => ?_)
    replace hF := vl_to e hF; clear e
    refine u_putI (Y := YX3_faultOf) (pc := 27) dX3_faultOf_27 fl_X3_32  k_23 ?_
    refine g_nmM (fun M4 e => ?_)
    replace hF := ml_to e hF; clear e
    refine g_aload_n (Y := YX3_faultOf) (pc := 30) 0 dX3_faultOf_30 rfl ?_
    refine g_aload_n (Y := YX3_faultOf) (pc := 31) 1 dX3_faultOf_31 rfl ?_
    refine u_getI (Y := YX3_faultOf) (pc := 32) dX3_faultOf_32 fl_X3_22 k_1 ?_
    refine g_bipush (Y := YX3_faultOf) (pc := 35) dX3_faultOf_35 kB_40 ?_
    refine g_icmp_le (Y := YX3_faultOf) (pc := 37) (tgt := 44) dX3_faultOf_37 rfl (fun c5 => ?_) (fun c5 => ?_)
    · replace hF := if_f c5 hF
      refine g_iconst (Y := YX3_faultOf) (pc := 44) dX3_faultOf_44 kI_0 ?_
      refine g_loc [0] rfl ?_
      exact w_X3_faultOf_45  _ _ hF
    · replace hF := if_t c5 hF
      refine g_iconst (Y := YX3_faultOf) (pc := 40) dX3_faultOf_40 kI_1 ?_
      refine g_goto (Y := YX3_faultOf) (pc := 41) (tgt := 45) dX3_faultOf_41 rfl ?_
      refine g_loc [0] rfl ?_
      exact w_X3_faultOf_45  _ _ hF
  · replace hF := if_t c1 hF
    refine g_iconst (Y := YX3_faultOf) (pc := 7) dX3_faultOf_7 kI_m1 ?_
    exact s_iret (Y := YX3_faultOf) (pc := 8) dX3_faultOf_8 rfl hF
def f_X3_faultOf (M : Mem) : Option (Int32 × Mem) := f_X3_faultOf_0 M
theorem r_X3_faultOf {R : Int32} {M M' : Mem}  (hF : f_X3_faultOf  M = some (R, M')) : RunS l D cy ad YX3_faultOf 506 [.ref 23, .ref 1] X M (some (.int R)) M' := Run.of 1 (miX3_faultOf).1 (Nat.le_of_ble_eq_true rfl) (w_X3_faultOf_0  _ hF)
def f_X3_take_0  (M : Mem) : Option (Int32 × Mem) :=
  vl ((if (40 : Int32) < (M 1 1) then (40 : Int32) else (M 1 1))) fun v1 =>
  ml (up M 23 1 v1) fun M2 =>
  gd (cpOk M2 2 0 0 (M2 23 1) 80 40) <|
  gd (chOk M2 2 0 (M2 23 1)) <|
  ml (cpM M2 2 24 0 0 (M2 23 1)) fun M4 =>
  some (0, M4)
set_option maxRecDepth 100000 in
theorem w_X3_take_0 {R : Int32} {M' : Mem}  (M : Mem) (hF : f_X3_take_0  M = some (R, M')) : RunF l D cy ad none YX3_take 1 0 0 none (lay X M') 0 0 0 [(0, .ref 23), (1, .ref 1)] [] (lay X M) := by
  unfold f_X3_take_0 at hF
  refine g_aload_n (Y := YX3_take) (pc := 0) 0 dX3_take_0 rfl ?_
  refine g_aload_n (Y := YX3_take) (pc := 1) 1 dX3_take_1 rfl ?_
  refine u_getI (Y := YX3_take) (pc := 2) dX3_take_2 fl_X3_22 k_1 ?_
  refine g_bipush (Y := YX3_take) (pc := 5) dX3_take_5 kB_40 ?_
  refine s_min (Y := YX3_take) (pc := 7) dX3_take_7 lk_X3_26 w_min (Nat.le_of_ble_eq_true rfl) (Nat.le_of_ble_eq_true rfl) ?_
  refine g_nm (fun v1 e => ?_)
  replace hF := vl_to e hF; clear e
  refine u_putI (Y := YX3_take) (pc := 10) dX3_take_10 fl_X3_15  k_23 ?_
  refine g_nmM (fun M2 e => ?_)
  replace hF := ml_to e hF; clear e
  refine g_aload_n (Y := YX3_take) (pc := 13) 1 dX3_take_13 rfl ?_
  refine u_getR (Y := YX3_take) (pc := 14) (j := 2) dX3_take_14 fl_X3_25 k_1 rf_1_0 ?_
  refine g_iconst (Y := YX3_take) (pc := 17) dX3_take_17 kI_0 ?_
  refine g_aload_n (Y := YX3_take) (pc := 18) 0 dX3_take_18 rfl ?_
  refine u_getR (Y := YX3_take) (pc := 19) (j := 24) dX3_take_19 fl_X3_11 k_23 rf_23_0 ?_
  refine g_iconst (Y := YX3_take) (pc := 22) dX3_take_22 kI_0 ?_
  refine g_aload_n (Y := YX3_take) (pc := 23) 0 dX3_take_23 rfl ?_
  refine u_getI (Y := YX3_take) (pc := 24) dX3_take_24 fl_X3_15 k_23 ?_
  obtain ⟨g3, hF⟩ := gd_some hF
  obtain ⟨g5, hF⟩ := gd_some hF
  refine s_copyC (Y := YX3_take) (pc := 27) dX3_take_27 lk_X3_46 w_copy k_2 k_24 n_2 n_24 g3 g5 (Nat.le_of_ble_eq_true rfl) (Nat.le_of_ble_eq_true rfl) (Nat.le_of_ble_eq_true rfl) ?_
  refine g_nmM (fun M4 e => ?_)
  replace hF := ml_to e hF; clear e
  exact s_vret (Y := YX3_take) (pc := 30) dX3_take_30 rfl hF
def f_X3_take (M : Mem) : Option (Int32 × Mem) := f_X3_take_0 M
theorem r_X3_take {R : Int32} {M M' : Mem}  (hF : f_X3_take  M = some (R, M')) : RunS l D cy ad YX3_take 1 [.ref 23, .ref 1] X M none M' := Run.of 1 (miX3_take).1 (Nat.le_of_ble_eq_true rfl) (w_X3_take_0  _ hF)
def f_X10_rule_61  (t0 : Int32) (M : Mem) : Option (Int32 × Mem) :=
  some (t0, M)
set_option maxRecDepth 100000 in
theorem w_X10_rule_61 {R : Int32} {M' : Mem}  (t0 : Int32) (M : Mem) (hF : f_X10_rule_61 t0 M = some (R, M')) : RunF l D cy ad none YX10_rule 508 0 0 (some (.int R)) (lay X M') 0 0 61 [] [.int t0] (lay X M) := by
  unfold f_X10_rule_61 at hF
  exact s_iret (Y := YX10_rule) (pc := 61) dX10_rule_61 rfl hF
def f_X10_rule_41  (x1 : Int32) (M : Mem) : Option (Int32 × Mem) :=
  ml (up M 1 1 0) fun M5 =>
  if x1 = (-1) then
    f_X10_rule_61 0 M5
  else
    f_X10_rule_61 ((-1) - x1) M5
set_option maxRecDepth 100000 in
theorem w_X10_rule_41 {R : Int32} {M' : Mem}  (x1 : Int32) (M : Mem) (hF : f_X10_rule_41 x1 M = some (R, M')) : RunF l D cy ad none YX10_rule 508 0 0 (some (.int R)) (lay X M') 0 0 41 [(0, .ref 0), (1, .int x1)] [] (lay X M) := by
  unfold f_X10_rule_41 at hF
  refine g_aload_n (Y := YX10_rule) (pc := 41) 0 dX10_rule_41 rfl ?_
  refine u_getR (Y := YX10_rule) (pc := 42) (j := 1) dX10_rule_42 fl_X10_10 k_0 rf_0_0 ?_
  refine g_iconst (Y := YX10_rule) (pc := 45) dX10_rule_45 kI_0 ?_
  refine u_putI (Y := YX10_rule) (pc := 46) dX10_rule_46 fl_X10_120  k_1 ?_
  refine g_nmM (fun M5 e => ?_)
  replace hF := ml_to e hF; clear e
  refine g_iload_n (Y := YX10_rule) (pc := 49) 1 dX10_rule_49 rfl ?_
  refine g_iconst (Y := YX10_rule) (pc := 50) dX10_rule_50 kI_m1 ?_
  refine g_icmp_ne (Y := YX10_rule) (pc := 51) (tgt := 58) dX10_rule_51 rfl (fun c6 => ?_) (fun c6 => ?_)
  · replace hF := if_f c6 hF
    refine g_iconst (Y := YX10_rule) (pc := 58) dX10_rule_58 kI_m1 ?_
    refine g_iload_n (Y := YX10_rule) (pc := 59) 1 dX10_rule_59 rfl ?_
    refine g_isub (Y := YX10_rule) (pc := 60) dX10_rule_60 ?_
    refine g_loc [] rfl ?_
    exact w_X10_rule_61  _ _ hF
  · replace hF := if_t c6 hF
    refine g_iconst (Y := YX10_rule) (pc := 54) dX10_rule_54 kI_0 ?_
    refine g_goto (Y := YX10_rule) (pc := 55) (tgt := 61) dX10_rule_55 rfl ?_
    refine g_loc [] rfl ?_
    exact w_X10_rule_61  _ _ hF
def f_X10_rule_0  (M : Mem) : Option (Int32 × Mem) :=
  bd (f_X3_faultOf M) fun r1 M2 =>
  if r1 = (-1) then
    bd (f_X3_take M2) fun _ M8 =>
    bd (f_X1_reckon M8) fun _ M11 =>
    f_X10_rule_41 r1 M11
  else
    f_X10_rule_41 r1 M2
set_option maxRecDepth 100000 in
theorem w_X10_rule_0 {R : Int32} {M' : Mem}  (M : Mem) (hF : f_X10_rule_0  M = some (R, M')) : RunF l D cy ad none YX10_rule 508 0 0 (some (.int R)) (lay X M') 0 0 0 [(0, .ref 0)] [] (lay X M) := by
  unfold f_X10_rule_0 at hF
  refine g_aload_n (Y := YX10_rule) (pc := 0) 0 dX10_rule_0 rfl ?_
  refine u_getR (Y := YX10_rule) (pc := 1) (j := 3) dX10_rule_1 fl_X10_19 k_0 rf_0_1 ?_
  refine u_getR (Y := YX10_rule) (pc := 4) (j := 23) dX10_rule_4 fl_X10_138 k_3 rf_3_10 ?_
  refine g_aload_n (Y := YX10_rule) (pc := 7) 0 dX10_rule_7 rfl ?_
  refine u_getR (Y := YX10_rule) (pc := 8) (j := 1) dX10_rule_8 fl_X10_10 k_0 rf_0_0 ?_
  obtain ⟨r1, M2, e3, hF⟩ := bd_some hF
  refine s_callVi (Y := YX10_rule) (pc := 11) (as := [.ref 1]) (st := []) (r_X3_faultOf  e3) miX3_faultOf lk_X10_142 dX10_rule_11 k_23 rfl (Nat.le_of_ble_eq_true rfl) (Nat.le_of_ble_eq_true rfl) rfl ?_
  clear e3
  refine g_istore_n (Y := YX10_rule) (pc := 14) (L' := [(1, .int r1), (0, .ref 0)]) dX10_rule_14 (Nat.le_of_ble_eq_true rfl) rfl ?_
  refine g_iload_n (Y := YX10_rule) (pc := 15) 0 dX10_rule_15 rfl ?_
  refine g_iconst (Y := YX10_rule) (pc := 16) dX10_rule_16 kI_m1 ?_
  refine g_icmp_ne (Y := YX10_rule) (pc := 17) (tgt := 41) dX10_rule_17 rfl (fun c4 => ?_) (fun c4 => ?_)
  · replace hF := if_f c4 hF
    refine g_loc [1, 0] rfl ?_
    exact w_X10_rule_41  _ _ hF
  · replace hF := if_t c4 hF
    refine g_aload_n (Y := YX10_rule) (pc := 20) 1 dX10_rule_20 rfl ?_
    refine u_getR (Y := YX10_rule) (pc := 21) (j := 3) dX10_rule_21 fl_X10_19 k_0 rf_0_1 ?_
    refine u_getR (Y := YX10_rule) (pc := 24) (j := 23) dX10_rule_24 fl_X10_138 k_3 rf_3_10 ?_
    refine g_aload_n (Y := YX10_rule) (pc := 27) 1 dX10_rule_27 rfl ?_
    refine u_getR (Y := YX10_rule) (pc := 28) (j := 1) dX10_rule_28 fl_X10_10 k_0 rf_0_0 ?_
    obtain ⟨r7, M8, e9, hF⟩ := bd_some hF
    refine s_callVv (Y := YX10_rule) (pc := 31) (as := [.ref 1]) (st := []) (r_X3_take  e9) miX3_take lk_X10_148 dX10_rule_31 k_23 rfl (Nat.le_of_ble_eq_true rfl) (Nat.le_of_ble_eq_true rfl) rfl ?_
    clear e9
    refine g_aload_n (Y := YX10_rule) (pc := 34) 1 dX10_rule_34 rfl ?_
    refine u_getR (Y := YX10_rule) (pc := 35) (j := 3) dX10_rule_35 fl_X10_19 k_0 rf_0_1 ?_
    obtain ⟨r10, M11, e12, hF⟩ := bd_some hF
    refine s_callVv (Y := YX10_rule) (pc := 38) (as := []) (st := []) (r_X1_reckon  e12) miX1_reckon lk_X10_132 dX10_rule_38 k_3 rfl (Nat.le_of_ble_eq_true rfl) (Nat.le_of_ble_eq_true rfl) rfl ?_
    clear e12
    refine g_loc [1, 0] rfl ?_
    exact w_X10_rule_41  _ _ hF
def f_X10_rule (M : Mem) : Option (Int32 × Mem) := f_X10_rule_0 M
theorem r_X10_rule {R : Int32} {M M' : Mem}  (hF : f_X10_rule  M = some (R, M')) : RunS l D cy ad YX10_rule 508 [.ref 0] X M (some (.int R)) M' := Run.of 0 (miX10_rule).1 (Nat.le_of_ble_eq_true rfl) (w_X10_rule_0  _ hF)
def f_X10_stay_37  (t0 : Int32) (M : Mem) : Option (Int32 × Mem) :=
  some (t0, M)
set_option maxRecDepth 100000 in
theorem w_X10_stay_37 {R : Int32} {M' : Mem}  (t0 : Int32) (M : Mem) (hF : f_X10_stay_37 t0 M = some (R, M')) : RunF l D cy ad none YX10_stay 1 0 0 (some (.int R)) (lay X M') 0 0 37 [] [.int t0] (lay X M) := by
  unfold f_X10_stay_37 at hF
  exact s_iret (Y := YX10_stay) (pc := 37) dX10_stay_37 rfl hF
def f_X10_stay_36  (M : Mem) : Option (Int32 × Mem) :=
  f_X10_stay_37 (-1) M
set_option maxRecDepth 100000 in
theorem w_X10_stay_36 {R : Int32} {M' : Mem}  (M : Mem) (hF : f_X10_stay_36  M = some (R, M')) : RunF l D cy ad none YX10_stay 1 0 0 (some (.int R)) (lay X M') 0 0 36 [] [] (lay X M) := by
  unfold f_X10_stay_36 at hF
  refine g_iconst (Y := YX10_stay) (pc := 36) dX10_stay_36 kI_m1 ?_
  exact w_X10_stay_37  _ _ hF
def f_X10_stay_0  (x1 : Int32) (x2 : Int32) (M : Mem) : Option (Int32 × Mem) :=
  bd (f_X1_hasGroup x1 M) fun r1 M2 =>
  if r1 = 0 then
    f_X10_stay_36 M2
  else
    bd (f_X1_hasRoom x2 M2) fun r5 M6 =>
    if r5 = 0 then
      f_X10_stay_36 M6
    else
      gd (0 ≤ x1 ∧ x1.toNatClampNeg < 6) <|
      gd (0 ≤ x2 ∧ x2.toNatClampNeg < 6) <|
      vl ((M6 (17 + x1.toNatClampNeg) x2.toNatClampNeg)) fun v11 =>
      f_X10_stay_37 v11 M6
set_option maxRecDepth 100000 in
theorem w_X10_stay_0 {R : Int32} {M' : Mem}  (x1 x2 : Int32) (M : Mem) (hF : f_X10_stay_0 x1 x2 M = some (R, M')) : RunF l D cy ad none YX10_stay 1 0 0 (some (.int R)) (lay X M') 0 0 0 [(0, .ref 0), (1, .int x1), (2, .int x2)] [] (lay X M) := by
  unfold f_X10_stay_0 at hF
  refine g_aload_n (Y := YX10_stay) (pc := 0) 0 dX10_stay_0 rfl ?_
  refine u_getR (Y := YX10_stay) (pc := 1) (j := 3) dX10_stay_1 fl_X10_19 k_0 rf_0_1 ?_
  refine g_iload_n (Y := YX10_stay) (pc := 4) 1 dX10_stay_4 rfl ?_
  obtain ⟨r1, M2, e3, hF⟩ := bd_some hF
  refine s_callVi (Y := YX10_stay) (pc := 5) (as := [.int x1]) (st := []) (r_X1_hasGroup  e3) miX1_hasGroup lk_X10_152 dX10_stay_5 k_3 rfl (Nat.le_of_ble_eq_true rfl) (Nat.le_of_ble_eq_true rfl) rfl ?_
  clear e3
  refine g_if_eq (Y := YX10_stay) (pc := 8) (tgt := 36) dX10_stay_8 rfl (fun c4 => ?_) (fun c4 => ?_)
  · replace hF := if_t c4 hF
    refine g_loc [] rfl ?_
    exact w_X10_stay_36  _ hF
  · replace hF := if_f c4 hF
    refine g_aload_n (Y := YX10_stay) (pc := 11) 0 dX10_stay_11 rfl ?_
    refine u_getR (Y := YX10_stay) (pc := 12) (j := 3) dX10_stay_12 fl_X10_19 k_0 rf_0_1 ?_
    refine g_iload_n (Y := YX10_stay) (pc := 15) 2 dX10_stay_15 rfl ?_
    obtain ⟨r5, M6, e7, hF⟩ := bd_some hF
    refine s_callVi (Y := YX10_stay) (pc := 16) (as := [.int x2]) (st := []) (r_X1_hasRoom  e7) miX1_hasRoom lk_X10_185 dX10_stay_16 k_3 rfl (Nat.le_of_ble_eq_true rfl) (Nat.le_of_ble_eq_true rfl) rfl ?_
    clear e7
    refine g_if_eq (Y := YX10_stay) (pc := 19) (tgt := 36) dX10_stay_19 rfl (fun c8 => ?_) (fun c8 => ?_)
    · replace hF := if_t c8 hF
      refine g_loc [] rfl ?_
      exact w_X10_stay_36  _ hF
    · replace hF := if_f c8 hF
      refine g_aload_n (Y := YX10_stay) (pc := 22) 0 dX10_stay_22 rfl ?_
      refine u_getR (Y := YX10_stay) (pc := 23) (j := 3) dX10_stay_23 fl_X10_19 k_0 rf_0_1 ?_
      refine u_getR (Y := YX10_stay) (pc := 26) (j := 16) dX10_stay_26 fl_X10_201 k_3 rf_3_9 ?_
      refine g_iload_n (Y := YX10_stay) (pc := 29) 1 dX10_stay_29 rfl ?_
      obtain ⟨g9, hF⟩ := gd_some hF
      refine s_aaldA (Y := YX10_stay) (pc := 30) dX10_stay_30 k_16 n_16 g9 (stay_r g9.2) ?_
      refine g_iload_n (Y := YX10_stay) (pc := 31) 2 dX10_stay_31 rfl ?_
      obtain ⟨g10, hF⟩ := gd_some hF
      refine s_iald (Y := YX10_stay) (pc := 32) dX10_stay_32 (stay_all _ g9.2).2.1 (stay_all _ g9.2).2.2 g10 ?_
      refine g_nm (fun v11 e => ?_)
      replace hF := vl_to e hF; clear e
      refine g_goto (Y := YX10_stay) (pc := 33) (tgt := 37) dX10_stay_33 rfl ?_
      refine g_loc [] rfl ?_
      exact w_X10_stay_37  _ _ hF
def f_X10_stay (x1 : Int32) (x2 : Int32) (M : Mem) : Option (Int32 × Mem) := f_X10_stay_0 x1 x2 M
theorem r_X10_stay {x1 x2 R : Int32} {M M' : Mem}  (hF : f_X10_stay x1 x2 M = some (R, M')) : RunS l D cy ad YX10_stay 1 [.ref 0, .int x1, .int x2] X M (some (.int R)) M' := Run.of 2 (miX10_stay).1 (Nat.le_of_ble_eq_true rfl) (w_X10_stay_0  _ _ _ hF)
def f_X10_leave_28  (M : Mem) : Option (Int32 × Mem) :=
  some ((-1), M)
set_option maxRecDepth 100000 in
theorem w_X10_leave_28 {R : Int32} {M' : Mem}  (M : Mem) (hF : f_X10_leave_28  M = some (R, M')) : RunF l D cy ad none YX10_leave 508 0 0 (some (.int R)) (lay X M') 0 0 28 [] [] (lay X M) := by
  unfold f_X10_leave_28 at hF
  refine g_iconst (Y := YX10_leave) (pc := 28) dX10_leave_28 kI_m1 ?_
  exact s_iret (Y := YX10_leave) (pc := 29) dX10_leave_29 rfl hF
def f_X10_leave_0  (x1 : Int32) (x2 : Int32) (M : Mem) : Option (Int32 × Mem) :=
  bd (f_X1_hasGroup x1 M) fun r1 M2 =>
  if r1 = 0 then
    f_X10_leave_28 M2
  else
    if x2 < 0 then
      f_X10_leave_28 M2
    else
      if x2 < (1 <<< ((M2 3 0) &&& 31)) then
        gd (0 ≤ x1 ∧ x1.toNatClampNeg < 6) <|
        vl ((M2 8 x1.toNatClampNeg)) fun v8 =>
        gd (0 ≤ x1 ∧ x1.toNatClampNeg < 6) <|
        ml (up M2 8 x1.toNatClampNeg x2) fun M10 =>
        bd (f_X1_reckon M10) fun _ M12 =>
        some (v8, M12)
      else
        f_X10_leave_28 M2
set_option maxRecDepth 100000 in
theorem w_X10_leave_0 {R : Int32} {M' : Mem}  (x1 x2 : Int32) (M : Mem) (hF : f_X10_leave_0 x1 x2 M = some (R, M')) : RunF l D cy ad none YX10_leave 508 0 0 (some (.int R)) (lay X M') 0 0 0 [(0, .ref 0), (1, .int x1), (2, .int x2)] [] (lay X M) := by
  unfold f_X10_leave_0 at hF
  refine g_aload_n (Y := YX10_leave) (pc := 0) 0 dX10_leave_0 rfl ?_
  refine u_getR (Y := YX10_leave) (pc := 1) (j := 3) dX10_leave_1 fl_X10_19 k_0 rf_0_1 ?_
  refine g_iload_n (Y := YX10_leave) (pc := 4) 1 dX10_leave_4 rfl ?_
  obtain ⟨r1, M2, e3, hF⟩ := bd_some hF
  refine s_callVi (Y := YX10_leave) (pc := 5) (as := [.int x1]) (st := []) (r_X1_hasGroup  e3) miX1_hasGroup lk_X10_152 dX10_leave_5 k_3 rfl (Nat.le_of_ble_eq_true rfl) (Nat.le_of_ble_eq_true rfl) rfl ?_
  clear e3
  refine g_if_eq (Y := YX10_leave) (pc := 8) (tgt := 28) dX10_leave_8 rfl (fun c4 => ?_) (fun c4 => ?_)
  · replace hF := if_t c4 hF
    refine g_loc [] rfl ?_
    exact w_X10_leave_28  _ hF
  · replace hF := if_f c4 hF
    refine g_iload_n (Y := YX10_leave) (pc := 11) 2 dX10_leave_11 rfl ?_
    refine g_if_lt (Y := YX10_leave) (pc := 12) (tgt := 28) dX10_leave_12 rfl (fun c5 => ?_) (fun c5 => ?_)
    · replace hF := if_t c5 hF
      refine g_loc [] rfl ?_
      exact w_X10_leave_28  _ hF
    · replace hF := if_f c5 hF
      refine g_iload_n (Y := YX10_leave) (pc := 15) 2 dX10_leave_15 rfl ?_
      refine g_iconst (Y := YX10_leave) (pc := 16) dX10_leave_16 kI_1 ?_
      refine g_aload_n (Y := YX10_leave) (pc := 17) 0 dX10_leave_17 rfl ?_
      refine u_getR (Y := YX10_leave) (pc := 18) (j := 3) dX10_leave_18 fl_X10_19 k_0 rf_0_1 ?_
      refine u_getI (Y := YX10_leave) (pc := 21) dX10_leave_21 fl_X10_123 k_3 ?_
      refine g_ishl (Y := YX10_leave) (pc := 24) dX10_leave_24 ?_
      refine g_icmp_lt (Y := YX10_leave) (pc := 25) (tgt := 30) dX10_leave_25 rfl (fun c6 => ?_) (fun c6 => ?_)
      · replace hF := if_t c6 hF
        refine g_aload_n (Y := YX10_leave) (pc := 30) 0 dX10_leave_30 rfl ?_
        refine u_getR (Y := YX10_leave) (pc := 31) (j := 3) dX10_leave_31 fl_X10_19 k_0 rf_0_1 ?_
        refine u_getR (Y := YX10_leave) (pc := 34) (j := 8) dX10_leave_34 fl_X10_182 k_3 rf_3_7 ?_
        refine g_iload_n (Y := YX10_leave) (pc := 37) 1 dX10_leave_37 rfl ?_
        obtain ⟨g7, hF⟩ := gd_some hF
        refine s_iald (Y := YX10_leave) (pc := 38) dX10_leave_38 k_8 n_8 g7 ?_
        refine g_nm (fun v8 e => ?_)
        replace hF := vl_to e hF; clear e
        refine g_istore_n (Y := YX10_leave) (pc := 39) (L' := [(3, .int v8), (0, .ref 0), (1, .int x1), (2, .int x2)]) dX10_leave_39 (Nat.le_of_ble_eq_true rfl) rfl ?_
        refine g_aload_n (Y := YX10_leave) (pc := 40) 1 dX10_leave_40 rfl ?_
        refine u_getR (Y := YX10_leave) (pc := 41) (j := 3) dX10_leave_41 fl_X10_19 k_0 rf_0_1 ?_
        refine u_getR (Y := YX10_leave) (pc := 44) (j := 8) dX10_leave_44 fl_X10_182 k_3 rf_3_7 ?_
        refine g_iload_n (Y := YX10_leave) (pc := 47) 2 dX10_leave_47 rfl ?_
        refine g_iload_n (Y := YX10_leave) (pc := 48) 3 dX10_leave_48 rfl ?_
        obtain ⟨g9, hF⟩ := gd_some hF
        refine s_iast (Y := YX10_leave) (pc := 49) dX10_leave_49 k_8 n_8 g9 ?_
        refine g_nmM (fun M10 e => ?_)
        replace hF := ml_to e hF; clear e
        refine g_aload_n (Y := YX10_leave) (pc := 50) 1 dX10_leave_50 rfl ?_
        refine u_getR (Y := YX10_leave) (pc := 51) (j := 3) dX10_leave_51 fl_X10_19 k_0 rf_0_1 ?_
        obtain ⟨r11, M12, e13, hF⟩ := bd_some hF
        refine s_callVv (Y := YX10_leave) (pc := 54) (as := []) (st := []) (r_X1_reckon  e13) miX1_reckon lk_X10_132 dX10_leave_54 k_3 rfl (Nat.le_of_ble_eq_true rfl) (Nat.le_of_ble_eq_true rfl) rfl ?_
        clear e13
        refine g_iload_n (Y := YX10_leave) (pc := 57) 0 dX10_leave_57 rfl ?_
        exact s_iret (Y := YX10_leave) (pc := 58) dX10_leave_58 rfl hF
      · replace hF := if_f c6 hF
        refine g_loc [] rfl ?_
        exact w_X10_leave_28  _ hF
def f_X10_leave (x1 : Int32) (x2 : Int32) (M : Mem) : Option (Int32 × Mem) := f_X10_leave_0 x1 x2 M
theorem r_X10_leave {x1 x2 R : Int32} {M M' : Mem}  (hF : f_X10_leave x1 x2 M = some (R, M')) : RunS l D cy ad YX10_leave 508 [.ref 0, .int x1, .int x2] X M (some (.int R)) M' := Run.of 2 (miX10_leave).1 (Nat.le_of_ble_eq_true rfl) (w_X10_leave_0  _ _ _ hF)
def f_X10_entryOf_20  (x2 : Int32) (M : Mem) : Option (Int32 × Mem) :=
  vl ((if x2 < (9 : Int32) then x2 else (9 : Int32))) fun v3 =>
  vl ((if (0 : Int32) < v3 then v3 else (0 : Int32))) fun v4 =>
  some (v4, M)
set_option maxRecDepth 100000 in
theorem w_X10_entryOf_20 {R : Int32} {M' : Mem}  (x2 : Int32) (M : Mem) (hF : f_X10_entryOf_20 x2 M = some (R, M')) : RunF l D cy ad none YX10_entryOf 1 0 0 (some (.int R)) (lay X M') 0 0 20 [(2, .int x2)] [] (lay X M) := by
  unfold f_X10_entryOf_20 at hF
  refine g_iconst (Y := YX10_entryOf) (pc := 20) dX10_entryOf_20 kI_0 ?_
  refine g_bipush (Y := YX10_entryOf) (pc := 21) dX10_entryOf_21 kB_9 ?_
  refine g_iload_n (Y := YX10_entryOf) (pc := 23) 0 dX10_entryOf_23 rfl ?_
  refine s_min (Y := YX10_entryOf) (pc := 24) dX10_entryOf_24 lk_X10_412 w_min (Nat.le_of_ble_eq_true rfl) (Nat.le_of_ble_eq_true rfl) ?_
  refine g_nm (fun v3 e => ?_)
  replace hF := vl_to e hF; clear e
  refine s_max (Y := YX10_entryOf) (pc := 27) dX10_entryOf_27 lk_X10_357 w_max (Nat.le_of_ble_eq_true rfl) (Nat.le_of_ble_eq_true rfl) ?_
  refine g_nm (fun v4 e => ?_)
  replace hF := vl_to e hF; clear e
  exact s_iret (Y := YX10_entryOf) (pc := 30) dX10_entryOf_30 rfl hF
def f_X10_entryOf_0  (x0 : Int32) (x1 : Int32) (M : Mem) : Option (Int32 × Mem) :=
  if x0 = 0 then
    vl (x1.toInt8.toInt32) fun v6 =>
    f_X10_entryOf_20 v6 M
  else
    if x0 = 1 then
      vl (x1.toInt16.toInt32) fun v5 =>
      f_X10_entryOf_20 v5 M
    else
      f_X10_entryOf_20 x1 M
set_option maxRecDepth 100000 in
theorem w_X10_entryOf_0 {R : Int32} {M' : Mem}  (x0 x1 : Int32) (M : Mem) (hF : f_X10_entryOf_0 x0 x1 M = some (R, M')) : RunF l D cy ad none YX10_entryOf 1 0 0 (some (.int R)) (lay X M') 0 0 0 [(0, .int x0), (1, .int x1)] [] (lay X M) := by
  unfold f_X10_entryOf_0 at hF
  refine g_iload_n (Y := YX10_entryOf) (pc := 0) 1 dX10_entryOf_0 rfl ?_
  refine g_istore_n (Y := YX10_entryOf) (pc := 1) (L' := [(2, .int x1), (0, .int x0), (1, .int x1)]) dX10_entryOf_1 (Nat.le_of_ble_eq_true rfl) rfl ?_
  refine g_iload_n (Y := YX10_entryOf) (pc := 2) 1 dX10_entryOf_2 rfl ?_
  refine g_if_ne (Y := YX10_entryOf) (pc := 3) (tgt := 12) dX10_entryOf_3 rfl (fun c1 => ?_) (fun c1 => ?_)
  · replace hF := if_f c1 hF
    refine g_iload_n (Y := YX10_entryOf) (pc := 12) 1 dX10_entryOf_12 rfl ?_
    refine g_iconst (Y := YX10_entryOf) (pc := 13) dX10_entryOf_13 kI_1 ?_
    refine g_icmp_ne (Y := YX10_entryOf) (pc := 14) (tgt := 20) dX10_entryOf_14 rfl (fun c2 => ?_) (fun c2 => ?_)
    · replace hF := if_f c2 hF
      refine g_loc [0] rfl ?_
      exact w_X10_entryOf_20  _ _ hF
    · replace hF := if_t c2 hF
      refine g_iload_n (Y := YX10_entryOf) (pc := 17) 2 dX10_entryOf_17 rfl ?_
      refine g_i2s (Y := YX10_entryOf) (pc := 18) dX10_entryOf_18 ?_
      refine g_nm (fun v5 e => ?_)
      replace hF := vl_to e hF; clear e
      refine g_istore_n (Y := YX10_entryOf) (pc := 19) (L' := [(2, .int v5), (0, .int x0), (1, .int x1)]) dX10_entryOf_19 (Nat.le_of_ble_eq_true rfl) rfl ?_
      refine g_loc [0] rfl ?_
      exact w_X10_entryOf_20  _ _ hF
  · replace hF := if_t c1 hF
    refine g_iload_n (Y := YX10_entryOf) (pc := 6) 2 dX10_entryOf_6 rfl ?_
    refine g_i2b (Y := YX10_entryOf) (pc := 7) dX10_entryOf_7 ?_
    refine g_nm (fun v6 e => ?_)
    replace hF := vl_to e hF; clear e
    refine g_istore_n (Y := YX10_entryOf) (pc := 8) (L' := [(2, .int v6), (0, .int x0), (1, .int x1)]) dX10_entryOf_8 (Nat.le_of_ble_eq_true rfl) rfl ?_
    refine g_goto (Y := YX10_entryOf) (pc := 9) (tgt := 20) dX10_entryOf_9 rfl ?_
    refine g_loc [0] rfl ?_
    exact w_X10_entryOf_20  _ _ hF
def f_X10_entryOf (x0 : Int32) (x1 : Int32) (M : Mem) : Option (Int32 × Mem) := f_X10_entryOf_0 x0 x1 M
theorem r_X10_entryOf {x0 x1 R : Int32} {M M' : Mem}  (hF : f_X10_entryOf x0 x1 M = some (R, M')) : RunS l D cy ad YX10_entryOf 1 [.int x0, .int x1] X M (some (.int R)) M' := Run.of 2 (msX10_entryOf).1 (Nat.le_of_ble_eq_true rfl) (w_X10_entryOf_0  _ _ _ hF)
def f_X10_sheet_26  (M : Mem) : Option (Int32 × Mem) :=
  some ((-1), M)
set_option maxRecDepth 100000 in
theorem w_X10_sheet_26 {R : Int32} {M' : Mem}  (M : Mem) (hF : f_X10_sheet_26  M = some (R, M')) : RunF l D cy ad none YX10_sheet 508 0 0 (some (.int R)) (lay X M') 0 0 26 [] [] (lay X M) := by
  unfold f_X10_sheet_26 at hF
  refine g_iconst (Y := YX10_sheet) (pc := 26) dX10_sheet_26 kI_m1 ?_
  exact s_iret (Y := YX10_sheet) (pc := 27) dX10_sheet_27 rfl hF
def f_X10_sheet_141  (t0 : Int32) (M : Mem) : Option (Int32 × Mem) :=
  some (t0, M)
set_option maxRecDepth 100000 in
theorem w_X10_sheet_141 {R : Int32} {M' : Mem}  (t0 : Int32) (M : Mem) (hF : f_X10_sheet_141 t0 M = some (R, M')) : RunF l D cy ad none YX10_sheet 508 0 0 (some (.int R)) (lay X M') 0 0 141 [] [.int t0] (lay X M) := by
  unfold f_X10_sheet_141 at hF
  exact s_iret (Y := YX10_sheet) (pc := 141) dX10_sheet_141 rfl hF
def f_X10_sheet_93 (K58 : Int32 → Int32 → Int32 → Int32 → Int32 → Int32 → Int32 → Mem → Option (Int32 × Mem)) (x1 : Int32) (x2 : Int32) (x4 : Int32) (x5 : Int32) (x6 : Int32) (x7 : Int32) (x8 : Int32) (t0 : Int32) (M : Mem) : Option (Int32 × Mem) :=
  gd (0 ≤ x8 ∧ x8.toNatClampNeg < 6) <|
  gd (0 ≤ x1 ∧ x1.toNatClampNeg < 6) <|
  ml (up M (10 + x8.toNatClampNeg) x1.toNatClampNeg t0) fun M18 =>
  vl ((x7 + t0)) fun v19 =>
  vl (x8 + 1) fun v20 =>
  K58 x1 x2 x4 x5 x6 v19 v20 M18
set_option maxRecDepth 100000 in
theorem w_X10_sheet_93 {R : Int32} {M' : Mem} {K58 : Int32 → Int32 → Int32 → Int32 → Int32 → Int32 → Int32 → Mem → Option (Int32 × Mem)} (hK58 : ∀ (x1 x2 x4 x5 x6 x7 x8 : Int32) (M : Mem), K58 x1 x2 x4 x5 x6 x7 x8 M = some (R, M') → RunF l D cy ad none YX10_sheet 508 0 0 (some (.int R)) (lay X M') 0 0 58 [(0, .ref 0), (1, .int x1), (2, .int x2), (4, .int x4), (5, .int x5), (6, .int x6), (7, .int x7), (8, .int x8)] [] (lay X M)) (x1 x2 x4 x5 x6 x7 x8 t0 : Int32) (M : Mem) (hF : f_X10_sheet_93 K58 x1 x2 x4 x5 x6 x7 x8 t0 M = some (R, M')) : RunF l D cy ad none YX10_sheet 508 0 0 (some (.int R)) (lay X M') 0 0 93 [(0, .ref 0), (1, .int x1), (2, .int x2), (4, .int x4), (5, .int x5), (6, .int x6), (7, .int x7), (8, .int x8)] [.int t0] (lay X M) := by
  unfold f_X10_sheet_93 at hF
  refine g_istore (Y := YX10_sheet) (pc := 93) (L' := [(9, .int t0), (0, .ref 0), (1, .int x1), (2, .int x2), (4, .int x4), (5, .int x5), (6, .int x6), (7, .int x7), (8, .int x8)]) dX10_sheet_93 (Nat.le_of_ble_eq_true rfl) rfl ?_
  refine g_aload_n (Y := YX10_sheet) (pc := 95) 1 dX10_sheet_95 rfl ?_
  refine u_getR (Y := YX10_sheet) (pc := 96) (j := 3) dX10_sheet_96 fl_X10_19 k_0 rf_0_1 ?_
  refine u_getR (Y := YX10_sheet) (pc := 99) (j := 9) dX10_sheet_99 fl_X10_208 k_3 rf_3_8 ?_
  refine g_iload (Y := YX10_sheet) (pc := 102) 8 dX10_sheet_102 rfl ?_
  obtain ⟨g16, hF⟩ := gd_some hF
  refine s_aaldA (Y := YX10_sheet) (pc := 104) dX10_sheet_104 k_9 n_9 g16 (told_r g16.2) ?_
  refine g_iload_n (Y := YX10_sheet) (pc := 105) 2 dX10_sheet_105 rfl ?_
  refine g_iload (Y := YX10_sheet) (pc := 106) 0 dX10_sheet_106 rfl ?_
  obtain ⟨g17, hF⟩ := gd_some hF
  refine s_iast (Y := YX10_sheet) (pc := 108) dX10_sheet_108 (told_all _ g16.2).2.1 (told_all _ g16.2).2.2 g17 ?_
  refine g_nmM (fun M18 e => ?_)
  replace hF := ml_to e hF; clear e
  refine g_iload (Y := YX10_sheet) (pc := 109) 7 dX10_sheet_109 rfl ?_
  refine g_iload (Y := YX10_sheet) (pc := 111) 0 dX10_sheet_111 rfl ?_
  refine g_iadd (Y := YX10_sheet) (pc := 113) dX10_sheet_113 ?_
  refine g_nm (fun v19 e => ?_)
  replace hF := vl_to e hF; clear e
  refine g_istore (Y := YX10_sheet) (pc := 114) (L' := [(7, .int v19), (9, .int t0), (0, .ref 0), (1, .int x1), (2, .int x2), (4, .int x4), (5, .int x5), (6, .int x6), (8, .int x8)]) dX10_sheet_114 (Nat.le_of_ble_eq_true rfl) rfl ?_
  refine s_iinc (Y := YX10_sheet) (pc := 116) (j := 8) (L' := fun y => [(8, .int y), (7, .int v19), (9, .int t0), (0, .ref 0), (1, .int x1), (2, .int x2), (4, .int x4), (5, .int x5), (6, .int x6)]) dX10_sheet_116 kI_1 rfl (Nat.le_of_ble_eq_true rfl) (fun _ => rfl) (fun v20 e => ?_)
  replace hF := vl_to e hF; clear e
  refine g_goto (Y := YX10_sheet) (pc := 119) (tgt := 58) dX10_sheet_119 rfl ?_
  refine g_loc [3, 4, 5, 6, 7, 8, 1, 0] rfl ?_
  exact hK58 _ _ _ _ _ _ _ _ hF
def f_X10_sheet_58  : Nat → Int32 → Int32 → Int32 → Int32 → Int32 → Int32 → Int32 → Mem → Option (Int32 × Mem)
  | 0, _, _, _, _, _, _, _, _ => none
  | n + 1, x1, x2, x4, x5, x6, x7, x8, M =>
    if x8 < (M 3 2) then
      if x8 < x6 then
        bd (f_X10_entryOf x2 (x4 + (x8 * x5)) M) fun r21 M22 =>
        f_X10_sheet_93 (f_X10_sheet_58 n) x1 x2 x4 x5 x6 x7 x8 r21 M22
      else
        f_X10_sheet_93 (f_X10_sheet_58 n) x1 x2 x4 x5 x6 x7 x8 0 M
    else
      bd (f_X1_reckon M) fun _ M12 =>
      if x2 = 3 then
        f_X10_sheet_141 (-3) M12
      else
        f_X10_sheet_141 x7 M12
set_option maxRecDepth 100000 in
theorem w_X10_sheet_58 {R : Int32} {M' : Mem}  : ∀ (n : Nat) (x1 x2 x4 x5 x6 x7 x8 : Int32) (M : Mem), f_X10_sheet_58 n x1 x2 x4 x5 x6 x7 x8 M = some (R, M') → RunF l D cy ad none YX10_sheet 508 0 0 (some (.int R)) (lay X M') 0 0 58 [(0, .ref 0), (1, .int x1), (2, .int x2), (4, .int x4), (5, .int x5), (6, .int x6), (7, .int x7), (8, .int x8)] [] (lay X M) := by
  intro n
  induction n with
  | zero => intro x1 x2 x4 x5 x6 x7 x8 M hF; exact absurd hF (by unfold f_X10_sheet_58; exact fun h => nomatch h)
  | succ n ih =>
    intro x1 x2 x4 x5 x6 x7 x8 M hF
    unfold f_X10_sheet_58 at hF
    refine g_iload (Y := YX10_sheet) (pc := 58) 7 dX10_sheet_58 rfl ?_
    refine g_aload_n (Y := YX10_sheet) (pc := 60) 0 dX10_sheet_60 rfl ?_
    refine u_getR (Y := YX10_sheet) (pc := 61) (j := 3) dX10_sheet_61 fl_X10_19 k_0 rf_0_1 ?_
    refine u_getI (Y := YX10_sheet) (pc := 64) dX10_sheet_64 fl_X10_129 k_3 ?_
    refine g_icmp_ge (Y := YX10_sheet) (pc := 67) (tgt := 122) dX10_sheet_67 rfl (fun c10 => ?_) (fun c10 => ?_)
    · replace hF := if_f c10 hF
      refine g_aload_n (Y := YX10_sheet) (pc := 122) 0 dX10_sheet_122 rfl ?_
      refine u_getR (Y := YX10_sheet) (pc := 123) (j := 3) dX10_sheet_123 fl_X10_19 k_0 rf_0_1 ?_
      obtain ⟨r11, M12, e13, hF⟩ := bd_some hF
      refine s_callVv (Y := YX10_sheet) (pc := 126) (as := []) (st := []) (r_X1_reckon  e13) miX1_reckon lk_X10_132 dX10_sheet_126 k_3 rfl (Nat.le_of_ble_eq_true rfl) (Nat.le_of_ble_eq_true rfl) rfl ?_
      clear e13
      refine g_iload_n (Y := YX10_sheet) (pc := 129) 2 dX10_sheet_129 rfl ?_
      refine g_iconst (Y := YX10_sheet) (pc := 130) dX10_sheet_130 kI_3 ?_
      refine g_icmp_ne (Y := YX10_sheet) (pc := 131) (tgt := 139) dX10_sheet_131 rfl (fun c14 => ?_) (fun c14 => ?_)
      · replace hF := if_f c14 hF
        refine g_iload (Y := YX10_sheet) (pc := 139) 6 dX10_sheet_139 rfl ?_
        refine g_loc [] rfl ?_
        exact w_X10_sheet_141  _ _ hF
      · replace hF := if_t c14 hF
        refine g_bipush (Y := YX10_sheet) (pc := 134) dX10_sheet_134 kB_m3 ?_
        refine g_goto (Y := YX10_sheet) (pc := 136) (tgt := 141) dX10_sheet_136 rfl ?_
        refine g_loc [] rfl ?_
        exact w_X10_sheet_141  _ _ hF
    · replace hF := if_t c10 hF
      refine g_iload (Y := YX10_sheet) (pc := 70) 7 dX10_sheet_70 rfl ?_
      refine g_iload (Y := YX10_sheet) (pc := 72) 5 dX10_sheet_72 rfl ?_
      refine g_icmp_ge (Y := YX10_sheet) (pc := 74) (tgt := 92) dX10_sheet_74 rfl (fun c15 => ?_) (fun c15 => ?_)
      · replace hF := if_f c15 hF
        refine g_iconst (Y := YX10_sheet) (pc := 92) dX10_sheet_92 kI_0 ?_
        exact w_X10_sheet_93 ih _ _ _ _ _ _ _ _ _ hF
      · replace hF := if_t c15 hF
        refine g_iload_n (Y := YX10_sheet) (pc := 77) 2 dX10_sheet_77 rfl ?_
        refine g_iload (Y := YX10_sheet) (pc := 78) 3 dX10_sheet_78 rfl ?_
        refine g_iload (Y := YX10_sheet) (pc := 80) 7 dX10_sheet_80 rfl ?_
        refine g_iload (Y := YX10_sheet) (pc := 82) 4 dX10_sheet_82 rfl ?_
        refine g_imul (Y := YX10_sheet) (pc := 84) dX10_sheet_84 ?_
        refine g_iadd (Y := YX10_sheet) (pc := 85) dX10_sheet_85 ?_
        obtain ⟨r21, M22, e23, hF⟩ := bd_some hF
        refine s_callSi (Y := YX10_sheet) (pc := 86) (as := [.int x2, .int (x4 + (x8 * x5))]) (st := []) (r_X10_entryOf  e23) msX10_entryOf lk_X10_205 dX10_sheet_86 rfl (Nat.le_of_ble_eq_true rfl) (Nat.le_of_ble_eq_true rfl) rfl ?_
        clear e23
        refine g_goto (Y := YX10_sheet) (pc := 89) (tgt := 93) dX10_sheet_89 rfl ?_
        exact w_X10_sheet_93 ih _ _ _ _ _ _ _ _ _ hF
def f_X10_sheet_50  (x1 : Int32) (x2 : Int32) (x4 : Int32) (x5 : Int32) (t0 : Int32) (M : Mem) : Option (Int32 × Mem) :=
  f_X10_sheet_58 FU x1 x2 x4 x5 t0 0 0 M
set_option maxRecDepth 100000 in
theorem w_X10_sheet_50 {R : Int32} {M' : Mem}  (x1 x2 x4 x5 t0 : Int32) (M : Mem) (hF : f_X10_sheet_50 x1 x2 x4 x5 t0 M = some (R, M')) : RunF l D cy ad none YX10_sheet 508 0 0 (some (.int R)) (lay X M') 0 0 50 [(0, .ref 0), (1, .int x1), (2, .int x2), (4, .int x4), (5, .int x5)] [.int t0] (lay X M) := by
  unfold f_X10_sheet_50 at hF
  refine g_istore (Y := YX10_sheet) (pc := 50) (L' := [(6, .int t0), (0, .ref 0), (1, .int x1), (2, .int x2), (4, .int x4), (5, .int x5)]) dX10_sheet_50 (Nat.le_of_ble_eq_true rfl) rfl ?_
  refine g_iconst (Y := YX10_sheet) (pc := 52) dX10_sheet_52 kI_0 ?_
  refine g_istore (Y := YX10_sheet) (pc := 53) (L' := [(7, .int 0), (6, .int t0), (0, .ref 0), (1, .int x1), (2, .int x2), (4, .int x4), (5, .int x5)]) dX10_sheet_53 (Nat.le_of_ble_eq_true rfl) rfl ?_
  refine g_iconst (Y := YX10_sheet) (pc := 55) dX10_sheet_55 kI_0 ?_
  refine g_istore (Y := YX10_sheet) (pc := 56) (L' := [(8, .int 0), (7, .int 0), (6, .int t0), (0, .ref 0), (1, .int x1), (2, .int x2), (4, .int x4), (5, .int x5)]) dX10_sheet_56 (Nat.le_of_ble_eq_true rfl) rfl ?_
  refine g_loc [3, 4, 5, 6, 7, 2, 1, 0] rfl ?_
  exact w_X10_sheet_58  _ _ _ _ _ _ _ _ _ hF
def f_X10_sheet_40  (x1 : Int32) (x2 : Int32) (x3 : Int32) (x4 : Int32) (x5 : Int32) (M : Mem) : Option (Int32 × Mem) :=
  if x2 = 3 then
    f_X10_sheet_50 x1 x2 x4 x5 0 M
  else
    f_X10_sheet_50 x1 x2 x4 x5 x3 M
set_option maxRecDepth 100000 in
theorem w_X10_sheet_40 {R : Int32} {M' : Mem}  (x1 x2 x3 x4 x5 : Int32) (M : Mem) (hF : f_X10_sheet_40 x1 x2 x3 x4 x5 M = some (R, M')) : RunF l D cy ad none YX10_sheet 508 0 0 (some (.int R)) (lay X M') 0 0 40 [(0, .ref 0), (1, .int x1), (2, .int x2), (3, .int x3), (4, .int x4), (5, .int x5)] [] (lay X M) := by
  unfold f_X10_sheet_40 at hF
  refine g_iload_n (Y := YX10_sheet) (pc := 40) 2 dX10_sheet_40 rfl ?_
  refine g_iconst (Y := YX10_sheet) (pc := 41) dX10_sheet_41 kI_3 ?_
  refine g_icmp_ne (Y := YX10_sheet) (pc := 42) (tgt := 49) dX10_sheet_42 rfl (fun c9 => ?_) (fun c9 => ?_)
  · replace hF := if_f c9 hF
    refine g_iload_n (Y := YX10_sheet) (pc := 49) 3 dX10_sheet_49 rfl ?_
    refine g_loc [0, 1, 2, 4, 5] rfl ?_
    exact w_X10_sheet_50  _ _ _ _ _ _ hF
  · replace hF := if_t c9 hF
    refine g_iconst (Y := YX10_sheet) (pc := 45) dX10_sheet_45 kI_0 ?_
    refine g_goto (Y := YX10_sheet) (pc := 46) (tgt := 50) dX10_sheet_46 rfl ?_
    refine g_loc [0, 1, 2, 4, 5] rfl ?_
    exact w_X10_sheet_50  _ _ _ _ _ _ hF
def f_X10_sheet_0  (x1 : Int32) (x2 : Int32) (x3 : Int32) (x4 : Int32) (x5 : Int32) (M : Mem) : Option (Int32 × Mem) :=
  if x2 < 0 then
    f_X10_sheet_26 M
  else
    if 3 < x2 then
      f_X10_sheet_26 M
    else
      if 6 < x3 then
        f_X10_sheet_26 M
      else
        bd (f_X1_hasRoom x1 M) fun r4 M5 =>
        if r4 = 0 then
          f_X10_sheet_26 M5
        else
          if x2 = 3 then
            f_X10_sheet_40 x1 x2 x3 x4 x5 M5
          else
            if x3 < 0 then
              some ((-2), M5)
            else
              f_X10_sheet_40 x1 x2 x3 x4 x5 M5
set_option maxRecDepth 100000 in
theorem w_X10_sheet_0 {R : Int32} {M' : Mem}  (x1 x2 x3 x4 x5 : Int32) (M : Mem) (hF : f_X10_sheet_0 x1 x2 x3 x4 x5 M = some (R, M')) : RunF l D cy ad none YX10_sheet 508 0 0 (some (.int R)) (lay X M') 0 0 0 [(0, .ref 0), (1, .int x1), (2, .int x2), (3, .int x3), (4, .int x4), (5, .int x5)] [] (lay X M) := by
  unfold f_X10_sheet_0 at hF
  refine g_iload_n (Y := YX10_sheet) (pc := 0) 2 dX10_sheet_0 rfl ?_
  refine g_if_lt (Y := YX10_sheet) (pc := 1) (tgt := 26) dX10_sheet_1 rfl (fun c1 => ?_) (fun c1 => ?_)
  · replace hF := if_t c1 hF
    refine g_loc [] rfl ?_
    exact w_X10_sheet_26  _ hF
  · replace hF := if_f c1 hF
    refine g_iload_n (Y := YX10_sheet) (pc := 4) 2 dX10_sheet_4 rfl ?_
    refine g_iconst (Y := YX10_sheet) (pc := 5) dX10_sheet_5 kI_3 ?_
    refine g_icmp_gt (Y := YX10_sheet) (pc := 6) (tgt := 26) dX10_sheet_6 rfl (fun c2 => ?_) (fun c2 => ?_)
    · replace hF := if_t c2 hF
      refine g_loc [] rfl ?_
      exact w_X10_sheet_26  _ hF
    · replace hF := if_f c2 hF
      refine g_iload_n (Y := YX10_sheet) (pc := 9) 3 dX10_sheet_9 rfl ?_
      refine g_bipush (Y := YX10_sheet) (pc := 10) dX10_sheet_10 kB_6 ?_
      refine g_icmp_gt (Y := YX10_sheet) (pc := 12) (tgt := 26) dX10_sheet_12 rfl (fun c3 => ?_) (fun c3 => ?_)
      · replace hF := if_t c3 hF
        refine g_loc [] rfl ?_
        exact w_X10_sheet_26  _ hF
      · replace hF := if_f c3 hF
        refine g_aload_n (Y := YX10_sheet) (pc := 15) 0 dX10_sheet_15 rfl ?_
        refine u_getR (Y := YX10_sheet) (pc := 16) (j := 3) dX10_sheet_16 fl_X10_19 k_0 rf_0_1 ?_
        refine g_iload_n (Y := YX10_sheet) (pc := 19) 1 dX10_sheet_19 rfl ?_
        obtain ⟨r4, M5, e6, hF⟩ := bd_some hF
        refine s_callVi (Y := YX10_sheet) (pc := 20) (as := [.int x1]) (st := []) (r_X1_hasRoom  e6) miX1_hasRoom lk_X10_185 dX10_sheet_20 k_3 rfl (Nat.le_of_ble_eq_true rfl) (Nat.le_of_ble_eq_true rfl) rfl ?_
        clear e6
        refine g_if_ne (Y := YX10_sheet) (pc := 23) (tgt := 28) dX10_sheet_23 rfl (fun c7 => ?_) (fun c7 => ?_)
        · replace hF := if_f c7 hF
          refine g_iload_n (Y := YX10_sheet) (pc := 28) 2 dX10_sheet_28 rfl ?_
          refine g_iconst (Y := YX10_sheet) (pc := 29) dX10_sheet_29 kI_3 ?_
          refine g_icmp_eq (Y := YX10_sheet) (pc := 30) (tgt := 40) dX10_sheet_30 rfl (fun c8 => ?_) (fun c8 => ?_)
          · replace hF := if_t c8 hF
            exact w_X10_sheet_40  _ _ _ _ _ _ hF
          · replace hF := if_f c8 hF
            refine g_iload_n (Y := YX10_sheet) (pc := 33) 3 dX10_sheet_33 rfl ?_
            refine g_if_ge (Y := YX10_sheet) (pc := 34) (tgt := 40) dX10_sheet_34 rfl (fun c24 => ?_) (fun c24 => ?_)
            · replace hF := if_f c24 hF
              exact w_X10_sheet_40  _ _ _ _ _ _ hF
            · replace hF := if_t c24 hF
              refine g_bipush (Y := YX10_sheet) (pc := 37) dX10_sheet_37 kB_m2 ?_
              exact s_iret (Y := YX10_sheet) (pc := 39) dX10_sheet_39 rfl hF
        · replace hF := if_t c7 hF
          refine g_loc [] rfl ?_
          exact w_X10_sheet_26  _ hF
def f_X10_sheet (x1 : Int32) (x2 : Int32) (x3 : Int32) (x4 : Int32) (x5 : Int32) (M : Mem) : Option (Int32 × Mem) := f_X10_sheet_0 x1 x2 x3 x4 x5 M
theorem r_X10_sheet {x1 x2 x3 x4 x5 R : Int32} {M M' : Mem}  (hF : f_X10_sheet x1 x2 x3 x4 x5 M = some (R, M')) : RunS l D cy ad YX10_sheet 508 [.ref 0, .int x1, .int x2, .int x3, .int x4, .int x5] X M (some (.int R)) M' := Run.of 5 (miX10_sheet).1 (Nat.le_of_ble_eq_true rfl) (w_X10_sheet_0  _ _ _ _ _ _ hF)
def f_X1_onWay_22  (t0 : Int32) (M : Mem) : Option (Int32 × Mem) :=
  some (t0, M)
set_option maxRecDepth 100000 in
theorem w_X1_onWay_22 {R : Int32} {M' : Mem}  (t0 : Int32) (M : Mem) (hF : f_X1_onWay_22 t0 M = some (R, M')) : RunF l D cy ad none YX1_onWay 0 0 0 (some (.int R)) (lay X M') 0 0 22 [] [.int t0] (lay X M) := by
  unfold f_X1_onWay_22 at hF
  exact s_iret (Y := YX1_onWay) (pc := 22) dX1_onWay_22 rfl hF
def f_X1_onWay_0  (x1 : Int32) (x2 : Int32) (M : Mem) : Option (Int32 × Mem) :=
  gd (0 ≤ x1 ∧ x1.toNatClampNeg < 6) <|
  if (M 7 x1.toNatClampNeg) = 1 then
    f_X1_onWay_22 (((M 3 0) - 1) - x2) M
  else
    f_X1_onWay_22 x2 M
set_option maxRecDepth 100000 in
theorem w_X1_onWay_0 {R : Int32} {M' : Mem}  (x1 x2 : Int32) (M : Mem) (hF : f_X1_onWay_0 x1 x2 M = some (R, M')) : RunF l D cy ad none YX1_onWay 0 0 0 (some (.int R)) (lay X M') 0 0 0 [(0, .ref 3), (1, .int x1), (2, .int x2)] [] (lay X M) := by
  unfold f_X1_onWay_0 at hF
  refine g_aload_n (Y := YX1_onWay) (pc := 0) 0 dX1_onWay_0 rfl ?_
  refine u_getR (Y := YX1_onWay) (pc := 1) (j := 7) dX1_onWay_1 fl_X1_31 k_3 rf_3_6 ?_
  refine g_iload_n (Y := YX1_onWay) (pc := 4) 1 dX1_onWay_4 rfl ?_
  obtain ⟨g1, hF⟩ := gd_some hF
  refine s_iald (Y := YX1_onWay) (pc := 5) dX1_onWay_5 k_7 n_7 g1 ?_
  refine g_iconst (Y := YX1_onWay) (pc := 6) dX1_onWay_6 kI_1 ?_
  refine g_icmp_ne (Y := YX1_onWay) (pc := 7) (tgt := 21) dX1_onWay_7 rfl (fun c2 => ?_) (fun c2 => ?_)
  · replace hF := if_f c2 hF
    refine g_iload_n (Y := YX1_onWay) (pc := 21) 2 dX1_onWay_21 rfl ?_
    refine g_loc [] rfl ?_
    exact w_X1_onWay_22  _ _ hF
  · replace hF := if_t c2 hF
    refine g_aload_n (Y := YX1_onWay) (pc := 10) 0 dX1_onWay_10 rfl ?_
    refine u_getI (Y := YX1_onWay) (pc := 11) dX1_onWay_11 fl_X1_9 k_3 ?_
    refine g_iconst (Y := YX1_onWay) (pc := 14) dX1_onWay_14 kI_1 ?_
    refine g_isub (Y := YX1_onWay) (pc := 15) dX1_onWay_15 ?_
    refine g_iload_n (Y := YX1_onWay) (pc := 16) 2 dX1_onWay_16 rfl ?_
    refine g_isub (Y := YX1_onWay) (pc := 17) dX1_onWay_17 ?_
    refine g_goto (Y := YX1_onWay) (pc := 18) (tgt := 22) dX1_onWay_18 rfl ?_
    refine g_loc [] rfl ?_
    exact w_X1_onWay_22  _ _ hF
def f_X1_onWay (x1 : Int32) (x2 : Int32) (M : Mem) : Option (Int32 × Mem) := f_X1_onWay_0 x1 x2 M
theorem r_X1_onWay {x1 x2 R : Int32} {M M' : Mem}  (hF : f_X1_onWay x1 x2 M = some (R, M')) : RunS l D cy ad YX1_onWay 0 [.ref 3, .int x1, .int x2] X M (some (.int R)) M' := Run.of 2 (miX1_onWay).1 (Nat.le_of_ble_eq_true rfl) (w_X1_onWay_0  _ _ _ hF)
def f_X1_barTo_52 (s1 : Nat) (t0 : Int32) (M : Mem) : Option (Int32 × Mem) :=
  some (t0, M)
set_option maxRecDepth 100000 in
theorem w_X1_barTo_52 {R : Int32} {M' : Mem} {s1 : Nat} (hs1 : isSt s1) (t0 : Int32) (M : Mem) (hF : f_X1_barTo_52 s1 t0 M = some (R, M')) : RunF l D cy ad none YX1_barTo 1 0 0 (some (.int R)) (lay X M') 0 0 52 [] [.int t0] (lay X M) := by
  unfold f_X1_barTo_52 at hF
  exact s_iret (Y := YX1_barTo) (pc := 52) dX1_barTo_52 rfl hF
def f_X1_barTo_0 (s1 : Nat) (x2 : Int32) (M : Mem) : Option (Int32 × Mem) :=
  gd (0 ≤ x2 ∧ x2.toNatClampNeg < 6) <|
  if (M (s1 + 1) x2.toNatClampNeg) = (-1) then
    gd (0 ≤ x2 ∧ x2.toNatClampNeg < 6) <|
    if (M s1 0) < (M 4 x2.toNatClampNeg) then
      some ((-3), M)
    else
      bd (f_X1_onWay x2 0 M) fun r5 M6 =>
      if (((M s1 1) >>> (r5 &&& 31)) &&& 1) = 1 then
        f_X1_barTo_52 s1 (-4) M6
      else
        f_X1_barTo_52 s1 0 M6
  else
    some ((-2), M)
set_option maxRecDepth 100000 in
theorem w_X1_barTo_0 {R : Int32} {M' : Mem} {s1 : Nat} (hs1 : isSt s1) (x2 : Int32) (M : Mem) (hF : f_X1_barTo_0 s1 x2 M = some (R, M')) : RunF l D cy ad none YX1_barTo 1 0 0 (some (.int R)) (lay X M') 0 0 0 [(0, .ref 3), (1, .ref s1), (2, .int x2)] [] (lay X M) := by
  unfold f_X1_barTo_0 at hF
  refine g_aload_n (Y := YX1_barTo) (pc := 0) 1 dX1_barTo_0 rfl ?_
  refine u_getR (Y := YX1_barTo) (pc := 1) (j := (s1 + 1)) dX1_barTo_1 fl_X1_76 (st_k hs1) (st_r4 hs1) ?_
  refine g_iload_n (Y := YX1_barTo) (pc := 4) 2 dX1_barTo_4 rfl ?_
  obtain ⟨g1, hF⟩ := gd_some hF
  refine s_iald (Y := YX1_barTo) (pc := 5) dX1_barTo_5 (st_k1 hs1) (st_n1 hs1) g1 ?_
  refine g_iconst (Y := YX1_barTo) (pc := 6) dX1_barTo_6 kI_m1 ?_
  refine g_icmp_eq (Y := YX1_barTo) (pc := 7) (tgt := 13) dX1_barTo_7 rfl (fun c2 => ?_) (fun c2 => ?_)
  · replace hF := if_t c2 hF
    refine g_aload_n (Y := YX1_barTo) (pc := 13) 1 dX1_barTo_13 rfl ?_
    refine u_getI (Y := YX1_barTo) (pc := 14) dX1_barTo_14 fl_X1_81 (st_k hs1) ?_
    refine g_aload_n (Y := YX1_barTo) (pc := 17) 0 dX1_barTo_17 rfl ?_
    refine u_getR (Y := YX1_barTo) (pc := 18) (j := 4) dX1_barTo_18 fl_X1_21 k_3 rf_3_3 ?_
    refine g_iload_n (Y := YX1_barTo) (pc := 21) 2 dX1_barTo_21 rfl ?_
    obtain ⟨g3, hF⟩ := gd_some hF
    refine s_iald (Y := YX1_barTo) (pc := 22) dX1_barTo_22 k_4 n_4 g3 ?_
    refine g_icmp_ge (Y := YX1_barTo) (pc := 23) (tgt := 29) dX1_barTo_23 rfl (fun c4 => ?_) (fun c4 => ?_)
    · replace hF := if_f c4 hF
      refine g_aload_n (Y := YX1_barTo) (pc := 29) 1 dX1_barTo_29 rfl ?_
      refine u_getI (Y := YX1_barTo) (pc := 30) dX1_barTo_30 fl_X1_84 (st_k hs1) ?_
      refine g_aload_n (Y := YX1_barTo) (pc := 33) 0 dX1_barTo_33 rfl ?_
      refine g_iload_n (Y := YX1_barTo) (pc := 34) 2 dX1_barTo_34 rfl ?_
      refine g_iconst (Y := YX1_barTo) (pc := 35) dX1_barTo_35 kI_0 ?_
      obtain ⟨r5, M6, e7, hF⟩ := bd_some hF
      refine s_callVi (Y := YX1_barTo) (pc := 36) (as := [.int x2, .int 0]) (st := [.int (M s1 1)]) (r_X1_onWay  e7) miX1_onWay lk_X1_73 dX1_barTo_36 k_3 rfl (Nat.le_of_ble_eq_true rfl) (Nat.le_of_ble_eq_true rfl) rfl ?_
      clear e7
      refine g_ishr (Y := YX1_barTo) (pc := 39) dX1_barTo_39 ?_
      refine g_iconst (Y := YX1_barTo) (pc := 40) dX1_barTo_40 kI_1 ?_
      refine g_iand (Y := YX1_barTo) (pc := 41) dX1_barTo_41 ?_
      refine g_iconst (Y := YX1_barTo) (pc := 42) dX1_barTo_42 kI_1 ?_
      refine g_icmp_ne (Y := YX1_barTo) (pc := 43) (tgt := 51) dX1_barTo_43 rfl (fun c8 => ?_) (fun c8 => ?_)
      · replace hF := if_f c8 hF
        refine g_iconst (Y := YX1_barTo) (pc := 51) dX1_barTo_51 kI_0 ?_
        refine g_loc [] rfl ?_
        exact w_X1_barTo_52 hs1 _ _ hF
      · replace hF := if_t c8 hF
        refine g_bipush (Y := YX1_barTo) (pc := 46) dX1_barTo_46 kB_m4 ?_
        refine g_goto (Y := YX1_barTo) (pc := 48) (tgt := 52) dX1_barTo_48 rfl ?_
        refine g_loc [] rfl ?_
        exact w_X1_barTo_52 hs1 _ _ hF
    · replace hF := if_t c4 hF
      refine g_bipush (Y := YX1_barTo) (pc := 26) dX1_barTo_26 kB_m3 ?_
      exact s_iret (Y := YX1_barTo) (pc := 28) dX1_barTo_28 rfl hF
  · replace hF := if_f c2 hF
    refine g_bipush (Y := YX1_barTo) (pc := 10) dX1_barTo_10 kB_m2 ?_
    exact s_iret (Y := YX1_barTo) (pc := 12) dX1_barTo_12 rfl hF
def f_X1_barTo (s1 : Nat) (x2 : Int32) (M : Mem) : Option (Int32 × Mem) := f_X1_barTo_0 s1 x2 M
theorem r_X1_barTo {s1 : Nat} {x2 R : Int32} {M M' : Mem} (hs1 : isSt s1) (hF : f_X1_barTo s1 x2 M = some (R, M')) : RunS l D cy ad YX1_barTo 1 [.ref 3, .ref s1, .int x2] X M (some (.int R)) M' := Run.of 2 (miX1_barTo).1 (Nat.le_of_ble_eq_true rfl) (w_X1_barTo_0 hs1 _ _ hF)
def f_X7_copy_0 (s : Nat) (s1 : Nat) (M : Mem) : Option (Int32 × Mem) :=
  ml (up M s 0 (M s1 0)) fun M1 =>
  ml (up M1 s 1 (M1 s1 1)) fun M2 =>
  gd (cpOk M2 (s1 + 1) 0 0 6 6 6) <|
  ml (cpM M2 (s1 + 1) (s + 1) 0 0 6) fun M4 =>
  gd (cpOk M4 (s1 + 2) 0 0 6 6 6) <|
  ml (cpM M4 (s1 + 2) (s + 2) 0 0 6) fun M6 =>
  gd (cpOk M6 (s1 + 3) 0 0 6 6 6) <|
  ml (cpM M6 (s1 + 3) (s + 3) 0 0 6) fun M8 =>
  gd (cpOk M8 (s1 + 4) 0 0 6 6 6) <|
  ml (cpM M8 (s1 + 4) (s + 4) 0 0 6) fun M10 =>
  some (0, M10)
set_option maxRecDepth 100000 in
theorem w_X7_copy_0 {R : Int32} {M' : Mem} {s : Nat} {s1 : Nat} (hs : isSt s) (hs1 : isSt s1) (M : Mem) (hF : f_X7_copy_0 s s1  M = some (R, M')) : RunF l D cy ad none YX7_copy 1 0 0 none (lay X M') 0 0 0 [(0, .ref s), (1, .ref s1)] [] (lay X M) := by
  unfold f_X7_copy_0 at hF
  refine g_aload_n (Y := YX7_copy) (pc := 0) 0 dX7_copy_0 rfl ?_
  refine g_aload_n (Y := YX7_copy) (pc := 1) 1 dX7_copy_1 rfl ?_
  refine u_getI (Y := YX7_copy) (pc := 2) dX7_copy_2 fl_X7_27 (st_k hs1) ?_
  refine u_putI (Y := YX7_copy) (pc := 5) dX7_copy_5 fl_X7_27  (st_k hs) ?_
  refine g_nmM (fun M1 e => ?_)
  replace hF := ml_to e hF; clear e
  refine g_aload_n (Y := YX7_copy) (pc := 8) 0 dX7_copy_8 rfl ?_
  refine g_aload_n (Y := YX7_copy) (pc := 9) 1 dX7_copy_9 rfl ?_
  refine u_getI (Y := YX7_copy) (pc := 10) dX7_copy_10 fl_X7_31 (st_k hs1) ?_
  refine u_putI (Y := YX7_copy) (pc := 13) dX7_copy_13 fl_X7_31  (st_k hs) ?_
  refine g_nmM (fun M2 e => ?_)
  replace hF := ml_to e hF; clear e
  refine g_aload_n (Y := YX7_copy) (pc := 16) 1 dX7_copy_16 rfl ?_
  refine u_getR (Y := YX7_copy) (pc := 17) (j := (s1 + 1)) dX7_copy_17 fl_X7_9 (st_k hs1) (st_r4 hs1) ?_
  refine g_iconst (Y := YX7_copy) (pc := 20) dX7_copy_20 kI_0 ?_
  refine g_aload_n (Y := YX7_copy) (pc := 21) 0 dX7_copy_21 rfl ?_
  refine u_getR (Y := YX7_copy) (pc := 22) (j := (s + 1)) dX7_copy_22 fl_X7_9 (st_k hs) (st_r4 hs) ?_
  refine g_iconst (Y := YX7_copy) (pc := 25) dX7_copy_25 kI_0 ?_
  refine g_bipush (Y := YX7_copy) (pc := 26) dX7_copy_26 kB_6 ?_
  obtain ⟨g3, hF⟩ := gd_some hF
  refine s_copy (Y := YX7_copy) (pc := 28) dX7_copy_28 lk_X7_40 w_copy (st_k1 hs1) (st_k1 hs) (st_n1 hs1) (st_n1 hs) g3 (Nat.le_of_ble_eq_true rfl) (Nat.le_of_ble_eq_true rfl) (Nat.le_of_ble_eq_true rfl) ?_
  refine g_nmM (fun M4 e => ?_)
  replace hF := ml_to e hF; clear e
  refine g_aload_n (Y := YX7_copy) (pc := 31) 1 dX7_copy_31 rfl ?_
  refine u_getR (Y := YX7_copy) (pc := 32) (j := (s1 + 2)) dX7_copy_32 fl_X7_15 (st_k hs1) (st_r5 hs1) ?_
  refine g_iconst (Y := YX7_copy) (pc := 35) dX7_copy_35 kI_0 ?_
  refine g_aload_n (Y := YX7_copy) (pc := 36) 0 dX7_copy_36 rfl ?_
  refine u_getR (Y := YX7_copy) (pc := 37) (j := (s + 2)) dX7_copy_37 fl_X7_15 (st_k hs) (st_r5 hs) ?_
  refine g_iconst (Y := YX7_copy) (pc := 40) dX7_copy_40 kI_0 ?_
  refine g_bipush (Y := YX7_copy) (pc := 41) dX7_copy_41 kB_6 ?_
  obtain ⟨g5, hF⟩ := gd_some hF
  refine s_copy (Y := YX7_copy) (pc := 43) dX7_copy_43 lk_X7_40 w_copy (st_k2 hs1) (st_k2 hs) (st_n2 hs1) (st_n2 hs) g5 (Nat.le_of_ble_eq_true rfl) (Nat.le_of_ble_eq_true rfl) (Nat.le_of_ble_eq_true rfl) ?_
  refine g_nmM (fun M6 e => ?_)
  replace hF := ml_to e hF; clear e
  refine g_aload_n (Y := YX7_copy) (pc := 46) 1 dX7_copy_46 rfl ?_
  refine u_getR (Y := YX7_copy) (pc := 47) (j := (s1 + 3)) dX7_copy_47 fl_X7_18 (st_k hs1) (st_r6 hs1) ?_
  refine g_iconst (Y := YX7_copy) (pc := 50) dX7_copy_50 kI_0 ?_
  refine g_aload_n (Y := YX7_copy) (pc := 51) 0 dX7_copy_51 rfl ?_
  refine u_getR (Y := YX7_copy) (pc := 52) (j := (s + 3)) dX7_copy_52 fl_X7_18 (st_k hs) (st_r6 hs) ?_
  refine g_iconst (Y := YX7_copy) (pc := 55) dX7_copy_55 kI_0 ?_
  refine g_bipush (Y := YX7_copy) (pc := 56) dX7_copy_56 kB_6 ?_
  obtain ⟨g7, hF⟩ := gd_some hF
  refine s_copy (Y := YX7_copy) (pc := 58) dX7_copy_58 lk_X7_40 w_copy (st_k3 hs1) (st_k3 hs) (st_n3 hs1) (st_n3 hs) g7 (Nat.le_of_ble_eq_true rfl) (Nat.le_of_ble_eq_true rfl) (Nat.le_of_ble_eq_true rfl) ?_
  refine g_nmM (fun M8 e => ?_)
  replace hF := ml_to e hF; clear e
  refine g_aload_n (Y := YX7_copy) (pc := 61) 1 dX7_copy_61 rfl ?_
  refine u_getR (Y := YX7_copy) (pc := 62) (j := (s1 + 4)) dX7_copy_62 fl_X7_21 (st_k hs1) (st_r7 hs1) ?_
  refine g_iconst (Y := YX7_copy) (pc := 65) dX7_copy_65 kI_0 ?_
  refine g_aload_n (Y := YX7_copy) (pc := 66) 0 dX7_copy_66 rfl ?_
  refine u_getR (Y := YX7_copy) (pc := 67) (j := (s + 4)) dX7_copy_67 fl_X7_21 (st_k hs) (st_r7 hs) ?_
  refine g_iconst (Y := YX7_copy) (pc := 70) dX7_copy_70 kI_0 ?_
  refine g_bipush (Y := YX7_copy) (pc := 71) dX7_copy_71 kB_6 ?_
  obtain ⟨g9, hF⟩ := gd_some hF
  refine s_copy (Y := YX7_copy) (pc := 73) dX7_copy_73 lk_X7_40 w_copy (st_k4 hs1) (st_k4 hs) (st_n4 hs1) (st_n4 hs) g9 (Nat.le_of_ble_eq_true rfl) (Nat.le_of_ble_eq_true rfl) (Nat.le_of_ble_eq_true rfl) ?_
  refine g_nmM (fun M10 e => ?_)
  replace hF := ml_to e hF; clear e
  exact s_vret (Y := YX7_copy) (pc := 76) dX7_copy_76 rfl hF
def f_X7_copy (s : Nat) (s1 : Nat) (M : Mem) : Option (Int32 × Mem) := f_X7_copy_0 s s1 M
theorem r_X7_copy {s : Nat} {s1 : Nat} {R : Int32} {M M' : Mem} (hs : isSt s) (hs1 : isSt s1) (hF : f_X7_copy s s1 M = some (R, M')) : RunS l D cy ad YX7_copy 1 [.ref s, .ref s1] X M none M' := Run.of 1 (miX7_copy).1 (Nat.le_of_ble_eq_true rfl) (w_X7_copy_0 hs hs1 _ hF)
def f_X6_add_22 (s1 : Nat) (t0 : Int32) (M : Mem) : Option (Int32 × Mem) :=
  ml (up M 46 1 t0) fun M2 =>
  gd (0 ≤ (M2 46 1) ∧ (M2 46 1).toNatClampNeg < 12) <|
  bd (f_X7_copy (48 + 5 * (M2 46 1).toNatClampNeg) s1 M2) fun _ M5 =>
  vl ((if ((M5 46 2) + 1) < (12 : Int32) then ((M5 46 2) + 1) else (12 : Int32))) fun v7 =>
  ml (up M5 46 2 v7) fun M8 =>
  some (0, M8)
set_option maxRecDepth 100000 in
theorem w_X6_add_22 {R : Int32} {M' : Mem} {s1 : Nat} (hs1 : isSt s1) (t0 : Int32) (M : Mem) (hF : f_X6_add_22 s1 t0 M = some (R, M')) : RunF l D cy ad none YX6_add 2 0 0 none (lay X M') 0 0 22 [(0, .ref 46), (1, .ref s1)] [.int t0, .ref 46] (lay X M) := by
  unfold f_X6_add_22 at hF
  refine u_putI (Y := YX6_add) (pc := 22) dX6_add_22 fl_X6_18  k_46 ?_
  refine g_nmM (fun M2 e => ?_)
  replace hF := ml_to e hF; clear e
  refine g_aload_n (Y := YX6_add) (pc := 25) 0 dX6_add_25 rfl ?_
  refine u_getR (Y := YX6_add) (pc := 26) (j := 47) dX6_add_26 fl_X6_11 k_46 rf_46_0 ?_
  refine g_aload_n (Y := YX6_add) (pc := 29) 0 dX6_add_29 rfl ?_
  refine u_getI (Y := YX6_add) (pc := 30) dX6_add_30 fl_X6_18 k_46 ?_
  obtain ⟨g3, hF⟩ := gd_some hF
  refine s_aaldS (Y := YX6_add) (pc := 33) dX6_add_33 k_47 n_47 g3 (past_r g3.2) ?_
  refine g_aload_n (Y := YX6_add) (pc := 34) 1 dX6_add_34 rfl ?_
  obtain ⟨r4, M5, e6, hF⟩ := bd_some hF
  refine s_callVv (Y := YX6_add) (pc := 35) (as := [.ref s1]) (st := []) (r_X7_copy (past_all _ g3.2).2 hs1 e6) miX7_copy lk_X6_25 dX6_add_35 (st_k (past_all _ g3.2).2) rfl (Nat.le_of_ble_eq_true rfl) (Nat.le_of_ble_eq_true rfl) rfl ?_
  clear e6
  refine g_aload_n (Y := YX6_add) (pc := 38) 0 dX6_add_38 rfl ?_
  refine g_bipush (Y := YX6_add) (pc := 39) dX6_add_39 kB_12 ?_
  refine g_aload_n (Y := YX6_add) (pc := 41) 0 dX6_add_41 rfl ?_
  refine u_getI (Y := YX6_add) (pc := 42) dX6_add_42 fl_X6_22 k_46 ?_
  refine g_iconst (Y := YX6_add) (pc := 45) dX6_add_45 kI_1 ?_
  refine g_iadd (Y := YX6_add) (pc := 46) dX6_add_46 ?_
  refine s_min (Y := YX6_add) (pc := 47) dX6_add_47 lk_X6_29 w_min (Nat.le_of_ble_eq_true rfl) (Nat.le_of_ble_eq_true rfl) ?_
  refine g_nm (fun v7 e => ?_)
  replace hF := vl_to e hF; clear e
  refine u_putI (Y := YX6_add) (pc := 50) dX6_add_50 fl_X6_22  k_46 ?_
  refine g_nmM (fun M8 e => ?_)
  replace hF := ml_to e hF; clear e
  exact s_vret (Y := YX6_add) (pc := 53) dX6_add_53 rfl hF
def f_X6_add_0 (s1 : Nat) (M : Mem) : Option (Int32 × Mem) :=
  if ((M 46 1) + 1) < 12 then
    f_X6_add_22 s1 ((M 46 1) + 1) M
  else
    f_X6_add_22 s1 0 M
set_option maxRecDepth 100000 in
theorem w_X6_add_0 {R : Int32} {M' : Mem} {s1 : Nat} (hs1 : isSt s1) (M : Mem) (hF : f_X6_add_0 s1  M = some (R, M')) : RunF l D cy ad none YX6_add 2 0 0 none (lay X M') 0 0 0 [(0, .ref 46), (1, .ref s1)] [] (lay X M) := by
  unfold f_X6_add_0 at hF
  refine g_aload_n (Y := YX6_add) (pc := 0) 0 dX6_add_0 rfl ?_
  refine g_aload_n (Y := YX6_add) (pc := 1) 0 dX6_add_1 rfl ?_
  refine u_getI (Y := YX6_add) (pc := 2) dX6_add_2 fl_X6_18 k_46 ?_
  refine g_iconst (Y := YX6_add) (pc := 5) dX6_add_5 kI_1 ?_
  refine g_iadd (Y := YX6_add) (pc := 6) dX6_add_6 ?_
  refine g_bipush (Y := YX6_add) (pc := 7) dX6_add_7 kB_12 ?_
  refine g_icmp_ge (Y := YX6_add) (pc := 9) (tgt := 21) dX6_add_9 rfl (fun c1 => ?_) (fun c1 => ?_)
  · replace hF := if_f c1 hF
    refine g_iconst (Y := YX6_add) (pc := 21) dX6_add_21 kI_0 ?_
    exact w_X6_add_22 hs1 _ _ hF
  · replace hF := if_t c1 hF
    refine g_aload_n (Y := YX6_add) (pc := 12) 0 dX6_add_12 rfl ?_
    refine u_getI (Y := YX6_add) (pc := 13) dX6_add_13 fl_X6_18 k_46 ?_
    refine g_iconst (Y := YX6_add) (pc := 16) dX6_add_16 kI_1 ?_
    refine g_iadd (Y := YX6_add) (pc := 17) dX6_add_17 ?_
    refine g_goto (Y := YX6_add) (pc := 18) (tgt := 22) dX6_add_18 rfl ?_
    exact w_X6_add_22 hs1 _ _ hF
def f_X6_add (s1 : Nat) (M : Mem) : Option (Int32 × Mem) := f_X6_add_0 s1 M
theorem r_X6_add {s1 : Nat} {R : Int32} {M M' : Mem} (hs1 : isSt s1) (hF : f_X6_add s1 M = some (R, M')) : RunS l D cy ad YX6_add 2 [.ref 46, .ref s1] X M none M' := Run.of 1 (miX6_add).1 (Nat.le_of_ble_eq_true rfl) (w_X6_add_0 hs1 _ hF)
def f_X1_move_49 (s1 : Nat) (x2 : Int32) (M : Mem) : Option (Int32 × Mem) :=
  gd (0 ≤ x2 ∧ x2.toNatClampNeg < 6) <|
  ml (up M (s1 + 1) x2.toNatClampNeg 9) fun M6 =>
  gd (0 ≤ x2 ∧ x2.toNatClampNeg < 6) <|
  ml (up M6 (s1 + 2) x2.toNatClampNeg 0) fun M8 =>
  gd (0 ≤ x2 ∧ x2.toNatClampNeg < 6) <|
  ml (up M8 (s1 + 4) x2.toNatClampNeg (M8 s1 0)) fun M10 =>
  some (0, M10)
set_option maxRecDepth 100000 in
theorem w_X1_move_49 {R : Int32} {M' : Mem} {s1 : Nat} (hs1 : isSt s1) (x2 : Int32) (M : Mem) (hF : f_X1_move_49 s1 x2 M = some (R, M')) : RunF l D cy ad none YX1_move 0 0 0 none (lay X M') 0 0 49 [(1, .ref s1), (2, .int x2)] [] (lay X M) := by
  unfold f_X1_move_49 at hF
  refine g_aload_n (Y := YX1_move) (pc := 49) 0 dX1_move_49 rfl ?_
  refine u_getR (Y := YX1_move) (pc := 50) (j := (s1 + 1)) dX1_move_50 fl_X1_76 (st_k hs1) (st_r4 hs1) ?_
  refine g_iload_n (Y := YX1_move) (pc := 53) 1 dX1_move_53 rfl ?_
  refine g_bipush (Y := YX1_move) (pc := 54) dX1_move_54 kB_9 ?_
  obtain ⟨g5, hF⟩ := gd_some hF
  refine s_iast (Y := YX1_move) (pc := 56) dX1_move_56 (st_k1 hs1) (st_n1 hs1) g5 ?_
  refine g_nmM (fun M6 e => ?_)
  replace hF := ml_to e hF; clear e
  refine g_aload_n (Y := YX1_move) (pc := 57) 0 dX1_move_57 rfl ?_
  refine u_getR (Y := YX1_move) (pc := 58) (j := (s1 + 2)) dX1_move_58 fl_X1_91 (st_k hs1) (st_r5 hs1) ?_
  refine g_iload_n (Y := YX1_move) (pc := 61) 1 dX1_move_61 rfl ?_
  refine g_iconst (Y := YX1_move) (pc := 62) dX1_move_62 kI_0 ?_
  obtain ⟨g7, hF⟩ := gd_some hF
  refine s_iast (Y := YX1_move) (pc := 63) dX1_move_63 (st_k2 hs1) (st_n2 hs1) g7 ?_
  refine g_nmM (fun M8 e => ?_)
  replace hF := ml_to e hF; clear e
  refine g_aload_n (Y := YX1_move) (pc := 64) 0 dX1_move_64 rfl ?_
  refine u_getR (Y := YX1_move) (pc := 65) (j := (s1 + 4)) dX1_move_65 fl_X1_94 (st_k hs1) (st_r7 hs1) ?_
  refine g_iload_n (Y := YX1_move) (pc := 68) 1 dX1_move_68 rfl ?_
  refine g_aload_n (Y := YX1_move) (pc := 69) 0 dX1_move_69 rfl ?_
  refine u_getI (Y := YX1_move) (pc := 70) dX1_move_70 fl_X1_81 (st_k hs1) ?_
  obtain ⟨g9, hF⟩ := gd_some hF
  refine s_iast (Y := YX1_move) (pc := 73) dX1_move_73 (st_k4 hs1) (st_n4 hs1) g9 ?_
  refine g_nmM (fun M10 e => ?_)
  replace hF := ml_to e hF; clear e
  exact s_vret (Y := YX1_move) (pc := 74) dX1_move_74 rfl hF
def f_X1_move_37 (s1 : Nat) (x2 : Int32) (x3 : Int32) (M : Mem) : Option (Int32 × Mem) :=
  if x3 < 0 then
    f_X1_move_49 s1 x2 M
  else
    if x3 < (M 3 0) then
      gd (0 ≤ x2 ∧ x2.toNatClampNeg < 6) <|
      ml (up M (s1 + 1) x2.toNatClampNeg x3) fun M13 =>
      gd (0 ≤ x2 ∧ x2.toNatClampNeg < 6) <|
      gd (0 ≤ x3 ∧ x3.toNatClampNeg < 6) <|
      vl ((M13 (17 + x2.toNatClampNeg) x3.toNatClampNeg)) fun v16 =>
      gd (0 ≤ x2 ∧ x2.toNatClampNeg < 6) <|
      ml (up M13 (s1 + 2) x2.toNatClampNeg v16) fun M18 =>
      vl (((1 <<< (x3 &&& 31)) &&& ((M18 3 1) ^^^ (-1)))) fun v19 =>
      ml (up M18 s1 1 ((M18 s1 1) ||| v19)) fun M20 =>
      some (0, M20)
    else
      f_X1_move_49 s1 x2 M
set_option maxRecDepth 100000 in
theorem w_X1_move_37 {R : Int32} {M' : Mem} {s1 : Nat} (hs1 : isSt s1) (x2 x3 : Int32) (M : Mem) (hF : f_X1_move_37 s1 x2 x3 M = some (R, M')) : RunF l D cy ad none YX1_move 0 0 0 none (lay X M') 0 0 37 [(0, .ref 3), (1, .ref s1), (2, .int x2), (3, .int x3)] [] (lay X M) := by
  unfold f_X1_move_37 at hF
  refine g_iload_n (Y := YX1_move) (pc := 37) 3 dX1_move_37 rfl ?_
  refine g_if_lt (Y := YX1_move) (pc := 38) (tgt := 49) dX1_move_38 rfl (fun c4 => ?_) (fun c4 => ?_)
  · replace hF := if_t c4 hF
    refine g_loc [1, 2] rfl ?_
    exact w_X1_move_49 hs1 _ _ hF
  · replace hF := if_f c4 hF
    refine g_iload_n (Y := YX1_move) (pc := 41) 3 dX1_move_41 rfl ?_
    refine g_aload_n (Y := YX1_move) (pc := 42) 0 dX1_move_42 rfl ?_
    refine u_getI (Y := YX1_move) (pc := 43) dX1_move_43 fl_X1_9 k_3 ?_
    refine g_icmp_lt (Y := YX1_move) (pc := 46) (tgt := 75) dX1_move_46 rfl (fun c11 => ?_) (fun c11 => ?_)
    · replace hF := if_t c11 hF
      refine g_aload_n (Y := YX1_move) (pc := 75) 1 dX1_move_75 rfl ?_
      refine u_getR (Y := YX1_move) (pc := 76) (j := (s1 + 1)) dX1_move_76 fl_X1_76 (st_k hs1) (st_r4 hs1) ?_
      refine g_iload_n (Y := YX1_move) (pc := 79) 2 dX1_move_79 rfl ?_
      refine g_iload_n (Y := YX1_move) (pc := 80) 3 dX1_move_80 rfl ?_
      obtain ⟨g12, hF⟩ := gd_some hF
      refine s_iast (Y := YX1_move) (pc := 81) dX1_move_81 (st_k1 hs1) (st_n1 hs1) g12 ?_
      refine g_nmM (fun M13 e => ?_)
      replace hF := ml_to e hF; clear e
      refine g_aload_n (Y := YX1_move) (pc := 82) 1 dX1_move_82 rfl ?_
      refine u_getR (Y := YX1_move) (pc := 83) (j := (s1 + 2)) dX1_move_83 fl_X1_91 (st_k hs1) (st_r5 hs1) ?_
      refine g_iload_n (Y := YX1_move) (pc := 86) 2 dX1_move_86 rfl ?_
      refine g_aload_n (Y := YX1_move) (pc := 87) 0 dX1_move_87 rfl ?_
      refine u_getR (Y := YX1_move) (pc := 88) (j := 16) dX1_move_88 fl_X1_42 k_3 rf_3_9 ?_
      refine g_iload_n (Y := YX1_move) (pc := 91) 2 dX1_move_91 rfl ?_
      obtain ⟨g14, hF⟩ := gd_some hF
      refine s_aaldA (Y := YX1_move) (pc := 92) dX1_move_92 k_16 n_16 g14 (stay_r g14.2) ?_
      refine g_iload_n (Y := YX1_move) (pc := 93) 3 dX1_move_93 rfl ?_
      obtain ⟨g15, hF⟩ := gd_some hF
      refine s_iald (Y := YX1_move) (pc := 94) dX1_move_94 (stay_all _ g14.2).2.1 (stay_all _ g14.2).2.2 g15 ?_
      refine g_nm (fun v16 e => ?_)
      replace hF := vl_to e hF; clear e
      obtain ⟨g17, hF⟩ := gd_some hF
      refine s_iast (Y := YX1_move) (pc := 95) dX1_move_95 (st_k2 hs1) (st_n2 hs1) g17 ?_
      refine g_nmM (fun M18 e => ?_)
      replace hF := ml_to e hF; clear e
      refine g_aload_n (Y := YX1_move) (pc := 96) 1 dX1_move_96 rfl ?_
      refine g_dup (Y := YX1_move) (pc := 97) dX1_move_97 rfl ?_
      refine u_getI (Y := YX1_move) (pc := 98) dX1_move_98 fl_X1_84 (st_k hs1) ?_
      refine g_iconst (Y := YX1_move) (pc := 101) dX1_move_101 kI_1 ?_
      refine g_iload_n (Y := YX1_move) (pc := 102) 3 dX1_move_102 rfl ?_
      refine g_ishl (Y := YX1_move) (pc := 103) dX1_move_103 ?_
      refine g_aload_n (Y := YX1_move) (pc := 104) 0 dX1_move_104 rfl ?_
      refine u_getI (Y := YX1_move) (pc := 105) dX1_move_105 fl_X1_15 k_3 ?_
      refine g_iconst (Y := YX1_move) (pc := 108) dX1_move_108 kI_m1 ?_
      refine g_ixor (Y := YX1_move) (pc := 109) dX1_move_109 ?_
      refine g_iand (Y := YX1_move) (pc := 110) dX1_move_110 ?_
      refine g_nm (fun v19 e => ?_)
      replace hF := vl_to e hF; clear e
      refine g_ior (Y := YX1_move) (pc := 111) dX1_move_111 ?_
      refine u_putI (Y := YX1_move) (pc := 112) dX1_move_112 fl_X1_84  (st_k hs1) ?_
      refine g_nmM (fun M20 e => ?_)
      replace hF := ml_to e hF; clear e
      exact s_vret (Y := YX1_move) (pc := 115) dX1_move_115 rfl hF
    · replace hF := if_f c11 hF
      refine g_loc [1, 2] rfl ?_
      exact w_X1_move_49 hs1 _ _ hF
def f_X1_move_0 (s1 : Nat) (x2 : Int32) (x3 : Int32) (M : Mem) : Option (Int32 × Mem) :=
  gd (0 ≤ x2 ∧ x2.toNatClampNeg < 6) <|
  vl ((M (s1 + 1) x2.toNatClampNeg)) fun v2 =>
  if v2 < 0 then
    f_X1_move_37 s1 x2 x3 M
  else
    if v2 < (M 3 0) then
      vl (((M s1 1) &&& ((1 <<< (v2 &&& 31)) ^^^ (-1)))) fun v22 =>
      ml (up M s1 1 v22) fun M23 =>
      f_X1_move_37 s1 x2 x3 M23
    else
      f_X1_move_37 s1 x2 x3 M
set_option maxRecDepth 100000 in
theorem w_X1_move_0 {R : Int32} {M' : Mem} {s1 : Nat} (hs1 : isSt s1) (x2 x3 : Int32) (M : Mem) (hF : f_X1_move_0 s1 x2 x3 M = some (R, M')) : RunF l D cy ad none YX1_move 0 0 0 none (lay X M') 0 0 0 [(0, .ref 3), (1, .ref s1), (2, .int x2), (3, .int x3)] [] (lay X M) := by
  unfold f_X1_move_0 at hF
  refine g_aload_n (Y := YX1_move) (pc := 0) 1 dX1_move_0 rfl ?_
  refine u_getR (Y := YX1_move) (pc := 1) (j := (s1 + 1)) dX1_move_1 fl_X1_76 (st_k hs1) (st_r4 hs1) ?_
  refine g_iload_n (Y := YX1_move) (pc := 4) 2 dX1_move_4 rfl ?_
  obtain ⟨g1, hF⟩ := gd_some hF
  refine s_iald (Y := YX1_move) (pc := 5) dX1_move_5 (st_k1 hs1) (st_n1 hs1) g1 ?_
  refine g_nm (fun v2 e => ?_)
  replace hF := vl_to e hF; clear e
  refine g_istore (Y := YX1_move) (pc := 6) (L' := [(4, .int v2), (0, .ref 3), (1, .ref s1), (2, .int x2), (3, .int x3)]) dX1_move_6 (Nat.le_of_ble_eq_true rfl) rfl ?_
  refine g_iload (Y := YX1_move) (pc := 8) 0 dX1_move_8 rfl ?_
  refine g_if_lt (Y := YX1_move) (pc := 10) (tgt := 37) dX1_move_10 rfl (fun c3 => ?_) (fun c3 => ?_)
  · replace hF := if_t c3 hF
    refine g_loc [1, 2, 3, 4] rfl ?_
    exact w_X1_move_37 hs1 _ _ _ hF
  · replace hF := if_f c3 hF
    refine g_iload (Y := YX1_move) (pc := 13) 0 dX1_move_13 rfl ?_
    refine g_aload_n (Y := YX1_move) (pc := 15) 1 dX1_move_15 rfl ?_
    refine u_getI (Y := YX1_move) (pc := 16) dX1_move_16 fl_X1_9 k_3 ?_
    refine g_icmp_ge (Y := YX1_move) (pc := 19) (tgt := 37) dX1_move_19 rfl (fun c21 => ?_) (fun c21 => ?_)
    · replace hF := if_f c21 hF
      refine g_loc [1, 2, 3, 4] rfl ?_
      exact w_X1_move_37 hs1 _ _ _ hF
    · replace hF := if_t c21 hF
      refine g_aload_n (Y := YX1_move) (pc := 22) 2 dX1_move_22 rfl ?_
      refine g_dup (Y := YX1_move) (pc := 23) dX1_move_23 rfl ?_
      refine u_getI (Y := YX1_move) (pc := 24) dX1_move_24 fl_X1_84 (st_k hs1) ?_
      refine g_iconst (Y := YX1_move) (pc := 27) dX1_move_27 kI_1 ?_
      refine g_iload (Y := YX1_move) (pc := 28) 0 dX1_move_28 rfl ?_
      refine g_ishl (Y := YX1_move) (pc := 30) dX1_move_30 ?_
      refine g_iconst (Y := YX1_move) (pc := 31) dX1_move_31 kI_m1 ?_
      refine g_ixor (Y := YX1_move) (pc := 32) dX1_move_32 ?_
      refine g_iand (Y := YX1_move) (pc := 33) dX1_move_33 ?_
      refine g_nm (fun v22 e => ?_)
      replace hF := vl_to e hF; clear e
      refine u_putI (Y := YX1_move) (pc := 34) dX1_move_34 fl_X1_84  (st_k hs1) ?_
      refine g_nmM (fun M23 e => ?_)
      replace hF := ml_to e hF; clear e
      refine g_loc [1, 2, 3, 4] rfl ?_
      exact w_X1_move_37 hs1 _ _ _ hF
def f_X1_move (s1 : Nat) (x2 : Int32) (x3 : Int32) (M : Mem) : Option (Int32 × Mem) := f_X1_move_0 s1 x2 x3 M
theorem r_X1_move {s1 : Nat} {x2 x3 R : Int32} {M M' : Mem} (hs1 : isSt s1) (hF : f_X1_move s1 x2 x3 M = some (R, M')) : RunS l D cy ad YX1_move 0 [.ref 3, .ref s1, .int x2, .int x3] X M none M' := Run.of 3 (miX1_move).1 (Nat.le_of_ble_eq_true rfl) (w_X1_move_0 hs1 _ _ _ hF)
def f_X1_setOff_0 (s1 : Nat) (x2 : Int32) (M : Mem) : Option (Int32 × Mem) :=
  bd (f_X1_onWay x2 0 M) fun r1 M2 =>
  bd (f_X1_move s1 x2 r1 M2) fun _ M5 =>
  some (0, M5)
set_option maxRecDepth 100000 in
theorem w_X1_setOff_0 {R : Int32} {M' : Mem} {s1 : Nat} (hs1 : isSt s1) (x2 : Int32) (M : Mem) (hF : f_X1_setOff_0 s1 x2 M = some (R, M')) : RunF l D cy ad none YX1_setOff 1 0 0 none (lay X M') 0 0 0 [(0, .ref 3), (1, .ref s1), (2, .int x2)] [] (lay X M) := by
  unfold f_X1_setOff_0 at hF
  refine g_aload_n (Y := YX1_setOff) (pc := 0) 0 dX1_setOff_0 rfl ?_
  refine g_aload_n (Y := YX1_setOff) (pc := 1) 1 dX1_setOff_1 rfl ?_
  refine g_iload_n (Y := YX1_setOff) (pc := 2) 2 dX1_setOff_2 rfl ?_
  refine g_aload_n (Y := YX1_setOff) (pc := 3) 0 dX1_setOff_3 rfl ?_
  refine g_iload_n (Y := YX1_setOff) (pc := 4) 2 dX1_setOff_4 rfl ?_
  refine g_iconst (Y := YX1_setOff) (pc := 5) dX1_setOff_5 kI_0 ?_
  obtain ⟨r1, M2, e3, hF⟩ := bd_some hF
  refine s_callVi (Y := YX1_setOff) (pc := 6) (as := [.int x2, .int 0]) (st := [.int x2, .ref s1, .ref 3]) (r_X1_onWay  e3) miX1_onWay lk_X1_73 dX1_setOff_6 k_3 rfl (Nat.le_of_ble_eq_true rfl) (Nat.le_of_ble_eq_true rfl) rfl ?_
  clear e3
  obtain ⟨r4, M5, e6, hF⟩ := bd_some hF
  refine s_callVv (Y := YX1_setOff) (pc := 9) (as := [.ref s1, .int x2, .int r1]) (st := []) (r_X1_move hs1 e6) miX1_move lk_X1_87 dX1_setOff_9 k_3 rfl (Nat.le_of_ble_eq_true rfl) (Nat.le_of_ble_eq_true rfl) rfl ?_
  clear e6
  exact s_vret (Y := YX1_setOff) (pc := 12) dX1_setOff_12 rfl hF
def f_X1_setOff (s1 : Nat) (x2 : Int32) (M : Mem) : Option (Int32 × Mem) := f_X1_setOff_0 s1 x2 M
theorem r_X1_setOff {s1 : Nat} {x2 R : Int32} {M M' : Mem} (hs1 : isSt s1) (hF : f_X1_setOff s1 x2 M = some (R, M')) : RunS l D cy ad YX1_setOff 1 [.ref 3, .ref s1, .int x2] X M none M' := Run.of 2 (miX1_setOff).1 (Nat.le_of_ble_eq_true rfl) (w_X1_setOff_0 hs1 _ _ hF)
def f_X7_bitsInside_37 (K4 : Int32 → Int32 → Mem → Option (Int32 × Mem)) (s : Nat) (x1 : Int32) (x2 : Int32) (M : Mem) : Option (Int32 × Mem) :=
  vl (x2 + 1) fun v4 =>
  K4 x1 v4 M
set_option maxRecDepth 100000 in
theorem w_X7_bitsInside_37 {R : Int32} {M' : Mem} {s : Nat} {K4 : Int32 → Int32 → Mem → Option (Int32 × Mem)} (hs : isSt s) (hK4 : ∀ (x1 x2 : Int32) (M : Mem), K4 x1 x2 M = some (R, M') → RunF l D cy ad none YX7_bitsInside 0 0 0 (some (.int R)) (lay X M') 0 0 4 [(0, .ref s), (1, .int x1), (2, .int x2)] [] (lay X M)) (x1 x2 : Int32) (M : Mem) (hF : f_X7_bitsInside_37 K4 s x1 x2 M = some (R, M')) : RunF l D cy ad none YX7_bitsInside 0 0 0 (some (.int R)) (lay X M') 0 0 37 [(0, .ref s), (1, .int x1), (2, .int x2)] [] (lay X M) := by
  unfold f_X7_bitsInside_37 at hF
  refine s_iinc (Y := YX7_bitsInside) (pc := 37) (j := 2) (L' := fun y => [(2, .int y), (0, .ref s), (1, .int x1)]) dX7_bitsInside_37 kI_1 rfl (Nat.le_of_ble_eq_true rfl) (fun _ => rfl) (fun v4 e => ?_)
  replace hF := vl_to e hF; clear e
  refine g_goto (Y := YX7_bitsInside) (pc := 40) (tgt := 4) dX7_bitsInside_40 rfl ?_
  refine g_loc [1, 2, 0] rfl ?_
  exact hK4 _ _ _ hF
def f_X7_bitsInside_4 (s : Nat) : Nat → Int32 → Int32 → Mem → Option (Int32 × Mem)
  | 0, _, _, _ => none
  | n + 1, x1, x2, M =>
    if x2 < 6 then
      gd (0 ≤ x2 ∧ x2.toNatClampNeg < 6) <|
      if (M (s + 1) x2.toNatClampNeg) = (-1) then
        f_X7_bitsInside_37 (f_X7_bitsInside_4 s n) s x1 x2 M
      else
        gd (0 ≤ x2 ∧ x2.toNatClampNeg < 6) <|
        if (M (s + 1) x2.toNatClampNeg) = 9 then
          f_X7_bitsInside_37 (f_X7_bitsInside_4 s n) s x1 x2 M
        else
          vl ((x1 ||| (1 <<< (x2 &&& 31)))) fun v7 =>
          f_X7_bitsInside_37 (f_X7_bitsInside_4 s n) s v7 x2 M
    else
      some (x1, M)
set_option maxRecDepth 100000 in
theorem w_X7_bitsInside_4 {R : Int32} {M' : Mem} {s : Nat} (hs : isSt s) : ∀ (n : Nat) (x1 x2 : Int32) (M : Mem), f_X7_bitsInside_4 s n x1 x2 M = some (R, M') → RunF l D cy ad none YX7_bitsInside 0 0 0 (some (.int R)) (lay X M') 0 0 4 [(0, .ref s), (1, .int x1), (2, .int x2)] [] (lay X M) := by
  intro n
  induction n with
  | zero => intro x1 x2 M hF; exact absurd hF (by unfold f_X7_bitsInside_4; exact fun h => nomatch h)
  | succ n ih =>
    intro x1 x2 M hF
    unfold f_X7_bitsInside_4 at hF
    refine g_iload_n (Y := YX7_bitsInside) (pc := 4) 2 dX7_bitsInside_4 rfl ?_
    refine g_bipush (Y := YX7_bitsInside) (pc := 5) dX7_bitsInside_5 kB_6 ?_
    refine g_icmp_ge (Y := YX7_bitsInside) (pc := 7) (tgt := 43) dX7_bitsInside_7 rfl (fun c1 => ?_) (fun c1 => ?_)
    · replace hF := if_f c1 hF
      refine g_iload_n (Y := YX7_bitsInside) (pc := 43) 1 dX7_bitsInside_43 rfl ?_
      exact s_iret (Y := YX7_bitsInside) (pc := 44) dX7_bitsInside_44 rfl hF
    · replace hF := if_t c1 hF
      refine g_aload_n (Y := YX7_bitsInside) (pc := 10) 0 dX7_bitsInside_10 rfl ?_
      refine u_getR (Y := YX7_bitsInside) (pc := 11) (j := (s + 1)) dX7_bitsInside_11 fl_X7_9 (st_k hs) (st_r4 hs) ?_
      refine g_iload_n (Y := YX7_bitsInside) (pc := 14) 2 dX7_bitsInside_14 rfl ?_
      obtain ⟨g2, hF⟩ := gd_some hF
      refine s_iald (Y := YX7_bitsInside) (pc := 15) dX7_bitsInside_15 (st_k1 hs) (st_n1 hs) g2 ?_
      refine g_iconst (Y := YX7_bitsInside) (pc := 16) dX7_bitsInside_16 kI_m1 ?_
      refine g_icmp_eq (Y := YX7_bitsInside) (pc := 17) (tgt := 37) dX7_bitsInside_17 rfl (fun c3 => ?_) (fun c3 => ?_)
      · replace hF := if_t c3 hF
        exact w_X7_bitsInside_37 hs ih _ _ _ hF
      · replace hF := if_f c3 hF
        refine g_aload_n (Y := YX7_bitsInside) (pc := 20) 0 dX7_bitsInside_20 rfl ?_
        refine u_getR (Y := YX7_bitsInside) (pc := 21) (j := (s + 1)) dX7_bitsInside_21 fl_X7_9 (st_k hs) (st_r4 hs) ?_
        refine g_iload_n (Y := YX7_bitsInside) (pc := 24) 2 dX7_bitsInside_24 rfl ?_
        obtain ⟨g5, hF⟩ := gd_some hF
        refine s_iald (Y := YX7_bitsInside) (pc := 25) dX7_bitsInside_25 (st_k1 hs) (st_n1 hs) g5 ?_
        refine g_bipush (Y := YX7_bitsInside) (pc := 26) dX7_bitsInside_26 kB_9 ?_
        refine g_icmp_eq (Y := YX7_bitsInside) (pc := 28) (tgt := 37) dX7_bitsInside_28 rfl (fun c6 => ?_) (fun c6 => ?_)
        · replace hF := if_t c6 hF
          exact w_X7_bitsInside_37 hs ih _ _ _ hF
        · replace hF := if_f c6 hF
          refine g_iload_n (Y := YX7_bitsInside) (pc := 31) 1 dX7_bitsInside_31 rfl ?_
          refine g_iconst (Y := YX7_bitsInside) (pc := 32) dX7_bitsInside_32 kI_1 ?_
          refine g_iload_n (Y := YX7_bitsInside) (pc := 33) 2 dX7_bitsInside_33 rfl ?_
          refine g_ishl (Y := YX7_bitsInside) (pc := 34) dX7_bitsInside_34 ?_
          refine g_ior (Y := YX7_bitsInside) (pc := 35) dX7_bitsInside_35 ?_
          refine g_nm (fun v7 e => ?_)
          replace hF := vl_to e hF; clear e
          refine g_istore_n (Y := YX7_bitsInside) (pc := 36) (L' := [(1, .int v7), (0, .ref s), (2, .int x2)]) dX7_bitsInside_36 (Nat.le_of_ble_eq_true rfl) rfl ?_
          refine g_loc [1, 0, 2] rfl ?_
          exact w_X7_bitsInside_37 hs ih _ _ _ hF
def f_X7_bitsInside_0 (s : Nat) (M : Mem) : Option (Int32 × Mem) :=
  f_X7_bitsInside_4 s FU 0 0 M
set_option maxRecDepth 100000 in
theorem w_X7_bitsInside_0 {R : Int32} {M' : Mem} {s : Nat} (hs : isSt s) (M : Mem) (hF : f_X7_bitsInside_0 s  M = some (R, M')) : RunF l D cy ad none YX7_bitsInside 0 0 0 (some (.int R)) (lay X M') 0 0 0 [(0, .ref s)] [] (lay X M) := by
  unfold f_X7_bitsInside_0 at hF
  refine g_iconst (Y := YX7_bitsInside) (pc := 0) dX7_bitsInside_0 kI_0 ?_
  refine g_istore_n (Y := YX7_bitsInside) (pc := 1) (L' := [(1, .int 0), (0, .ref s)]) dX7_bitsInside_1 (Nat.le_of_ble_eq_true rfl) rfl ?_
  refine g_iconst (Y := YX7_bitsInside) (pc := 2) dX7_bitsInside_2 kI_0 ?_
  refine g_istore_n (Y := YX7_bitsInside) (pc := 3) (L' := [(2, .int 0), (1, .int 0), (0, .ref s)]) dX7_bitsInside_3 (Nat.le_of_ble_eq_true rfl) rfl ?_
  refine g_loc [2, 1, 0] rfl ?_
  exact w_X7_bitsInside_4 hs _ _ _ _ hF
def f_X7_bitsInside (s : Nat) (M : Mem) : Option (Int32 × Mem) := f_X7_bitsInside_0 s M
theorem r_X7_bitsInside {s : Nat} {R : Int32} {M M' : Mem} (hs : isSt s) (hF : f_X7_bitsInside s M = some (R, M')) : RunS l D cy ad YX7_bitsInside 0 [.ref s] X M (some (.int R)) M' := Run.of 0 (miX7_bitsInside).1 (Nat.le_of_ble_eq_true rfl) (w_X7_bitsInside_0 hs _ hF)
def f_X10_off_0  (x1 : Int32) (M : Mem) : Option (Int32 × Mem) :=
  bd (f_X1_hasGroup x1 M) fun r1 M2 =>
  if r1 = 0 then
    some ((-1), M2)
  else
    bd (f_X1_barTo 26 x1 M2) fun r5 M6 =>
    if r5 = 0 then
      bd (f_X6_add 26 M6) fun _ M10 =>
      bd (f_X1_setOff 26 x1 M10) fun _ M13 =>
      bd (f_X7_bitsInside 26 M13) fun r15 M16 =>
      bd (f_J6_bitCount_0f7a4 r15 M16) fun r18 M19 =>
      some (r18, M19)
    else
      some (r5, M6)
set_option maxRecDepth 100000 in
theorem w_X10_off_0 {R : Int32} {M' : Mem}  (x1 : Int32) (M : Mem) (hF : f_X10_off_0 x1 M = some (R, M')) : RunF l D cy ad none YX10_off 3 0 0 (some (.int R)) (lay X M') 0 0 0 [(0, .ref 0), (1, .int x1)] [] (lay X M) := by
  unfold f_X10_off_0 at hF
  refine g_aload_n (Y := YX10_off) (pc := 0) 0 dX10_off_0 rfl ?_
  refine u_getR (Y := YX10_off) (pc := 1) (j := 3) dX10_off_1 fl_X10_19 k_0 rf_0_1 ?_
  refine g_iload_n (Y := YX10_off) (pc := 4) 1 dX10_off_4 rfl ?_
  obtain ⟨r1, M2, e3, hF⟩ := bd_some hF
  refine s_callVi (Y := YX10_off) (pc := 5) (as := [.int x1]) (st := []) (r_X1_hasGroup  e3) miX1_hasGroup lk_X10_152 dX10_off_5 k_3 rfl (Nat.le_of_ble_eq_true rfl) (Nat.le_of_ble_eq_true rfl) rfl ?_
  clear e3
  refine g_if_ne (Y := YX10_off) (pc := 8) (tgt := 13) dX10_off_8 rfl (fun c4 => ?_) (fun c4 => ?_)
  · replace hF := if_f c4 hF
    refine g_aload_n (Y := YX10_off) (pc := 13) 0 dX10_off_13 rfl ?_
    refine u_getR (Y := YX10_off) (pc := 14) (j := 3) dX10_off_14 fl_X10_19 k_0 rf_0_1 ?_
    refine g_aload_n (Y := YX10_off) (pc := 17) 0 dX10_off_17 rfl ?_
    refine u_getR (Y := YX10_off) (pc := 18) (j := 26) dX10_off_18 fl_X10_35 k_0 rf_0_3 ?_
    refine g_iload_n (Y := YX10_off) (pc := 21) 1 dX10_off_21 rfl ?_
    obtain ⟨r5, M6, e7, hF⟩ := bd_some hF
    refine s_callVi (Y := YX10_off) (pc := 22) (as := [.ref 26, .int x1]) (st := []) (r_X1_barTo isSt_26 e7) miX1_barTo lk_X10_211 dX10_off_22 k_3 rfl (Nat.le_of_ble_eq_true rfl) (Nat.le_of_ble_eq_true rfl) rfl ?_
    clear e7
    refine g_istore_n (Y := YX10_off) (pc := 25) (L' := [(2, .int r5), (0, .ref 0), (1, .int x1)]) dX10_off_25 (Nat.le_of_ble_eq_true rfl) rfl ?_
    refine g_iload_n (Y := YX10_off) (pc := 26) 0 dX10_off_26 rfl ?_
    refine g_if_eq (Y := YX10_off) (pc := 27) (tgt := 32) dX10_off_27 rfl (fun c8 => ?_) (fun c8 => ?_)
    · replace hF := if_t c8 hF
      refine g_aload_n (Y := YX10_off) (pc := 32) 1 dX10_off_32 rfl ?_
      refine u_getR (Y := YX10_off) (pc := 33) (j := 46) dX10_off_33 fl_X10_51 k_0 rf_0_7 ?_
      refine g_aload_n (Y := YX10_off) (pc := 36) 1 dX10_off_36 rfl ?_
      refine u_getR (Y := YX10_off) (pc := 37) (j := 26) dX10_off_37 fl_X10_35 k_0 rf_0_3 ?_
      obtain ⟨r9, M10, e11, hF⟩ := bd_some hF
      refine s_callVv (Y := YX10_off) (pc := 40) (as := [.ref 26]) (st := []) (r_X6_add isSt_26 e11) miX6_add lk_X10_215 dX10_off_40 k_46 rfl (Nat.le_of_ble_eq_true rfl) (Nat.le_of_ble_eq_true rfl) rfl ?_
      clear e11
      refine g_aload_n (Y := YX10_off) (pc := 43) 1 dX10_off_43 rfl ?_
      refine u_getR (Y := YX10_off) (pc := 44) (j := 3) dX10_off_44 fl_X10_19 k_0 rf_0_1 ?_
      refine g_aload_n (Y := YX10_off) (pc := 47) 1 dX10_off_47 rfl ?_
      refine u_getR (Y := YX10_off) (pc := 48) (j := 26) dX10_off_48 fl_X10_35 k_0 rf_0_3 ?_
      refine g_iload_n (Y := YX10_off) (pc := 51) 2 dX10_off_51 rfl ?_
      obtain ⟨r12, M13, e14, hF⟩ := bd_some hF
      refine s_callVv (Y := YX10_off) (pc := 52) (as := [.ref 26, .int x1]) (st := []) (r_X1_setOff isSt_26 e14) miX1_setOff lk_X10_218 dX10_off_52 k_3 rfl (Nat.le_of_ble_eq_true rfl) (Nat.le_of_ble_eq_true rfl) rfl ?_
      clear e14
      refine g_aload_n (Y := YX10_off) (pc := 55) 1 dX10_off_55 rfl ?_
      refine u_getR (Y := YX10_off) (pc := 56) (j := 26) dX10_off_56 fl_X10_35 k_0 rf_0_3 ?_
      obtain ⟨r15, M16, e17, hF⟩ := bd_some hF
      refine s_callVi (Y := YX10_off) (pc := 59) (as := []) (st := []) (r_X7_bitsInside isSt_26 e17) miX7_bitsInside lk_X10_222 dX10_off_59 k_26 rfl (Nat.le_of_ble_eq_true rfl) (Nat.le_of_ble_eq_true rfl) rfl ?_
      clear e17
      obtain ⟨r18, M19, e20, hF⟩ := bd_some hF
      refine s_callSi (Y := YX10_off) (pc := 62) (as := [.int r15]) (st := []) (r_J6_bitCount_0f7a4  e20) msJ6_bitCount_0f7a4 lk_X10_225 dX10_off_62 rfl (Nat.le_of_ble_eq_true rfl) (Nat.le_of_ble_eq_true rfl) rfl ?_
      clear e20
      exact s_iret (Y := YX10_off) (pc := 65) dX10_off_65 rfl hF
    · replace hF := if_f c8 hF
      refine g_iload_n (Y := YX10_off) (pc := 30) 0 dX10_off_30 rfl ?_
      exact s_iret (Y := YX10_off) (pc := 31) dX10_off_31 rfl hF
  · replace hF := if_t c4 hF
    refine g_iconst (Y := YX10_off) (pc := 11) dX10_off_11 kI_m1 ?_
    exact s_iret (Y := YX10_off) (pc := 12) dX10_off_12 rfl hF
def f_X10_off (x1 : Int32) (M : Mem) : Option (Int32 × Mem) := f_X10_off_0 x1 M
theorem r_X10_off {x1 R : Int32} {M M' : Mem}  (hF : f_X10_off x1 M = some (R, M')) : RunS l D cy ad YX10_off 3 [.ref 0, .int x1] X M (some (.int R)) M' := Run.of 1 (miX10_off).1 (Nat.le_of_ble_eq_true rfl) (w_X10_off_0  _ _ hF)
def f_X10_isInside_30  (t0 : Int32) (M : Mem) : Option (Int32 × Mem) :=
  gd (t0 = 0 ∨ t0 = 1) <|
  some (t0, M)
set_option maxRecDepth 100000 in
theorem w_X10_isInside_30 {R : Int32} {M' : Mem}  (t0 : Int32) (M : Mem) (hF : f_X10_isInside_30 t0 M = some (R, M')) : RunF l D cy ad none YX10_isInside 1 0 0 (some (.int R)) (lay X M') 0 0 30 [] [.int t0] (lay X M) := by
  unfold f_X10_isInside_30 at hF
  obtain ⟨g5, hF⟩ := gd_some hF
  exact s_zret (Y := YX10_isInside) (pc := 30) dX10_isInside_30 rfl g5 hF
def f_X10_isInside_29  (M : Mem) : Option (Int32 × Mem) :=
  f_X10_isInside_30 0 M
set_option maxRecDepth 100000 in
theorem w_X10_isInside_29 {R : Int32} {M' : Mem}  (M : Mem) (hF : f_X10_isInside_29  M = some (R, M')) : RunF l D cy ad none YX10_isInside 1 0 0 (some (.int R)) (lay X M') 0 0 29 [] [] (lay X M) := by
  unfold f_X10_isInside_29 at hF
  refine g_iconst (Y := YX10_isInside) (pc := 29) dX10_isInside_29 kI_0 ?_
  exact w_X10_isInside_30  _ _ hF
def f_X10_isInside_0  (x1 : Int32) (M : Mem) : Option (Int32 × Mem) :=
  bd (f_X1_hasGroup x1 M) fun r1 M2 =>
  if r1 = 0 then
    f_X10_isInside_29 M2
  else
    bd (f_X7_bitsInside 26 M2) fun r6 M7 =>
    bd (f_X10_has r6 x1 M7) fun r9 M10 =>
    if r9 = 0 then
      f_X10_isInside_29 M10
    else
      f_X10_isInside_30 1 M10
set_option maxRecDepth 100000 in
theorem w_X10_isInside_0 {R : Int32} {M' : Mem}  (x1 : Int32) (M : Mem) (hF : f_X10_isInside_0 x1 M = some (R, M')) : RunF l D cy ad none YX10_isInside 1 0 0 (some (.int R)) (lay X M') 0 0 0 [(0, .ref 0), (1, .int x1)] [] (lay X M) := by
  unfold f_X10_isInside_0 at hF
  refine g_aload_n (Y := YX10_isInside) (pc := 0) 0 dX10_isInside_0 rfl ?_
  refine u_getR (Y := YX10_isInside) (pc := 1) (j := 3) dX10_isInside_1 fl_X10_19 k_0 rf_0_1 ?_
  refine g_iload_n (Y := YX10_isInside) (pc := 4) 1 dX10_isInside_4 rfl ?_
  obtain ⟨r1, M2, e3, hF⟩ := bd_some hF
  refine s_callVi (Y := YX10_isInside) (pc := 5) (as := [.int x1]) (st := []) (r_X1_hasGroup  e3) miX1_hasGroup lk_X10_152 dX10_isInside_5 k_3 rfl (Nat.le_of_ble_eq_true rfl) (Nat.le_of_ble_eq_true rfl) rfl ?_
  clear e3
  refine g_if_eq (Y := YX10_isInside) (pc := 8) (tgt := 29) dX10_isInside_8 rfl (fun c4 => ?_) (fun c4 => ?_)
  · replace hF := if_t c4 hF
    refine g_loc [] rfl ?_
    exact w_X10_isInside_29  _ hF
  · replace hF := if_f c4 hF
    refine g_aload_n (Y := YX10_isInside) (pc := 11) 0 dX10_isInside_11 rfl ?_
    refine u_getR (Y := YX10_isInside) (pc := 12) (j := 26) dX10_isInside_12 fl_X10_35 k_0 rf_0_3 ?_
    obtain ⟨r6, M7, e8, hF⟩ := bd_some hF
    refine s_callVi (Y := YX10_isInside) (pc := 15) (as := []) (st := []) (r_X7_bitsInside isSt_26 e8) miX7_bitsInside lk_X10_222 dX10_isInside_15 k_26 rfl (Nat.le_of_ble_eq_true rfl) (Nat.le_of_ble_eq_true rfl) rfl ?_
    clear e8
    refine g_iload_n (Y := YX10_isInside) (pc := 18) 1 dX10_isInside_18 rfl ?_
    obtain ⟨r9, M10, e11, hF⟩ := bd_some hF
    refine s_callSi (Y := YX10_isInside) (pc := 19) (as := [.int r6, .int x1]) (st := []) (r_X10_has  e11) msX10_has lk_X10_362 dX10_isInside_19 rfl (Nat.le_of_ble_eq_true rfl) (Nat.le_of_ble_eq_true rfl) rfl ?_
    clear e11
    refine g_if_eq (Y := YX10_isInside) (pc := 22) (tgt := 29) dX10_isInside_22 rfl (fun c12 => ?_) (fun c12 => ?_)
    · replace hF := if_t c12 hF
      refine g_loc [] rfl ?_
      exact w_X10_isInside_29  _ hF
    · replace hF := if_f c12 hF
      refine g_iconst (Y := YX10_isInside) (pc := 25) dX10_isInside_25 kI_1 ?_
      refine g_goto (Y := YX10_isInside) (pc := 26) (tgt := 30) dX10_isInside_26 rfl ?_
      refine g_loc [] rfl ?_
      exact w_X10_isInside_30  _ _ hF
def f_X10_isInside (x1 : Int32) (M : Mem) : Option (Int32 × Mem) := f_X10_isInside_0 x1 M
theorem r_X10_isInside {x1 R : Int32} {M M' : Mem}  (hF : f_X10_isInside x1 M = some (R, M')) : RunS l D cy ad YX10_isInside 1 [.ref 0, .int x1] X M (some (.int R)) M' := Run.of 1 (miX10_isInside).1 (Nat.le_of_ble_eq_true rfl) (w_X10_isInside_0  _ _ hF)
def f_X7_runOver_29 (s : Nat) (M : Mem) : Option (Int32 × Mem) :=
  some (0, M)
set_option maxRecDepth 100000 in
theorem w_X7_runOver_29 {R : Int32} {M' : Mem} {s : Nat} (hs : isSt s) (M : Mem) (hF : f_X7_runOver_29 s  M = some (R, M')) : RunF l D cy ad none YX7_runOver 1 0 0 none (lay X M') 0 0 29 [] [] (lay X M) := by
  unfold f_X7_runOver_29 at hF
  exact s_vret (Y := YX7_runOver) (pc := 29) dX7_runOver_29 rfl hF
def f_X7_runOver_0 (s : Nat) (x1 : Int32) (x2 : Int32) (M : Mem) : Option (Int32 × Mem) :=
  if x1 < 0 then
    f_X7_runOver_29 s M
  else
    if x1 < 6 then
      gd (0 ≤ x1 ∧ x1.toNatClampNeg < 6) <|
      vl ((if ((M (s + 2) x1.toNatClampNeg) + x2) < (99 : Int32) then ((M (s + 2) x1.toNatClampNeg) + x2) else (99 : Int32))) fun v4 =>
      gd (0 ≤ x1 ∧ x1.toNatClampNeg < 6) <|
      ml (up M (s + 2) x1.toNatClampNeg v4) fun M6 =>
      f_X7_runOver_29 s M6
    else
      f_X7_runOver_29 s M
set_option maxRecDepth 100000 in
theorem w_X7_runOver_0 {R : Int32} {M' : Mem} {s : Nat} (hs : isSt s) (x1 x2 : Int32) (M : Mem) (hF : f_X7_runOver_0 s x1 x2 M = some (R, M')) : RunF l D cy ad none YX7_runOver 1 0 0 none (lay X M') 0 0 0 [(0, .ref s), (1, .int x1), (2, .int x2)] [] (lay X M) := by
  unfold f_X7_runOver_0 at hF
  refine g_iload_n (Y := YX7_runOver) (pc := 0) 1 dX7_runOver_0 rfl ?_
  refine g_if_lt (Y := YX7_runOver) (pc := 1) (tgt := 29) dX7_runOver_1 rfl (fun c1 => ?_) (fun c1 => ?_)
  · replace hF := if_t c1 hF
    refine g_loc [] rfl ?_
    exact w_X7_runOver_29 hs _ hF
  · replace hF := if_f c1 hF
    refine g_iload_n (Y := YX7_runOver) (pc := 4) 1 dX7_runOver_4 rfl ?_
    refine g_bipush (Y := YX7_runOver) (pc := 5) dX7_runOver_5 kB_6 ?_
    refine g_icmp_ge (Y := YX7_runOver) (pc := 7) (tgt := 29) dX7_runOver_7 rfl (fun c2 => ?_) (fun c2 => ?_)
    · replace hF := if_f c2 hF
      refine g_loc [] rfl ?_
      exact w_X7_runOver_29 hs _ hF
    · replace hF := if_t c2 hF
      refine g_aload_n (Y := YX7_runOver) (pc := 10) 0 dX7_runOver_10 rfl ?_
      refine u_getR (Y := YX7_runOver) (pc := 11) (j := (s + 2)) dX7_runOver_11 fl_X7_15 (st_k hs) (st_r5 hs) ?_
      refine g_iload_n (Y := YX7_runOver) (pc := 14) 1 dX7_runOver_14 rfl ?_
      refine g_bipush (Y := YX7_runOver) (pc := 15) dX7_runOver_15 kB_99 ?_
      refine g_aload_n (Y := YX7_runOver) (pc := 17) 0 dX7_runOver_17 rfl ?_
      refine u_getR (Y := YX7_runOver) (pc := 18) (j := (s + 2)) dX7_runOver_18 fl_X7_15 (st_k hs) (st_r5 hs) ?_
      refine g_iload_n (Y := YX7_runOver) (pc := 21) 1 dX7_runOver_21 rfl ?_
      obtain ⟨g3, hF⟩ := gd_some hF
      refine s_iald (Y := YX7_runOver) (pc := 22) dX7_runOver_22 (st_k2 hs) (st_n2 hs) g3 ?_
      refine g_iload_n (Y := YX7_runOver) (pc := 23) 2 dX7_runOver_23 rfl ?_
      refine g_iadd (Y := YX7_runOver) (pc := 24) dX7_runOver_24 ?_
      refine s_min (Y := YX7_runOver) (pc := 25) dX7_runOver_25 lk_X7_60 w_min (Nat.le_of_ble_eq_true rfl) (Nat.le_of_ble_eq_true rfl) ?_
      refine g_nm (fun v4 e => ?_)
      replace hF := vl_to e hF; clear e
      obtain ⟨g5, hF⟩ := gd_some hF
      refine s_iast (Y := YX7_runOver) (pc := 28) dX7_runOver_28 (st_k2 hs) (st_n2 hs) g5 ?_
      refine g_nmM (fun M6 e => ?_)
      replace hF := ml_to e hF; clear e
      refine g_loc [] rfl ?_
      exact w_X7_runOver_29 hs _ hF
def f_X7_runOver (s : Nat) (x1 : Int32) (x2 : Int32) (M : Mem) : Option (Int32 × Mem) := f_X7_runOver_0 s x1 x2 M
theorem r_X7_runOver {s : Nat} {x1 x2 R : Int32} {M M' : Mem} (hs : isSt s) (hF : f_X7_runOver s x1 x2 M = some (R, M')) : RunS l D cy ad YX7_runOver 1 [.ref s, .int x1, .int x2] X M none M' := Run.of 2 (miX7_runOver).1 (Nat.le_of_ble_eq_true rfl) (w_X7_runOver_0 hs _ _ _ hF)
def f_X10_over_19  (M : Mem) : Option (Int32 × Mem) :=
  some ((-1), M)
set_option maxRecDepth 100000 in
theorem w_X10_over_19 {R : Int32} {M' : Mem}  (M : Mem) (hF : f_X10_over_19  M = some (R, M')) : RunF l D cy ad none YX10_over 3 0 0 (some (.int R)) (lay X M') 0 0 19 [] [] (lay X M) := by
  unfold f_X10_over_19 at hF
  refine g_iconst (Y := YX10_over) (pc := 19) dX10_over_19 kI_m1 ?_
  exact s_iret (Y := YX10_over) (pc := 20) dX10_over_20 rfl hF
def f_X10_over_0  (x1 : Int32) (x2 : Int32) (M : Mem) : Option (Int32 × Mem) :=
  if x2 < 1 then
    f_X10_over_19 M
  else
    if 30 < x2 then
      f_X10_over_19 M
    else
      bd (f_X10_isInside x1 M) fun r3 M4 =>
      if r3 = 0 then
        f_X10_over_19 M4
      else
        bd (f_X6_add 26 M4) fun _ M8 =>
        bd (f_X7_runOver 26 x1 x2 M8) fun _ M11 =>
        gd (0 ≤ x1 ∧ x1.toNatClampNeg < 6) <|
        some ((M11 28 x1.toNatClampNeg), M11)
set_option maxRecDepth 100000 in
theorem w_X10_over_0 {R : Int32} {M' : Mem}  (x1 x2 : Int32) (M : Mem) (hF : f_X10_over_0 x1 x2 M = some (R, M')) : RunF l D cy ad none YX10_over 3 0 0 (some (.int R)) (lay X M') 0 0 0 [(0, .ref 0), (1, .int x1), (2, .int x2)] [] (lay X M) := by
  unfold f_X10_over_0 at hF
  refine g_iload_n (Y := YX10_over) (pc := 0) 2 dX10_over_0 rfl ?_
  refine g_iconst (Y := YX10_over) (pc := 1) dX10_over_1 kI_1 ?_
  refine g_icmp_lt (Y := YX10_over) (pc := 2) (tgt := 19) dX10_over_2 rfl (fun c1 => ?_) (fun c1 => ?_)
  · replace hF := if_t c1 hF
    refine g_loc [] rfl ?_
    exact w_X10_over_19  _ hF
  · replace hF := if_f c1 hF
    refine g_iload_n (Y := YX10_over) (pc := 5) 2 dX10_over_5 rfl ?_
    refine g_bipush (Y := YX10_over) (pc := 6) dX10_over_6 kB_30 ?_
    refine g_icmp_gt (Y := YX10_over) (pc := 8) (tgt := 19) dX10_over_8 rfl (fun c2 => ?_) (fun c2 => ?_)
    · replace hF := if_t c2 hF
      refine g_loc [] rfl ?_
      exact w_X10_over_19  _ hF
    · replace hF := if_f c2 hF
      refine g_aload_n (Y := YX10_over) (pc := 11) 0 dX10_over_11 rfl ?_
      refine g_iload_n (Y := YX10_over) (pc := 12) 1 dX10_over_12 rfl ?_
      obtain ⟨r3, M4, e5, hF⟩ := bd_some hF
      refine s_callVi (Y := YX10_over) (pc := 13) (as := [.int x1]) (st := []) (r_X10_isInside  e5) miX10_isInside lk_X10_230 dX10_over_13 k_0 rfl (Nat.le_of_ble_eq_true rfl) (Nat.le_of_ble_eq_true rfl) rfl ?_
      clear e5
      refine g_if_ne (Y := YX10_over) (pc := 16) (tgt := 21) dX10_over_16 rfl (fun c6 => ?_) (fun c6 => ?_)
      · replace hF := if_f c6 hF
        refine g_aload_n (Y := YX10_over) (pc := 21) 0 dX10_over_21 rfl ?_
        refine u_getR (Y := YX10_over) (pc := 22) (j := 46) dX10_over_22 fl_X10_51 k_0 rf_0_7 ?_
        refine g_aload_n (Y := YX10_over) (pc := 25) 0 dX10_over_25 rfl ?_
        refine u_getR (Y := YX10_over) (pc := 26) (j := 26) dX10_over_26 fl_X10_35 k_0 rf_0_3 ?_
        obtain ⟨r7, M8, e9, hF⟩ := bd_some hF
        refine s_callVv (Y := YX10_over) (pc := 29) (as := [.ref 26]) (st := []) (r_X6_add isSt_26 e9) miX6_add lk_X10_215 dX10_over_29 k_46 rfl (Nat.le_of_ble_eq_true rfl) (Nat.le_of_ble_eq_true rfl) rfl ?_
        clear e9
        refine g_aload_n (Y := YX10_over) (pc := 32) 0 dX10_over_32 rfl ?_
        refine u_getR (Y := YX10_over) (pc := 33) (j := 26) dX10_over_33 fl_X10_35 k_0 rf_0_3 ?_
        refine g_iload_n (Y := YX10_over) (pc := 36) 1 dX10_over_36 rfl ?_
        refine g_iload_n (Y := YX10_over) (pc := 37) 2 dX10_over_37 rfl ?_
        obtain ⟨r10, M11, e12, hF⟩ := bd_some hF
        refine s_callVv (Y := YX10_over) (pc := 38) (as := [.int x1, .int x2]) (st := []) (r_X7_runOver isSt_26 e12) miX7_runOver lk_X10_233 dX10_over_38 k_26 rfl (Nat.le_of_ble_eq_true rfl) (Nat.le_of_ble_eq_true rfl) rfl ?_
        clear e12
        refine g_aload_n (Y := YX10_over) (pc := 41) 0 dX10_over_41 rfl ?_
        refine u_getR (Y := YX10_over) (pc := 42) (j := 26) dX10_over_42 fl_X10_35 k_0 rf_0_3 ?_
        refine u_getR (Y := YX10_over) (pc := 45) (j := 28) dX10_over_45 fl_X10_173 k_26 (st_r5 isSt_26) ?_
        refine g_iload_n (Y := YX10_over) (pc := 48) 1 dX10_over_48 rfl ?_
        obtain ⟨g13, hF⟩ := gd_some hF
        refine s_iald (Y := YX10_over) (pc := 49) dX10_over_49 k_28 n_28 g13 ?_
        exact s_iret (Y := YX10_over) (pc := 50) dX10_over_50 rfl hF
      · replace hF := if_t c6 hF
        refine g_loc [] rfl ?_
        exact w_X10_over_19  _ hF
def f_X10_over (x1 : Int32) (x2 : Int32) (M : Mem) : Option (Int32 × Mem) := f_X10_over_0 x1 x2 M
theorem r_X10_over {x1 x2 R : Int32} {M M' : Mem}  (hF : f_X10_over x1 x2 M = some (R, M')) : RunS l D cy ad YX10_over 3 [.ref 0, .int x1, .int x2] X M (some (.int R)) M' := Run.of 2 (miX10_over).1 (Nat.le_of_ble_eq_true rfl) (w_X10_over_0  _ _ _ hF)
def f_X10_stand_11  (M : Mem) : Option (Int32 × Mem) :=
  some ((-1), M)
set_option maxRecDepth 100000 in
theorem w_X10_stand_11 {R : Int32} {M' : Mem}  (M : Mem) (hF : f_X10_stand_11  M = some (R, M')) : RunF l D cy ad none YX10_stand 3 0 0 (some (.int R)) (lay X M') 0 0 11 [] [] (lay X M) := by
  unfold f_X10_stand_11 at hF
  refine g_iconst (Y := YX10_stand) (pc := 11) dX10_stand_11 kI_m1 ?_
  exact s_iret (Y := YX10_stand) (pc := 12) dX10_stand_12 rfl hF
def f_X10_stand_0  (x1 : Int32) (M : Mem) : Option (Int32 × Mem) :=
  if x1 < 1 then
    f_X10_stand_11 M
  else
    if 60 < x1 then
      f_X10_stand_11 M
    else
      bd (f_X6_add 26 M) fun _ M4 =>
      ml (up M4 26 0 ((M4 26 0) + x1)) fun M6 =>
      some ((M6 26 0), M6)
set_option maxRecDepth 100000 in
theorem w_X10_stand_0 {R : Int32} {M' : Mem}  (x1 : Int32) (M : Mem) (hF : f_X10_stand_0 x1 M = some (R, M')) : RunF l D cy ad none YX10_stand 3 0 0 (some (.int R)) (lay X M') 0 0 0 [(0, .ref 0), (1, .int x1)] [] (lay X M) := by
  unfold f_X10_stand_0 at hF
  refine g_iload_n (Y := YX10_stand) (pc := 0) 1 dX10_stand_0 rfl ?_
  refine g_iconst (Y := YX10_stand) (pc := 1) dX10_stand_1 kI_1 ?_
  refine g_icmp_lt (Y := YX10_stand) (pc := 2) (tgt := 11) dX10_stand_2 rfl (fun c1 => ?_) (fun c1 => ?_)
  · replace hF := if_t c1 hF
    refine g_loc [] rfl ?_
    exact w_X10_stand_11  _ hF
  · replace hF := if_f c1 hF
    refine g_iload_n (Y := YX10_stand) (pc := 5) 1 dX10_stand_5 rfl ?_
    refine g_bipush (Y := YX10_stand) (pc := 6) dX10_stand_6 kB_60 ?_
    refine g_icmp_le (Y := YX10_stand) (pc := 8) (tgt := 13) dX10_stand_8 rfl (fun c2 => ?_) (fun c2 => ?_)
    · replace hF := if_f c2 hF
      refine g_aload_n (Y := YX10_stand) (pc := 13) 0 dX10_stand_13 rfl ?_
      refine u_getR (Y := YX10_stand) (pc := 14) (j := 46) dX10_stand_14 fl_X10_51 k_0 rf_0_7 ?_
      refine g_aload_n (Y := YX10_stand) (pc := 17) 0 dX10_stand_17 rfl ?_
      refine u_getR (Y := YX10_stand) (pc := 18) (j := 26) dX10_stand_18 fl_X10_35 k_0 rf_0_3 ?_
      obtain ⟨r3, M4, e5, hF⟩ := bd_some hF
      refine s_callVv (Y := YX10_stand) (pc := 21) (as := [.ref 26]) (st := []) (r_X6_add isSt_26 e5) miX6_add lk_X10_215 dX10_stand_21 k_46 rfl (Nat.le_of_ble_eq_true rfl) (Nat.le_of_ble_eq_true rfl) rfl ?_
      clear e5
      refine g_aload_n (Y := YX10_stand) (pc := 24) 0 dX10_stand_24 rfl ?_
      refine u_getR (Y := YX10_stand) (pc := 25) (j := 26) dX10_stand_25 fl_X10_35 k_0 rf_0_3 ?_
      refine g_dup (Y := YX10_stand) (pc := 28) dX10_stand_28 rfl ?_
      refine u_getI (Y := YX10_stand) (pc := 29) dX10_stand_29 fl_X10_237 k_26 ?_
      refine g_iload_n (Y := YX10_stand) (pc := 32) 1 dX10_stand_32 rfl ?_
      refine g_iadd (Y := YX10_stand) (pc := 33) dX10_stand_33 ?_
      refine u_putI (Y := YX10_stand) (pc := 34) dX10_stand_34 fl_X10_237  k_26 ?_
      refine g_nmM (fun M6 e => ?_)
      replace hF := ml_to e hF; clear e
      refine g_aload_n (Y := YX10_stand) (pc := 37) 0 dX10_stand_37 rfl ?_
      refine u_getR (Y := YX10_stand) (pc := 38) (j := 26) dX10_stand_38 fl_X10_35 k_0 rf_0_3 ?_
      refine u_getI (Y := YX10_stand) (pc := 41) dX10_stand_41 fl_X10_237 k_26 ?_
      exact s_iret (Y := YX10_stand) (pc := 44) dX10_stand_44 rfl hF
    · replace hF := if_t c2 hF
      refine g_loc [] rfl ?_
      exact w_X10_stand_11  _ hF
def f_X10_stand (x1 : Int32) (M : Mem) : Option (Int32 × Mem) := f_X10_stand_0 x1 M
theorem r_X10_stand {x1 R : Int32} {M M' : Mem}  (hF : f_X10_stand x1 M = some (R, M')) : RunS l D cy ad YX10_stand 3 [.ref 0, .int x1] X M (some (.int R)) M' := Run.of 1 (miX10_stand).1 (Nat.le_of_ble_eq_true rfl) (w_X10_stand_0  _ _ hF)
def f_X7_bitsThrough_0 (s : Nat) (M : Mem) : Option (Int32 × Mem) :=
  bd (f_X7_bitsIn s 9 M) fun r1 M2 =>
  some (r1, M2)
set_option maxRecDepth 100000 in
theorem w_X7_bitsThrough_0 {R : Int32} {M' : Mem} {s : Nat} (hs : isSt s) (M : Mem) (hF : f_X7_bitsThrough_0 s  M = some (R, M')) : RunF l D cy ad none YX7_bitsThrough 1 0 0 (some (.int R)) (lay X M') 0 0 0 [(0, .ref s)] [] (lay X M) := by
  unfold f_X7_bitsThrough_0 at hF
  refine g_aload_n (Y := YX7_bitsThrough) (pc := 0) 0 dX7_bitsThrough_0 rfl ?_
  refine g_bipush (Y := YX7_bitsThrough) (pc := 1) dX7_bitsThrough_1 kB_9 ?_
  obtain ⟨r1, M2, e3, hF⟩ := bd_some hF
  refine s_callVi (Y := YX7_bitsThrough) (pc := 3) (as := [.int 9]) (st := []) (r_X7_bitsIn hs e3) miX7_bitsIn lk_X7_46 dX7_bitsThrough_3 (st_k hs) rfl (Nat.le_of_ble_eq_true rfl) (Nat.le_of_ble_eq_true rfl) rfl ?_
  clear e3
  exact s_iret (Y := YX7_bitsThrough) (pc := 6) dX7_bitsThrough_6 rfl hF
def f_X7_bitsThrough (s : Nat) (M : Mem) : Option (Int32 × Mem) := f_X7_bitsThrough_0 s M
theorem r_X7_bitsThrough {s : Nat} {R : Int32} {M M' : Mem} (hs : isSt s) (hF : f_X7_bitsThrough s M = some (R, M')) : RunS l D cy ad YX7_bitsThrough 1 [.ref s] X M (some (.int R)) M' := Run.of 0 (miX7_bitsThrough).1 (Nat.le_of_ble_eq_true rfl) (w_X7_bitsThrough_0 hs _ hF)
def f_X1_firstThatCan_95 (K2 : Int32 → Mem → Option (Int32 × Mem)) (s1 : Nat) (x2 : Int32) (M : Mem) : Option (Int32 × Mem) :=
  vl (x2 + 1) fun v4 =>
  K2 v4 M
set_option maxRecDepth 100000 in
theorem w_X1_firstThatCan_95 {R : Int32} {M' : Mem} {s1 : Nat} {K2 : Int32 → Mem → Option (Int32 × Mem)} (hs1 : isSt s1) (hK2 : ∀ (x2 : Int32) (M : Mem), K2 x2 M = some (R, M') → RunF l D cy ad none YX1_firstThatCan 0 0 0 (some (.int R)) (lay X M') 0 0 2 [(0, .ref 3), (1, .ref s1), (2, .int x2)] [] (lay X M)) (x2 : Int32) (M : Mem) (hF : f_X1_firstThatCan_95 K2 s1 x2 M = some (R, M')) : RunF l D cy ad none YX1_firstThatCan 0 0 0 (some (.int R)) (lay X M') 0 0 95 [(0, .ref 3), (1, .ref s1), (2, .int x2)] [] (lay X M) := by
  unfold f_X1_firstThatCan_95 at hF
  refine s_iinc (Y := YX1_firstThatCan) (pc := 95) (j := 2) (L' := fun y => [(2, .int y), (0, .ref 3), (1, .ref s1)]) dX1_firstThatCan_95 kI_1 rfl (Nat.le_of_ble_eq_true rfl) (fun _ => rfl) (fun v4 e => ?_)
  replace hF := vl_to e hF; clear e
  refine g_goto (Y := YX1_firstThatCan) (pc := 98) (tgt := 2) dX1_firstThatCan_98 rfl ?_
  refine g_loc [1, 2, 0] rfl ?_
  exact hK2 _ _ hF
def f_X1_firstThatCan_93 (s1 : Nat) (x2 : Int32) (M : Mem) : Option (Int32 × Mem) :=
  some (x2, M)
set_option maxRecDepth 100000 in
theorem w_X1_firstThatCan_93 {R : Int32} {M' : Mem} {s1 : Nat} (hs1 : isSt s1) (x2 : Int32) (M : Mem) (hF : f_X1_firstThatCan_93 s1 x2 M = some (R, M')) : RunF l D cy ad none YX1_firstThatCan 0 0 0 (some (.int R)) (lay X M') 0 0 93 [(2, .int x2)] [] (lay X M) := by
  unfold f_X1_firstThatCan_93 at hF
  refine g_iload_n (Y := YX1_firstThatCan) (pc := 93) 0 dX1_firstThatCan_93 rfl ?_
  exact s_iret (Y := YX1_firstThatCan) (pc := 94) dX1_firstThatCan_94 rfl hF
def f_X1_firstThatCan_69 (K2 : Int32 → Mem → Option (Int32 × Mem)) (s1 : Nat) (x2 : Int32) (t0 : Int32) (M : Mem) : Option (Int32 × Mem) :=
  if t0 < 0 then
    f_X1_firstThatCan_93 s1 x2 M
  else
    if t0 < (M 3 0) then
      if (((M s1 1) >>> (t0 &&& 31)) &&& 1) = 0 then
        f_X1_firstThatCan_93 s1 x2 M
      else
        f_X1_firstThatCan_95 K2 s1 x2 M
    else
      f_X1_firstThatCan_93 s1 x2 M
set_option maxRecDepth 100000 in
theorem w_X1_firstThatCan_69 {R : Int32} {M' : Mem} {s1 : Nat} {K2 : Int32 → Mem → Option (Int32 × Mem)} (hs1 : isSt s1) (hK2 : ∀ (x2 : Int32) (M : Mem), K2 x2 M = some (R, M') → RunF l D cy ad none YX1_firstThatCan 0 0 0 (some (.int R)) (lay X M') 0 0 2 [(0, .ref 3), (1, .ref s1), (2, .int x2)] [] (lay X M)) (x2 t0 : Int32) (M : Mem) (hF : f_X1_firstThatCan_69 K2 s1 x2 t0 M = some (R, M')) : RunF l D cy ad none YX1_firstThatCan 0 0 0 (some (.int R)) (lay X M') 0 0 69 [(0, .ref 3), (1, .ref s1), (2, .int x2)] [.int t0] (lay X M) := by
  unfold f_X1_firstThatCan_69 at hF
  refine g_istore_n (Y := YX1_firstThatCan) (pc := 69) (L' := [(3, .int t0), (0, .ref 3), (1, .ref s1), (2, .int x2)]) dX1_firstThatCan_69 (Nat.le_of_ble_eq_true rfl) rfl ?_
  refine g_iload_n (Y := YX1_firstThatCan) (pc := 70) 0 dX1_firstThatCan_70 rfl ?_
  refine g_if_lt (Y := YX1_firstThatCan) (pc := 71) (tgt := 93) dX1_firstThatCan_71 rfl (fun c12 => ?_) (fun c12 => ?_)
  · replace hF := if_t c12 hF
    refine g_loc [3] rfl ?_
    exact w_X1_firstThatCan_93 hs1 _ _ hF
  · replace hF := if_f c12 hF
    refine g_iload_n (Y := YX1_firstThatCan) (pc := 74) 0 dX1_firstThatCan_74 rfl ?_
    refine g_aload_n (Y := YX1_firstThatCan) (pc := 75) 1 dX1_firstThatCan_75 rfl ?_
    refine u_getI (Y := YX1_firstThatCan) (pc := 76) dX1_firstThatCan_76 fl_X1_9 k_3 ?_
    refine g_icmp_ge (Y := YX1_firstThatCan) (pc := 79) (tgt := 93) dX1_firstThatCan_79 rfl (fun c13 => ?_) (fun c13 => ?_)
    · replace hF := if_f c13 hF
      refine g_loc [3] rfl ?_
      exact w_X1_firstThatCan_93 hs1 _ _ hF
    · replace hF := if_t c13 hF
      refine g_aload_n (Y := YX1_firstThatCan) (pc := 82) 2 dX1_firstThatCan_82 rfl ?_
      refine u_getI (Y := YX1_firstThatCan) (pc := 83) dX1_firstThatCan_83 fl_X1_84 (st_k hs1) ?_
      refine g_iload_n (Y := YX1_firstThatCan) (pc := 86) 0 dX1_firstThatCan_86 rfl ?_
      refine g_ishr (Y := YX1_firstThatCan) (pc := 87) dX1_firstThatCan_87 ?_
      refine g_iconst (Y := YX1_firstThatCan) (pc := 88) dX1_firstThatCan_88 kI_1 ?_
      refine g_iand (Y := YX1_firstThatCan) (pc := 89) dX1_firstThatCan_89 ?_
      refine g_if_ne (Y := YX1_firstThatCan) (pc := 90) (tgt := 95) dX1_firstThatCan_90 rfl (fun c14 => ?_) (fun c14 => ?_)
      · replace hF := if_f c14 hF
        refine g_loc [1, 2, 3] rfl ?_
        exact w_X1_firstThatCan_95 hs1 hK2 _ _ hF
      · replace hF := if_t c14 hF
        refine g_loc [3] rfl ?_
        exact w_X1_firstThatCan_93 hs1 _ _ hF
def f_X1_firstThatCan_2 (s1 : Nat) : Nat → Int32 → Mem → Option (Int32 × Mem)
  | 0, _, _ => none
  | n + 1, x2, M =>
    if x2 < (M 3 2) then
      gd (0 ≤ x2 ∧ x2.toNatClampNeg < 6) <|
      if (M (s1 + 2) x2.toNatClampNeg) = 0 then
        gd (0 ≤ x2 ∧ x2.toNatClampNeg < 6) <|
        if (M (s1 + 1) x2.toNatClampNeg) = (-1) then
          f_X1_firstThatCan_95 (f_X1_firstThatCan_2 s1 n) s1 x2 M
        else
          gd (0 ≤ x2 ∧ x2.toNatClampNeg < 6) <|
          if (M (s1 + 1) x2.toNatClampNeg) = 9 then
            f_X1_firstThatCan_95 (f_X1_firstThatCan_2 s1 n) s1 x2 M
          else
            gd (0 ≤ x2 ∧ x2.toNatClampNeg < 6) <|
            if (M 7 x2.toNatClampNeg) = 1 then
              gd (0 ≤ x2 ∧ x2.toNatClampNeg < 6) <|
              f_X1_firstThatCan_69 (f_X1_firstThatCan_2 s1 n) s1 x2 ((M (s1 + 1) x2.toNatClampNeg) - 1) M
            else
              gd (0 ≤ x2 ∧ x2.toNatClampNeg < 6) <|
              f_X1_firstThatCan_69 (f_X1_firstThatCan_2 s1 n) s1 x2 ((M (s1 + 1) x2.toNatClampNeg) + 1) M
      else
        f_X1_firstThatCan_95 (f_X1_firstThatCan_2 s1 n) s1 x2 M
    else
      some ((-1), M)
set_option maxRecDepth 100000 in
theorem w_X1_firstThatCan_2 {R : Int32} {M' : Mem} {s1 : Nat} (hs1 : isSt s1) : ∀ (n : Nat) (x2 : Int32) (M : Mem), f_X1_firstThatCan_2 s1 n x2 M = some (R, M') → RunF l D cy ad none YX1_firstThatCan 0 0 0 (some (.int R)) (lay X M') 0 0 2 [(0, .ref 3), (1, .ref s1), (2, .int x2)] [] (lay X M) := by
  intro n
  induction n with
  | zero => intro x2 M hF; exact absurd hF (by unfold f_X1_firstThatCan_2; exact fun h => nomatch h)
  | succ n ih =>
    intro x2 M hF
    unfold f_X1_firstThatCan_2 at hF
    refine g_iload_n (Y := YX1_firstThatCan) (pc := 2) 2 dX1_firstThatCan_2 rfl ?_
    refine g_aload_n (Y := YX1_firstThatCan) (pc := 3) 0 dX1_firstThatCan_3 rfl ?_
    refine u_getI (Y := YX1_firstThatCan) (pc := 4) dX1_firstThatCan_4 fl_X1_18 k_3 ?_
    refine g_icmp_ge (Y := YX1_firstThatCan) (pc := 7) (tgt := 101) dX1_firstThatCan_7 rfl (fun c1 => ?_) (fun c1 => ?_)
    · replace hF := if_f c1 hF
      refine g_iconst (Y := YX1_firstThatCan) (pc := 101) dX1_firstThatCan_101 kI_m1 ?_
      exact s_iret (Y := YX1_firstThatCan) (pc := 102) dX1_firstThatCan_102 rfl hF
    · replace hF := if_t c1 hF
      refine g_aload_n (Y := YX1_firstThatCan) (pc := 10) 1 dX1_firstThatCan_10 rfl ?_
      refine u_getR (Y := YX1_firstThatCan) (pc := 11) (j := (s1 + 2)) dX1_firstThatCan_11 fl_X1_91 (st_k hs1) (st_r5 hs1) ?_
      refine g_iload_n (Y := YX1_firstThatCan) (pc := 14) 2 dX1_firstThatCan_14 rfl ?_
      obtain ⟨g2, hF⟩ := gd_some hF
      refine s_iald (Y := YX1_firstThatCan) (pc := 15) dX1_firstThatCan_15 (st_k2 hs1) (st_n2 hs1) g2 ?_
      refine g_if_ne (Y := YX1_firstThatCan) (pc := 16) (tgt := 95) dX1_firstThatCan_16 rfl (fun c3 => ?_) (fun c3 => ?_)
      · replace hF := if_f c3 hF
        exact w_X1_firstThatCan_95 hs1 ih _ _ hF
      · replace hF := if_t c3 hF
        refine g_aload_n (Y := YX1_firstThatCan) (pc := 19) 1 dX1_firstThatCan_19 rfl ?_
        refine u_getR (Y := YX1_firstThatCan) (pc := 20) (j := (s1 + 1)) dX1_firstThatCan_20 fl_X1_76 (st_k hs1) (st_r4 hs1) ?_
        refine g_iload_n (Y := YX1_firstThatCan) (pc := 23) 2 dX1_firstThatCan_23 rfl ?_
        obtain ⟨g5, hF⟩ := gd_some hF
        refine s_iald (Y := YX1_firstThatCan) (pc := 24) dX1_firstThatCan_24 (st_k1 hs1) (st_n1 hs1) g5 ?_
        refine g_iconst (Y := YX1_firstThatCan) (pc := 25) dX1_firstThatCan_25 kI_m1 ?_
        refine g_icmp_eq (Y := YX1_firstThatCan) (pc := 26) (tgt := 95) dX1_firstThatCan_26 rfl (fun c6 => ?_) (fun c6 => ?_)
        · replace hF := if_t c6 hF
          exact w_X1_firstThatCan_95 hs1 ih _ _ hF
        · replace hF := if_f c6 hF
          refine g_aload_n (Y := YX1_firstThatCan) (pc := 29) 1 dX1_firstThatCan_29 rfl ?_
          refine u_getR (Y := YX1_firstThatCan) (pc := 30) (j := (s1 + 1)) dX1_firstThatCan_30 fl_X1_76 (st_k hs1) (st_r4 hs1) ?_
          refine g_iload_n (Y := YX1_firstThatCan) (pc := 33) 2 dX1_firstThatCan_33 rfl ?_
          obtain ⟨g7, hF⟩ := gd_some hF
          refine s_iald (Y := YX1_firstThatCan) (pc := 34) dX1_firstThatCan_34 (st_k1 hs1) (st_n1 hs1) g7 ?_
          refine g_bipush (Y := YX1_firstThatCan) (pc := 35) dX1_firstThatCan_35 kB_9 ?_
          refine g_icmp_eq (Y := YX1_firstThatCan) (pc := 37) (tgt := 95) dX1_firstThatCan_37 rfl (fun c8 => ?_) (fun c8 => ?_)
          · replace hF := if_t c8 hF
            exact w_X1_firstThatCan_95 hs1 ih _ _ hF
          · replace hF := if_f c8 hF
            refine g_aload_n (Y := YX1_firstThatCan) (pc := 40) 0 dX1_firstThatCan_40 rfl ?_
            refine u_getR (Y := YX1_firstThatCan) (pc := 41) (j := 7) dX1_firstThatCan_41 fl_X1_31 k_3 rf_3_6 ?_
            refine g_iload_n (Y := YX1_firstThatCan) (pc := 44) 2 dX1_firstThatCan_44 rfl ?_
            obtain ⟨g9, hF⟩ := gd_some hF
            refine s_iald (Y := YX1_firstThatCan) (pc := 45) dX1_firstThatCan_45 k_7 n_7 g9 ?_
            refine g_iconst (Y := YX1_firstThatCan) (pc := 46) dX1_firstThatCan_46 kI_1 ?_
            refine g_icmp_ne (Y := YX1_firstThatCan) (pc := 47) (tgt := 61) dX1_firstThatCan_47 rfl (fun c10 => ?_) (fun c10 => ?_)
            · replace hF := if_f c10 hF
              refine g_aload_n (Y := YX1_firstThatCan) (pc := 61) 1 dX1_firstThatCan_61 rfl ?_
              refine u_getR (Y := YX1_firstThatCan) (pc := 62) (j := (s1 + 1)) dX1_firstThatCan_62 fl_X1_76 (st_k hs1) (st_r4 hs1) ?_
              refine g_iload_n (Y := YX1_firstThatCan) (pc := 65) 2 dX1_firstThatCan_65 rfl ?_
              obtain ⟨g11, hF⟩ := gd_some hF
              refine s_iald (Y := YX1_firstThatCan) (pc := 66) dX1_firstThatCan_66 (st_k1 hs1) (st_n1 hs1) g11 ?_
              refine g_iconst (Y := YX1_firstThatCan) (pc := 67) dX1_firstThatCan_67 kI_1 ?_
              refine g_iadd (Y := YX1_firstThatCan) (pc := 68) dX1_firstThatCan_68 ?_
              exact w_X1_firstThatCan_69 hs1 ih _ _ _ hF
            · replace hF := if_t c10 hF
              refine g_aload_n (Y := YX1_firstThatCan) (pc := 50) 1 dX1_firstThatCan_50 rfl ?_
              refine u_getR (Y := YX1_firstThatCan) (pc := 51) (j := (s1 + 1)) dX1_firstThatCan_51 fl_X1_76 (st_k hs1) (st_r4 hs1) ?_
              refine g_iload_n (Y := YX1_firstThatCan) (pc := 54) 2 dX1_firstThatCan_54 rfl ?_
              obtain ⟨g15, hF⟩ := gd_some hF
              refine s_iald (Y := YX1_firstThatCan) (pc := 55) dX1_firstThatCan_55 (st_k1 hs1) (st_n1 hs1) g15 ?_
              refine g_iconst (Y := YX1_firstThatCan) (pc := 56) dX1_firstThatCan_56 kI_1 ?_
              refine g_isub (Y := YX1_firstThatCan) (pc := 57) dX1_firstThatCan_57 ?_
              refine g_goto (Y := YX1_firstThatCan) (pc := 58) (tgt := 69) dX1_firstThatCan_58 rfl ?_
              exact w_X1_firstThatCan_69 hs1 ih _ _ _ hF
def f_X1_firstThatCan_0 (s1 : Nat) (M : Mem) : Option (Int32 × Mem) :=
  f_X1_firstThatCan_2 s1 FU 0 M
set_option maxRecDepth 100000 in
theorem w_X1_firstThatCan_0 {R : Int32} {M' : Mem} {s1 : Nat} (hs1 : isSt s1) (M : Mem) (hF : f_X1_firstThatCan_0 s1  M = some (R, M')) : RunF l D cy ad none YX1_firstThatCan 0 0 0 (some (.int R)) (lay X M') 0 0 0 [(0, .ref 3), (1, .ref s1)] [] (lay X M) := by
  unfold f_X1_firstThatCan_0 at hF
  refine g_iconst (Y := YX1_firstThatCan) (pc := 0) dX1_firstThatCan_0 kI_0 ?_
  refine g_istore_n (Y := YX1_firstThatCan) (pc := 1) (L' := [(2, .int 0), (0, .ref 3), (1, .ref s1)]) dX1_firstThatCan_1 (Nat.le_of_ble_eq_true rfl) rfl ?_
  refine g_loc [1, 2, 0] rfl ?_
  exact w_X1_firstThatCan_2 hs1 _ _ _ hF
def f_X1_firstThatCan (s1 : Nat) (M : Mem) : Option (Int32 × Mem) := f_X1_firstThatCan_0 s1 M
theorem r_X1_firstThatCan {s1 : Nat} {R : Int32} {M M' : Mem} (hs1 : isSt s1) (hF : f_X1_firstThatCan s1 M = some (R, M')) : RunS l D cy ad YX1_firstThatCan 0 [.ref 3, .ref s1] X M (some (.int R)) M' := Run.of 1 (miX1_firstThatCan).1 (Nat.le_of_ble_eq_true rfl) (w_X1_firstThatCan_0 hs1 _ hF)
def f_X1_pass_182 (K122 : Int32 → Mem → Option (Int32 × Mem)) (s1 : Nat) (x2 : Int32) (M : Mem) : Option (Int32 × Mem) :=
  vl (x2 + 1) fun v9 =>
  K122 v9 M
set_option maxRecDepth 100000 in
theorem w_X1_pass_182 {R : Int32} {M' : Mem} {s1 : Nat} {K122 : Int32 → Mem → Option (Int32 × Mem)} (hs1 : isSt s1) (hK122 : ∀ (x2 : Int32) (M : Mem), K122 x2 M = some (R, M') → RunF l D cy ad none YX1_pass 1 0 0 none (lay X M') 0 0 122 [(0, .ref 3), (1, .ref s1), (2, .int x2)] [] (lay X M)) (x2 : Int32) (M : Mem) (hF : f_X1_pass_182 K122 s1 x2 M = some (R, M')) : RunF l D cy ad none YX1_pass 1 0 0 none (lay X M') 0 0 182 [(0, .ref 3), (1, .ref s1), (2, .int x2)] [] (lay X M) := by
  unfold f_X1_pass_182 at hF
  refine s_iinc (Y := YX1_pass) (pc := 182) (j := 2) (L' := fun y => [(2, .int y), (0, .ref 3), (1, .ref s1)]) dX1_pass_182 kI_1 rfl (Nat.le_of_ble_eq_true rfl) (fun _ => rfl) (fun v9 e => ?_)
  replace hF := vl_to e hF; clear e
  refine g_goto (Y := YX1_pass) (pc := 185) (tgt := 122) dX1_pass_185 rfl ?_
  refine g_loc [1, 2, 0] rfl ?_
  exact hK122 _ _ hF
def f_X1_pass_122 (s1 : Nat) : Nat → Int32 → Mem → Option (Int32 × Mem)
  | 0, _, _ => none
  | n + 1, x2, M =>
    if x2 < (M 3 2) then
      gd (0 ≤ x2 ∧ x2.toNatClampNeg < 6) <|
      if (M (s1 + 2) x2.toNatClampNeg) = 0 then
        gd (0 ≤ x2 ∧ x2.toNatClampNeg < 6) <|
        if (M (s1 + 1) x2.toNatClampNeg) = (-1) then
          f_X1_pass_182 (f_X1_pass_122 s1 n) s1 x2 M
        else
          gd (0 ≤ x2 ∧ x2.toNatClampNeg < 6) <|
          if (M (s1 + 1) x2.toNatClampNeg) = 9 then
            f_X1_pass_182 (f_X1_pass_122 s1 n) s1 x2 M
          else
            ml (up M s1 3 ((M s1 3) ||| (1 <<< (x2 &&& 31)))) fun M14 =>
            gd (0 ≤ x2 ∧ x2.toNatClampNeg < 6) <|
            gd (0 ≤ x2 ∧ x2.toNatClampNeg < 6) <|
            ml (up M14 (s1 + 3) x2.toNatClampNeg ((M14 (s1 + 3) x2.toNatClampNeg) + 1)) fun M17 =>
            f_X1_pass_182 (f_X1_pass_122 s1 n) s1 x2 M17
      else
        f_X1_pass_182 (f_X1_pass_122 s1 n) s1 x2 M
    else
      ml (up M s1 0 ((M s1 0) + 1)) fun M6 =>
      some (0, M6)
set_option maxRecDepth 100000 in
theorem w_X1_pass_122 {R : Int32} {M' : Mem} {s1 : Nat} (hs1 : isSt s1) : ∀ (n : Nat) (x2 : Int32) (M : Mem), f_X1_pass_122 s1 n x2 M = some (R, M') → RunF l D cy ad none YX1_pass 1 0 0 none (lay X M') 0 0 122 [(0, .ref 3), (1, .ref s1), (2, .int x2)] [] (lay X M) := by
  intro n
  induction n with
  | zero => intro x2 M hF; exact absurd hF (by unfold f_X1_pass_122; exact fun h => nomatch h)
  | succ n ih =>
    intro x2 M hF
    unfold f_X1_pass_122 at hF
    refine g_iload_n (Y := YX1_pass) (pc := 122) 2 dX1_pass_122 rfl ?_
    refine g_aload_n (Y := YX1_pass) (pc := 123) 0 dX1_pass_123 rfl ?_
    refine u_getI (Y := YX1_pass) (pc := 124) dX1_pass_124 fl_X1_18 k_3 ?_
    refine g_icmp_ge (Y := YX1_pass) (pc := 127) (tgt := 188) dX1_pass_127 rfl (fun c5 => ?_) (fun c5 => ?_)
    · replace hF := if_f c5 hF
      refine g_aload_n (Y := YX1_pass) (pc := 188) 1 dX1_pass_188 rfl ?_
      refine g_dup (Y := YX1_pass) (pc := 189) dX1_pass_189 rfl ?_
      refine u_getI (Y := YX1_pass) (pc := 190) dX1_pass_190 fl_X1_81 (st_k hs1) ?_
      refine g_iconst (Y := YX1_pass) (pc := 193) dX1_pass_193 kI_1 ?_
      refine g_iadd (Y := YX1_pass) (pc := 194) dX1_pass_194 ?_
      refine u_putI (Y := YX1_pass) (pc := 195) dX1_pass_195 fl_X1_81  (st_k hs1) ?_
      refine g_nmM (fun M6 e => ?_)
      replace hF := ml_to e hF; clear e
      exact s_vret (Y := YX1_pass) (pc := 198) dX1_pass_198 rfl hF
    · replace hF := if_t c5 hF
      refine g_aload_n (Y := YX1_pass) (pc := 130) 1 dX1_pass_130 rfl ?_
      refine u_getR (Y := YX1_pass) (pc := 131) (j := (s1 + 2)) dX1_pass_131 fl_X1_91 (st_k hs1) (st_r5 hs1) ?_
      refine g_iload_n (Y := YX1_pass) (pc := 134) 2 dX1_pass_134 rfl ?_
      obtain ⟨g7, hF⟩ := gd_some hF
      refine s_iald (Y := YX1_pass) (pc := 135) dX1_pass_135 (st_k2 hs1) (st_n2 hs1) g7 ?_
      refine g_if_ne (Y := YX1_pass) (pc := 136) (tgt := 182) dX1_pass_136 rfl (fun c8 => ?_) (fun c8 => ?_)
      · replace hF := if_f c8 hF
        exact w_X1_pass_182 hs1 ih _ _ hF
      · replace hF := if_t c8 hF
        refine g_aload_n (Y := YX1_pass) (pc := 139) 1 dX1_pass_139 rfl ?_
        refine u_getR (Y := YX1_pass) (pc := 140) (j := (s1 + 1)) dX1_pass_140 fl_X1_76 (st_k hs1) (st_r4 hs1) ?_
        refine g_iload_n (Y := YX1_pass) (pc := 143) 2 dX1_pass_143 rfl ?_
        obtain ⟨g10, hF⟩ := gd_some hF
        refine s_iald (Y := YX1_pass) (pc := 144) dX1_pass_144 (st_k1 hs1) (st_n1 hs1) g10 ?_
        refine g_iconst (Y := YX1_pass) (pc := 145) dX1_pass_145 kI_m1 ?_
        refine g_icmp_eq (Y := YX1_pass) (pc := 146) (tgt := 182) dX1_pass_146 rfl (fun c11 => ?_) (fun c11 => ?_)
        · replace hF := if_t c11 hF
          exact w_X1_pass_182 hs1 ih _ _ hF
        · replace hF := if_f c11 hF
          refine g_aload_n (Y := YX1_pass) (pc := 149) 1 dX1_pass_149 rfl ?_
          refine u_getR (Y := YX1_pass) (pc := 150) (j := (s1 + 1)) dX1_pass_150 fl_X1_76 (st_k hs1) (st_r4 hs1) ?_
          refine g_iload_n (Y := YX1_pass) (pc := 153) 2 dX1_pass_153 rfl ?_
          obtain ⟨g12, hF⟩ := gd_some hF
          refine s_iald (Y := YX1_pass) (pc := 154) dX1_pass_154 (st_k1 hs1) (st_n1 hs1) g12 ?_
          refine g_bipush (Y := YX1_pass) (pc := 155) dX1_pass_155 kB_9 ?_
          refine g_icmp_eq (Y := YX1_pass) (pc := 157) (tgt := 182) dX1_pass_157 rfl (fun c13 => ?_) (fun c13 => ?_)
          · replace hF := if_t c13 hF
            exact w_X1_pass_182 hs1 ih _ _ hF
          · replace hF := if_f c13 hF
            refine g_aload_n (Y := YX1_pass) (pc := 160) 1 dX1_pass_160 rfl ?_
            refine g_dup (Y := YX1_pass) (pc := 161) dX1_pass_161 rfl ?_
            refine u_getI (Y := YX1_pass) (pc := 162) dX1_pass_162 fl_X1_100 (st_k hs1) ?_
            refine g_iconst (Y := YX1_pass) (pc := 165) dX1_pass_165 kI_1 ?_
            refine g_iload_n (Y := YX1_pass) (pc := 166) 2 dX1_pass_166 rfl ?_
            refine g_ishl (Y := YX1_pass) (pc := 167) dX1_pass_167 ?_
            refine g_ior (Y := YX1_pass) (pc := 168) dX1_pass_168 ?_
            refine u_putI (Y := YX1_pass) (pc := 169) dX1_pass_169 fl_X1_100  (st_k hs1) ?_
            refine g_nmM (fun M14 e => ?_)
            replace hF := ml_to e hF; clear e
            refine g_aload_n (Y := YX1_pass) (pc := 172) 1 dX1_pass_172 rfl ?_
            refine u_getR (Y := YX1_pass) (pc := 173) (j := (s1 + 3)) dX1_pass_173 fl_X1_107 (st_k hs1) (st_r6 hs1) ?_
            refine g_iload_n (Y := YX1_pass) (pc := 176) 2 dX1_pass_176 rfl ?_
            refine g_dup2 (Y := YX1_pass) (pc := 177) dX1_pass_177 rfl rfl ?_
            obtain ⟨g15, hF⟩ := gd_some hF
            refine s_iald (Y := YX1_pass) (pc := 178) dX1_pass_178 (st_k3 hs1) (st_n3 hs1) g15 ?_
            refine g_iconst (Y := YX1_pass) (pc := 179) dX1_pass_179 kI_1 ?_
            refine g_iadd (Y := YX1_pass) (pc := 180) dX1_pass_180 ?_
            obtain ⟨g16, hF⟩ := gd_some hF
            refine s_iast (Y := YX1_pass) (pc := 181) dX1_pass_181 (st_k3 hs1) (st_n3 hs1) g16 ?_
            refine g_nmM (fun M17 e => ?_)
            replace hF := ml_to e hF; clear e
            exact w_X1_pass_182 hs1 ih _ _ hF
def f_X1_pass_120 (s1 : Nat) (M : Mem) : Option (Int32 × Mem) :=
  f_X1_pass_122 s1 FU 0 M
set_option maxRecDepth 100000 in
theorem w_X1_pass_120 {R : Int32} {M' : Mem} {s1 : Nat} (hs1 : isSt s1) (M : Mem) (hF : f_X1_pass_120 s1  M = some (R, M')) : RunF l D cy ad none YX1_pass 1 0 0 none (lay X M') 0 0 120 [(0, .ref 3), (1, .ref s1)] [] (lay X M) := by
  unfold f_X1_pass_120 at hF
  refine g_iconst (Y := YX1_pass) (pc := 120) dX1_pass_120 kI_0 ?_
  refine g_istore_n (Y := YX1_pass) (pc := 121) (L' := [(2, .int 0), (0, .ref 3), (1, .ref s1)]) dX1_pass_121 (Nat.le_of_ble_eq_true rfl) rfl ?_
  refine g_loc [1, 2, 0] rfl ?_
  exact w_X1_pass_122 hs1 _ _ _ hF
def f_X1_pass_111 (K47 : Int32 → Mem → Option (Int32 × Mem)) (s1 : Nat) (x2 : Int32) (t1 : Int32) (t0 : Int32) (M : Mem) : Option (Int32 × Mem) :=
  bd (f_X1_move s1 t1 t0 M) fun _ M27 =>
  vl (x2 + 1) fun v29 =>
  K47 v29 M27
set_option maxRecDepth 100000 in
theorem w_X1_pass_111 {R : Int32} {M' : Mem} {s1 : Nat} {K47 : Int32 → Mem → Option (Int32 × Mem)} (hs1 : isSt s1) (hK47 : ∀ (x2 : Int32) (M : Mem), K47 x2 M = some (R, M') → RunF l D cy ad none YX1_pass 1 0 0 none (lay X M') 0 0 47 [(0, .ref 3), (1, .ref s1), (2, .int x2)] [] (lay X M)) (x2 t1 t0 : Int32) (M : Mem) (hF : f_X1_pass_111 K47 s1 x2 t1 t0 M = some (R, M')) : RunF l D cy ad none YX1_pass 1 0 0 none (lay X M') 0 0 111 [(0, .ref 3), (1, .ref s1), (2, .int x2)] [.int t0, .int t1, .ref s1, .ref 3] (lay X M) := by
  unfold f_X1_pass_111 at hF
  obtain ⟨r26, M27, e28, hF⟩ := bd_some hF
  refine s_callVv (Y := YX1_pass) (pc := 111) (as := [.ref s1, .int t1, .int t0]) (st := []) (r_X1_move hs1 e28) miX1_move lk_X1_87 dX1_pass_111 k_3 rfl (Nat.le_of_ble_eq_true rfl) (Nat.le_of_ble_eq_true rfl) rfl ?_
  clear e28
  refine s_iinc (Y := YX1_pass) (pc := 114) (j := 2) (L' := fun y => [(2, .int y), (0, .ref 3), (1, .ref s1)]) dX1_pass_114 kI_1 rfl (Nat.le_of_ble_eq_true rfl) (fun _ => rfl) (fun v29 e => ?_)
  replace hF := vl_to e hF; clear e
  refine g_goto (Y := YX1_pass) (pc := 117) (tgt := 47) dX1_pass_117 rfl ?_
  refine g_loc [1, 2, 0] rfl ?_
  exact hK47 _ _ hF
def f_X1_pass_47 (s1 : Nat) : Nat → Int32 → Mem → Option (Int32 × Mem)
  | 0, _, _ => none
  | n + 1, x2, M =>
    if x2 < 36 then
      bd (f_X1_firstThatCan s1 M) fun r18 M19 =>
      if r18 = (-1) then
        f_X1_pass_120 s1 M19
      else
        ml (up M19 s1 2 ((M19 s1 2) ||| (1 <<< (r18 &&& 31)))) fun M22 =>
        gd (0 ≤ r18 ∧ r18.toNatClampNeg < 6) <|
        if (M22 7 r18.toNatClampNeg) = 1 then
          gd (0 ≤ r18 ∧ r18.toNatClampNeg < 6) <|
          f_X1_pass_111 (f_X1_pass_47 s1 n) s1 x2 r18 ((M22 (s1 + 1) r18.toNatClampNeg) - 1) M22
        else
          gd (0 ≤ r18 ∧ r18.toNatClampNeg < 6) <|
          f_X1_pass_111 (f_X1_pass_47 s1 n) s1 x2 r18 ((M22 (s1 + 1) r18.toNatClampNeg) + 1) M22
    else
      f_X1_pass_120 s1 M
set_option maxRecDepth 100000 in
theorem w_X1_pass_47 {R : Int32} {M' : Mem} {s1 : Nat} (hs1 : isSt s1) : ∀ (n : Nat) (x2 : Int32) (M : Mem), f_X1_pass_47 s1 n x2 M = some (R, M') → RunF l D cy ad none YX1_pass 1 0 0 none (lay X M') 0 0 47 [(0, .ref 3), (1, .ref s1), (2, .int x2)] [] (lay X M) := by
  intro n
  induction n with
  | zero => intro x2 M hF; exact absurd hF (by unfold f_X1_pass_47; exact fun h => nomatch h)
  | succ n ih =>
    intro x2 M hF
    unfold f_X1_pass_47 at hF
    refine g_iload_n (Y := YX1_pass) (pc := 47) 2 dX1_pass_47 rfl ?_
    refine g_bipush (Y := YX1_pass) (pc := 48) dX1_pass_48 kB_36 ?_
    refine g_icmp_ge (Y := YX1_pass) (pc := 50) (tgt := 120) dX1_pass_50 rfl (fun c4 => ?_) (fun c4 => ?_)
    · replace hF := if_f c4 hF
      refine g_loc [0, 1] rfl ?_
      exact w_X1_pass_120 hs1 _ hF
    · replace hF := if_t c4 hF
      refine g_aload_n (Y := YX1_pass) (pc := 53) 0 dX1_pass_53 rfl ?_
      refine g_aload_n (Y := YX1_pass) (pc := 54) 1 dX1_pass_54 rfl ?_
      obtain ⟨r18, M19, e20, hF⟩ := bd_some hF
      refine s_callVi (Y := YX1_pass) (pc := 55) (as := [.ref s1]) (st := []) (r_X1_firstThatCan hs1 e20) miX1_firstThatCan lk_X1_103 dX1_pass_55 k_3 rfl (Nat.le_of_ble_eq_true rfl) (Nat.le_of_ble_eq_true rfl) rfl ?_
      clear e20
      refine g_istore_n (Y := YX1_pass) (pc := 58) (L' := [(3, .int r18), (0, .ref 3), (1, .ref s1), (2, .int x2)]) dX1_pass_58 (Nat.le_of_ble_eq_true rfl) rfl ?_
      refine g_iload_n (Y := YX1_pass) (pc := 59) 0 dX1_pass_59 rfl ?_
      refine g_iconst (Y := YX1_pass) (pc := 60) dX1_pass_60 kI_m1 ?_
      refine g_icmp_ne (Y := YX1_pass) (pc := 61) (tgt := 67) dX1_pass_61 rfl (fun c21 => ?_) (fun c21 => ?_)
      · replace hF := if_f c21 hF
        refine g_aload_n (Y := YX1_pass) (pc := 67) 2 dX1_pass_67 rfl ?_
        refine g_dup (Y := YX1_pass) (pc := 68) dX1_pass_68 rfl ?_
        refine u_getI (Y := YX1_pass) (pc := 69) dX1_pass_69 fl_X1_97 (st_k hs1) ?_
        refine g_iconst (Y := YX1_pass) (pc := 72) dX1_pass_72 kI_1 ?_
        refine g_iload_n (Y := YX1_pass) (pc := 73) 0 dX1_pass_73 rfl ?_
        refine g_ishl (Y := YX1_pass) (pc := 74) dX1_pass_74 ?_
        refine g_ior (Y := YX1_pass) (pc := 75) dX1_pass_75 ?_
        refine u_putI (Y := YX1_pass) (pc := 76) dX1_pass_76 fl_X1_97  (st_k hs1) ?_
        refine g_nmM (fun M22 e => ?_)
        replace hF := ml_to e hF; clear e
        refine g_aload_n (Y := YX1_pass) (pc := 79) 1 dX1_pass_79 rfl ?_
        refine g_aload_n (Y := YX1_pass) (pc := 80) 2 dX1_pass_80 rfl ?_
        refine g_iload_n (Y := YX1_pass) (pc := 81) 0 dX1_pass_81 rfl ?_
        refine g_aload_n (Y := YX1_pass) (pc := 82) 1 dX1_pass_82 rfl ?_
        refine u_getR (Y := YX1_pass) (pc := 83) (j := 7) dX1_pass_83 fl_X1_31 k_3 rf_3_6 ?_
        refine g_iload_n (Y := YX1_pass) (pc := 86) 0 dX1_pass_86 rfl ?_
        obtain ⟨g23, hF⟩ := gd_some hF
        refine s_iald (Y := YX1_pass) (pc := 87) dX1_pass_87 k_7 n_7 g23 ?_
        refine g_iconst (Y := YX1_pass) (pc := 88) dX1_pass_88 kI_1 ?_
        refine g_icmp_ne (Y := YX1_pass) (pc := 89) (tgt := 103) dX1_pass_89 rfl (fun c24 => ?_) (fun c24 => ?_)
        · replace hF := if_f c24 hF
          refine g_aload_n (Y := YX1_pass) (pc := 103) 2 dX1_pass_103 rfl ?_
          refine u_getR (Y := YX1_pass) (pc := 104) (j := (s1 + 1)) dX1_pass_104 fl_X1_76 (st_k hs1) (st_r4 hs1) ?_
          refine g_iload_n (Y := YX1_pass) (pc := 107) 0 dX1_pass_107 rfl ?_
          obtain ⟨g25, hF⟩ := gd_some hF
          refine s_iald (Y := YX1_pass) (pc := 108) dX1_pass_108 (st_k1 hs1) (st_n1 hs1) g25 ?_
          refine g_iconst (Y := YX1_pass) (pc := 109) dX1_pass_109 kI_1 ?_
          refine g_iadd (Y := YX1_pass) (pc := 110) dX1_pass_110 ?_
          refine g_loc [1, 2, 3] rfl ?_
          exact w_X1_pass_111 hs1 ih _ _ _ _ hF
        · replace hF := if_t c24 hF
          refine g_aload_n (Y := YX1_pass) (pc := 92) 2 dX1_pass_92 rfl ?_
          refine u_getR (Y := YX1_pass) (pc := 93) (j := (s1 + 1)) dX1_pass_93 fl_X1_76 (st_k hs1) (st_r4 hs1) ?_
          refine g_iload_n (Y := YX1_pass) (pc := 96) 0 dX1_pass_96 rfl ?_
          obtain ⟨g30, hF⟩ := gd_some hF
          refine s_iald (Y := YX1_pass) (pc := 97) dX1_pass_97 (st_k1 hs1) (st_n1 hs1) g30 ?_
          refine g_iconst (Y := YX1_pass) (pc := 98) dX1_pass_98 kI_1 ?_
          refine g_isub (Y := YX1_pass) (pc := 99) dX1_pass_99 ?_
          refine g_goto (Y := YX1_pass) (pc := 100) (tgt := 111) dX1_pass_100 rfl ?_
          refine g_loc [1, 2, 3] rfl ?_
          exact w_X1_pass_111 hs1 ih _ _ _ _ hF
      · replace hF := if_t c21 hF
        refine g_goto (Y := YX1_pass) (pc := 64) (tgt := 120) dX1_pass_64 rfl ?_
        refine g_loc [1, 2] rfl ?_
        exact w_X1_pass_120 hs1 _ hF
def f_X1_pass_39 (K12 : Int32 → Mem → Option (Int32 × Mem)) (s1 : Nat) (x2 : Int32) (M : Mem) : Option (Int32 × Mem) :=
  vl (x2 + 1) fun v33 =>
  K12 v33 M
set_option maxRecDepth 100000 in
theorem w_X1_pass_39 {R : Int32} {M' : Mem} {s1 : Nat} {K12 : Int32 → Mem → Option (Int32 × Mem)} (hs1 : isSt s1) (hK12 : ∀ (x2 : Int32) (M : Mem), K12 x2 M = some (R, M') → RunF l D cy ad none YX1_pass 1 0 0 none (lay X M') 0 0 12 [(0, .ref 3), (1, .ref s1), (2, .int x2)] [] (lay X M)) (x2 : Int32) (M : Mem) (hF : f_X1_pass_39 K12 s1 x2 M = some (R, M')) : RunF l D cy ad none YX1_pass 1 0 0 none (lay X M') 0 0 39 [(0, .ref 3), (1, .ref s1), (2, .int x2)] [] (lay X M) := by
  unfold f_X1_pass_39 at hF
  refine s_iinc (Y := YX1_pass) (pc := 39) (j := 2) (L' := fun y => [(2, .int y), (0, .ref 3), (1, .ref s1)]) dX1_pass_39 kI_1 rfl (Nat.le_of_ble_eq_true rfl) (fun _ => rfl) (fun v33 e => ?_)
  replace hF := vl_to e hF; clear e
  refine g_goto (Y := YX1_pass) (pc := 42) (tgt := 12) dX1_pass_42 rfl ?_
  refine g_loc [1, 2, 0] rfl ?_
  exact hK12 _ _ hF
def f_X1_pass_12 (s1 : Nat) : Nat → Int32 → Mem → Option (Int32 × Mem)
  | 0, _, _ => none
  | n + 1, x2, M =>
    if x2 < (M 3 2) then
      gd (0 ≤ x2 ∧ x2.toNatClampNeg < 6) <|
      if 0 < (M (s1 + 2) x2.toNatClampNeg) then
        gd (0 ≤ x2 ∧ x2.toNatClampNeg < 6) <|
        gd (0 ≤ x2 ∧ x2.toNatClampNeg < 6) <|
        ml (up M (s1 + 2) x2.toNatClampNeg ((M (s1 + 2) x2.toNatClampNeg) - 1)) fun M36 =>
        f_X1_pass_39 (f_X1_pass_12 s1 n) s1 x2 M36
      else
        f_X1_pass_39 (f_X1_pass_12 s1 n) s1 x2 M
    else
      f_X1_pass_47 s1 FU 0 M
set_option maxRecDepth 100000 in
theorem w_X1_pass_12 {R : Int32} {M' : Mem} {s1 : Nat} (hs1 : isSt s1) : ∀ (n : Nat) (x2 : Int32) (M : Mem), f_X1_pass_12 s1 n x2 M = some (R, M') → RunF l D cy ad none YX1_pass 1 0 0 none (lay X M') 0 0 12 [(0, .ref 3), (1, .ref s1), (2, .int x2)] [] (lay X M) := by
  intro n
  induction n with
  | zero => intro x2 M hF; exact absurd hF (by unfold f_X1_pass_12; exact fun h => nomatch h)
  | succ n ih =>
    intro x2 M hF
    unfold f_X1_pass_12 at hF
    refine g_iload_n (Y := YX1_pass) (pc := 12) 2 dX1_pass_12 rfl ?_
    refine g_aload_n (Y := YX1_pass) (pc := 13) 0 dX1_pass_13 rfl ?_
    refine u_getI (Y := YX1_pass) (pc := 14) dX1_pass_14 fl_X1_18 k_3 ?_
    refine g_icmp_ge (Y := YX1_pass) (pc := 17) (tgt := 45) dX1_pass_17 rfl (fun c3 => ?_) (fun c3 => ?_)
    · replace hF := if_f c3 hF
      refine g_iconst (Y := YX1_pass) (pc := 45) dX1_pass_45 kI_0 ?_
      refine g_istore_n (Y := YX1_pass) (pc := 46) (L' := [(2, .int 0), (0, .ref 3), (1, .ref s1)]) dX1_pass_46 (Nat.le_of_ble_eq_true rfl) rfl ?_
      refine g_loc [1, 2, 0] rfl ?_
      exact w_X1_pass_47 hs1 _ _ _ hF
    · replace hF := if_t c3 hF
      refine g_aload_n (Y := YX1_pass) (pc := 20) 1 dX1_pass_20 rfl ?_
      refine u_getR (Y := YX1_pass) (pc := 21) (j := (s1 + 2)) dX1_pass_21 fl_X1_91 (st_k hs1) (st_r5 hs1) ?_
      refine g_iload_n (Y := YX1_pass) (pc := 24) 2 dX1_pass_24 rfl ?_
      obtain ⟨g31, hF⟩ := gd_some hF
      refine s_iald (Y := YX1_pass) (pc := 25) dX1_pass_25 (st_k2 hs1) (st_n2 hs1) g31 ?_
      refine g_if_le (Y := YX1_pass) (pc := 26) (tgt := 39) dX1_pass_26 rfl (fun c32 => ?_) (fun c32 => ?_)
      · replace hF := if_f c32 hF
        exact w_X1_pass_39 hs1 ih _ _ hF
      · replace hF := if_t c32 hF
        refine g_aload_n (Y := YX1_pass) (pc := 29) 1 dX1_pass_29 rfl ?_
        refine u_getR (Y := YX1_pass) (pc := 30) (j := (s1 + 2)) dX1_pass_30 fl_X1_91 (st_k hs1) (st_r5 hs1) ?_
        refine g_iload_n (Y := YX1_pass) (pc := 33) 2 dX1_pass_33 rfl ?_
        refine g_dup2 (Y := YX1_pass) (pc := 34) dX1_pass_34 rfl rfl ?_
        obtain ⟨g34, hF⟩ := gd_some hF
        refine s_iald (Y := YX1_pass) (pc := 35) dX1_pass_35 (st_k2 hs1) (st_n2 hs1) g34 ?_
        refine g_iconst (Y := YX1_pass) (pc := 36) dX1_pass_36 kI_1 ?_
        refine g_isub (Y := YX1_pass) (pc := 37) dX1_pass_37 ?_
        obtain ⟨g35, hF⟩ := gd_some hF
        refine s_iast (Y := YX1_pass) (pc := 38) dX1_pass_38 (st_k2 hs1) (st_n2 hs1) g35 ?_
        refine g_nmM (fun M36 e => ?_)
        replace hF := ml_to e hF; clear e
        exact w_X1_pass_39 hs1 ih _ _ hF
def f_X1_pass_0 (s1 : Nat) (M : Mem) : Option (Int32 × Mem) :=
  ml (up M s1 2 0) fun M1 =>
  ml (up M1 s1 3 0) fun M2 =>
  f_X1_pass_12 s1 FU 0 M2
set_option maxRecDepth 100000 in
theorem w_X1_pass_0 {R : Int32} {M' : Mem} {s1 : Nat} (hs1 : isSt s1) (M : Mem) (hF : f_X1_pass_0 s1  M = some (R, M')) : RunF l D cy ad none YX1_pass 1 0 0 none (lay X M') 0 0 0 [(0, .ref 3), (1, .ref s1)] [] (lay X M) := by
  unfold f_X1_pass_0 at hF
  refine g_aload_n (Y := YX1_pass) (pc := 0) 1 dX1_pass_0 rfl ?_
  refine g_iconst (Y := YX1_pass) (pc := 1) dX1_pass_1 kI_0 ?_
  refine u_putI (Y := YX1_pass) (pc := 2) dX1_pass_2 fl_X1_97  (st_k hs1) ?_
  refine g_nmM (fun M1 e => ?_)
  replace hF := ml_to e hF; clear e
  refine g_aload_n (Y := YX1_pass) (pc := 5) 1 dX1_pass_5 rfl ?_
  refine g_iconst (Y := YX1_pass) (pc := 6) dX1_pass_6 kI_0 ?_
  refine u_putI (Y := YX1_pass) (pc := 7) dX1_pass_7 fl_X1_100  (st_k hs1) ?_
  refine g_nmM (fun M2 e => ?_)
  replace hF := ml_to e hF; clear e
  refine g_iconst (Y := YX1_pass) (pc := 10) dX1_pass_10 kI_0 ?_
  refine g_istore_n (Y := YX1_pass) (pc := 11) (L' := [(2, .int 0), (0, .ref 3), (1, .ref s1)]) dX1_pass_11 (Nat.le_of_ble_eq_true rfl) rfl ?_
  refine g_loc [1, 2, 0] rfl ?_
  exact w_X1_pass_12 hs1 _ _ _ hF
def f_X1_pass (s1 : Nat) (M : Mem) : Option (Int32 × Mem) := f_X1_pass_0 s1 M
theorem r_X1_pass {s1 : Nat} {R : Int32} {M M' : Mem} (hs1 : isSt s1) (hF : f_X1_pass s1 M = some (R, M')) : RunS l D cy ad YX1_pass 1 [.ref 3, .ref s1] X M none M' := Run.of 1 (miX1_pass).1 (Nat.le_of_ble_eq_true rfl) (w_X1_pass_0 hs1 _ hF)
def f_X10_clearRow_0  (M : Mem) : Option (Int32 × Mem) :=
  ml (up M 0 16 0) fun M1 =>
  some (0, M1)
set_option maxRecDepth 100000 in
theorem w_X10_clearRow_0 {R : Int32} {M' : Mem}  (M : Mem) (hF : f_X10_clearRow_0  M = some (R, M')) : RunF l D cy ad none YX10_clearRow 0 0 0 none (lay X M') 0 0 0 [(0, .ref 0)] [] (lay X M) := by
  unfold f_X10_clearRow_0 at hF
  refine g_aload_n (Y := YX10_clearRow) (pc := 0) 0 dX10_clearRow_0 rfl ?_
  refine g_iconst (Y := YX10_clearRow) (pc := 1) dX10_clearRow_1 kI_0 ?_
  refine u_putI (Y := YX10_clearRow) (pc := 2) dX10_clearRow_2 fl_X10_101  k_0 ?_
  refine g_nmM (fun M1 e => ?_)
  replace hF := ml_to e hF; clear e
  exact s_vret (Y := YX10_clearRow) (pc := 5) dX10_clearRow_5 rfl hF
def f_X10_clearRow (M : Mem) : Option (Int32 × Mem) := f_X10_clearRow_0 M
theorem r_X10_clearRow {R : Int32} {M M' : Mem}  (hF : f_X10_clearRow  M = some (R, M')) : RunS l D cy ad YX10_clearRow 0 [.ref 0] X M none M' := Run.of 0 (miX10_clearRow).1 (Nat.le_of_ble_eq_true rfl) (w_X10_clearRow_0  _ hF)
def f_X10_tell_29  (M : Mem) : Option (Int32 × Mem) :=
  some (0, M)
set_option maxRecDepth 100000 in
theorem w_X10_tell_29 {R : Int32} {M' : Mem}  (M : Mem) (hF : f_X10_tell_29  M = some (R, M')) : RunF l D cy ad none YX10_tell 0 0 0 none (lay X M') 0 0 29 [] [] (lay X M) := by
  unfold f_X10_tell_29 at hF
  exact s_vret (Y := YX10_tell) (pc := 29) dX10_tell_29 rfl hF
def f_X10_tell_0  (x1 : Int32) (M : Mem) : Option (Int32 × Mem) :=
  if (M 0 16) < 12 then
    gd (0 ≤ (M 0 16) ∧ (M 0 16).toNatClampNeg < 12) <|
    ml (up M 173 (M 0 16).toNatClampNeg x1) fun M3 =>
    ml (up M3 0 16 ((M3 0 16) + 1)) fun M4 =>
    f_X10_tell_29 M4
  else
    f_X10_tell_29 M
set_option maxRecDepth 100000 in
theorem w_X10_tell_0 {R : Int32} {M' : Mem}  (x1 : Int32) (M : Mem) (hF : f_X10_tell_0 x1 M = some (R, M')) : RunF l D cy ad none YX10_tell 0 0 0 none (lay X M') 0 0 0 [(0, .ref 0), (1, .int x1)] [] (lay X M) := by
  unfold f_X10_tell_0 at hF
  refine g_aload_n (Y := YX10_tell) (pc := 0) 0 dX10_tell_0 rfl ?_
  refine u_getI (Y := YX10_tell) (pc := 1) dX10_tell_1 fl_X10_101 k_0 ?_
  refine g_bipush (Y := YX10_tell) (pc := 4) dX10_tell_4 kB_12 ?_
  refine g_icmp_ge (Y := YX10_tell) (pc := 6) (tgt := 29) dX10_tell_6 rfl (fun c1 => ?_) (fun c1 => ?_)
  · replace hF := if_f c1 hF
    refine g_loc [] rfl ?_
    exact w_X10_tell_29  _ hF
  · replace hF := if_t c1 hF
    refine g_aload_n (Y := YX10_tell) (pc := 9) 0 dX10_tell_9 rfl ?_
    refine u_getR (Y := YX10_tell) (pc := 10) (j := 173) dX10_tell_10 fl_X10_98 k_0 rf_0_15 ?_
    refine g_aload_n (Y := YX10_tell) (pc := 13) 0 dX10_tell_13 rfl ?_
    refine u_getI (Y := YX10_tell) (pc := 14) dX10_tell_14 fl_X10_101 k_0 ?_
    refine g_iload_n (Y := YX10_tell) (pc := 17) 1 dX10_tell_17 rfl ?_
    obtain ⟨g2, hF⟩ := gd_some hF
    refine s_iast (Y := YX10_tell) (pc := 18) dX10_tell_18 k_173 n_173 g2 ?_
    refine g_nmM (fun M3 e => ?_)
    replace hF := ml_to e hF; clear e
    refine g_aload_n (Y := YX10_tell) (pc := 19) 0 dX10_tell_19 rfl ?_
    refine g_dup (Y := YX10_tell) (pc := 20) dX10_tell_20 rfl ?_
    refine u_getI (Y := YX10_tell) (pc := 21) dX10_tell_21 fl_X10_101 k_0 ?_
    refine g_iconst (Y := YX10_tell) (pc := 24) dX10_tell_24 kI_1 ?_
    refine g_iadd (Y := YX10_tell) (pc := 25) dX10_tell_25 ?_
    refine u_putI (Y := YX10_tell) (pc := 26) dX10_tell_26 fl_X10_101  k_0 ?_
    refine g_nmM (fun M4 e => ?_)
    replace hF := ml_to e hF; clear e
    refine g_loc [] rfl ?_
    exact w_X10_tell_29  _ hF
def f_X10_tell (x1 : Int32) (M : Mem) : Option (Int32 × Mem) := f_X10_tell_0 x1 M
theorem r_X10_tell {x1 R : Int32} {M M' : Mem}  (hF : f_X10_tell x1 M = some (R, M')) : RunS l D cy ad YX10_tell 0 [.ref 0, .int x1] X M none M' := Run.of 1 (miX10_tell).1 (Nat.le_of_ble_eq_true rfl) (w_X10_tell_0  _ _ hF)
def f_X10_minute_0  (M : Mem) : Option (Int32 × Mem) :=
  bd (f_X6_add 26 M) fun _ M2 =>
  bd (f_X7_bitsThrough 26 M2) fun r4 M5 =>
  bd (f_X1_pass 26 M5) fun _ M8 =>
  bd (f_X10_clearRow M8) fun _ M11 =>
  bd (f_X10_tell (M11 26 2) M11) fun _ M14 =>
  bd (f_X10_tell (M14 26 3) M14) fun _ M17 =>
  bd (f_X7_bitsThrough 26 M17) fun r19 M20 =>
  bd (f_J6_bitCount_0f7a4 (r19 &&& (r4 ^^^ (-1))) M20) fun r22 M23 =>
  some (r22, M23)
set_option maxRecDepth 100000 in
theorem w_X10_minute_0 {R : Int32} {M' : Mem}  (M : Mem) (hF : f_X10_minute_0  M = some (R, M')) : RunF l D cy ad none YX10_minute 3 0 0 (some (.int R)) (lay X M') 0 0 0 [(0, .ref 0)] [] (lay X M) := by
  unfold f_X10_minute_0 at hF
  refine g_aload_n (Y := YX10_minute) (pc := 0) 0 dX10_minute_0 rfl ?_
  refine u_getR (Y := YX10_minute) (pc := 1) (j := 46) dX10_minute_1 fl_X10_51 k_0 rf_0_7 ?_
  refine g_aload_n (Y := YX10_minute) (pc := 4) 0 dX10_minute_4 rfl ?_
  refine u_getR (Y := YX10_minute) (pc := 5) (j := 26) dX10_minute_5 fl_X10_35 k_0 rf_0_3 ?_
  obtain ⟨r1, M2, e3, hF⟩ := bd_some hF
  refine s_callVv (Y := YX10_minute) (pc := 8) (as := [.ref 26]) (st := []) (r_X6_add isSt_26 e3) miX6_add lk_X10_215 dX10_minute_8 k_46 rfl (Nat.le_of_ble_eq_true rfl) (Nat.le_of_ble_eq_true rfl) rfl ?_
  clear e3
  refine g_aload_n (Y := YX10_minute) (pc := 11) 0 dX10_minute_11 rfl ?_
  refine u_getR (Y := YX10_minute) (pc := 12) (j := 26) dX10_minute_12 fl_X10_35 k_0 rf_0_3 ?_
  obtain ⟨r4, M5, e6, hF⟩ := bd_some hF
  refine s_callVi (Y := YX10_minute) (pc := 15) (as := []) (st := []) (r_X7_bitsThrough isSt_26 e6) miX7_bitsThrough lk_X10_240 dX10_minute_15 k_26 rfl (Nat.le_of_ble_eq_true rfl) (Nat.le_of_ble_eq_true rfl) rfl ?_
  clear e6
  refine g_istore_n (Y := YX10_minute) (pc := 18) (L' := [(1, .int r4), (0, .ref 0)]) dX10_minute_18 (Nat.le_of_ble_eq_true rfl) rfl ?_
  refine g_aload_n (Y := YX10_minute) (pc := 19) 1 dX10_minute_19 rfl ?_
  refine u_getR (Y := YX10_minute) (pc := 20) (j := 3) dX10_minute_20 fl_X10_19 k_0 rf_0_1 ?_
  refine g_aload_n (Y := YX10_minute) (pc := 23) 1 dX10_minute_23 rfl ?_
  refine u_getR (Y := YX10_minute) (pc := 24) (j := 26) dX10_minute_24 fl_X10_35 k_0 rf_0_3 ?_
  obtain ⟨r7, M8, e9, hF⟩ := bd_some hF
  refine s_callVv (Y := YX10_minute) (pc := 27) (as := [.ref 26]) (st := []) (r_X1_pass isSt_26 e9) miX1_pass lk_X10_243 dX10_minute_27 k_3 rfl (Nat.le_of_ble_eq_true rfl) (Nat.le_of_ble_eq_true rfl) rfl ?_
  clear e9
  refine g_aload_n (Y := YX10_minute) (pc := 30) 1 dX10_minute_30 rfl ?_
  obtain ⟨r10, M11, e12, hF⟩ := bd_some hF
  refine s_callVv (Y := YX10_minute) (pc := 31) (as := []) (st := []) (r_X10_clearRow  e12) miX10_clearRow lk_X10_246 dX10_minute_31 k_0 rfl (Nat.le_of_ble_eq_true rfl) (Nat.le_of_ble_eq_true rfl) rfl ?_
  clear e12
  refine g_aload_n (Y := YX10_minute) (pc := 34) 1 dX10_minute_34 rfl ?_
  refine g_aload_n (Y := YX10_minute) (pc := 35) 1 dX10_minute_35 rfl ?_
  refine u_getR (Y := YX10_minute) (pc := 36) (j := 26) dX10_minute_36 fl_X10_35 k_0 rf_0_3 ?_
  refine u_getI (Y := YX10_minute) (pc := 39) dX10_minute_39 fl_X10_249 k_26 ?_
  obtain ⟨r13, M14, e15, hF⟩ := bd_some hF
  refine s_callVv (Y := YX10_minute) (pc := 42) (as := [.int (M11 26 2)]) (st := []) (r_X10_tell  e15) miX10_tell lk_X10_252 dX10_minute_42 k_0 rfl (Nat.le_of_ble_eq_true rfl) (Nat.le_of_ble_eq_true rfl) rfl ?_
  clear e15
  refine g_aload_n (Y := YX10_minute) (pc := 45) 1 dX10_minute_45 rfl ?_
  refine g_aload_n (Y := YX10_minute) (pc := 46) 1 dX10_minute_46 rfl ?_
  refine u_getR (Y := YX10_minute) (pc := 47) (j := 26) dX10_minute_47 fl_X10_35 k_0 rf_0_3 ?_
  refine u_getI (Y := YX10_minute) (pc := 50) dX10_minute_50 fl_X10_256 k_26 ?_
  obtain ⟨r16, M17, e18, hF⟩ := bd_some hF
  refine s_callVv (Y := YX10_minute) (pc := 53) (as := [.int (M14 26 3)]) (st := []) (r_X10_tell  e18) miX10_tell lk_X10_252 dX10_minute_53 k_0 rfl (Nat.le_of_ble_eq_true rfl) (Nat.le_of_ble_eq_true rfl) rfl ?_
  clear e18
  refine g_aload_n (Y := YX10_minute) (pc := 56) 1 dX10_minute_56 rfl ?_
  refine u_getR (Y := YX10_minute) (pc := 57) (j := 26) dX10_minute_57 fl_X10_35 k_0 rf_0_3 ?_
  obtain ⟨r19, M20, e21, hF⟩ := bd_some hF
  refine s_callVi (Y := YX10_minute) (pc := 60) (as := []) (st := []) (r_X7_bitsThrough isSt_26 e21) miX7_bitsThrough lk_X10_240 dX10_minute_60 k_26 rfl (Nat.le_of_ble_eq_true rfl) (Nat.le_of_ble_eq_true rfl) rfl ?_
  clear e21
  refine g_iload_n (Y := YX10_minute) (pc := 63) 0 dX10_minute_63 rfl ?_
  refine g_iconst (Y := YX10_minute) (pc := 64) dX10_minute_64 kI_m1 ?_
  refine g_ixor (Y := YX10_minute) (pc := 65) dX10_minute_65 ?_
  refine g_iand (Y := YX10_minute) (pc := 66) dX10_minute_66 ?_
  obtain ⟨r22, M23, e24, hF⟩ := bd_some hF
  refine s_callSi (Y := YX10_minute) (pc := 67) (as := [.int (r19 &&& (r4 ^^^ (-1)))]) (st := []) (r_J6_bitCount_0f7a4  e24) msJ6_bitCount_0f7a4 lk_X10_225 dX10_minute_67 rfl (Nat.le_of_ble_eq_true rfl) (Nat.le_of_ble_eq_true rfl) rfl ?_
  clear e24
  exact s_iret (Y := YX10_minute) (pc := 70) dX10_minute_70 rfl hF
def f_X10_minute (M : Mem) : Option (Int32 × Mem) := f_X10_minute_0 M
theorem r_X10_minute {R : Int32} {M M' : Mem}  (hF : f_X10_minute  M = some (R, M')) : RunS l D cy ad YX10_minute 3 [.ref 0] X M (some (.int R)) M' := Run.of 0 (miX10_minute).1 (Nat.le_of_ble_eq_true rfl) (w_X10_minute_0  _ hF)
def f_X7_waitedBy_27 (K4 : Int32 → Int32 → Int32 → Mem → Option (Int32 × Mem)) (s : Nat) (x1 : Int32) (x2 : Int32) (x3 : Int32) (M : Mem) : Option (Int32 × Mem) :=
  vl (x3 + 1) fun v6 =>
  K4 x1 x2 v6 M
set_option maxRecDepth 100000 in
theorem w_X7_waitedBy_27 {R : Int32} {M' : Mem} {s : Nat} {K4 : Int32 → Int32 → Int32 → Mem → Option (Int32 × Mem)} (hs : isSt s) (hK4 : ∀ (x1 x2 x3 : Int32) (M : Mem), K4 x1 x2 x3 M = some (R, M') → RunF l D cy ad none YX7_waitedBy 1 0 0 (some (.int R)) (lay X M') 0 0 4 [(0, .ref s), (1, .int x1), (2, .int x2), (3, .int x3)] [] (lay X M)) (x1 x2 x3 : Int32) (M : Mem) (hF : f_X7_waitedBy_27 K4 s x1 x2 x3 M = some (R, M')) : RunF l D cy ad none YX7_waitedBy 1 0 0 (some (.int R)) (lay X M') 0 0 27 [(0, .ref s), (1, .int x1), (2, .int x2), (3, .int x3)] [] (lay X M) := by
  unfold f_X7_waitedBy_27 at hF
  refine s_iinc (Y := YX7_waitedBy) (pc := 27) (j := 3) (L' := fun y => [(3, .int y), (0, .ref s), (1, .int x1), (2, .int x2)]) dX7_waitedBy_27 kI_1 rfl (Nat.le_of_ble_eq_true rfl) (fun _ => rfl) (fun v6 e => ?_)
  replace hF := vl_to e hF; clear e
  refine g_goto (Y := YX7_waitedBy) (pc := 30) (tgt := 4) dX7_waitedBy_30 rfl ?_
  refine g_loc [1, 2, 3, 0] rfl ?_
  exact hK4 _ _ _ _ hF
def f_X7_waitedBy_4 (s : Nat) : Nat → Int32 → Int32 → Int32 → Mem → Option (Int32 × Mem)
  | 0, _, _, _, _ => none
  | n + 1, x1, x2, x3, M =>
    if x3 < 6 then
      bd (f_X10_has x1 x3 M) fun r2 M3 =>
      if r2 = 0 then
        f_X7_waitedBy_27 (f_X7_waitedBy_4 s n) s x1 x2 x3 M3
      else
        gd (0 ≤ x3 ∧ x3.toNatClampNeg < 6) <|
        vl ((x2 + (M3 (s + 3) x3.toNatClampNeg))) fun v8 =>
        f_X7_waitedBy_27 (f_X7_waitedBy_4 s n) s x1 v8 x3 M3
    else
      some (x2, M)
set_option maxRecDepth 100000 in
theorem w_X7_waitedBy_4 {R : Int32} {M' : Mem} {s : Nat} (hs : isSt s) : ∀ (n : Nat) (x1 x2 x3 : Int32) (M : Mem), f_X7_waitedBy_4 s n x1 x2 x3 M = some (R, M') → RunF l D cy ad none YX7_waitedBy 1 0 0 (some (.int R)) (lay X M') 0 0 4 [(0, .ref s), (1, .int x1), (2, .int x2), (3, .int x3)] [] (lay X M) := by
  intro n
  induction n with
  | zero => intro x1 x2 x3 M hF; exact absurd hF (by unfold f_X7_waitedBy_4; exact fun h => nomatch h)
  | succ n ih =>
    intro x1 x2 x3 M hF
    unfold f_X7_waitedBy_4 at hF
    refine g_iload_n (Y := YX7_waitedBy) (pc := 4) 3 dX7_waitedBy_4 rfl ?_
    refine g_bipush (Y := YX7_waitedBy) (pc := 5) dX7_waitedBy_5 kB_6 ?_
    refine g_icmp_ge (Y := YX7_waitedBy) (pc := 7) (tgt := 33) dX7_waitedBy_7 rfl (fun c1 => ?_) (fun c1 => ?_)
    · replace hF := if_f c1 hF
      refine g_iload_n (Y := YX7_waitedBy) (pc := 33) 2 dX7_waitedBy_33 rfl ?_
      exact s_iret (Y := YX7_waitedBy) (pc := 34) dX7_waitedBy_34 rfl hF
    · replace hF := if_t c1 hF
      refine g_iload_n (Y := YX7_waitedBy) (pc := 10) 1 dX7_waitedBy_10 rfl ?_
      refine g_iload_n (Y := YX7_waitedBy) (pc := 11) 3 dX7_waitedBy_11 rfl ?_
      obtain ⟨r2, M3, e4, hF⟩ := bd_some hF
      refine s_callNi (Y := YX7_waitedBy) (pc := 12) (as := [.int x1, .int x3]) (st := []) (r_X10_has  e4) msX10_has nw_X7 dX7_waitedBy_12 rfl (Nat.le_of_ble_eq_true rfl) (Nat.le_of_ble_eq_true rfl) rfl ?_
      clear e4
      refine g_if_eq (Y := YX7_waitedBy) (pc := 15) (tgt := 27) dX7_waitedBy_15 rfl (fun c5 => ?_) (fun c5 => ?_)
      · replace hF := if_t c5 hF
        exact w_X7_waitedBy_27 hs ih _ _ _ _ hF
      · replace hF := if_f c5 hF
        refine g_iload_n (Y := YX7_waitedBy) (pc := 18) 2 dX7_waitedBy_18 rfl ?_
        refine g_aload_n (Y := YX7_waitedBy) (pc := 19) 0 dX7_waitedBy_19 rfl ?_
        refine u_getR (Y := YX7_waitedBy) (pc := 20) (j := (s + 3)) dX7_waitedBy_20 fl_X7_18 (st_k hs) (st_r6 hs) ?_
        refine g_iload_n (Y := YX7_waitedBy) (pc := 23) 3 dX7_waitedBy_23 rfl ?_
        obtain ⟨g7, hF⟩ := gd_some hF
        refine s_iald (Y := YX7_waitedBy) (pc := 24) dX7_waitedBy_24 (st_k3 hs) (st_n3 hs) g7 ?_
        refine g_iadd (Y := YX7_waitedBy) (pc := 25) dX7_waitedBy_25 ?_
        refine g_nm (fun v8 e => ?_)
        replace hF := vl_to e hF; clear e
        refine g_istore_n (Y := YX7_waitedBy) (pc := 26) (L' := [(2, .int v8), (0, .ref s), (1, .int x1), (3, .int x3)]) dX7_waitedBy_26 (Nat.le_of_ble_eq_true rfl) rfl ?_
        refine g_loc [1, 2, 0, 3] rfl ?_
        exact w_X7_waitedBy_27 hs ih _ _ _ _ hF
def f_X7_waitedBy_0 (s : Nat) (x1 : Int32) (M : Mem) : Option (Int32 × Mem) :=
  f_X7_waitedBy_4 s FU x1 0 0 M
set_option maxRecDepth 100000 in
theorem w_X7_waitedBy_0 {R : Int32} {M' : Mem} {s : Nat} (hs : isSt s) (x1 : Int32) (M : Mem) (hF : f_X7_waitedBy_0 s x1 M = some (R, M')) : RunF l D cy ad none YX7_waitedBy 1 0 0 (some (.int R)) (lay X M') 0 0 0 [(0, .ref s), (1, .int x1)] [] (lay X M) := by
  unfold f_X7_waitedBy_0 at hF
  refine g_iconst (Y := YX7_waitedBy) (pc := 0) dX7_waitedBy_0 kI_0 ?_
  refine g_istore_n (Y := YX7_waitedBy) (pc := 1) (L' := [(2, .int 0), (0, .ref s), (1, .int x1)]) dX7_waitedBy_1 (Nat.le_of_ble_eq_true rfl) rfl ?_
  refine g_iconst (Y := YX7_waitedBy) (pc := 2) dX7_waitedBy_2 kI_0 ?_
  refine g_istore_n (Y := YX7_waitedBy) (pc := 3) (L' := [(3, .int 0), (2, .int 0), (0, .ref s), (1, .int x1)]) dX7_waitedBy_3 (Nat.le_of_ble_eq_true rfl) rfl ?_
  refine g_loc [2, 3, 1, 0] rfl ?_
  exact w_X7_waitedBy_4 hs _ _ _ _ _ hF
def f_X7_waitedBy (s : Nat) (x1 : Int32) (M : Mem) : Option (Int32 × Mem) := f_X7_waitedBy_0 s x1 M
theorem r_X7_waitedBy {s : Nat} {x1 R : Int32} {M M' : Mem} (hs : isSt s) (hF : f_X7_waitedBy s x1 M = some (R, M')) : RunS l D cy ad YX7_waitedBy 1 [.ref s, .int x1] X M (some (.int R)) M' := Run.of 1 (miX7_waitedBy).1 (Nat.le_of_ble_eq_true rfl) (w_X7_waitedBy_0 hs _ _ hF)
def f_X1_quietMinutes_49 (K16 : Int32 → Int32 → Mem → Option (Int32 × Mem)) (s1 : Nat) (x3 : Int32) (x4 : Int32) (M : Mem) : Option (Int32 × Mem) :=
  vl (x4 + 1) fun v8 =>
  K16 x3 v8 M
set_option maxRecDepth 100000 in
theorem w_X1_quietMinutes_49 {R : Int32} {M' : Mem} {s1 : Nat} {K16 : Int32 → Int32 → Mem → Option (Int32 × Mem)} (hs1 : isSt s1) (hK16 : ∀ (x3 x4 : Int32) (M : Mem), K16 x3 x4 M = some (R, M') → RunF l D cy ad none YX1_quietMinutes 1 0 0 (some (.int R)) (lay X M') 0 0 16 [(0, .ref 3), (1, .ref s1), (3, .int x3), (4, .int x4)] [] (lay X M)) (x3 x4 : Int32) (M : Mem) (hF : f_X1_quietMinutes_49 K16 s1 x3 x4 M = some (R, M')) : RunF l D cy ad none YX1_quietMinutes 1 0 0 (some (.int R)) (lay X M') 0 0 49 [(0, .ref 3), (1, .ref s1), (3, .int x3), (4, .int x4)] [] (lay X M) := by
  unfold f_X1_quietMinutes_49 at hF
  refine s_iinc (Y := YX1_quietMinutes) (pc := 49) (j := 3) (L' := fun y => [(4, .int y), (0, .ref 3), (1, .ref s1), (3, .int x3)]) dX1_quietMinutes_49 kI_1 rfl (Nat.le_of_ble_eq_true rfl) (fun _ => rfl) (fun v8 e => ?_)
  replace hF := vl_to e hF; clear e
  refine g_goto (Y := YX1_quietMinutes) (pc := 52) (tgt := 16) dX1_quietMinutes_52 rfl ?_
  refine g_loc [1, 2, 3, 0] rfl ?_
  exact hK16 _ _ _ hF
def f_X1_quietMinutes_16 (s1 : Nat) : Nat → Int32 → Int32 → Mem → Option (Int32 × Mem)
  | 0, _, _, _ => none
  | n + 1, x3, x4, M =>
    if x4 < (M 3 2) then
      gd (0 ≤ x4 ∧ x4.toNatClampNeg < 6) <|
      if 0 < (M (s1 + 2) x4.toNatClampNeg) then
        gd (0 ≤ x4 ∧ x4.toNatClampNeg < 6) <|
        vl ((if ((M (s1 + 2) x4.toNatClampNeg) - 1) < x3 then ((M (s1 + 2) x4.toNatClampNeg) - 1) else x3)) fun v10 =>
        f_X1_quietMinutes_49 (f_X1_quietMinutes_16 s1 n) s1 v10 x4 M
      else
        f_X1_quietMinutes_49 (f_X1_quietMinutes_16 s1 n) s1 x3 x4 M
    else
      some (x3, M)
set_option maxRecDepth 100000 in
theorem w_X1_quietMinutes_16 {R : Int32} {M' : Mem} {s1 : Nat} (hs1 : isSt s1) : ∀ (n : Nat) (x3 x4 : Int32) (M : Mem), f_X1_quietMinutes_16 s1 n x3 x4 M = some (R, M') → RunF l D cy ad none YX1_quietMinutes 1 0 0 (some (.int R)) (lay X M') 0 0 16 [(0, .ref 3), (1, .ref s1), (3, .int x3), (4, .int x4)] [] (lay X M) := by
  intro n
  induction n with
  | zero => intro x3 x4 M hF; exact absurd hF (by unfold f_X1_quietMinutes_16; exact fun h => nomatch h)
  | succ n ih =>
    intro x3 x4 M hF
    unfold f_X1_quietMinutes_16 at hF
    refine g_iload (Y := YX1_quietMinutes) (pc := 16) 3 dX1_quietMinutes_16 rfl ?_
    refine g_aload_n (Y := YX1_quietMinutes) (pc := 18) 0 dX1_quietMinutes_18 rfl ?_
    refine u_getI (Y := YX1_quietMinutes) (pc := 19) dX1_quietMinutes_19 fl_X1_18 k_3 ?_
    refine g_icmp_ge (Y := YX1_quietMinutes) (pc := 22) (tgt := 55) dX1_quietMinutes_22 rfl (fun c5 => ?_) (fun c5 => ?_)
    · replace hF := if_f c5 hF
      refine g_iload_n (Y := YX1_quietMinutes) (pc := 55) 2 dX1_quietMinutes_55 rfl ?_
      exact s_iret (Y := YX1_quietMinutes) (pc := 56) dX1_quietMinutes_56 rfl hF
    · replace hF := if_t c5 hF
      refine g_aload_n (Y := YX1_quietMinutes) (pc := 25) 1 dX1_quietMinutes_25 rfl ?_
      refine u_getR (Y := YX1_quietMinutes) (pc := 26) (j := (s1 + 2)) dX1_quietMinutes_26 fl_X1_91 (st_k hs1) (st_r5 hs1) ?_
      refine g_iload (Y := YX1_quietMinutes) (pc := 29) 3 dX1_quietMinutes_29 rfl ?_
      obtain ⟨g6, hF⟩ := gd_some hF
      refine s_iald (Y := YX1_quietMinutes) (pc := 31) dX1_quietMinutes_31 (st_k2 hs1) (st_n2 hs1) g6 ?_
      refine g_if_le (Y := YX1_quietMinutes) (pc := 32) (tgt := 49) dX1_quietMinutes_32 rfl (fun c7 => ?_) (fun c7 => ?_)
      · replace hF := if_f c7 hF
        exact w_X1_quietMinutes_49 hs1 ih _ _ _ hF
      · replace hF := if_t c7 hF
        refine g_iload_n (Y := YX1_quietMinutes) (pc := 35) 2 dX1_quietMinutes_35 rfl ?_
        refine g_aload_n (Y := YX1_quietMinutes) (pc := 36) 1 dX1_quietMinutes_36 rfl ?_
        refine u_getR (Y := YX1_quietMinutes) (pc := 37) (j := (s1 + 2)) dX1_quietMinutes_37 fl_X1_91 (st_k hs1) (st_r5 hs1) ?_
        refine g_iload (Y := YX1_quietMinutes) (pc := 40) 3 dX1_quietMinutes_40 rfl ?_
        obtain ⟨g9, hF⟩ := gd_some hF
        refine s_iald (Y := YX1_quietMinutes) (pc := 42) dX1_quietMinutes_42 (st_k2 hs1) (st_n2 hs1) g9 ?_
        refine g_iconst (Y := YX1_quietMinutes) (pc := 43) dX1_quietMinutes_43 kI_1 ?_
        refine g_isub (Y := YX1_quietMinutes) (pc := 44) dX1_quietMinutes_44 ?_
        refine s_min (Y := YX1_quietMinutes) (pc := 45) dX1_quietMinutes_45 lk_X1_56 w_min (Nat.le_of_ble_eq_true rfl) (Nat.le_of_ble_eq_true rfl) ?_
        refine g_nm (fun v10 e => ?_)
        replace hF := vl_to e hF; clear e
        refine g_istore_n (Y := YX1_quietMinutes) (pc := 48) (L' := [(3, .int v10), (0, .ref 3), (1, .ref s1), (4, .int x4)]) dX1_quietMinutes_48 (Nat.le_of_ble_eq_true rfl) rfl ?_
        refine g_loc [1, 2, 0, 3] rfl ?_
        exact w_X1_quietMinutes_49 hs1 ih _ _ _ hF
def f_X1_quietMinutes_0 (s1 : Nat) (x2 : Int32) (M : Mem) : Option (Int32 × Mem) :=
  bd (f_X1_firstThatCan s1 M) fun r1 M2 =>
  if r1 = (-1) then
    f_X1_quietMinutes_16 s1 FU x2 0 M2
  else
    some (0, M2)
set_option maxRecDepth 100000 in
theorem w_X1_quietMinutes_0 {R : Int32} {M' : Mem} {s1 : Nat} (hs1 : isSt s1) (x2 : Int32) (M : Mem) (hF : f_X1_quietMinutes_0 s1 x2 M = some (R, M')) : RunF l D cy ad none YX1_quietMinutes 1 0 0 (some (.int R)) (lay X M') 0 0 0 [(0, .ref 3), (1, .ref s1), (2, .int x2)] [] (lay X M) := by
  unfold f_X1_quietMinutes_0 at hF
  refine g_aload_n (Y := YX1_quietMinutes) (pc := 0) 0 dX1_quietMinutes_0 rfl ?_
  refine g_aload_n (Y := YX1_quietMinutes) (pc := 1) 1 dX1_quietMinutes_1 rfl ?_
  obtain ⟨r1, M2, e3, hF⟩ := bd_some hF
  refine s_callVi (Y := YX1_quietMinutes) (pc := 2) (as := [.ref s1]) (st := []) (r_X1_firstThatCan hs1 e3) miX1_firstThatCan lk_X1_103 dX1_quietMinutes_2 k_3 rfl (Nat.le_of_ble_eq_true rfl) (Nat.le_of_ble_eq_true rfl) rfl ?_
  clear e3
  refine g_iconst (Y := YX1_quietMinutes) (pc := 5) dX1_quietMinutes_5 kI_m1 ?_
  refine g_icmp_eq (Y := YX1_quietMinutes) (pc := 6) (tgt := 11) dX1_quietMinutes_6 rfl (fun c4 => ?_) (fun c4 => ?_)
  · replace hF := if_t c4 hF
    refine g_iload_n (Y := YX1_quietMinutes) (pc := 11) 2 dX1_quietMinutes_11 rfl ?_
    refine g_istore_n (Y := YX1_quietMinutes) (pc := 12) (L' := [(3, .int x2), (0, .ref 3), (1, .ref s1), (2, .int x2)]) dX1_quietMinutes_12 (Nat.le_of_ble_eq_true rfl) rfl ?_
    refine g_iconst (Y := YX1_quietMinutes) (pc := 13) dX1_quietMinutes_13 kI_0 ?_
    refine g_istore (Y := YX1_quietMinutes) (pc := 14) (L' := [(4, .int 0), (3, .int x2), (0, .ref 3), (1, .ref s1), (2, .int x2)]) dX1_quietMinutes_14 (Nat.le_of_ble_eq_true rfl) rfl ?_
    refine g_loc [2, 3, 1, 0] rfl ?_
    exact w_X1_quietMinutes_16 hs1 _ _ _ _ hF
  · replace hF := if_f c4 hF
    refine g_iconst (Y := YX1_quietMinutes) (pc := 9) dX1_quietMinutes_9 kI_0 ?_
    exact s_iret (Y := YX1_quietMinutes) (pc := 10) dX1_quietMinutes_10 rfl hF
def f_X1_quietMinutes (s1 : Nat) (x2 : Int32) (M : Mem) : Option (Int32 × Mem) := f_X1_quietMinutes_0 s1 x2 M
theorem r_X1_quietMinutes {s1 : Nat} {x2 R : Int32} {M M' : Mem} (hs1 : isSt s1) (hF : f_X1_quietMinutes s1 x2 M = some (R, M')) : RunS l D cy ad YX1_quietMinutes 1 [.ref 3, .ref s1, .int x2] X M (some (.int R)) M' := Run.of 2 (miX1_quietMinutes).1 (Nat.le_of_ble_eq_true rfl) (w_X1_quietMinutes_0 hs1 _ _ hF)
def f_X1_advance_99 (s1 : Nat) (M : Mem) : Option (Int32 × Mem) :=
  bd (f_X1_pass s1 M) fun _ M6 =>
  some (0, M6)
set_option maxRecDepth 100000 in
theorem w_X1_advance_99 {R : Int32} {M' : Mem} {s1 : Nat} (hs1 : isSt s1) (M : Mem) (hF : f_X1_advance_99 s1  M = some (R, M')) : RunF l D cy ad none YX1_advance 2 0 0 none (lay X M') 0 0 99 [(0, .ref 3), (1, .ref s1)] [] (lay X M) := by
  unfold f_X1_advance_99 at hF
  refine g_aload_n (Y := YX1_advance) (pc := 99) 0 dX1_advance_99 rfl ?_
  refine g_aload_n (Y := YX1_advance) (pc := 100) 1 dX1_advance_100 rfl ?_
  obtain ⟨r5, M6, e7, hF⟩ := bd_some hF
  refine s_callVv (Y := YX1_advance) (pc := 101) (as := [.ref s1]) (st := []) (r_X1_pass hs1 e7) miX1_pass lk_X1_114 dX1_advance_101 k_3 rfl (Nat.le_of_ble_eq_true rfl) (Nat.le_of_ble_eq_true rfl) rfl ?_
  clear e7
  exact s_vret (Y := YX1_advance) (pc := 104) dX1_advance_104 rfl hF
def f_X1_advance_93 (K26 : Int32 → Int32 → Mem → Option (Int32 × Mem)) (s1 : Nat) (x3 : Int32) (x4 : Int32) (M : Mem) : Option (Int32 × Mem) :=
  vl (x4 + 1) fun v14 =>
  K26 x3 v14 M
set_option maxRecDepth 100000 in
theorem w_X1_advance_93 {R : Int32} {M' : Mem} {s1 : Nat} {K26 : Int32 → Int32 → Mem → Option (Int32 × Mem)} (hs1 : isSt s1) (hK26 : ∀ (x3 x4 : Int32) (M : Mem), K26 x3 x4 M = some (R, M') → RunF l D cy ad none YX1_advance 2 0 0 none (lay X M') 0 0 26 [(0, .ref 3), (1, .ref s1), (3, .int x3), (4, .int x4)] [] (lay X M)) (x3 x4 : Int32) (M : Mem) (hF : f_X1_advance_93 K26 s1 x3 x4 M = some (R, M')) : RunF l D cy ad none YX1_advance 2 0 0 none (lay X M') 0 0 93 [(0, .ref 3), (1, .ref s1), (3, .int x3), (4, .int x4)] [] (lay X M) := by
  unfold f_X1_advance_93 at hF
  refine s_iinc (Y := YX1_advance) (pc := 93) (j := 3) (L' := fun y => [(4, .int y), (0, .ref 3), (1, .ref s1), (3, .int x3)]) dX1_advance_93 kI_1 rfl (Nat.le_of_ble_eq_true rfl) (fun _ => rfl) (fun v14 e => ?_)
  replace hF := vl_to e hF; clear e
  refine g_goto (Y := YX1_advance) (pc := 96) (tgt := 26) dX1_advance_96 rfl ?_
  refine g_loc [1, 2, 3, 0] rfl ?_
  exact hK26 _ _ _ hF
def f_X1_advance_26 (s1 : Nat) : Nat → Int32 → Int32 → Mem → Option (Int32 × Mem)
  | 0, _, _, _ => none
  | n + 1, x3, x4, M =>
    if x4 < (M 3 2) then
      gd (0 ≤ x4 ∧ x4.toNatClampNeg < 6) <|
      if 0 < (M (s1 + 2) x4.toNatClampNeg) then
        gd (0 ≤ x4 ∧ x4.toNatClampNeg < 6) <|
        gd (0 ≤ x4 ∧ x4.toNatClampNeg < 6) <|
        ml (up M (s1 + 2) x4.toNatClampNeg ((M (s1 + 2) x4.toNatClampNeg) - x3)) fun M22 =>
        f_X1_advance_93 (f_X1_advance_26 s1 n) s1 x3 x4 M22
      else
        gd (0 ≤ x4 ∧ x4.toNatClampNeg < 6) <|
        if (M (s1 + 1) x4.toNatClampNeg) = (-1) then
          f_X1_advance_93 (f_X1_advance_26 s1 n) s1 x3 x4 M
        else
          gd (0 ≤ x4 ∧ x4.toNatClampNeg < 6) <|
          if (M (s1 + 1) x4.toNatClampNeg) = 9 then
            f_X1_advance_93 (f_X1_advance_26 s1 n) s1 x3 x4 M
          else
            gd (0 ≤ x4 ∧ x4.toNatClampNeg < 6) <|
            gd (0 ≤ x4 ∧ x4.toNatClampNeg < 6) <|
            ml (up M (s1 + 3) x4.toNatClampNeg ((M (s1 + 3) x4.toNatClampNeg) + x3)) fun M19 =>
            f_X1_advance_93 (f_X1_advance_26 s1 n) s1 x3 x4 M19
    else
      f_X1_advance_99 s1 M
set_option maxRecDepth 100000 in
theorem w_X1_advance_26 {R : Int32} {M' : Mem} {s1 : Nat} (hs1 : isSt s1) : ∀ (n : Nat) (x3 x4 : Int32) (M : Mem), f_X1_advance_26 s1 n x3 x4 M = some (R, M') → RunF l D cy ad none YX1_advance 2 0 0 none (lay X M') 0 0 26 [(0, .ref 3), (1, .ref s1), (3, .int x3), (4, .int x4)] [] (lay X M) := by
  intro n
  induction n with
  | zero => intro x3 x4 M hF; exact absurd hF (by unfold f_X1_advance_26; exact fun h => nomatch h)
  | succ n ih =>
    intro x3 x4 M hF
    unfold f_X1_advance_26 at hF
    refine g_iload (Y := YX1_advance) (pc := 26) 3 dX1_advance_26 rfl ?_
    refine g_aload_n (Y := YX1_advance) (pc := 28) 0 dX1_advance_28 rfl ?_
    refine u_getI (Y := YX1_advance) (pc := 29) dX1_advance_29 fl_X1_18 k_3 ?_
    refine g_icmp_ge (Y := YX1_advance) (pc := 32) (tgt := 99) dX1_advance_32 rfl (fun c9 => ?_) (fun c9 => ?_)
    · replace hF := if_f c9 hF
      refine g_loc [0, 1] rfl ?_
      exact w_X1_advance_99 hs1 _ hF
    · replace hF := if_t c9 hF
      refine g_aload_n (Y := YX1_advance) (pc := 35) 1 dX1_advance_35 rfl ?_
      refine u_getR (Y := YX1_advance) (pc := 36) (j := (s1 + 2)) dX1_advance_36 fl_X1_91 (st_k hs1) (st_r5 hs1) ?_
      refine g_iload (Y := YX1_advance) (pc := 39) 3 dX1_advance_39 rfl ?_
      obtain ⟨g10, hF⟩ := gd_some hF
      refine s_iald (Y := YX1_advance) (pc := 41) dX1_advance_41 (st_k2 hs1) (st_n2 hs1) g10 ?_
      refine g_if_le (Y := YX1_advance) (pc := 42) (tgt := 59) dX1_advance_42 rfl (fun c11 => ?_) (fun c11 => ?_)
      · replace hF := if_f c11 hF
        refine g_aload_n (Y := YX1_advance) (pc := 59) 1 dX1_advance_59 rfl ?_
        refine u_getR (Y := YX1_advance) (pc := 60) (j := (s1 + 1)) dX1_advance_60 fl_X1_76 (st_k hs1) (st_r4 hs1) ?_
        refine g_iload (Y := YX1_advance) (pc := 63) 3 dX1_advance_63 rfl ?_
        obtain ⟨g12, hF⟩ := gd_some hF
        refine s_iald (Y := YX1_advance) (pc := 65) dX1_advance_65 (st_k1 hs1) (st_n1 hs1) g12 ?_
        refine g_iconst (Y := YX1_advance) (pc := 66) dX1_advance_66 kI_m1 ?_
        refine g_icmp_eq (Y := YX1_advance) (pc := 67) (tgt := 93) dX1_advance_67 rfl (fun c13 => ?_) (fun c13 => ?_)
        · replace hF := if_t c13 hF
          exact w_X1_advance_93 hs1 ih _ _ _ hF
        · replace hF := if_f c13 hF
          refine g_aload_n (Y := YX1_advance) (pc := 70) 1 dX1_advance_70 rfl ?_
          refine u_getR (Y := YX1_advance) (pc := 71) (j := (s1 + 1)) dX1_advance_71 fl_X1_76 (st_k hs1) (st_r4 hs1) ?_
          refine g_iload (Y := YX1_advance) (pc := 74) 3 dX1_advance_74 rfl ?_
          obtain ⟨g15, hF⟩ := gd_some hF
          refine s_iald (Y := YX1_advance) (pc := 76) dX1_advance_76 (st_k1 hs1) (st_n1 hs1) g15 ?_
          refine g_bipush (Y := YX1_advance) (pc := 77) dX1_advance_77 kB_9 ?_
          refine g_icmp_eq (Y := YX1_advance) (pc := 79) (tgt := 93) dX1_advance_79 rfl (fun c16 => ?_) (fun c16 => ?_)
          · replace hF := if_t c16 hF
            exact w_X1_advance_93 hs1 ih _ _ _ hF
          · replace hF := if_f c16 hF
            refine g_aload_n (Y := YX1_advance) (pc := 82) 1 dX1_advance_82 rfl ?_
            refine u_getR (Y := YX1_advance) (pc := 83) (j := (s1 + 3)) dX1_advance_83 fl_X1_107 (st_k hs1) (st_r6 hs1) ?_
            refine g_iload (Y := YX1_advance) (pc := 86) 3 dX1_advance_86 rfl ?_
            refine g_dup2 (Y := YX1_advance) (pc := 88) dX1_advance_88 rfl rfl ?_
            obtain ⟨g17, hF⟩ := gd_some hF
            refine s_iald (Y := YX1_advance) (pc := 89) dX1_advance_89 (st_k3 hs1) (st_n3 hs1) g17 ?_
            refine g_iload_n (Y := YX1_advance) (pc := 90) 2 dX1_advance_90 rfl ?_
            refine g_iadd (Y := YX1_advance) (pc := 91) dX1_advance_91 ?_
            obtain ⟨g18, hF⟩ := gd_some hF
            refine s_iast (Y := YX1_advance) (pc := 92) dX1_advance_92 (st_k3 hs1) (st_n3 hs1) g18 ?_
            refine g_nmM (fun M19 e => ?_)
            replace hF := ml_to e hF; clear e
            exact w_X1_advance_93 hs1 ih _ _ _ hF
      · replace hF := if_t c11 hF
        refine g_aload_n (Y := YX1_advance) (pc := 45) 1 dX1_advance_45 rfl ?_
        refine u_getR (Y := YX1_advance) (pc := 46) (j := (s1 + 2)) dX1_advance_46 fl_X1_91 (st_k hs1) (st_r5 hs1) ?_
        refine g_iload (Y := YX1_advance) (pc := 49) 3 dX1_advance_49 rfl ?_
        refine g_dup2 (Y := YX1_advance) (pc := 51) dX1_advance_51 rfl rfl ?_
        obtain ⟨g20, hF⟩ := gd_some hF
        refine s_iald (Y := YX1_advance) (pc := 52) dX1_advance_52 (st_k2 hs1) (st_n2 hs1) g20 ?_
        refine g_iload_n (Y := YX1_advance) (pc := 53) 2 dX1_advance_53 rfl ?_
        refine g_isub (Y := YX1_advance) (pc := 54) dX1_advance_54 ?_
        obtain ⟨g21, hF⟩ := gd_some hF
        refine s_iast (Y := YX1_advance) (pc := 55) dX1_advance_55 (st_k2 hs1) (st_n2 hs1) g21 ?_
        refine g_nmM (fun M22 e => ?_)
        replace hF := ml_to e hF; clear e
        refine g_goto (Y := YX1_advance) (pc := 56) (tgt := 93) dX1_advance_56 rfl ?_
        exact w_X1_advance_93 hs1 ih _ _ _ hF
def f_X1_advance_0 (s1 : Nat) (x2 : Int32) (M : Mem) : Option (Int32 × Mem) :=
  bd (f_X1_quietMinutes s1 (x2 - 1) M) fun r1 M2 =>
  if 0 < r1 then
    ml (up M2 s1 0 ((M2 s1 0) + r1)) fun M8 =>
    f_X1_advance_26 s1 FU r1 0 M8
  else
    f_X1_advance_99 s1 M2
set_option maxRecDepth 100000 in
theorem w_X1_advance_0 {R : Int32} {M' : Mem} {s1 : Nat} (hs1 : isSt s1) (x2 : Int32) (M : Mem) (hF : f_X1_advance_0 s1 x2 M = some (R, M')) : RunF l D cy ad none YX1_advance 2 0 0 none (lay X M') 0 0 0 [(0, .ref 3), (1, .ref s1), (2, .int x2)] [] (lay X M) := by
  unfold f_X1_advance_0 at hF
  refine g_aload_n (Y := YX1_advance) (pc := 0) 0 dX1_advance_0 rfl ?_
  refine g_aload_n (Y := YX1_advance) (pc := 1) 1 dX1_advance_1 rfl ?_
  refine g_iload_n (Y := YX1_advance) (pc := 2) 2 dX1_advance_2 rfl ?_
  refine g_iconst (Y := YX1_advance) (pc := 3) dX1_advance_3 kI_1 ?_
  refine g_isub (Y := YX1_advance) (pc := 4) dX1_advance_4 ?_
  obtain ⟨r1, M2, e3, hF⟩ := bd_some hF
  refine s_callVi (Y := YX1_advance) (pc := 5) (as := [.ref s1, .int (x2 - 1)]) (st := []) (r_X1_quietMinutes hs1 e3) miX1_quietMinutes lk_X1_110 dX1_advance_5 k_3 rfl (Nat.le_of_ble_eq_true rfl) (Nat.le_of_ble_eq_true rfl) rfl ?_
  clear e3
  refine g_istore_n (Y := YX1_advance) (pc := 8) (L' := [(3, .int r1), (0, .ref 3), (1, .ref s1), (2, .int x2)]) dX1_advance_8 (Nat.le_of_ble_eq_true rfl) rfl ?_
  refine g_iload_n (Y := YX1_advance) (pc := 9) 0 dX1_advance_9 rfl ?_
  refine g_if_le (Y := YX1_advance) (pc := 10) (tgt := 99) dX1_advance_10 rfl (fun c4 => ?_) (fun c4 => ?_)
  · replace hF := if_f c4 hF
    refine g_loc [1, 2] rfl ?_
    exact w_X1_advance_99 hs1 _ hF
  · replace hF := if_t c4 hF
    refine g_aload_n (Y := YX1_advance) (pc := 13) 2 dX1_advance_13 rfl ?_
    refine g_dup (Y := YX1_advance) (pc := 14) dX1_advance_14 rfl ?_
    refine u_getI (Y := YX1_advance) (pc := 15) dX1_advance_15 fl_X1_81 (st_k hs1) ?_
    refine g_iload_n (Y := YX1_advance) (pc := 18) 0 dX1_advance_18 rfl ?_
    refine g_iadd (Y := YX1_advance) (pc := 19) dX1_advance_19 ?_
    refine u_putI (Y := YX1_advance) (pc := 20) dX1_advance_20 fl_X1_81  (st_k hs1) ?_
    refine g_nmM (fun M8 e => ?_)
    replace hF := ml_to e hF; clear e
    refine g_iconst (Y := YX1_advance) (pc := 23) dX1_advance_23 kI_0 ?_
    refine g_istore (Y := YX1_advance) (pc := 24) (L' := [(4, .int 0), (3, .int r1), (0, .ref 3), (1, .ref s1), (2, .int x2)]) dX1_advance_24 (Nat.le_of_ble_eq_true rfl) rfl ?_
    refine g_loc [2, 3, 1, 0] rfl ?_
    exact w_X1_advance_26 hs1 _ _ _ _ hF
def f_X1_advance (s1 : Nat) (x2 : Int32) (M : Mem) : Option (Int32 × Mem) := f_X1_advance_0 s1 x2 M
theorem r_X1_advance {s1 : Nat} {x2 R : Int32} {M M' : Mem} (hs1 : isSt s1) (hF : f_X1_advance s1 x2 M = some (R, M')) : RunS l D cy ad YX1_advance 2 [.ref 3, .ref s1, .int x2] X M none M' := Run.of 2 (miX1_advance).1 (Nat.le_of_ble_eq_true rfl) (w_X1_advance_0 hs1 _ _ hF)
def f_X1_goOn_41 (s1 : Nat) (M : Mem) : Option (Int32 × Mem) :=
  some (0, M)
set_option maxRecDepth 100000 in
theorem w_X1_goOn_41 {R : Int32} {M' : Mem} {s1 : Nat} (hs1 : isSt s1) (M : Mem) (hF : f_X1_goOn_41 s1  M = some (R, M')) : RunF l D cy ad none YX1_goOn 3 0 0 none (lay X M') 0 0 41 [] [] (lay X M) := by
  unfold f_X1_goOn_41 at hF
  exact s_vret (Y := YX1_goOn) (pc := 41) dX1_goOn_41 rfl hF
def f_X1_goOn_10 (s1 : Nat) : Nat → Int32 → Int32 → Int32 → Mem → Option (Int32 × Mem)
  | 0, _, _, _, _ => none
  | n + 1, x2, x3, x4, M =>
    if x4 < x2 then
      if (M s1 0) < x3 then
        bd (f_X1_advance s1 (x3 - (M s1 0)) M) fun _ M5 =>
        vl (x4 + 1) fun v7 =>
        f_X1_goOn_10 s1 n x2 x3 v7 M5
      else
        f_X1_goOn_41 s1 M
    else
      f_X1_goOn_41 s1 M
set_option maxRecDepth 100000 in
theorem w_X1_goOn_10 {R : Int32} {M' : Mem} {s1 : Nat} (hs1 : isSt s1) : ∀ (n : Nat) (x2 x3 x4 : Int32) (M : Mem), f_X1_goOn_10 s1 n x2 x3 x4 M = some (R, M') → RunF l D cy ad none YX1_goOn 3 0 0 none (lay X M') 0 0 10 [(0, .ref 3), (1, .ref s1), (2, .int x2), (3, .int x3), (4, .int x4)] [] (lay X M) := by
  intro n
  induction n with
  | zero => intro x2 x3 x4 M hF; exact absurd hF (by unfold f_X1_goOn_10; exact fun h => nomatch h)
  | succ n ih =>
    intro x2 x3 x4 M hF
    unfold f_X1_goOn_10 at hF
    refine g_iload (Y := YX1_goOn) (pc := 10) 4 dX1_goOn_10 rfl ?_
    refine g_iload_n (Y := YX1_goOn) (pc := 12) 2 dX1_goOn_12 rfl ?_
    refine g_icmp_ge (Y := YX1_goOn) (pc := 13) (tgt := 41) dX1_goOn_13 rfl (fun c2 => ?_) (fun c2 => ?_)
    · replace hF := if_f c2 hF
      refine g_loc [] rfl ?_
      exact w_X1_goOn_41 hs1 _ hF
    · replace hF := if_t c2 hF
      refine g_aload_n (Y := YX1_goOn) (pc := 16) 1 dX1_goOn_16 rfl ?_
      refine u_getI (Y := YX1_goOn) (pc := 17) dX1_goOn_17 fl_X1_81 (st_k hs1) ?_
      refine g_iload_n (Y := YX1_goOn) (pc := 20) 3 dX1_goOn_20 rfl ?_
      refine g_icmp_ge (Y := YX1_goOn) (pc := 21) (tgt := 41) dX1_goOn_21 rfl (fun c3 => ?_) (fun c3 => ?_)
      · replace hF := if_f c3 hF
        refine g_loc [] rfl ?_
        exact w_X1_goOn_41 hs1 _ hF
      · replace hF := if_t c3 hF
        refine g_aload_n (Y := YX1_goOn) (pc := 24) 0 dX1_goOn_24 rfl ?_
        refine g_aload_n (Y := YX1_goOn) (pc := 25) 1 dX1_goOn_25 rfl ?_
        refine g_iload_n (Y := YX1_goOn) (pc := 26) 3 dX1_goOn_26 rfl ?_
        refine g_aload_n (Y := YX1_goOn) (pc := 27) 1 dX1_goOn_27 rfl ?_
        refine u_getI (Y := YX1_goOn) (pc := 28) dX1_goOn_28 fl_X1_81 (st_k hs1) ?_
        refine g_isub (Y := YX1_goOn) (pc := 31) dX1_goOn_31 ?_
        obtain ⟨r4, M5, e6, hF⟩ := bd_some hF
        refine s_callVv (Y := YX1_goOn) (pc := 32) (as := [.ref s1, .int (x3 - (M s1 0))]) (st := []) (r_X1_advance hs1 e6) miX1_advance lk_X1_118 dX1_goOn_32 k_3 rfl (Nat.le_of_ble_eq_true rfl) (Nat.le_of_ble_eq_true rfl) rfl ?_
        clear e6
        refine s_iinc (Y := YX1_goOn) (pc := 35) (j := 4) (L' := fun y => [(4, .int y), (0, .ref 3), (1, .ref s1), (2, .int x2), (3, .int x3)]) dX1_goOn_35 kI_1 rfl (Nat.le_of_ble_eq_true rfl) (fun _ => rfl) (fun v7 e => ?_)
        replace hF := vl_to e hF; clear e
        refine g_goto (Y := YX1_goOn) (pc := 38) (tgt := 10) dX1_goOn_38 rfl ?_
        refine g_loc [1, 2, 3, 4, 0] rfl ?_
        exact ih _ _ _ _ hF
def f_X1_goOn_0 (s1 : Nat) (x2 : Int32) (M : Mem) : Option (Int32 × Mem) :=
  vl (((M s1 0) + x2)) fun v1 =>
  f_X1_goOn_10 s1 FU x2 v1 0 M
set_option maxRecDepth 100000 in
theorem w_X1_goOn_0 {R : Int32} {M' : Mem} {s1 : Nat} (hs1 : isSt s1) (x2 : Int32) (M : Mem) (hF : f_X1_goOn_0 s1 x2 M = some (R, M')) : RunF l D cy ad none YX1_goOn 3 0 0 none (lay X M') 0 0 0 [(0, .ref 3), (1, .ref s1), (2, .int x2)] [] (lay X M) := by
  unfold f_X1_goOn_0 at hF
  refine g_aload_n (Y := YX1_goOn) (pc := 0) 1 dX1_goOn_0 rfl ?_
  refine u_getI (Y := YX1_goOn) (pc := 1) dX1_goOn_1 fl_X1_81 (st_k hs1) ?_
  refine g_iload_n (Y := YX1_goOn) (pc := 4) 2 dX1_goOn_4 rfl ?_
  refine g_iadd (Y := YX1_goOn) (pc := 5) dX1_goOn_5 ?_
  refine g_nm (fun v1 e => ?_)
  replace hF := vl_to e hF; clear e
  refine g_istore_n (Y := YX1_goOn) (pc := 6) (L' := [(3, .int v1), (0, .ref 3), (1, .ref s1), (2, .int x2)]) dX1_goOn_6 (Nat.le_of_ble_eq_true rfl) rfl ?_
  refine g_iconst (Y := YX1_goOn) (pc := 7) dX1_goOn_7 kI_0 ?_
  refine g_istore (Y := YX1_goOn) (pc := 8) (L' := [(4, .int 0), (3, .int v1), (0, .ref 3), (1, .ref s1), (2, .int x2)]) dX1_goOn_8 (Nat.le_of_ble_eq_true rfl) rfl ?_
  refine g_loc [2, 3, 4, 1, 0] rfl ?_
  exact w_X1_goOn_10 hs1 _ _ _ _ _ hF
def f_X1_goOn (s1 : Nat) (x2 : Int32) (M : Mem) : Option (Int32 × Mem) := f_X1_goOn_0 s1 x2 M
theorem r_X1_goOn {s1 : Nat} {x2 R : Int32} {M M' : Mem} (hs1 : isSt s1) (hF : f_X1_goOn s1 x2 M = some (R, M')) : RunS l D cy ad YX1_goOn 3 [.ref 3, .ref s1, .int x2] X M none M' := Run.of 2 (miX1_goOn).1 (Nat.le_of_ble_eq_true rfl) (w_X1_goOn_0 hs1 _ _ hF)
def f_X10_minutes_10  (M : Mem) : Option (Int32 × Mem) :=
  some ((-1), M)
set_option maxRecDepth 100000 in
theorem w_X10_minutes_10 {R : Int32} {M' : Mem}  (M : Mem) (hF : f_X10_minutes_10  M = some (R, M')) : RunF l D cy ad none YX10_minutes 4 0 0 (some (.int R)) (lay X M') 0 0 10 [] [] (lay X M) := by
  unfold f_X10_minutes_10 at hF
  refine g_iconst (Y := YX10_minutes) (pc := 10) dX10_minutes_10 kI_m1 ?_
  exact s_iret (Y := YX10_minutes) (pc := 11) dX10_minutes_11 rfl hF
def f_X10_minutes_27  (x1 : Int32) (M : Mem) : Option (Int32 × Mem) :=
  bd (f_X7_bitsThrough 26 M) fun r4 M5 =>
  bd (f_X1_everybody M5) fun r7 M8 =>
  bd (f_X7_waitedBy 26 r7 M8) fun r10 M11 =>
  bd (f_X1_goOn 26 x1 M11) fun _ M14 =>
  bd (f_X7_bitsThrough 26 M14) fun r16 M17 =>
  vl ((r16 &&& (r4 ^^^ (-1)))) fun v19 =>
  bd (f_X10_clearRow M17) fun _ M21 =>
  bd (f_X10_tell v19 M21) fun _ M24 =>
  bd (f_X1_everybody M24) fun r26 M27 =>
  bd (f_X7_waitedBy 26 r26 M27) fun r29 M30 =>
  bd (f_X10_tell (r29 - r10) M30) fun _ M33 =>
  bd (f_J6_bitCount_0f7a4 v19 M33) fun r35 M36 =>
  some (r35, M36)
set_option maxRecDepth 100000 in
theorem w_X10_minutes_27 {R : Int32} {M' : Mem}  (x1 : Int32) (M : Mem) (hF : f_X10_minutes_27 x1 M = some (R, M')) : RunF l D cy ad none YX10_minutes 4 0 0 (some (.int R)) (lay X M') 0 0 27 [(0, .ref 0), (1, .int x1)] [] (lay X M) := by
  unfold f_X10_minutes_27 at hF
  refine g_aload_n (Y := YX10_minutes) (pc := 27) 0 dX10_minutes_27 rfl ?_
  refine u_getR (Y := YX10_minutes) (pc := 28) (j := 26) dX10_minutes_28 fl_X10_35 k_0 rf_0_3 ?_
  obtain ⟨r4, M5, e6, hF⟩ := bd_some hF
  refine s_callVi (Y := YX10_minutes) (pc := 31) (as := []) (st := []) (r_X7_bitsThrough isSt_26 e6) miX7_bitsThrough lk_X10_240 dX10_minutes_31 k_26 rfl (Nat.le_of_ble_eq_true rfl) (Nat.le_of_ble_eq_true rfl) rfl ?_
  clear e6
  refine g_istore_n (Y := YX10_minutes) (pc := 34) (L' := [(2, .int r4), (0, .ref 0), (1, .int x1)]) dX10_minutes_34 (Nat.le_of_ble_eq_true rfl) rfl ?_
  refine g_aload_n (Y := YX10_minutes) (pc := 35) 1 dX10_minutes_35 rfl ?_
  refine u_getR (Y := YX10_minutes) (pc := 36) (j := 26) dX10_minutes_36 fl_X10_35 k_0 rf_0_3 ?_
  refine g_aload_n (Y := YX10_minutes) (pc := 39) 1 dX10_minutes_39 rfl ?_
  refine u_getR (Y := YX10_minutes) (pc := 40) (j := 3) dX10_minutes_40 fl_X10_19 k_0 rf_0_1 ?_
  obtain ⟨r7, M8, e9, hF⟩ := bd_some hF
  refine s_callVi (Y := YX10_minutes) (pc := 43) (as := []) (st := [.ref 26]) (r_X1_everybody  e9) miX1_everybody lk_X10_194 dX10_minutes_43 k_3 rfl (Nat.le_of_ble_eq_true rfl) (Nat.le_of_ble_eq_true rfl) rfl ?_
  clear e9
  obtain ⟨r10, M11, e12, hF⟩ := bd_some hF
  refine s_callVi (Y := YX10_minutes) (pc := 46) (as := [.int r7]) (st := []) (r_X7_waitedBy isSt_26 e12) miX7_waitedBy lk_X10_259 dX10_minutes_46 k_26 rfl (Nat.le_of_ble_eq_true rfl) (Nat.le_of_ble_eq_true rfl) rfl ?_
  clear e12
  refine g_istore_n (Y := YX10_minutes) (pc := 49) (L' := [(3, .int r10), (2, .int r4), (0, .ref 0), (1, .int x1)]) dX10_minutes_49 (Nat.le_of_ble_eq_true rfl) rfl ?_
  refine g_aload_n (Y := YX10_minutes) (pc := 50) 2 dX10_minutes_50 rfl ?_
  refine u_getR (Y := YX10_minutes) (pc := 51) (j := 3) dX10_minutes_51 fl_X10_19 k_0 rf_0_1 ?_
  refine g_aload_n (Y := YX10_minutes) (pc := 54) 2 dX10_minutes_54 rfl ?_
  refine u_getR (Y := YX10_minutes) (pc := 55) (j := 26) dX10_minutes_55 fl_X10_35 k_0 rf_0_3 ?_
  refine g_iload_n (Y := YX10_minutes) (pc := 58) 3 dX10_minutes_58 rfl ?_
  obtain ⟨r13, M14, e15, hF⟩ := bd_some hF
  refine s_callVv (Y := YX10_minutes) (pc := 59) (as := [.ref 26, .int x1]) (st := []) (r_X1_goOn isSt_26 e15) miX1_goOn lk_X10_262 dX10_minutes_59 k_3 rfl (Nat.le_of_ble_eq_true rfl) (Nat.le_of_ble_eq_true rfl) rfl ?_
  clear e15
  refine g_aload_n (Y := YX10_minutes) (pc := 62) 2 dX10_minutes_62 rfl ?_
  refine u_getR (Y := YX10_minutes) (pc := 63) (j := 26) dX10_minutes_63 fl_X10_35 k_0 rf_0_3 ?_
  obtain ⟨r16, M17, e18, hF⟩ := bd_some hF
  refine s_callVi (Y := YX10_minutes) (pc := 66) (as := []) (st := []) (r_X7_bitsThrough isSt_26 e18) miX7_bitsThrough lk_X10_240 dX10_minutes_66 k_26 rfl (Nat.le_of_ble_eq_true rfl) (Nat.le_of_ble_eq_true rfl) rfl ?_
  clear e18
  refine g_iload_n (Y := YX10_minutes) (pc := 69) 1 dX10_minutes_69 rfl ?_
  refine g_iconst (Y := YX10_minutes) (pc := 70) dX10_minutes_70 kI_m1 ?_
  refine g_ixor (Y := YX10_minutes) (pc := 71) dX10_minutes_71 ?_
  refine g_iand (Y := YX10_minutes) (pc := 72) dX10_minutes_72 ?_
  refine g_nm (fun v19 e => ?_)
  replace hF := vl_to e hF; clear e
  refine g_istore_n (Y := YX10_minutes) (pc := 73) (L' := [(2, .int v19), (3, .int r10), (0, .ref 0), (1, .int x1)]) dX10_minutes_73 (Nat.le_of_ble_eq_true rfl) rfl ?_
  refine g_aload_n (Y := YX10_minutes) (pc := 74) 2 dX10_minutes_74 rfl ?_
  obtain ⟨r20, M21, e22, hF⟩ := bd_some hF
  refine s_callVv (Y := YX10_minutes) (pc := 75) (as := []) (st := []) (r_X10_clearRow  e22) miX10_clearRow lk_X10_246 dX10_minutes_75 k_0 rfl (Nat.le_of_ble_eq_true rfl) (Nat.le_of_ble_eq_true rfl) rfl ?_
  clear e22
  refine g_aload_n (Y := YX10_minutes) (pc := 78) 2 dX10_minutes_78 rfl ?_
  refine g_iload_n (Y := YX10_minutes) (pc := 79) 0 dX10_minutes_79 rfl ?_
  obtain ⟨r23, M24, e25, hF⟩ := bd_some hF
  refine s_callVv (Y := YX10_minutes) (pc := 80) (as := [.int v19]) (st := []) (r_X10_tell  e25) miX10_tell lk_X10_252 dX10_minutes_80 k_0 rfl (Nat.le_of_ble_eq_true rfl) (Nat.le_of_ble_eq_true rfl) rfl ?_
  clear e25
  refine g_aload_n (Y := YX10_minutes) (pc := 83) 2 dX10_minutes_83 rfl ?_
  refine g_aload_n (Y := YX10_minutes) (pc := 84) 2 dX10_minutes_84 rfl ?_
  refine u_getR (Y := YX10_minutes) (pc := 85) (j := 26) dX10_minutes_85 fl_X10_35 k_0 rf_0_3 ?_
  refine g_aload_n (Y := YX10_minutes) (pc := 88) 2 dX10_minutes_88 rfl ?_
  refine u_getR (Y := YX10_minutes) (pc := 89) (j := 3) dX10_minutes_89 fl_X10_19 k_0 rf_0_1 ?_
  obtain ⟨r26, M27, e28, hF⟩ := bd_some hF
  refine s_callVi (Y := YX10_minutes) (pc := 92) (as := []) (st := [.ref 26, .ref 0]) (r_X1_everybody  e28) miX1_everybody lk_X10_194 dX10_minutes_92 k_3 rfl (Nat.le_of_ble_eq_true rfl) (Nat.le_of_ble_eq_true rfl) rfl ?_
  clear e28
  obtain ⟨r29, M30, e31, hF⟩ := bd_some hF
  refine s_callVi (Y := YX10_minutes) (pc := 95) (as := [.int r26]) (st := [.ref 0]) (r_X7_waitedBy isSt_26 e31) miX7_waitedBy lk_X10_259 dX10_minutes_95 k_26 rfl (Nat.le_of_ble_eq_true rfl) (Nat.le_of_ble_eq_true rfl) rfl ?_
  clear e31
  refine g_iload_n (Y := YX10_minutes) (pc := 98) 1 dX10_minutes_98 rfl ?_
  refine g_isub (Y := YX10_minutes) (pc := 99) dX10_minutes_99 ?_
  obtain ⟨r32, M33, e34, hF⟩ := bd_some hF
  refine s_callVv (Y := YX10_minutes) (pc := 100) (as := [.int (r29 - r10)]) (st := []) (r_X10_tell  e34) miX10_tell lk_X10_252 dX10_minutes_100 k_0 rfl (Nat.le_of_ble_eq_true rfl) (Nat.le_of_ble_eq_true rfl) rfl ?_
  clear e34
  refine g_iload_n (Y := YX10_minutes) (pc := 103) 0 dX10_minutes_103 rfl ?_
  obtain ⟨r35, M36, e37, hF⟩ := bd_some hF
  refine s_callSi (Y := YX10_minutes) (pc := 104) (as := [.int v19]) (st := []) (r_J6_bitCount_0f7a4  e37) msJ6_bitCount_0f7a4 lk_X10_225 dX10_minutes_104 rfl (Nat.le_of_ble_eq_true rfl) (Nat.le_of_ble_eq_true rfl) rfl ?_
  clear e37
  exact s_iret (Y := YX10_minutes) (pc := 107) dX10_minutes_107 rfl hF
def f_X10_minutes_0  (x1 : Int32) (M : Mem) : Option (Int32 × Mem) :=
  if x1 < 0 then
    f_X10_minutes_10 M
  else
    if 90 < x1 then
      f_X10_minutes_10 M
    else
      if 0 < x1 then
        bd (f_X6_add 26 M) fun _ M39 =>
        f_X10_minutes_27 x1 M39
      else
        f_X10_minutes_27 x1 M
set_option maxRecDepth 100000 in
theorem w_X10_minutes_0 {R : Int32} {M' : Mem}  (x1 : Int32) (M : Mem) (hF : f_X10_minutes_0 x1 M = some (R, M')) : RunF l D cy ad none YX10_minutes 4 0 0 (some (.int R)) (lay X M') 0 0 0 [(0, .ref 0), (1, .int x1)] [] (lay X M) := by
  unfold f_X10_minutes_0 at hF
  refine g_iload_n (Y := YX10_minutes) (pc := 0) 1 dX10_minutes_0 rfl ?_
  refine g_if_lt (Y := YX10_minutes) (pc := 1) (tgt := 10) dX10_minutes_1 rfl (fun c1 => ?_) (fun c1 => ?_)
  · replace hF := if_t c1 hF
    refine g_loc [] rfl ?_
    exact w_X10_minutes_10  _ hF
  · replace hF := if_f c1 hF
    refine g_iload_n (Y := YX10_minutes) (pc := 4) 1 dX10_minutes_4 rfl ?_
    refine g_bipush (Y := YX10_minutes) (pc := 5) dX10_minutes_5 kB_90 ?_
    refine g_icmp_le (Y := YX10_minutes) (pc := 7) (tgt := 12) dX10_minutes_7 rfl (fun c2 => ?_) (fun c2 => ?_)
    · replace hF := if_f c2 hF
      refine g_iload_n (Y := YX10_minutes) (pc := 12) 1 dX10_minutes_12 rfl ?_
      refine g_if_le (Y := YX10_minutes) (pc := 13) (tgt := 27) dX10_minutes_13 rfl (fun c3 => ?_) (fun c3 => ?_)
      · replace hF := if_f c3 hF
        exact w_X10_minutes_27  _ _ hF
      · replace hF := if_t c3 hF
        refine g_aload_n (Y := YX10_minutes) (pc := 16) 0 dX10_minutes_16 rfl ?_
        refine u_getR (Y := YX10_minutes) (pc := 17) (j := 46) dX10_minutes_17 fl_X10_51 k_0 rf_0_7 ?_
        refine g_aload_n (Y := YX10_minutes) (pc := 20) 0 dX10_minutes_20 rfl ?_
        refine u_getR (Y := YX10_minutes) (pc := 21) (j := 26) dX10_minutes_21 fl_X10_35 k_0 rf_0_3 ?_
        obtain ⟨r38, M39, e40, hF⟩ := bd_some hF
        refine s_callVv (Y := YX10_minutes) (pc := 24) (as := [.ref 26]) (st := []) (r_X6_add isSt_26 e40) miX6_add lk_X10_215 dX10_minutes_24 k_46 rfl (Nat.le_of_ble_eq_true rfl) (Nat.le_of_ble_eq_true rfl) rfl ?_
        clear e40
        exact w_X10_minutes_27  _ _ hF
    · replace hF := if_t c2 hF
      refine g_loc [] rfl ?_
      exact w_X10_minutes_10  _ hF
def f_X10_minutes (x1 : Int32) (M : Mem) : Option (Int32 × Mem) := f_X10_minutes_0 x1 M
theorem r_X10_minutes {x1 R : Int32} {M M' : Mem}  (hF : f_X10_minutes x1 M = some (R, M')) : RunS l D cy ad YX10_minutes 4 [.ref 0, .int x1] X M (some (.int R)) M' := Run.of 1 (miX10_minutes).1 (Nat.le_of_ble_eq_true rfl) (w_X10_minutes_0  _ _ hF)
end NXG
