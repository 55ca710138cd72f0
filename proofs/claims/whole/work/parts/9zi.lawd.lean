/-! the rows of the law that the walk reads -/
theorem dL_224 : decode code 224 = .ok (.aload_n 1, 1) := by decide +kernel
theorem dD_225 : lq_D 225 1 := by unfold lq_D; decide +kernel
set_option maxRecDepth 100000 in
theorem lkL_26 : Cond.methodLink RL 26 YX10_sign.1 ∈ wsA := in_t2 159 rfl rfl
theorem dL_231 : decode code 231 = .ok (.invokevirtual 26, 3) := by decide +kernel
theorem dL_234 : decode code 234 = .ok (.aload_n 2, 1) := by decide +kernel
theorem dD_235 : lq_D 235 1 := by unfold lq_D; decide +kernel
set_option maxRecDepth 100000 in
theorem lkL_29 : Cond.methodLink RL 29 YX11_sign.1 ∈ wsA := in_t6 94 rfl rfl
theorem dL_241 : decode code 241 = .ok (.invokevirtual 29, 3) := by decide +kernel
theorem dL_244 : decode code 244 = .ok (.if_icmp .eq 1243, 3) := by decide +kernel
theorem dL_249 : decode code 249 = .ok (.aload_n 1, 1) := by decide +kernel
theorem dD_250 : lq_D 250 1 := by unfold lq_D; decide +kernel
set_option maxRecDepth 100000 in
theorem lkL_30 : Cond.methodLink RL 30 YX10_end.1 ∈ wsA := in_t2 167 rfl rfl
theorem dL_256 : decode code 256 = .ok (.invokevirtual 30, 3) := by decide +kernel
theorem dL_259 : decode code 259 = .ok (.aload_n 2, 1) := by decide +kernel
theorem dD_260 : lq_D 260 1 := by unfold lq_D; decide +kernel
set_option maxRecDepth 100000 in
theorem lkL_34 : Cond.methodLink RL 34 YX11_end.1 ∈ wsA := in_t6 98 rfl rfl
theorem dL_266 : decode code 266 = .ok (.invokevirtual 34, 3) := by decide +kernel
theorem dL_269 : decode code 269 = .ok (.if_icmp .eq 1218, 3) := by decide +kernel
theorem dL_274 : decode code 274 = .ok (.aload_n 1, 1) := by decide +kernel
set_option maxRecDepth 100000 in
theorem lkL_35 : Cond.methodLink RL 35 YX10_palace.1 ∈ wsA := in_t2 175 rfl rfl
theorem dL_275 : decode code 275 = .ok (.invokevirtual 35, 3) := by decide +kernel
theorem dL_278 : decode code 278 = .ok (.aload_n 2, 1) := by decide +kernel
set_option maxRecDepth 100000 in
theorem lkL_39 : Cond.methodLink RL 39 YX11_palace.1 ∈ wsA := in_t6 105 rfl rfl
theorem dL_279 : decode code 279 = .ok (.invokevirtual 39, 3) := by decide +kernel
theorem dL_282 : decode code 282 = .ok (.if_icmp .eq 1205, 3) := by decide +kernel
theorem dL_287 : decode code 287 = .ok (.aload_n 1, 1) := by decide +kernel
set_option maxRecDepth 100000 in
theorem lkL_40 : Cond.methodLink RL 40 YX10_groups.1 ∈ wsA := in_t2 196 rfl rfl
theorem dL_288 : decode code 288 = .ok (.invokevirtual 40, 3) := by decide +kernel
theorem dL_291 : decode code 291 = .ok (.aload_n 2, 1) := by decide +kernel
set_option maxRecDepth 100000 in
theorem lkL_43 : Cond.methodLink RL 43 YX11_groups.1 ∈ wsA := in_t6 109 rfl rfl
theorem dL_292 : decode code 292 = .ok (.invokevirtual 43, 3) := by decide +kernel
theorem dL_295 : decode code 295 = .ok (.if_icmp .eq 1192, 3) := by decide +kernel
theorem dL_300 : decode code 300 = .ok (.aload_n 1, 1) := by decide +kernel
set_option maxRecDepth 100000 in
theorem lkL_44 : Cond.methodLink RL 44 YX10_rule.1 ∈ wsA := in_t3 56 rfl rfl
theorem dL_301 : decode code 301 = .ok (.invokevirtual 44, 3) := by decide +kernel
theorem dL_304 : decode code 304 = .ok (.aload_n 2, 1) := by decide +kernel
set_option maxRecDepth 100000 in
theorem lkL_47 : Cond.methodLink RL 47 YX11_rule.1 ∈ wsA := in_t6 153 rfl rfl
theorem dL_305 : decode code 305 = .ok (.invokevirtual 47, 3) := by decide +kernel
theorem dL_308 : decode code 308 = .ok (.if_icmp .eq 1179, 3) := by decide +kernel
theorem dL_313 : decode code 313 = .ok (.aload_n 1, 1) := by decide +kernel
theorem dD_314 : lq_D 314 1 := by unfold lq_D; decide +kernel
theorem dD_320 : lq_D 320 2 := by unfold lq_D; decide +kernel
theorem dL_326 : decode code 326 = .ok (.aload_n 3, 1) := by decide +kernel
set_option maxRecDepth 100000 in
theorem gL_group : GoodIn wsA (va_wsS RL 48 yLgroup (Cond.codeWith yLgroup method_3_code 5 (some .int) [(0, 10, 13, 13)] :: wsA)) := goodIn_cw (in_t5 56 rfl rfl) (in_t5 54 rfl rfl) (in_t5 55 rfl rfl) (in_t1 0 rfl rfl)
theorem dL_327 : decode code 327 = .ok (.invokestatic 48, 3) := by decide +kernel
theorem dL_330 : decode code 330 = .ok (.istore 5, 2) := by decide +kernel
theorem dL_332 : decode code 332 = .ok (.aload_n 2, 1) := by decide +kernel
theorem dD_333 : lq_D 333 1 := by unfold lq_D; decide +kernel
theorem dD_339 : lq_D 339 2 := by unfold lq_D; decide +kernel
set_option maxRecDepth 100000 in
theorem lkL_53 : Cond.methodLink RL 53 YX11_group.1 ∈ wsA := in_t6 177 rfl rfl
theorem dL_345 : decode code 345 = .ok (.invokevirtual 53, 3) := by decide +kernel
theorem dL_348 : decode code 348 = .ok (.istore 6, 2) := by decide +kernel
theorem dT_350 : lq_T 350 1109 := by unfold lq_T; decide +kernel
theorem dL_381 : decode code 381 = .ok (.aload_n 1, 1) := by decide +kernel
theorem dD_382 : lq_D 382 1 := by unfold lq_D; decide +kernel
theorem dD_388 : lq_D 388 2 := by unfold lq_D; decide +kernel
theorem dL_394 : decode code 394 = .ok (.aload_n 3, 1) := by decide +kernel
set_option maxRecDepth 100000 in
theorem gL_room : GoodIn wsA (va_wsS RL 57 yLroom (Cond.codeWith yLroom method_4_code 5 (some .int) [(0, 10, 13, 13)] :: wsA)) := goodIn_cw (in_t5 125 rfl rfl) (in_t5 123 rfl rfl) (in_t5 124 rfl rfl) (in_t1 0 rfl rfl)
theorem dL_395 : decode code 395 = .ok (.invokestatic 57, 3) := by decide +kernel
theorem dL_398 : decode code 398 = .ok (.istore 5, 2) := by decide +kernel
theorem dL_400 : decode code 400 = .ok (.aload_n 2, 1) := by decide +kernel
theorem dD_401 : lq_D 401 1 := by unfold lq_D; decide +kernel
theorem dD_407 : lq_D 407 2 := by unfold lq_D; decide +kernel
set_option maxRecDepth 100000 in
theorem lkL_59 : Cond.methodLink RL 59 YX11_room.1 ∈ wsA := in_t6 189 rfl rfl
theorem dL_413 : decode code 413 = .ok (.invokevirtual 59, 3) := by decide +kernel
theorem dL_416 : decode code 416 = .ok (.istore 6, 2) := by decide +kernel
theorem dT_418 : lq_T 418 1041 := by unfold lq_T; decide +kernel
theorem dL_449 : decode code 449 = .ok (.aload_n 1, 1) := by decide +kernel
theorem dD_450 : lq_D 450 1 := by unfold lq_D; decide +kernel
theorem dD_456 : lq_D 456 2 := by unfold lq_D; decide +kernel
set_option maxRecDepth 100000 in
theorem lkL_60 : Cond.methodLink RL 60 YX10_stay.1 ∈ wsA := in_t3 72 rfl rfl
theorem dL_462 : decode code 462 = .ok (.invokevirtual 60, 3) := by decide +kernel
theorem dL_465 : decode code 465 = .ok (.aload_n 2, 1) := by decide +kernel
theorem dD_466 : lq_D 466 1 := by unfold lq_D; decide +kernel
theorem dD_472 : lq_D 472 2 := by unfold lq_D; decide +kernel
set_option maxRecDepth 100000 in
theorem lkL_63 : Cond.methodLink RL 63 YX11_stay.1 ∈ wsA := in_t6 210 rfl rfl
theorem dL_478 : decode code 478 = .ok (.invokevirtual 63, 3) := by decide +kernel
theorem dL_481 : decode code 481 = .ok (.if_icmp .eq 1006, 3) := by decide +kernel
theorem dL_486 : decode code 486 = .ok (.aload_n 1, 1) := by decide +kernel
theorem dD_487 : lq_D 487 1 := by unfold lq_D; decide +kernel
theorem dD_493 : lq_D 493 2 := by unfold lq_D; decide +kernel
set_option maxRecDepth 100000 in
theorem lkL_64 : Cond.methodLink RL 64 YX10_leave.1 ∈ wsA := in_t3 84 rfl rfl
theorem dL_499 : decode code 499 = .ok (.invokevirtual 64, 3) := by decide +kernel
theorem dL_502 : decode code 502 = .ok (.aload_n 2, 1) := by decide +kernel
theorem dD_503 : lq_D 503 1 := by unfold lq_D; decide +kernel
theorem dD_509 : lq_D 509 2 := by unfold lq_D; decide +kernel
set_option maxRecDepth 100000 in
theorem lkL_67 : Cond.methodLink RL 67 YX11_leave.1 ∈ wsA := in_t6 214 rfl rfl
theorem dL_515 : decode code 515 = .ok (.invokevirtual 67, 3) := by decide +kernel
theorem dL_518 : decode code 518 = .ok (.if_icmp .eq 969, 3) := by decide +kernel
theorem dL_523 : decode code 523 = .ok (.aload_n 1, 1) := by decide +kernel
theorem dD_524 : lq_D 524 1 := by unfold lq_D; decide +kernel
theorem dD_530 : lq_D 530 2 := by unfold lq_D; decide +kernel
theorem dD_536 : lq_D 536 3 := by unfold lq_D; decide +kernel
theorem dD_542 : lq_D 542 4 := by unfold lq_D; decide +kernel
theorem dD_548 : lq_D 548 5 := by unfold lq_D; decide +kernel
set_option maxRecDepth 100000 in
theorem lkL_68 : Cond.methodLink RL 68 YX10_sheet.1 ∈ wsA := in_t3 88 rfl rfl
theorem dL_554 : decode code 554 = .ok (.invokevirtual 68, 3) := by decide +kernel
theorem dL_557 : decode code 557 = .ok (.aload_n 2, 1) := by decide +kernel
theorem dD_558 : lq_D 558 1 := by unfold lq_D; decide +kernel
theorem dD_564 : lq_D 564 2 := by unfold lq_D; decide +kernel
theorem dD_570 : lq_D 570 3 := by unfold lq_D; decide +kernel
theorem dD_576 : lq_D 576 4 := by unfold lq_D; decide +kernel
theorem dD_582 : lq_D 582 5 := by unfold lq_D; decide +kernel
set_option maxRecDepth 100000 in
theorem lkL_72 : Cond.methodLink RL 72 YX11_sheet.1 ∈ wsA := in_t6 218 rfl rfl
theorem dL_588 : decode code 588 = .ok (.invokevirtual 72, 3) := by decide +kernel
theorem dL_591 : decode code 591 = .ok (.if_icmp .eq 896, 3) := by decide +kernel
theorem dL_596 : decode code 596 = .ok (.aload_n 1, 1) := by decide +kernel
theorem dD_597 : lq_D 597 1 := by unfold lq_D; decide +kernel
set_option maxRecDepth 100000 in
theorem lkL_73 : Cond.methodLink RL 73 YX10_off.1 ∈ wsA := in_t3 97 rfl rfl
theorem dL_603 : decode code 603 = .ok (.invokevirtual 73, 3) := by decide +kernel
theorem dL_606 : decode code 606 = .ok (.aload_n 2, 1) := by decide +kernel
theorem dD_607 : lq_D 607 1 := by unfold lq_D; decide +kernel
set_option maxRecDepth 100000 in
theorem lkL_76 : Cond.methodLink RL 76 YX11_off.1 ∈ wsA := in_t6 222 rfl rfl
theorem dL_613 : decode code 613 = .ok (.invokevirtual 76, 3) := by decide +kernel
theorem dL_616 : decode code 616 = .ok (.if_icmp .eq 871, 3) := by decide +kernel
theorem dL_621 : decode code 621 = .ok (.aload_n 1, 1) := by decide +kernel
theorem dD_622 : lq_D 622 1 := by unfold lq_D; decide +kernel
theorem dD_628 : lq_D 628 2 := by unfold lq_D; decide +kernel
set_option maxRecDepth 100000 in
theorem lkL_77 : Cond.methodLink RL 77 YX10_over.1 ∈ wsA := in_t3 137 rfl rfl
theorem dL_634 : decode code 634 = .ok (.invokevirtual 77, 3) := by decide +kernel
theorem dL_637 : decode code 637 = .ok (.aload_n 2, 1) := by decide +kernel
theorem dD_638 : lq_D 638 1 := by unfold lq_D; decide +kernel
theorem dD_644 : lq_D 644 2 := by unfold lq_D; decide +kernel
set_option maxRecDepth 100000 in
theorem lkL_80 : Cond.methodLink RL 80 YX11_over.1 ∈ wsA := in_t7 22 rfl rfl
theorem dL_650 : decode code 650 = .ok (.invokevirtual 80, 3) := by decide +kernel
theorem dL_653 : decode code 653 = .ok (.if_icmp .eq 834, 3) := by decide +kernel
theorem dL_658 : decode code 658 = .ok (.aload_n 1, 1) := by decide +kernel
theorem dD_659 : lq_D 659 1 := by unfold lq_D; decide +kernel
set_option maxRecDepth 100000 in
theorem lkL_81 : Cond.methodLink RL 81 YX10_stand.1 ∈ wsA := in_t3 153 rfl rfl
theorem dL_665 : decode code 665 = .ok (.invokevirtual 81, 3) := by decide +kernel
theorem dL_668 : decode code 668 = .ok (.aload_n 2, 1) := by decide +kernel
theorem dD_669 : lq_D 669 1 := by unfold lq_D; decide +kernel
set_option maxRecDepth 100000 in
theorem lkL_84 : Cond.methodLink RL 84 YX11_stand.1 ∈ wsA := in_t7 33 rfl rfl
theorem dL_675 : decode code 675 = .ok (.invokevirtual 84, 3) := by decide +kernel
theorem dL_678 : decode code 678 = .ok (.if_icmp .eq 809, 3) := by decide +kernel
theorem dL_683 : decode code 683 = .ok (.aload_n 1, 1) := by decide +kernel
set_option maxRecDepth 100000 in
theorem lkL_85 : Cond.methodLink RL 85 YX10_minute.1 ∈ wsA := in_t3 157 rfl rfl
theorem dL_684 : decode code 684 = .ok (.invokevirtual 85, 3) := by decide +kernel
theorem dL_687 : decode code 687 = .ok (.aload_n 2, 1) := by decide +kernel
set_option maxRecDepth 100000 in
theorem lkL_88 : Cond.methodLink RL 88 YX11_minute.1 ∈ wsA := in_t7 37 rfl rfl
theorem dL_688 : decode code 688 = .ok (.invokevirtual 88, 3) := by decide +kernel
theorem dL_691 : decode code 691 = .ok (.if_icmp .eq 796, 3) := by decide +kernel
theorem dL_696 : decode code 696 = .ok (.aload_n 1, 1) := by decide +kernel
theorem dD_697 : lq_D 697 1 := by unfold lq_D; decide +kernel
set_option maxRecDepth 100000 in
theorem lkL_89 : Cond.methodLink RL 89 YX10_minutes.1 ∈ wsA := in_t3 185 rfl rfl
theorem dL_703 : decode code 703 = .ok (.invokevirtual 89, 3) := by decide +kernel
theorem dL_706 : decode code 706 = .ok (.aload_n 2, 1) := by decide +kernel
theorem dD_707 : lq_D 707 1 := by unfold lq_D; decide +kernel
set_option maxRecDepth 100000 in
theorem lkL_92 : Cond.methodLink RL 92 YX11_minutes.1 ∈ wsA := in_t7 57 rfl rfl
theorem dL_713 : decode code 713 = .ok (.invokevirtual 92, 3) := by decide +kernel
theorem dL_716 : decode code 716 = .ok (.if_icmp .eq 771, 3) := by decide +kernel
theorem dL_721 : decode code 721 = .ok (.aload_n 1, 1) := by decide +kernel
set_option maxRecDepth 100000 in
theorem lkL_93 : Cond.methodLink RL 93 YX10_day.1 ∈ wsA := in_t3 211 rfl rfl
theorem dL_722 : decode code 722 = .ok (.invokevirtual 93, 3) := by decide +kernel
theorem dL_725 : decode code 725 = .ok (.aload_n 2, 1) := by decide +kernel
set_option maxRecDepth 100000 in
theorem lkL_96 : Cond.methodLink RL 96 YX11_day.1 ∈ wsA := in_t7 61 rfl rfl
theorem dL_726 : decode code 726 = .ok (.invokevirtual 96, 3) := by decide +kernel
theorem dL_729 : decode code 729 = .ok (.if_icmp .eq 758, 3) := by decide +kernel
theorem dL_734 : decode code 734 = .ok (.aload_n 1, 1) := by decide +kernel
set_option maxRecDepth 100000 in
theorem lkL_97 : Cond.methodLink RL 97 YX10_undo.1 ∈ wsA := in_t4 1 rfl rfl
theorem dL_735 : decode code 735 = .ok (.invokevirtual 97, 3) := by decide +kernel
theorem dL_738 : decode code 738 = .ok (.aload_n 2, 1) := by decide +kernel
set_option maxRecDepth 100000 in
theorem lkL_100 : Cond.methodLink RL 100 YX11_undo.1 ∈ wsA := in_t7 73 rfl rfl
theorem dL_739 : decode code 739 = .ok (.invokevirtual 100, 3) := by decide +kernel
theorem dL_742 : decode code 742 = .ok (.if_icmp .eq 745, 3) := by decide +kernel
theorem dL_747 : decode code 747 = .ok (.aload_n 1, 1) := by decide +kernel
theorem dD_748 : lq_D 748 1 := by unfold lq_D; decide +kernel
theorem dD_754 : lq_D 754 2 := by unfold lq_D; decide +kernel
set_option maxRecDepth 100000 in
theorem lkL_101 : Cond.methodLink RL 101 YX10_where.1 ∈ wsA := in_t4 9 rfl rfl
theorem dL_760 : decode code 760 = .ok (.invokevirtual 101, 3) := by decide +kernel
theorem dL_763 : decode code 763 = .ok (.aload_n 2, 1) := by decide +kernel
theorem dD_764 : lq_D 764 1 := by unfold lq_D; decide +kernel
theorem dD_770 : lq_D 770 2 := by unfold lq_D; decide +kernel
set_option maxRecDepth 100000 in
theorem lkL_104 : Cond.methodLink RL 104 YX11_where.1 ∈ wsA := in_t7 77 rfl rfl
theorem dL_776 : decode code 776 = .ok (.invokevirtual 104, 3) := by decide +kernel
theorem dL_779 : decode code 779 = .ok (.if_icmp .eq 708, 3) := by decide +kernel
theorem dL_784 : decode code 784 = .ok (.aload_n 1, 1) := by decide +kernel
set_option maxRecDepth 100000 in
theorem lkL_105 : Cond.methodLink RL 105 YX10_stuck.1 ∈ wsA := in_t4 13 rfl rfl
theorem dL_785 : decode code 785 = .ok (.invokevirtual 105, 3) := by decide +kernel
theorem dL_788 : decode code 788 = .ok (.aload_n 2, 1) := by decide +kernel
set_option maxRecDepth 100000 in
theorem lkL_108 : Cond.methodLink RL 108 YX11_stuck.1 ∈ wsA := in_t7 81 rfl rfl
theorem dL_789 : decode code 789 = .ok (.invokevirtual 108, 3) := by decide +kernel
theorem dL_792 : decode code 792 = .ok (.if_icmp .eq 695, 3) := by decide +kernel
theorem dL_797 : decode code 797 = .ok (.aload_n 1, 1) := by decide +kernel
set_option maxRecDepth 100000 in
theorem lkL_109 : Cond.methodLink RL 109 YX10_order.1 ∈ wsA := in_t4 22 rfl rfl
theorem dL_798 : decode code 798 = .ok (.invokevirtual 109, 3) := by decide +kernel
theorem dL_801 : decode code 801 = .ok (.aload_n 2, 1) := by decide +kernel
set_option maxRecDepth 100000 in
theorem lkL_112 : Cond.methodLink RL 112 YX11_order.1 ∈ wsA := in_t7 89 rfl rfl
theorem dL_802 : decode code 802 = .ok (.invokevirtual 112, 3) := by decide +kernel
theorem dL_805 : decode code 805 = .ok (.if_icmp .eq 682, 3) := by decide +kernel
theorem dL_810 : decode code 810 = .ok (.aload_n 1, 1) := by decide +kernel
theorem dD_811 : lq_D 811 1 := by unfold lq_D; decide +kernel
set_option maxRecDepth 100000 in
theorem lkL_113 : Cond.methodLink RL 113 YX10_best.1 ∈ wsA := in_t4 99 rfl rfl
theorem dL_817 : decode code 817 = .ok (.invokevirtual 113, 3) := by decide +kernel
theorem dL_820 : decode code 820 = .ok (.aload_n 2, 1) := by decide +kernel
theorem dD_821 : lq_D 821 1 := by unfold lq_D; decide +kernel
set_option maxRecDepth 100000 in
theorem lkL_116 : Cond.methodLink RL 116 YX11_best.1 ∈ wsA := in_t7 110 rfl rfl
theorem dL_827 : decode code 827 = .ok (.invokevirtual 116, 3) := by decide +kernel
theorem dL_830 : decode code 830 = .ok (.if_icmp .eq 657, 3) := by decide +kernel
theorem dL_835 : decode code 835 = .ok (.aload_n 1, 1) := by decide +kernel
theorem dD_836 : lq_D 836 1 := by unfold lq_D; decide +kernel
set_option maxRecDepth 100000 in
theorem lkL_117 : Cond.methodLink RL 117 YX10_calm.1 ∈ wsA := in_t4 133 rfl rfl
theorem dL_842 : decode code 842 = .ok (.invokevirtual 117, 3) := by decide +kernel
theorem dL_845 : decode code 845 = .ok (.aload_n 2, 1) := by decide +kernel
theorem dD_846 : lq_D 846 1 := by unfold lq_D; decide +kernel
set_option maxRecDepth 100000 in
theorem lkL_120 : Cond.methodLink RL 120 YX11_calm.1 ∈ wsA := in_t7 138 rfl rfl
theorem dL_852 : decode code 852 = .ok (.invokevirtual 120, 3) := by decide +kernel
theorem dL_855 : decode code 855 = .ok (.if_icmp .eq 632, 3) := by decide +kernel
theorem dL_860 : decode code 860 = .ok (.aload_n 1, 1) := by decide +kernel
theorem dD_861 : lq_D 861 1 := by unfold lq_D; decide +kernel
theorem dD_867 : lq_D 867 2 := by unfold lq_D; decide +kernel
set_option maxRecDepth 100000 in
theorem lkL_121 : Cond.methodLink RL 121 YX10_many.1 ∈ wsA := in_t4 137 rfl rfl
theorem dL_873 : decode code 873 = .ok (.invokevirtual 121, 3) := by decide +kernel
theorem dL_876 : decode code 876 = .ok (.aload_n 2, 1) := by decide +kernel
theorem dD_877 : lq_D 877 1 := by unfold lq_D; decide +kernel
theorem dD_883 : lq_D 883 2 := by unfold lq_D; decide +kernel
set_option maxRecDepth 100000 in
theorem lkL_124 : Cond.methodLink RL 124 YX11_many.1 ∈ wsA := in_t7 142 rfl rfl
theorem dL_889 : decode code 889 = .ok (.invokevirtual 124, 3) := by decide +kernel
theorem dL_892 : decode code 892 = .ok (.if_icmp .eq 595, 3) := by decide +kernel
theorem dL_897 : decode code 897 = .ok (.aload_n 1, 1) := by decide +kernel
theorem dD_898 : lq_D 898 1 := by unfold lq_D; decide +kernel
theorem dD_904 : lq_D 904 2 := by unfold lq_D; decide +kernel
set_option maxRecDepth 100000 in
theorem lkL_125 : Cond.methodLink RL 125 YX10_gap.1 ∈ wsA := in_t4 141 rfl rfl
theorem dL_910 : decode code 910 = .ok (.invokevirtual 125, 3) := by decide +kernel
theorem dL_913 : decode code 913 = .ok (.aload_n 2, 1) := by decide +kernel
theorem dD_914 : lq_D 914 1 := by unfold lq_D; decide +kernel
theorem dD_920 : lq_D 920 2 := by unfold lq_D; decide +kernel
set_option maxRecDepth 100000 in
theorem lkL_128 : Cond.methodLink RL 128 YX11_gap.1 ∈ wsA := in_t7 146 rfl rfl
theorem dL_926 : decode code 926 = .ok (.invokevirtual 128, 3) := by decide +kernel
theorem dL_929 : decode code 929 = .ok (.if_icmp .eq 558, 3) := by decide +kernel
theorem dL_934 : decode code 934 = .ok (.aload_n 1, 1) := by decide +kernel
theorem dD_935 : lq_D 935 1 := by unfold lq_D; decide +kernel
set_option maxRecDepth 100000 in
theorem lkL_129 : Cond.methodLink RL 129 YX10_smooth.1 ∈ wsA := in_t4 154 rfl rfl
theorem dL_941 : decode code 941 = .ok (.invokevirtual 129, 3) := by decide +kernel
theorem dL_944 : decode code 944 = .ok (.aload_n 2, 1) := by decide +kernel
theorem dD_945 : lq_D 945 1 := by unfold lq_D; decide +kernel
set_option maxRecDepth 100000 in
theorem lkL_132 : Cond.methodLink RL 132 YX11_smooth.1 ∈ wsA := in_t7 158 rfl rfl
theorem dL_951 : decode code 951 = .ok (.invokevirtual 132, 3) := by decide +kernel
theorem dL_954 : decode code 954 = .ok (.if_icmp .eq 533, 3) := by decide +kernel
theorem dL_959 : decode code 959 = .ok (.aload_n 1, 1) := by decide +kernel
theorem dD_960 : lq_D 960 1 := by unfold lq_D; decide +kernel
set_option maxRecDepth 100000 in
theorem lkL_133 : Cond.methodLink RL 133 YX10_every.1 ∈ wsA := in_t4 171 rfl rfl
theorem dL_966 : decode code 966 = .ok (.invokevirtual 133, 3) := by decide +kernel
theorem dL_969 : decode code 969 = .ok (.aload_n 2, 1) := by decide +kernel
theorem dD_970 : lq_D 970 1 := by unfold lq_D; decide +kernel
set_option maxRecDepth 100000 in
theorem lkL_136 : Cond.methodLink RL 136 YX11_every.1 ∈ wsA := in_t7 166 rfl rfl
theorem dL_976 : decode code 976 = .ok (.invokevirtual 136, 3) := by decide +kernel
theorem dL_979 : decode code 979 = .ok (.if_icmp .eq 508, 3) := by decide +kernel
theorem dL_984 : decode code 984 = .ok (.aload_n 1, 1) := by decide +kernel
theorem dD_985 : lq_D 985 1 := by unfold lq_D; decide +kernel
set_option maxRecDepth 100000 in
theorem lkL_137 : Cond.methodLink RL 137 YX10_least.1 ∈ wsA := in_t4 179 rfl rfl
theorem dL_991 : decode code 991 = .ok (.invokevirtual 137, 3) := by decide +kernel
theorem dL_994 : decode code 994 = .ok (.aload_n 2, 1) := by decide +kernel
theorem dD_995 : lq_D 995 1 := by unfold lq_D; decide +kernel
set_option maxRecDepth 100000 in
theorem lkL_140 : Cond.methodLink RL 140 YX11_least.1 ∈ wsA := in_t7 174 rfl rfl
theorem dL_1001 : decode code 1001 = .ok (.invokevirtual 140, 3) := by decide +kernel
theorem dL_1004 : decode code 1004 = .ok (.if_icmp .eq 483, 3) := by decide +kernel
theorem dL_1009 : decode code 1009 = .ok (.aload_n 1, 1) := by decide +kernel
theorem dD_1010 : lq_D 1010 1 := by unfold lq_D; decide +kernel
theorem dD_1016 : lq_D 1016 2 := by unfold lq_D; decide +kernel
set_option maxRecDepth 100000 in
theorem lkL_141 : Cond.methodLink RL 141 YX10_late.1 ∈ wsA := in_t4 197 rfl rfl
theorem dL_1022 : decode code 1022 = .ok (.invokevirtual 141, 3) := by decide +kernel
theorem dL_1025 : decode code 1025 = .ok (.aload_n 2, 1) := by decide +kernel
theorem dD_1026 : lq_D 1026 1 := by unfold lq_D; decide +kernel
theorem dD_1032 : lq_D 1032 2 := by unfold lq_D; decide +kernel
set_option maxRecDepth 100000 in
theorem lkL_144 : Cond.methodLink RL 144 YX11_late.1 ∈ wsA := in_t7 182 rfl rfl
theorem dL_1038 : decode code 1038 = .ok (.invokevirtual 144, 3) := by decide +kernel
theorem dL_1041 : decode code 1041 = .ok (.if_icmp .eq 446, 3) := by decide +kernel
theorem dL_1046 : decode code 1046 = .ok (.aload_n 1, 1) := by decide +kernel
theorem dD_1047 : lq_D 1047 1 := by unfold lq_D; decide +kernel
set_option maxRecDepth 100000 in
theorem lkL_145 : Cond.methodLink RL 145 YX10_slack.1 ∈ wsA := in_t4 205 rfl rfl
theorem dL_1053 : decode code 1053 = .ok (.invokevirtual 145, 3) := by decide +kernel
theorem dL_1056 : decode code 1056 = .ok (.aload_n 2, 1) := by decide +kernel
theorem dD_1057 : lq_D 1057 1 := by unfold lq_D; decide +kernel
set_option maxRecDepth 100000 in
theorem lkL_148 : Cond.methodLink RL 148 YX11_slack.1 ∈ wsA := in_t7 190 rfl rfl
theorem dL_1063 : decode code 1063 = .ok (.invokevirtual 148, 3) := by decide +kernel
theorem dL_1066 : decode code 1066 = .ok (.if_icmp .eq 421, 3) := by decide +kernel
theorem dL_1071 : decode code 1071 = .ok (.aload_n 1, 1) := by decide +kernel
theorem dD_1072 : lq_D 1072 1 := by unfold lq_D; decide +kernel
theorem dD_1078 : lq_D 1078 2 := by unfold lq_D; decide +kernel
theorem dD_1084 : lq_D 1084 3 := by unfold lq_D; decide +kernel
set_option maxRecDepth 100000 in
theorem lkL_149 : Cond.methodLink RL 149 YX10_dies.1 ∈ wsA := in_t4 213 rfl rfl
theorem dL_1090 : decode code 1090 = .ok (.invokevirtual 149, 3) := by decide +kernel
theorem dL_1093 : decode code 1093 = .ok (.aload_n 2, 1) := by decide +kernel
theorem dD_1094 : lq_D 1094 1 := by unfold lq_D; decide +kernel
theorem dD_1100 : lq_D 1100 2 := by unfold lq_D; decide +kernel
theorem dD_1106 : lq_D 1106 3 := by unfold lq_D; decide +kernel
set_option maxRecDepth 100000 in
theorem lkL_153 : Cond.methodLink RL 153 YX11_dies.1 ∈ wsA := in_t7 194 rfl rfl
theorem dL_1112 : decode code 1112 = .ok (.invokevirtual 153, 3) := by decide +kernel
theorem dL_1115 : decode code 1115 = .ok (.if_icmp .eq 372, 3) := by decide +kernel
theorem dL_1120 : decode code 1120 = .ok (.aload_n 1, 1) := by decide +kernel
theorem dD_1121 : lq_D 1121 1 := by unfold lq_D; decide +kernel
theorem dD_1127 : lq_D 1127 2 := by unfold lq_D; decide +kernel
set_option maxRecDepth 100000 in
theorem lkL_154 : Cond.methodLink RL 154 YX10_loss.1 ∈ wsA := in_t4 217 rfl rfl
theorem dL_1133 : decode code 1133 = .ok (.invokevirtual 154, 3) := by decide +kernel
theorem dL_1136 : decode code 1136 = .ok (.aload_n 2, 1) := by decide +kernel
theorem dD_1137 : lq_D 1137 1 := by unfold lq_D; decide +kernel
theorem dD_1143 : lq_D 1143 2 := by unfold lq_D; decide +kernel
set_option maxRecDepth 100000 in
theorem lkL_157 : Cond.methodLink RL 157 YX11_loss.1 ∈ wsA := in_t7 198 rfl rfl
theorem dL_1149 : decode code 1149 = .ok (.invokevirtual 157, 3) := by decide +kernel
theorem dL_1152 : decode code 1152 = .ok (.if_icmp .eq 335, 3) := by decide +kernel
theorem dL_1157 : decode code 1157 = .ok (.aload_n 1, 1) := by decide +kernel
set_option maxRecDepth 100000 in
theorem lkL_158 : Cond.methodLink RL 158 YX10_pairs.1 ∈ wsA := in_t4 225 rfl rfl
theorem dL_1158 : decode code 1158 = .ok (.invokevirtual 158, 3) := by decide +kernel
theorem dL_1161 : decode code 1161 = .ok (.aload_n 2, 1) := by decide +kernel
set_option maxRecDepth 100000 in
theorem lkL_161 : Cond.methodLink RL 161 YX11_pairs.1 ∈ wsA := in_t7 210 rfl rfl
theorem dL_1162 : decode code 1162 = .ok (.invokevirtual 161, 3) := by decide +kernel
theorem dL_1165 : decode code 1165 = .ok (.if_icmp .eq 322, 3) := by decide +kernel
theorem dL_1170 : decode code 1170 = .ok (.aload_n 1, 1) := by decide +kernel
theorem dD_1171 : lq_D 1171 1 := by unfold lq_D; decide +kernel
set_option maxRecDepth 100000 in
theorem lkL_162 : Cond.methodLink RL 162 YX10_brief.1 ∈ wsA := in_t5 3 rfl rfl
theorem dL_1177 : decode code 1177 = .ok (.invokevirtual 162, 3) := by decide +kernel
theorem dL_1180 : decode code 1180 = .ok (.aload_n 2, 1) := by decide +kernel
theorem dD_1181 : lq_D 1181 1 := by unfold lq_D; decide +kernel
set_option maxRecDepth 100000 in
theorem lkL_165 : Cond.methodLink RL 165 YX11_brief.1 ∈ wsA := in_t7 218 rfl rfl
theorem dL_1187 : decode code 1187 = .ok (.invokevirtual 165, 3) := by decide +kernel
theorem dL_1190 : decode code 1190 = .ok (.if_icmp .eq 297, 3) := by decide +kernel
theorem dL_1195 : decode code 1195 = .ok (.aload_n 1, 1) := by decide +kernel
theorem dD_1196 : lq_D 1196 1 := by unfold lq_D; decide +kernel
theorem dD_1202 : lq_D 1202 2 := by unfold lq_D; decide +kernel
theorem dD_1208 : lq_D 1208 3 := by unfold lq_D; decide +kernel
set_option maxRecDepth 100000 in
theorem lkL_166 : Cond.methodLink RL 166 YX10_heard.1 ∈ wsA := in_t5 7 rfl rfl
theorem dL_1214 : decode code 1214 = .ok (.invokevirtual 166, 3) := by decide +kernel
theorem dL_1217 : decode code 1217 = .ok (.aload_n 2, 1) := by decide +kernel
theorem dD_1218 : lq_D 1218 1 := by unfold lq_D; decide +kernel
theorem dD_1224 : lq_D 1224 2 := by unfold lq_D; decide +kernel
theorem dD_1230 : lq_D 1230 3 := by unfold lq_D; decide +kernel
set_option maxRecDepth 100000 in
theorem lkL_169 : Cond.methodLink RL 169 YX11_heard.1 ∈ wsA := in_t7 222 rfl rfl
theorem dL_1236 : decode code 1236 = .ok (.invokevirtual 169, 3) := by decide +kernel
theorem dL_1239 : decode code 1239 = .ok (.if_icmp .eq 248, 3) := by decide +kernel
theorem dL_1244 : decode code 1244 = .ok (.aload_n 1, 1) := by decide +kernel
set_option maxRecDepth 100000 in
theorem lkL_170 : Cond.methodLink RL 170 YX10_forget.1 ∈ wsA := in_t5 15 rfl rfl
theorem dL_1245 : decode code 1245 = .ok (.invokevirtual 170, 3) := by decide +kernel
theorem dL_1248 : decode code 1248 = .ok (.aload_n 2, 1) := by decide +kernel
set_option maxRecDepth 100000 in
theorem lkL_173 : Cond.methodLink RL 173 YX11_forget.1 ∈ wsA := in_t7 226 rfl rfl
theorem dL_1249 : decode code 1249 = .ok (.invokevirtual 173, 3) := by decide +kernel
theorem dL_1252 : decode code 1252 = .ok (.if_icmp .eq 235, 3) := by decide +kernel
theorem dL_1257 : decode code 1257 = .ok (.aload_n 1, 1) := by decide +kernel
theorem dD_1258 : lq_D 1258 1 := by unfold lq_D; decide +kernel
set_option maxRecDepth 100000 in
theorem lkL_174 : Cond.methodLink RL 174 YX10_fits.1 ∈ wsA := in_t5 19 rfl rfl
theorem dL_1264 : decode code 1264 = .ok (.invokevirtual 174, 3) := by decide +kernel
theorem dL_1267 : decode code 1267 = .ok (.aload_n 2, 1) := by decide +kernel
theorem dD_1268 : lq_D 1268 1 := by unfold lq_D; decide +kernel
set_option maxRecDepth 100000 in
theorem lkL_177 : Cond.methodLink RL 177 YX11_fits.1 ∈ wsA := in_t7 230 rfl rfl
theorem dL_1274 : decode code 1274 = .ok (.invokevirtual 177, 3) := by decide +kernel
theorem dL_1277 : decode code 1277 = .ok (.if_icmp .eq 210, 3) := by decide +kernel
theorem dL_1282 : decode code 1282 = .ok (.aload_n 1, 1) := by decide +kernel
theorem dD_1283 : lq_D 1283 1 := by unfold lq_D; decide +kernel
set_option maxRecDepth 100000 in
theorem lkL_178 : Cond.methodLink RL 178 YX10_began.1 ∈ wsA := in_t5 28 rfl rfl
theorem dL_1289 : decode code 1289 = .ok (.invokevirtual 178, 3) := by decide +kernel
theorem dL_1292 : decode code 1292 = .ok (.aload_n 2, 1) := by decide +kernel
theorem dD_1293 : lq_D 1293 1 := by unfold lq_D; decide +kernel
set_option maxRecDepth 100000 in
theorem lkL_181 : Cond.methodLink RL 181 YX11_began.1 ∈ wsA := in_t8 6 rfl rfl
theorem dL_1299 : decode code 1299 = .ok (.invokevirtual 181, 3) := by decide +kernel
theorem dL_1302 : decode code 1302 = .ok (.if_icmp .eq 185, 3) := by decide +kernel
theorem dL_1307 : decode code 1307 = .ok (.aload_n 1, 1) := by decide +kernel
theorem dD_1308 : lq_D 1308 1 := by unfold lq_D; decide +kernel
theorem dD_1314 : lq_D 1314 2 := by unfold lq_D; decide +kernel
theorem dD_1320 : lq_D 1320 3 := by unfold lq_D; decide +kernel
set_option maxRecDepth 100000 in
theorem lkL_182 : Cond.methodLink RL 182 YX10_season.1 ∈ wsA := in_t5 32 rfl rfl
theorem dL_1326 : decode code 1326 = .ok (.invokevirtual 182, 3) := by decide +kernel
theorem dL_1329 : decode code 1329 = .ok (.aload_n 2, 1) := by decide +kernel
theorem dD_1330 : lq_D 1330 1 := by unfold lq_D; decide +kernel
theorem dD_1336 : lq_D 1336 2 := by unfold lq_D; decide +kernel
theorem dD_1342 : lq_D 1342 3 := by unfold lq_D; decide +kernel
set_option maxRecDepth 100000 in
theorem lkL_185 : Cond.methodLink RL 185 YX11_season.1 ∈ wsA := in_t8 10 rfl rfl
theorem dL_1348 : decode code 1348 = .ok (.invokevirtual 185, 3) := by decide +kernel
theorem dL_1351 : decode code 1351 = .ok (.if_icmp .eq 136, 3) := by decide +kernel
theorem dL_1356 : decode code 1356 = .ok (.aload_n 1, 1) := by decide +kernel
theorem dD_1357 : lq_D 1357 1 := by unfold lq_D; decide +kernel
set_option maxRecDepth 100000 in
theorem lkL_186 : Cond.methodLink RL 186 YX10_keep.1 ∈ wsA := in_t5 42 rfl rfl
theorem dL_1363 : decode code 1363 = .ok (.invokevirtual 186, 3) := by decide +kernel
theorem dL_1366 : decode code 1366 = .ok (.aload_n 2, 1) := by decide +kernel
theorem dD_1367 : lq_D 1367 1 := by unfold lq_D; decide +kernel
set_option maxRecDepth 100000 in
theorem lkL_189 : Cond.methodLink RL 189 YX11_keep.1 ∈ wsA := in_t8 27 rfl rfl
theorem dL_1373 : decode code 1373 = .ok (.invokevirtual 189, 3) := by decide +kernel
theorem dL_1376 : decode code 1376 = .ok (.if_icmp .eq 111, 3) := by decide +kernel
theorem dL_1381 : decode code 1381 = .ok (.aload_n 1, 1) := by decide +kernel
theorem dD_1382 : lq_D 1382 1 := by unfold lq_D; decide +kernel
set_option maxRecDepth 100000 in
theorem lkL_190 : Cond.methodLink RL 190 YX10_again.1 ∈ wsA := in_t5 46 rfl rfl
theorem dL_1388 : decode code 1388 = .ok (.invokevirtual 190, 3) := by decide +kernel
theorem dL_1391 : decode code 1391 = .ok (.aload_n 2, 1) := by decide +kernel
theorem dD_1392 : lq_D 1392 1 := by unfold lq_D; decide +kernel
set_option maxRecDepth 100000 in
theorem lkL_193 : Cond.methodLink RL 193 YX11_again.1 ∈ wsA := in_t8 31 rfl rfl
theorem dL_1398 : decode code 1398 = .ok (.invokevirtual 193, 3) := by decide +kernel
theorem dL_1401 : decode code 1401 = .ok (.if_icmp .eq 86, 3) := by decide +kernel
theorem dL_1406 : decode code 1406 = .ok (.aload_n 1, 1) := by decide +kernel
theorem dD_1407 : lq_D 1407 1 := by unfold lq_D; decide +kernel
set_option maxRecDepth 100000 in
theorem lkL_194 : Cond.methodLink RL 194 YX10_count.1 ∈ wsA := in_t5 50 rfl rfl
theorem dL_1413 : decode code 1413 = .ok (.invokevirtual 194, 3) := by decide +kernel
theorem dL_1416 : decode code 1416 = .ok (.aload_n 2, 1) := by decide +kernel
theorem dD_1417 : lq_D 1417 1 := by unfold lq_D; decide +kernel
set_option maxRecDepth 100000 in
theorem lkL_197 : Cond.methodLink RL 197 YX11_count.1 ∈ wsA := in_t8 35 rfl rfl
theorem dL_1423 : decode code 1423 = .ok (.invokevirtual 197, 3) := by decide +kernel
theorem dL_1426 : decode code 1426 = .ok (.if_icmp .eq 61, 3) := by decide +kernel
theorem dL_1431 : decode code 1431 = .ok (.aload_n 1, 1) := by decide +kernel
theorem dD_1432 : lq_D 1432 1 := by unfold lq_D; decide +kernel
theorem dL_1438 : decode code 1438 = .ok (.aload_n 3, 1) := by decide +kernel
set_option maxRecDepth 100000 in
theorem gL_row : GoodIn wsA (va_wsS RL 198 yLrow (Cond.codeWith yLrow method_5_code 4 (some .int) [(0, 9, 12, 13)] :: wsA)) := goodIn_cw (in_t5 133 rfl rfl) (in_t5 131 rfl rfl) (in_t5 132 rfl rfl) (in_t1 0 rfl rfl)
theorem dL_1439 : decode code 1439 = .ok (.invokestatic 198, 3) := by decide +kernel
theorem dL_1442 : decode code 1442 = .ok (.istore 5, 2) := by decide +kernel
theorem dL_1444 : decode code 1444 = .ok (.aload_n 2, 1) := by decide +kernel
theorem dD_1445 : lq_D 1445 1 := by unfold lq_D; decide +kernel
set_option maxRecDepth 100000 in
theorem lkL_201 : Cond.methodLink RL 201 YX11_row.1 ∈ wsA := in_t8 39 rfl rfl
theorem dL_1451 : decode code 1451 = .ok (.invokevirtual 201, 3) := by decide +kernel
theorem dL_1454 : decode code 1454 = .ok (.istore 6, 2) := by decide +kernel
theorem dT_1456 : lq_T 1456 3 := by unfold lq_T; decide +kernel
theorem dL_0 : decode code 0 = .ok (.new 8, 3) := by decide +kernel
theorem dL_3 : decode code 3 = .ok (.dup, 1) := by decide +kernel
theorem dL_4 : decode code 4 = .ok (.invokespecial 22, 3) := by decide +kernel
theorem dL_7 : decode code 7 = .ok (.astore_n 1, 1) := by decide +kernel
theorem dL_8 : decode code 8 = .ok (.new 23, 3) := by decide +kernel
theorem dL_11 : decode code 11 = .ok (.dup, 1) := by decide +kernel
theorem dL_12 : decode code 12 = .ok (.invokespecial 25, 3) := by decide +kernel
theorem dL_15 : decode code 15 = .ok (.astore_n 2, 1) := by decide +kernel
theorem dL_16 : decode code 16 = .ok (.iconst 1, 1) := by decide +kernel
theorem dL_17 : decode code 17 = .ok (.newarray .long, 2) := by decide +kernel
theorem dL_19 : decode code 19 = .ok (.astore_n 3, 1) := by decide +kernel
theorem dL_20 : decode code 20 = .ok (.iconst 0, 1) := by decide +kernel
theorem dL_21 : decode code 21 = .ok (.istore 4, 2) := by decide +kernel
theorem dL_23 : decode code 23 = .ok (.iload 4, 2) := by decide +kernel
theorem dL_25 : decode code 25 = .ok (.aload_n 0, 1) := by decide +kernel
theorem dL_26 : decode code 26 = .ok (.arraylength, 1) := by decide +kernel
theorem dL_27 : decode code 27 = .ok (.bipush 6, 2) := by decide +kernel
theorem dL_29 : decode code 29 = .ok (.isub, 1) := by decide +kernel
theorem dL_30 : decode code 30 = .ok (.if_icmp .gt 1463, 3) := by decide +kernel
theorem dL_33 : decode code 33 = .ok (.aload_n 0, 1) := by decide +kernel
theorem dL_34 : decode code 34 = .ok (.iload 4, 2) := by decide +kernel
theorem dL_36 : decode code 36 = .ok (.iaload, 1) := by decide +kernel
theorem dL_37 : decode code 37 = .ok (.bipush 63, 2) := by decide +kernel
theorem dL_39 : decode code 39 = .ok (.iand, 1) := by decide +kernel
theorem dL_40 : decode code 40 = .ok (.tableswitch 1447 0 41 #[184, 209, 234, 247, 260, 273, 341, 409, 446, 483, 556, 581, 618, 643, 656, 681, 694, 707, 744, 757, 770, 795, 820, 857, 894, 919, 944, 969, 1006, 1031, 1080, 1117, 1130, 1155, 1204, 1217, 1242, 1267, 1316, 1341, 1366, 1391], 184) := by decide +kernel
theorem dL_1487 : decode code 1487 = .ok (.iinc 4 6, 3) := by decide +kernel
theorem dL_1490 : decode code 1490 = .ok (.goto (-1467), 3) := by decide +kernel
theorem dL_1493 : decode code 1493 = .ok (.iconst 1, 1) := by decide +kernel
theorem dL_1494 : decode code 1494 = .ok (.ireturn, 1) := by decide +kernel
