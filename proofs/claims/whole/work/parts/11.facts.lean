/-! words, links, decode rows of the methods: by program -/
theorem kI_m8 : Int32.ofInt (-8) = (-8) := by decide
theorem kI_m1 : Int32.ofInt (-1) = (-1) := by decide
theorem kI_0 : Int32.ofInt 0 = 0 := by decide
theorem kI_1 : Int32.ofInt 1 = 1 := by decide
theorem kI_2 : Int32.ofInt 2 = 2 := by decide
theorem kI_3 : Int32.ofInt 3 = 3 := by decide
theorem kI_4 : Int32.ofInt 4 = 4 := by decide
theorem kI_5 : Int32.ofInt 5 = 5 := by decide
theorem kI_8 : Int32.ofInt 8 = 8 := by decide
theorem kI_16 : Int32.ofInt 16 = 16 := by decide
theorem kB_m100 : (Int8.ofInt (-100)).toInt32 = (-100) := by decide
theorem kB_m4 : (Int8.ofInt (-4)).toInt32 = (-4) := by decide
theorem kB_m3 : (Int8.ofInt (-3)).toInt32 = (-3) := by decide
theorem kB_m2 : (Int8.ofInt (-2)).toInt32 = (-2) := by decide
theorem kB_6 : (Int8.ofInt 6).toInt32 = 6 := by decide
theorem kB_8 : (Int8.ofInt 8).toInt32 = 8 := by decide
theorem kB_9 : (Int8.ofInt 9).toInt32 = 9 := by decide
theorem kB_10 : (Int8.ofInt 10).toInt32 = 10 := by decide
theorem kB_11 : (Int8.ofInt 11).toInt32 = 11 := by decide
theorem kB_12 : (Int8.ofInt 12).toInt32 = 12 := by decide
theorem kB_16 : (Int8.ofInt 16).toInt32 = 16 := by decide
theorem kB_18 : (Int8.ofInt 18).toInt32 = 18 := by decide
theorem kB_20 : (Int8.ofInt 20).toInt32 = 20 := by decide
theorem kB_24 : (Int8.ofInt 24).toInt32 = 24 := by decide
theorem kB_25 : (Int8.ofInt 25).toInt32 = 25 := by decide
theorem kB_30 : (Int8.ofInt 30).toInt32 = 30 := by decide
theorem kB_32 : (Int8.ofInt 32).toInt32 = 32 := by decide
theorem kB_36 : (Int8.ofInt 36).toInt32 = 36 := by decide
theorem kB_40 : (Int8.ofInt 40).toInt32 = 40 := by decide
theorem kB_41 : (Int8.ofInt 41).toInt32 = 41 := by decide
theorem kB_42 : (Int8.ofInt 42).toInt32 = 42 := by decide
theorem kB_43 : (Int8.ofInt 43).toInt32 = 43 := by decide
theorem kB_45 : (Int8.ofInt 45).toInt32 = 45 := by decide
theorem kB_47 : (Int8.ofInt 47).toInt32 = 47 := by decide
theorem kB_48 : (Int8.ofInt 48).toInt32 = 48 := by decide
theorem kB_57 : (Int8.ofInt 57).toInt32 = 57 := by decide
theorem kB_59 : (Int8.ofInt 59).toInt32 = 59 := by decide
theorem kB_60 : (Int8.ofInt 60).toInt32 = 60 := by decide
theorem kB_61 : (Int8.ofInt 61).toInt32 = 61 := by decide
theorem kB_62 : (Int8.ofInt 62).toInt32 = 62 := by decide
theorem kB_63 : (Int8.ofInt 63).toInt32 = 63 := by decide
theorem kB_76 : (Int8.ofInt 76).toInt32 = 76 := by decide
theorem kB_80 : (Int8.ofInt 80).toInt32 = 80 := by decide
theorem kB_90 : (Int8.ofInt 90).toInt32 = 90 := by decide
theorem kB_97 : (Int8.ofInt 97).toInt32 = 97 := by decide
theorem kB_99 : (Int8.ofInt 99).toInt32 = 99 := by decide
theorem kB_102 : (Int8.ofInt 102).toInt32 = 102 := by decide
theorem kB_105 : (Int8.ofInt 105).toInt32 = 105 := by decide
theorem kB_109 : (Int8.ofInt 109).toInt32 = 109 := by decide
theorem kB_111 : (Int8.ofInt 111).toInt32 = 111 := by decide
theorem kB_112 : (Int8.ofInt 112).toInt32 = 112 := by decide
theorem kB_114 : (Int8.ofInt 114).toInt32 = 114 := by decide
theorem kB_115 : (Int8.ofInt 115).toInt32 = 115 := by decide
theorem kB_118 : (Int8.ofInt 118).toInt32 = 118 := by decide
theorem kB_122 : (Int8.ofInt 122).toInt32 = 122 := by decide
theorem kS_m200 : (Int16.ofInt (-200)).toInt32 = (-200) := by decide
theorem kS_255 : (Int16.ofInt 255).toInt32 = 255 := by decide
theorem kS_256 : (Int16.ofInt 256).toInt32 = 256 := by decide
theorem kS_275 : (Int16.ofInt 275).toInt32 = 275 := by decide
theorem kS_300 : (Int16.ofInt 300).toInt32 = 300 := by decide
theorem kS_400 : (Int16.ofInt 400).toInt32 = 400 := by decide
theorem kS_720 : (Int16.ofInt 720).toInt32 = 720 := by decide
theorem kS_12345 : (Int16.ofInt 12345).toInt32 = 12345 := by decide
theorem isSt_26 : isSt 26 := by unfold isSt; decide
theorem isSt_31 : isSt 31 := by unfold isSt; decide
theorem isSt_36 : isSt 36 := by unfold isSt; decide
theorem isSt_41 : isSt 41 := by unfold isSt; decide
theorem isSt_48 : isSt 48 := by unfold isSt; decide
theorem isSt_53 : isSt 53 := by unfold isSt; decide
theorem isSt_58 : isSt 58 := by unfold isSt; decide
theorem isSt_63 : isSt 63 := by unfold isSt; decide
theorem isSt_68 : isSt 68 := by unfold isSt; decide
theorem isSt_73 : isSt 73 := by unfold isSt; decide
theorem isSt_78 : isSt 78 := by unfold isSt; decide
theorem isSt_83 : isSt 83 := by unfold isSt; decide
theorem isSt_88 : isSt 88 := by unfold isSt; decide
theorem isSt_93 : isSt 93 := by unfold isSt; decide
theorem isSt_98 : isSt 98 := by unfold isSt; decide
theorem isSt_103 : isSt 103 := by unfold isSt; decide
theorem isSt_110 : isSt 110 := by unfold isSt; decide
theorem isSt_115 : isSt 115 := by unfold isSt; decide
theorem isSt_130 : isSt 130 := by unfold isSt; decide
theorem isSt_135 : isSt 135 := by unfold isSt; decide
theorem isSt_140 : isSt 140 := by unfold isSt; decide
theorem isSt_145 : isSt 145 := by unfold isSt; decide
theorem isSt_150 : isSt 150 := by unfold isSt; decide
theorem isSt_155 : isSt 155 := by unfold isSt; decide
theorem isSt_160 : isSt 160 := by unfold isSt; decide
theorem isSt_165 : isSt 165 := by unfold isSt; decide
theorem k_0 : kinds[0]? = some 10 := rfl
theorem n_0 : LN 0 = 0 := rfl
theorem rf_0_0 {r : Nat → Int32} : RFd 0 r 0 = some 1 := rfl
theorem rf_0_1 {r : Nat → Int32} : RFd 0 r 1 = some 3 := rfl
theorem rf_0_2 {r : Nat → Int32} : RFd 0 r 2 = some 25 := rfl
theorem rf_0_3 {r : Nat → Int32} : RFd 0 r 3 = some 26 := rfl
theorem rf_0_4 {r : Nat → Int32} : RFd 0 r 4 = some 31 := rfl
theorem rf_0_5 {r : Nat → Int32} : RFd 0 r 5 = some 36 := rfl
theorem rf_0_6 {r : Nat → Int32} : RFd 0 r 6 = some 41 := rfl
theorem rf_0_7 {r : Nat → Int32} : RFd 0 r 7 = some 46 := rfl
theorem rf_0_8 {r : Nat → Int32} : RFd 0 r 8 = some 108 := rfl
theorem rf_0_9 {r : Nat → Int32} : RFd 0 r 9 = some 109 := rfl
theorem rf_0_10 {r : Nat → Int32} : RFd 0 r 10 = some 120 := rfl
theorem rf_0_11 {r : Nat → Int32} : RFd 0 r 11 = some 124 := rfl
theorem rf_0_12 {r : Nat → Int32} : RFd 0 r 12 = some 126 := rfl
theorem rf_0_13 {r : Nat → Int32} : RFd 0 r 13 = some 128 := rfl
theorem rf_0_14 {r : Nat → Int32} : RFd 0 r 14 = some 170 := rfl
theorem rf_0_15 {r : Nat → Int32} : RFd 0 r 15 = some 173 := rfl
theorem k_1 : kinds[1]? = some 8 := rfl
theorem n_1 : LN 1 = 0 := rfl
theorem rf_1_0 {r : Nat → Int32} : RFd 1 r 0 = some 2 := rfl
theorem k_2 : kinds[2]? = some 13 := rfl
theorem n_2 : LN 2 = 80 := rfl
theorem k_3 : kinds[3]? = some 1 := rfl
theorem n_3 : LN 3 = 0 := rfl
theorem rf_3_3 {r : Nat → Int32} : RFd 3 r 3 = some 4 := rfl
theorem rf_3_4 {r : Nat → Int32} : RFd 3 r 4 = some 5 := rfl
theorem rf_3_5 {r : Nat → Int32} : RFd 3 r 5 = some 6 := rfl
theorem rf_3_6 {r : Nat → Int32} : RFd 3 r 6 = some 7 := rfl
theorem rf_3_7 {r : Nat → Int32} : RFd 3 r 7 = some 8 := rfl
theorem rf_3_8 {r : Nat → Int32} : RFd 3 r 8 = some 9 := rfl
theorem rf_3_9 {r : Nat → Int32} : RFd 3 r 9 = some 16 := rfl
theorem rf_3_10 {r : Nat → Int32} : RFd 3 r 10 = some 23 := rfl
theorem k_4 : kinds[4]? = some 14 := rfl
theorem n_4 : LN 4 = 6 := rfl
theorem k_5 : kinds[5]? = some 14 := rfl
theorem n_5 : LN 5 = 6 := rfl
theorem k_6 : kinds[6]? = some 14 := rfl
theorem n_6 : LN 6 = 6 := rfl
theorem k_7 : kinds[7]? = some 14 := rfl
theorem n_7 : LN 7 = 6 := rfl
theorem k_8 : kinds[8]? = some 14 := rfl
theorem n_8 : LN 8 = 6 := rfl
theorem k_9 : kinds[9]? = some 17 := rfl
theorem n_9 : LN 9 = 6 := rfl
theorem k_10 : kinds[10]? = some 14 := rfl
theorem n_10 : LN 10 = 6 := rfl
theorem k_11 : kinds[11]? = some 14 := rfl
theorem n_11 : LN 11 = 6 := rfl
theorem k_12 : kinds[12]? = some 14 := rfl
theorem n_12 : LN 12 = 6 := rfl
theorem k_13 : kinds[13]? = some 14 := rfl
theorem n_13 : LN 13 = 6 := rfl
theorem k_14 : kinds[14]? = some 14 := rfl
theorem n_14 : LN 14 = 6 := rfl
theorem k_15 : kinds[15]? = some 14 := rfl
theorem n_15 : LN 15 = 6 := rfl
theorem k_16 : kinds[16]? = some 17 := rfl
theorem n_16 : LN 16 = 6 := rfl
theorem k_17 : kinds[17]? = some 14 := rfl
theorem n_17 : LN 17 = 6 := rfl
theorem k_18 : kinds[18]? = some 14 := rfl
theorem n_18 : LN 18 = 6 := rfl
theorem k_19 : kinds[19]? = some 14 := rfl
theorem n_19 : LN 19 = 6 := rfl
theorem k_20 : kinds[20]? = some 14 := rfl
theorem n_20 : LN 20 = 6 := rfl
theorem k_21 : kinds[21]? = some 14 := rfl
theorem n_21 : LN 21 = 6 := rfl
theorem k_22 : kinds[22]? = some 14 := rfl
theorem n_22 : LN 22 = 6 := rfl
theorem k_23 : kinds[23]? = some 3 := rfl
theorem n_23 : LN 23 = 0 := rfl
theorem rf_23_0 {r : Nat → Int32} : RFd 23 r 0 = some 24 := rfl
theorem k_24 : kinds[24]? = some 13 := rfl
theorem n_24 : LN 24 = 40 := rfl
theorem k_25 : kinds[25]? = some 4 := rfl
theorem n_25 : LN 25 = 0 := rfl
theorem rf_25_0 {r : Nat → Int32} : RFd 25 r 0 = some 1 := rfl
theorem rf_25_1 {r : Nat → Int32} : RFd 25 r 1 = some 3 := rfl
theorem k_26 : kinds[26]? = some 7 := rfl
theorem n_26 : LN 26 = 0 := rfl
theorem k_27 : kinds[27]? = some 14 := rfl
theorem n_27 : LN 27 = 6 := rfl
theorem k_28 : kinds[28]? = some 14 := rfl
theorem n_28 : LN 28 = 6 := rfl
theorem k_29 : kinds[29]? = some 14 := rfl
theorem n_29 : LN 29 = 6 := rfl
theorem k_30 : kinds[30]? = some 14 := rfl
theorem n_30 : LN 30 = 6 := rfl
theorem k_31 : kinds[31]? = some 7 := rfl
theorem n_31 : LN 31 = 0 := rfl
theorem k_32 : kinds[32]? = some 14 := rfl
theorem n_32 : LN 32 = 6 := rfl
theorem k_33 : kinds[33]? = some 14 := rfl
theorem n_33 : LN 33 = 6 := rfl
theorem k_34 : kinds[34]? = some 14 := rfl
theorem n_34 : LN 34 = 6 := rfl
theorem k_35 : kinds[35]? = some 14 := rfl
theorem n_35 : LN 35 = 6 := rfl
theorem k_36 : kinds[36]? = some 7 := rfl
theorem n_36 : LN 36 = 0 := rfl
theorem k_37 : kinds[37]? = some 14 := rfl
theorem n_37 : LN 37 = 6 := rfl
theorem k_38 : kinds[38]? = some 14 := rfl
theorem n_38 : LN 38 = 6 := rfl
theorem k_39 : kinds[39]? = some 14 := rfl
theorem n_39 : LN 39 = 6 := rfl
theorem k_40 : kinds[40]? = some 14 := rfl
theorem n_40 : LN 40 = 6 := rfl
theorem k_41 : kinds[41]? = some 7 := rfl
theorem n_41 : LN 41 = 0 := rfl
theorem k_42 : kinds[42]? = some 14 := rfl
theorem n_42 : LN 42 = 6 := rfl
theorem k_43 : kinds[43]? = some 14 := rfl
theorem n_43 : LN 43 = 6 := rfl
theorem k_44 : kinds[44]? = some 14 := rfl
theorem n_44 : LN 44 = 6 := rfl
theorem k_45 : kinds[45]? = some 14 := rfl
theorem n_45 : LN 45 = 6 := rfl
theorem k_46 : kinds[46]? = some 6 := rfl
theorem n_46 : LN 46 = 0 := rfl
theorem rf_46_0 {r : Nat → Int32} : RFd 46 r 0 = some 47 := rfl
theorem k_47 : kinds[47]? = some 16 := rfl
theorem n_47 : LN 47 = 12 := rfl
theorem k_48 : kinds[48]? = some 7 := rfl
theorem n_48 : LN 48 = 0 := rfl
theorem k_49 : kinds[49]? = some 14 := rfl
theorem n_49 : LN 49 = 6 := rfl
theorem k_50 : kinds[50]? = some 14 := rfl
theorem n_50 : LN 50 = 6 := rfl
theorem k_51 : kinds[51]? = some 14 := rfl
theorem n_51 : LN 51 = 6 := rfl
theorem k_52 : kinds[52]? = some 14 := rfl
theorem n_52 : LN 52 = 6 := rfl
theorem k_53 : kinds[53]? = some 7 := rfl
theorem n_53 : LN 53 = 0 := rfl
theorem k_54 : kinds[54]? = some 14 := rfl
theorem n_54 : LN 54 = 6 := rfl
theorem k_55 : kinds[55]? = some 14 := rfl
theorem n_55 : LN 55 = 6 := rfl
theorem k_56 : kinds[56]? = some 14 := rfl
theorem n_56 : LN 56 = 6 := rfl
theorem k_57 : kinds[57]? = some 14 := rfl
theorem n_57 : LN 57 = 6 := rfl
theorem k_58 : kinds[58]? = some 7 := rfl
theorem n_58 : LN 58 = 0 := rfl
theorem k_59 : kinds[59]? = some 14 := rfl
theorem n_59 : LN 59 = 6 := rfl
theorem k_60 : kinds[60]? = some 14 := rfl
theorem n_60 : LN 60 = 6 := rfl
theorem k_61 : kinds[61]? = some 14 := rfl
theorem n_61 : LN 61 = 6 := rfl
theorem k_62 : kinds[62]? = some 14 := rfl
theorem n_62 : LN 62 = 6 := rfl
theorem k_63 : kinds[63]? = some 7 := rfl
theorem n_63 : LN 63 = 0 := rfl
theorem k_64 : kinds[64]? = some 14 := rfl
theorem n_64 : LN 64 = 6 := rfl
theorem k_65 : kinds[65]? = some 14 := rfl
theorem n_65 : LN 65 = 6 := rfl
theorem k_66 : kinds[66]? = some 14 := rfl
theorem n_66 : LN 66 = 6 := rfl
theorem k_67 : kinds[67]? = some 14 := rfl
theorem n_67 : LN 67 = 6 := rfl
theorem k_68 : kinds[68]? = some 7 := rfl
theorem n_68 : LN 68 = 0 := rfl
theorem k_69 : kinds[69]? = some 14 := rfl
theorem n_69 : LN 69 = 6 := rfl
theorem k_70 : kinds[70]? = some 14 := rfl
theorem n_70 : LN 70 = 6 := rfl
theorem k_71 : kinds[71]? = some 14 := rfl
theorem n_71 : LN 71 = 6 := rfl
theorem k_72 : kinds[72]? = some 14 := rfl
theorem n_72 : LN 72 = 6 := rfl
theorem k_73 : kinds[73]? = some 7 := rfl
theorem n_73 : LN 73 = 0 := rfl
theorem k_74 : kinds[74]? = some 14 := rfl
theorem n_74 : LN 74 = 6 := rfl
theorem k_75 : kinds[75]? = some 14 := rfl
theorem n_75 : LN 75 = 6 := rfl
theorem k_76 : kinds[76]? = some 14 := rfl
theorem n_76 : LN 76 = 6 := rfl
theorem k_77 : kinds[77]? = some 14 := rfl
theorem n_77 : LN 77 = 6 := rfl
theorem k_78 : kinds[78]? = some 7 := rfl
theorem n_78 : LN 78 = 0 := rfl
theorem k_79 : kinds[79]? = some 14 := rfl
theorem n_79 : LN 79 = 6 := rfl
theorem k_80 : kinds[80]? = some 14 := rfl
theorem n_80 : LN 80 = 6 := rfl
theorem k_81 : kinds[81]? = some 14 := rfl
theorem n_81 : LN 81 = 6 := rfl
theorem k_82 : kinds[82]? = some 14 := rfl
theorem n_82 : LN 82 = 6 := rfl
theorem k_83 : kinds[83]? = some 7 := rfl
theorem n_83 : LN 83 = 0 := rfl
theorem k_84 : kinds[84]? = some 14 := rfl
theorem n_84 : LN 84 = 6 := rfl
theorem k_85 : kinds[85]? = some 14 := rfl
theorem n_85 : LN 85 = 6 := rfl
theorem k_86 : kinds[86]? = some 14 := rfl
theorem n_86 : LN 86 = 6 := rfl
theorem k_87 : kinds[87]? = some 14 := rfl
theorem n_87 : LN 87 = 6 := rfl
theorem k_88 : kinds[88]? = some 7 := rfl
theorem n_88 : LN 88 = 0 := rfl
theorem k_89 : kinds[89]? = some 14 := rfl
theorem n_89 : LN 89 = 6 := rfl
theorem k_90 : kinds[90]? = some 14 := rfl
theorem n_90 : LN 90 = 6 := rfl
theorem k_91 : kinds[91]? = some 14 := rfl
theorem n_91 : LN 91 = 6 := rfl
theorem k_92 : kinds[92]? = some 14 := rfl
theorem n_92 : LN 92 = 6 := rfl
theorem k_93 : kinds[93]? = some 7 := rfl
theorem n_93 : LN 93 = 0 := rfl
theorem k_94 : kinds[94]? = some 14 := rfl
theorem n_94 : LN 94 = 6 := rfl
theorem k_95 : kinds[95]? = some 14 := rfl
theorem n_95 : LN 95 = 6 := rfl
theorem k_96 : kinds[96]? = some 14 := rfl
theorem n_96 : LN 96 = 6 := rfl
theorem k_97 : kinds[97]? = some 14 := rfl
theorem n_97 : LN 97 = 6 := rfl
theorem k_98 : kinds[98]? = some 7 := rfl
theorem n_98 : LN 98 = 0 := rfl
theorem k_99 : kinds[99]? = some 14 := rfl
theorem n_99 : LN 99 = 6 := rfl
theorem k_100 : kinds[100]? = some 14 := rfl
theorem n_100 : LN 100 = 6 := rfl
theorem k_101 : kinds[101]? = some 14 := rfl
theorem n_101 : LN 101 = 6 := rfl
theorem k_102 : kinds[102]? = some 14 := rfl
theorem n_102 : LN 102 = 6 := rfl
theorem k_103 : kinds[103]? = some 7 := rfl
theorem n_103 : LN 103 = 0 := rfl
theorem k_104 : kinds[104]? = some 14 := rfl
theorem n_104 : LN 104 = 6 := rfl
theorem k_105 : kinds[105]? = some 14 := rfl
theorem n_105 : LN 105 = 6 := rfl
theorem k_106 : kinds[106]? = some 14 := rfl
theorem n_106 : LN 106 = 6 := rfl
theorem k_107 : kinds[107]? = some 14 := rfl
theorem n_107 : LN 107 = 6 := rfl
theorem k_108 : kinds[108]? = some 16 := rfl
theorem n_108 : LN 108 = 2 := rfl
theorem k_109 : kinds[109]? = some 14 := rfl
theorem n_109 : LN 109 = 2 := rfl
theorem k_110 : kinds[110]? = some 7 := rfl
theorem n_110 : LN 110 = 0 := rfl
theorem k_111 : kinds[111]? = some 14 := rfl
theorem n_111 : LN 111 = 6 := rfl
theorem k_112 : kinds[112]? = some 14 := rfl
theorem n_112 : LN 112 = 6 := rfl
theorem k_113 : kinds[113]? = some 14 := rfl
theorem n_113 : LN 113 = 6 := rfl
theorem k_114 : kinds[114]? = some 14 := rfl
theorem n_114 : LN 114 = 6 := rfl
theorem k_115 : kinds[115]? = some 7 := rfl
theorem n_115 : LN 115 = 0 := rfl
theorem k_116 : kinds[116]? = some 14 := rfl
theorem n_116 : LN 116 = 6 := rfl
theorem k_117 : kinds[117]? = some 14 := rfl
theorem n_117 : LN 117 = 6 := rfl
theorem k_118 : kinds[118]? = some 14 := rfl
theorem n_118 : LN 118 = 6 := rfl
theorem k_119 : kinds[119]? = some 14 := rfl
theorem n_119 : LN 119 = 6 := rfl
theorem k_120 : kinds[120]? = some 0 := rfl
theorem n_120 : LN 120 = 0 := rfl
theorem rf_120_0 {r : Nat → Int32} : RFd 120 r 0 = some 121 := rfl
theorem rf_120_1 {r : Nat → Int32} : RFd 120 r 1 = some 122 := rfl
theorem rf_120_2 {r : Nat → Int32} : RFd 120 r 2 = some 123 := rfl
theorem k_121 : kinds[121]? = some 14 := rfl
theorem n_121 : LN 121 = 12 := rfl
theorem k_122 : kinds[122]? = some 14 := rfl
theorem n_122 : LN 122 = 12 := rfl
theorem k_123 : kinds[123]? = some 14 := rfl
theorem n_123 : LN 123 = 12 := rfl
theorem k_124 : kinds[124]? = some 5 := rfl
theorem n_124 : LN 124 = 0 := rfl
theorem rf_124_0 {r : Nat → Int32} : RFd 124 r 0 = some 125 := rfl
theorem k_125 : kinds[125]? = some 14 := rfl
theorem n_125 : LN 125 = 6 := rfl
theorem k_126 : kinds[126]? = some 5 := rfl
theorem n_126 : LN 126 = 0 := rfl
theorem rf_126_0 {r : Nat → Int32} : RFd 126 r 0 = some 127 := rfl
theorem k_127 : kinds[127]? = some 14 := rfl
theorem n_127 : LN 127 = 6 := rfl
theorem k_128 : kinds[128]? = some 9 := rfl
theorem n_128 : LN 128 = 0 := rfl
theorem rf_128_0 {r : Nat → Int32} : RFd 128 r 0 = some 3 := rfl
theorem rf_128_1 {r : Nat → Int32} : RFd 128 r 1 = some 120 := rfl
theorem rf_128_2 {r : Nat → Int32} : RFd 128 r 2 = some 129 := rfl
theorem rf_128_6 {r : Nat → Int32} : RFd 128 r 6 = some 165 := rfl
theorem k_129 : kinds[129]? = some 16 := rfl
theorem n_129 : LN 129 = 7 := rfl
theorem k_130 : kinds[130]? = some 7 := rfl
theorem n_130 : LN 130 = 0 := rfl
theorem k_131 : kinds[131]? = some 14 := rfl
theorem n_131 : LN 131 = 6 := rfl
theorem k_132 : kinds[132]? = some 14 := rfl
theorem n_132 : LN 132 = 6 := rfl
theorem k_133 : kinds[133]? = some 14 := rfl
theorem n_133 : LN 133 = 6 := rfl
theorem k_134 : kinds[134]? = some 14 := rfl
theorem n_134 : LN 134 = 6 := rfl
theorem k_135 : kinds[135]? = some 7 := rfl
theorem n_135 : LN 135 = 0 := rfl
theorem k_136 : kinds[136]? = some 14 := rfl
theorem n_136 : LN 136 = 6 := rfl
theorem k_137 : kinds[137]? = some 14 := rfl
theorem n_137 : LN 137 = 6 := rfl
theorem k_138 : kinds[138]? = some 14 := rfl
theorem n_138 : LN 138 = 6 := rfl
theorem k_139 : kinds[139]? = some 14 := rfl
theorem n_139 : LN 139 = 6 := rfl
theorem k_140 : kinds[140]? = some 7 := rfl
theorem n_140 : LN 140 = 0 := rfl
theorem k_141 : kinds[141]? = some 14 := rfl
theorem n_141 : LN 141 = 6 := rfl
theorem k_142 : kinds[142]? = some 14 := rfl
theorem n_142 : LN 142 = 6 := rfl
theorem k_143 : kinds[143]? = some 14 := rfl
theorem n_143 : LN 143 = 6 := rfl
theorem k_144 : kinds[144]? = some 14 := rfl
theorem n_144 : LN 144 = 6 := rfl
theorem k_145 : kinds[145]? = some 7 := rfl
theorem n_145 : LN 145 = 0 := rfl
theorem k_146 : kinds[146]? = some 14 := rfl
theorem n_146 : LN 146 = 6 := rfl
theorem k_147 : kinds[147]? = some 14 := rfl
theorem n_147 : LN 147 = 6 := rfl
theorem k_148 : kinds[148]? = some 14 := rfl
theorem n_148 : LN 148 = 6 := rfl
theorem k_149 : kinds[149]? = some 14 := rfl
theorem n_149 : LN 149 = 6 := rfl
theorem k_150 : kinds[150]? = some 7 := rfl
theorem n_150 : LN 150 = 0 := rfl
theorem k_151 : kinds[151]? = some 14 := rfl
theorem n_151 : LN 151 = 6 := rfl
theorem k_152 : kinds[152]? = some 14 := rfl
theorem n_152 : LN 152 = 6 := rfl
theorem k_153 : kinds[153]? = some 14 := rfl
theorem n_153 : LN 153 = 6 := rfl
theorem k_154 : kinds[154]? = some 14 := rfl
theorem n_154 : LN 154 = 6 := rfl
theorem k_155 : kinds[155]? = some 7 := rfl
theorem n_155 : LN 155 = 0 := rfl
theorem k_156 : kinds[156]? = some 14 := rfl
theorem n_156 : LN 156 = 6 := rfl
theorem k_157 : kinds[157]? = some 14 := rfl
theorem n_157 : LN 157 = 6 := rfl
theorem k_158 : kinds[158]? = some 14 := rfl
theorem n_158 : LN 158 = 6 := rfl
theorem k_159 : kinds[159]? = some 14 := rfl
theorem n_159 : LN 159 = 6 := rfl
theorem k_160 : kinds[160]? = some 7 := rfl
theorem n_160 : LN 160 = 0 := rfl
theorem k_161 : kinds[161]? = some 14 := rfl
theorem n_161 : LN 161 = 6 := rfl
theorem k_162 : kinds[162]? = some 14 := rfl
theorem n_162 : LN 162 = 6 := rfl
theorem k_163 : kinds[163]? = some 14 := rfl
theorem n_163 : LN 163 = 6 := rfl
theorem k_164 : kinds[164]? = some 14 := rfl
theorem n_164 : LN 164 = 6 := rfl
theorem k_165 : kinds[165]? = some 7 := rfl
theorem n_165 : LN 165 = 0 := rfl
theorem k_166 : kinds[166]? = some 14 := rfl
theorem n_166 : LN 166 = 6 := rfl
theorem k_167 : kinds[167]? = some 14 := rfl
theorem n_167 : LN 167 = 6 := rfl
theorem k_168 : kinds[168]? = some 14 := rfl
theorem n_168 : LN 168 = 6 := rfl
theorem k_169 : kinds[169]? = some 14 := rfl
theorem n_169 : LN 169 = 6 := rfl
theorem k_170 : kinds[170]? = some 2 := rfl
theorem n_170 : LN 170 = 0 := rfl
theorem rf_170_0 {r : Nat → Int32} : RFd 170 r 0 = some 3 := rfl
theorem rf_170_1 {r : Nat → Int32} : RFd 170 r 1 = some 171 := rfl
theorem rf_170_2 {r : Nat → Int32} : RFd 170 r 2 = some 172 := rfl
theorem k_171 : kinds[171]? = some 14 := rfl
theorem n_171 : LN 171 = 6 := rfl
theorem k_172 : kinds[172]? = some 14 := rfl
theorem n_172 : LN 172 = 6 := rfl
theorem k_173 : kinds[173]? = some 14 := rfl
theorem n_173 : LN 173 = 12 := rfl
theorem k_174 : kinds[174]? = some 11 := rfl
theorem n_174 : LN 174 = 0 := rfl
theorem rf_174_0 {r : Nat → Int32} : RFd 174 r 0 = some 175 := rfl
theorem rf_174_2 {r : Nat → Int32} : RFd 174 r 2 = some 176 := rfl
theorem rf_174_4 {r : Nat → Int32} : RFd 174 r 4 = some 177 := rfl
theorem rf_174_5 {r : Nat → Int32} : RFd 174 r 5 = some 178 := rfl
theorem rf_174_6 {r : Nat → Int32} : RFd 174 r 6 = some 179 := rfl
theorem rf_174_7 {r : Nat → Int32} : RFd 174 r 7 = some 180 := rfl
theorem rf_174_8 {r : Nat → Int32} : RFd 174 r 8 = some 181 := rfl
theorem rf_174_9 {r : Nat → Int32} : RFd 174 r 9 = some 182 := rfl
theorem rf_174_10 {r : Nat → Int32} : RFd 174 r 10 = some 183 := rfl
theorem rf_174_12 {r : Nat → Int32} : RFd 174 r 12 = some 184 := rfl
theorem rf_174_20 {r : Nat → Int32} : RFd 174 r 20 = some 185 := rfl
theorem rf_174_21 {r : Nat → Int32} : RFd 174 r 21 = some 186 := rfl
theorem rf_174_26 {r : Nat → Int32} : RFd 174 r 26 = some 187 := rfl
theorem rf_174_27 {r : Nat → Int32} : RFd 174 r 27 = some 188 := rfl
theorem rf_174_29 {r : Nat → Int32} : RFd 174 r 29 = some 189 := rfl
theorem rf_174_33 {r : Nat → Int32} : RFd 174 r 33 = some 190 := rfl
theorem rf_174_35 {r : Nat → Int32} : RFd 174 r 35 = some 191 := rfl
theorem rf_174_36 {r : Nat → Int32} : RFd 174 r 36 = some 192 := rfl
theorem rf_174_38 {r : Nat → Int32} : RFd 174 r 38 = some 193 := rfl
theorem rf_174_42 {r : Nat → Int32} : RFd 174 r 42 = some 194 := rfl
theorem rf_174_43 {r : Nat → Int32} : RFd 174 r 43 = some 195 := rfl
theorem rf_174_45 {r : Nat → Int32} : RFd 174 r 45 = some 196 := rfl
theorem rf_174_46 {r : Nat → Int32} : RFd 174 r 46 = some 197 := rfl
theorem rf_174_47 {r : Nat → Int32} : RFd 174 r 47 = some 198 := rfl
theorem rf_174_48 {r : Nat → Int32} : RFd 174 r 48 = some 199 := rfl
theorem rf_174_51 {r : Nat → Int32} : RFd 174 r 51 = some 200 := rfl
theorem rf_174_58 {r : Nat → Int32} : RFd 174 r 58 = some 201 := rfl
theorem rf_174_59 {r : Nat → Int32} : RFd 174 r 59 = some 202 := rfl
theorem rf_174_60 {r : Nat → Int32} : RFd 174 r 60 = some 203 := rfl
theorem k_175 : kinds[175]? = some 14 := rfl
theorem n_175 : LN 175 = 25 := rfl
theorem k_176 : kinds[176]? = some 15 := rfl
theorem n_176 : LN 176 = 6 := rfl
theorem k_177 : kinds[177]? = some 14 := rfl
theorem n_177 : LN 177 = 6 := rfl
theorem k_178 : kinds[178]? = some 14 := rfl
theorem n_178 : LN 178 = 6 := rfl
theorem k_179 : kinds[179]? = some 14 := rfl
theorem n_179 : LN 179 = 6 := rfl
theorem k_180 : kinds[180]? = some 15 := rfl
theorem n_180 : LN 180 = 6 := rfl
theorem k_181 : kinds[181]? = some 14 := rfl
theorem n_181 : LN 181 = 36 := rfl
theorem k_182 : kinds[182]? = some 14 := rfl
theorem n_182 : LN 182 = 6 := rfl
theorem k_183 : kinds[183]? = some 12 := rfl
theorem n_183 : LN 183 = 80 := rfl
theorem k_184 : kinds[184]? = some 14 := rfl
theorem n_184 : LN 184 = 16 := rfl
theorem k_185 : kinds[185]? = some 14 := rfl
theorem n_185 : LN 185 = 60 := rfl
theorem k_186 : kinds[186]? = some 12 := rfl
theorem n_186 : LN 186 = 40 := rfl
theorem k_187 : kinds[187]? = some 14 := rfl
theorem n_187 : LN 187 = 36 := rfl
theorem k_188 : kinds[188]? = some 14 := rfl
theorem n_188 : LN 188 = 300 := rfl
theorem k_189 : kinds[189]? = some 14 := rfl
theorem n_189 : LN 189 = 25 := rfl
theorem k_190 : kinds[190]? = some 14 := rfl
theorem n_190 : LN 190 = 240 := rfl
theorem k_191 : kinds[191]? = some 14 := rfl
theorem n_191 : LN 191 = 25 := rfl
theorem k_192 : kinds[192]? = some 14 := rfl
theorem n_192 : LN 192 = 6 := rfl
theorem k_193 : kinds[193]? = some 14 := rfl
theorem n_193 : LN 193 = 6 := rfl
theorem k_194 : kinds[194]? = some 14 := rfl
theorem n_194 : LN 194 = 6 := rfl
theorem k_195 : kinds[195]? = some 14 := rfl
theorem n_195 : LN 195 = 6 := rfl
theorem k_196 : kinds[196]? = some 14 := rfl
theorem n_196 : LN 196 = 6 := rfl
theorem k_197 : kinds[197]? = some 14 := rfl
theorem n_197 : LN 197 = 6 := rfl
theorem k_198 : kinds[198]? = some 14 := rfl
theorem n_198 : LN 198 = 6 := rfl
theorem k_199 : kinds[199]? = some 14 := rfl
theorem n_199 : LN 199 = 6 := rfl
theorem k_200 : kinds[200]? = some 14 := rfl
theorem n_200 : LN 200 = 36 := rfl
theorem k_201 : kinds[201]? = some 14 := rfl
theorem n_201 : LN 201 = 50 := rfl
theorem k_202 : kinds[202]? = some 15 := rfl
theorem n_202 : LN 202 = 2 := rfl
theorem k_203 : kinds[203]? = some 14 := rfl
theorem n_203 : LN 203 = 2 := rfl
theorem sr_r {r : Nat → Int32} : RFd 23 r 2 = some (dS (r 2)) := rfl
def FI (own : String) (idx ci f : Nat) : Prop := FLk own idx ci f ∧ isRf ci f = false ∧ isFi ci f = false ∧ tyF ci f = .int
def FZ (own : String) (idx ci f : Nat) : Prop := FLk own idx ci f ∧ isRf ci f = false ∧ isFi ci f = false ∧ tyF ci f = .boolean
def FR (own : String) (idx ci f : Nat) : Prop := FLk own idx ci f ∧ isRf ci f = true
def isBy (a : Nat) : Prop := a = 183 ∨ a = 186
theorem by_k {a : Nat} (h : isBy a) : kinds[a]? = some 12 := by rcases h with rfl | rfl <;> rfl
def bc (a : Nat) : Int32 := if a = 183 then 1 else 2
theorem bc_0 (a : Nat) : ¬ bc a = 0 := by unfold bc; split <;> decide
theorem bc_v {a : Nat} (h : isBy a) : dR (bc a) = a := by rcases h with rfl | rfl <;> decide
theorem rd_r {M : Mem} (h : ¬ M 174 15 = 0) : RFd 174 (M 174) 15 = some (dR (M 174 15)) := by unfold RFd; rw [if_neg (by decide), if_pos ⟨rfl, rfl⟩, if_neg h]
def RU : Nat := 100
theorem ne_ti {x k : Int32} {z : Int} (c : ¬ x = k) (h : k.toInt = z) : ¬ x.toInt = z := fun q => c (Int32.toInt_inj.mp (q.trans h.symm))
def lkNo (z : Int) : List (Int × Int) → Prop
  | [] => True
  | p :: ps => ¬ z = p.1 ∧ lkNo z ps
theorem lk_out {z dflt : Int} : ∀ {ps : List (Int × Int)}, lkNo z ps → Op.lookupswitch.offset ps dflt z = dflt
  | [], _ => rfl
  | (a, o) :: ps, h => by
    rw [Op.lookupswitch.offset_cons, if_neg (fun q => h.1 q.symm)]
    exact lk_out h.2
theorem tb_out {x : Int32} {lo hi : Nat} (hh : hi < 1000) (h : ∀ k : Nat, lo ≤ k → k ≤ hi → ¬ x = Int32.ofNat k) : x.toInt < (lo : Int) ∨ (hi : Int) < x.toInt := by
  by_cases h0 : x.toInt < (lo : Int)
  · exact Or.inl h0
  · right
    rcases (by omega : (hi : Int) < x.toInt ∨ x.toInt ≤ (hi : Int)) with q | q
    · exact q
    · exfalso
      have hk : x.toInt.toNat ≤ hi := by omega
      refine h x.toInt.toNat (by omega) hk (Int32.toInt_inj.mp ?_)
      rw [Int32.toInt_ofNat_of_lt (by omega)]
      omega
section NXQ
variable {l : Launch} {D : va_G} {cy : Nat → ClassId} {ad : Nat → Nat} {Y : MRec} {d : Nat} {r : Option Value} {ms' : Mm} {pc : Nat} {L : List (Nat × Value)} {st : List Value} {X : Mm} {M : Mem}
theorem t_getI {idx ci f i : Nat} (hd : decode Y.2.1 pc = .ok (.getfield idx, 3)) (hf : FI Y.1.cls idx ci f ∨ FZ Y.1.cls idx ci f) (hk : kinds[i]? = some ci) (kk : RunF l D cy ad none Y d 0 0 r ms' 0 0 (pc + 3) L (.int (M i f) :: st) (lay X M)) : RunF l D cy ad none Y d 0 0 r ms' 0 0 pc L (.ref i :: st) (lay X M) := by
  rcases hf with h | h <;> exact s_getI hd h.1 h.2.1 hk kk
theorem u_getI {idx ci f i : Nat} (hd : decode Y.2.1 pc = .ok (.getfield idx, 3)) (hf : FI Y.1.cls idx ci f) (hk : kinds[i]? = some ci) (kk : RunF l D cy ad none Y d 0 0 r ms' 0 0 (pc + 3) L (.int (M i f) :: st) (lay X M)) : RunF l D cy ad none Y d 0 0 r ms' 0 0 pc L (.ref i :: st) (lay X M) := s_getI hd hf.1 hf.2.1 hk kk
theorem u_getZ {idx ci f i : Nat} (hd : decode Y.2.1 pc = .ok (.getfield idx, 3)) (hf : FZ Y.1.cls idx ci f) (hk : kinds[i]? = some ci) (kk : RunF l D cy ad none Y d 0 0 r ms' 0 0 (pc + 3) L (.int (M i f) :: st) (lay X M)) : RunF l D cy ad none Y d 0 0 r ms' 0 0 pc L (.ref i :: st) (lay X M) := s_getI hd hf.1 hf.2.1 hk kk
theorem u_getR {idx ci f i j : Nat} (hd : decode Y.2.1 pc = .ok (.getfield idx, 3)) (hf : FR Y.1.cls idx ci f) (hk : kinds[i]? = some ci) (hj : RFd i (M i) f = some j) (kk : RunF l D cy ad none Y d 0 0 r ms' 0 0 (pc + 3) L (.ref j :: st) (lay X M)) : RunF l D cy ad none Y d 0 0 r ms' 0 0 pc L (.ref i :: st) (lay X M) := s_getR hd hf.1 hf.2 hk hj kk
theorem u_putI {idx ci f i : Nat} {v : Int32} (hd : decode Y.2.1 pc = .ok (.putfield idx, 3)) (hf : FI Y.1.cls idx ci f) (hk : kinds[i]? = some ci) (kk : RunF l D cy ad none Y d 0 0 r ms' 0 0 (pc + 3) L st (lay X (up M i f v))) : RunF l D cy ad none Y d 0 0 r ms' 0 0 pc L (.int v :: .ref i :: st) (lay X M) := s_putI hd hf.1 (Or.inl hf.2.2.2) hf.2.2.1 hk kk
theorem u_putZ {idx ci f i : Nat} {v : Int32} (hd : decode Y.2.1 pc = .ok (.putfield idx, 3)) (hf : FZ Y.1.cls idx ci f) (hv : v = 0 ∨ v = 1) (hk : kinds[i]? = some ci) (kk : RunF l D cy ad none Y d 0 0 r ms' 0 0 (pc + 3) L st (lay X (up M i f v))) : RunF l D cy ad none Y d 0 0 r ms' 0 0 pc L (.int v :: .ref i :: st) (lay X M) := s_putI hd hf.1 (Or.inr ⟨hf.2.2.2, hv⟩) hf.2.2.1 hk kk
end NXQ
section NXR
variable {l : Launch} {D : va_G} {cy : Nat → ClassId} {ad : Nat → Nat} {Y : MRec} {d pc : Nat} {L : List (Nat × Value)} {X : Mm} {M M' : Mem} {R v : Int32}
theorem s_iret (hd : decode Y.2.1 pc = .ok (.ireturn, 1)) (hY : Y.2.2.2 = some .int) (hF : some (v, M) = some (R, M')) : RunF l D cy ad none Y d 0 0 (some (.int R)) (lay X M') 0 0 pc L [.int v] (lay X M) := by
  cases hF
  exact g_iret hd hY (Nat.le_refl 0) (Nat.le_refl 0)
theorem s_zret (hd : decode Y.2.1 pc = .ok (.ireturn, 1)) (hY : Y.2.2.2 = some .boolean) (hv : v = 0 ∨ v = 1) (hF : some (v, M) = some (R, M')) : RunF l D cy ad none Y d 0 0 (some (.int R)) (lay X M') 0 0 pc L [.int v] (lay X M) := by
  cases hF
  exact g_zret hd hY hv (Nat.le_refl 0) (Nat.le_refl 0)
theorem s_vret (hd : decode Y.2.1 pc = .ok (.return_, 1)) (hY : Y.2.2.2 = none) (hF : some ((0 : Int32), M) = some (R, M')) : RunF l D cy ad none Y d 0 0 none (lay X M') 0 0 pc L [] (lay X M) := by
  cases hF
  exact g_vret hd hY (Nat.le_refl 0) (Nat.le_refl 0)
end NXR
theorem in_lw {w : Cond} (h : w ∈ tables_1) (hg : goodWord w = true) : w ∈ wsA := List.mem_filter.mpr ⟨List.mem_append_right _ h, hg⟩
theorem in_t1 {w : Cond} (i : Nat) (h : tables_1_1[i]? = some w) (hg : goodWord w = true) : w ∈ wsA := in_lw (List.mem_append_left _ (List.mem_of_getElem? h)) hg
theorem in_t2 {w : Cond} (i : Nat) (h : tables_1_2[i]? = some w) (hg : goodWord w = true) : w ∈ wsA := in_lw (List.mem_append_right _ (List.mem_append_left _ (List.mem_of_getElem? h))) hg
theorem in_t3 {w : Cond} (i : Nat) (h : tables_1_3[i]? = some w) (hg : goodWord w = true) : w ∈ wsA := in_lw (List.mem_append_right _ (List.mem_append_right _ (List.mem_append_left _ (List.mem_of_getElem? h)))) hg
theorem in_t4 {w : Cond} (i : Nat) (h : tables_1_4[i]? = some w) (hg : goodWord w = true) : w ∈ wsA := in_lw (List.mem_append_right _ (List.mem_append_right _ (List.mem_append_right _ (List.mem_append_left _ (List.mem_of_getElem? h))))) hg
theorem in_t5 {w : Cond} (i : Nat) (h : tables_1_5[i]? = some w) (hg : goodWord w = true) : w ∈ wsA := in_lw (List.mem_append_right _ (List.mem_append_right _ (List.mem_append_right _ (List.mem_append_right _ (List.mem_append_left _ (List.mem_of_getElem? h)))))) hg
theorem in_t6 {w : Cond} (i : Nat) (h : tables_1_6[i]? = some w) (hg : goodWord w = true) : w ∈ wsA := in_lw (List.mem_append_right _ (List.mem_append_right _ (List.mem_append_right _ (List.mem_append_right _ (List.mem_append_right _ (List.mem_append_left _ (List.mem_of_getElem? h))))))) hg
theorem in_t7 {w : Cond} (i : Nat) (h : tables_1_7[i]? = some w) (hg : goodWord w = true) : w ∈ wsA := in_lw (List.mem_append_right _ (List.mem_append_right _ (List.mem_append_right _ (List.mem_append_right _ (List.mem_append_right _ (List.mem_append_right _ (List.mem_append_left _ (List.mem_of_getElem? h)))))))) hg
theorem in_t8 {w : Cond} (i : Nat) (h : tables_1_8[i]? = some w) (hg : goodWord w = true) : w ∈ wsA := in_lw (List.mem_append_right _ (List.mem_append_right _ (List.mem_append_right _ (List.mem_append_right _ (List.mem_append_right _ (List.mem_append_right _ (List.mem_append_right _ (List.mem_of_getElem? h)))))))) hg
theorem in_s1 {y : MethodName} (i n : Nat) (h : lw_privs_1[i]? = some (y, n)) (hg : goodWord (Cond.selects y.cls y y) = true) : Cond.selects y.cls y y ∈ wsA := List.mem_filter.mpr ⟨List.mem_append_left _ (List.mem_map.mpr ⟨(y, n), (List.mem_append_left _ (List.mem_of_getElem? h)), rfl⟩), hg⟩
theorem in_s2 {y : MethodName} (i n : Nat) (h : lw_privs_2[i]? = some (y, n)) (hg : goodWord (Cond.selects y.cls y y) = true) : Cond.selects y.cls y y ∈ wsA := List.mem_filter.mpr ⟨List.mem_append_left _ (List.mem_map.mpr ⟨(y, n), (List.mem_append_right _ (List.mem_append_left _ (List.mem_of_getElem? h))), rfl⟩), hg⟩
theorem in_s3 {y : MethodName} (i n : Nat) (h : lw_privs_3[i]? = some (y, n)) (hg : goodWord (Cond.selects y.cls y y) = true) : Cond.selects y.cls y y ∈ wsA := List.mem_filter.mpr ⟨List.mem_append_left _ (List.mem_map.mpr ⟨(y, n), (List.mem_append_right _ (List.mem_append_right _ (List.mem_append_left _ (List.mem_of_getElem? h)))), rfl⟩), hg⟩
theorem in_s4 {y : MethodName} (i n : Nat) (h : lw_privs_4[i]? = some (y, n)) (hg : goodWord (Cond.selects y.cls y y) = true) : Cond.selects y.cls y y ∈ wsA := List.mem_filter.mpr ⟨List.mem_append_left _ (List.mem_map.mpr ⟨(y, n), (List.mem_append_right _ (List.mem_append_right _ (List.mem_append_right _ (List.mem_append_left _ (List.mem_of_getElem? h))))), rfl⟩), hg⟩
theorem in_s5 {y : MethodName} (i n : Nat) (h : lw_privs_5[i]? = some (y, n)) (hg : goodWord (Cond.selects y.cls y y) = true) : Cond.selects y.cls y y ∈ wsA := List.mem_filter.mpr ⟨List.mem_append_left _ (List.mem_map.mpr ⟨(y, n), (List.mem_append_right _ (List.mem_append_right _ (List.mem_append_right _ (List.mem_append_right _ (List.mem_append_left _ (List.mem_of_getElem? h)))))), rfl⟩), hg⟩
theorem in_s6 {y : MethodName} (i n : Nat) (h : lw_privs_6[i]? = some (y, n)) (hg : goodWord (Cond.selects y.cls y y) = true) : Cond.selects y.cls y y ∈ wsA := List.mem_filter.mpr ⟨List.mem_append_left _ (List.mem_map.mpr ⟨(y, n), (List.mem_append_right _ (List.mem_append_right _ (List.mem_append_right _ (List.mem_append_right _ (List.mem_append_right _ (List.mem_append_left _ (List.mem_of_getElem? h))))))), rfl⟩), hg⟩
theorem in_s7 {y : MethodName} (i n : Nat) (h : lw_privs_7[i]? = some (y, n)) (hg : goodWord (Cond.selects y.cls y y) = true) : Cond.selects y.cls y y ∈ wsA := List.mem_filter.mpr ⟨List.mem_append_left _ (List.mem_map.mpr ⟨(y, n), (List.mem_append_right _ (List.mem_append_right _ (List.mem_append_right _ (List.mem_append_right _ (List.mem_append_right _ (List.mem_append_right _ (List.mem_of_getElem? h))))))), rfl⟩), hg⟩
set_option maxRecDepth 100000 in
theorem ini_X0 : Cond.initialized RX0 ∈ wsA := in_t1 8 rfl rfl
set_option maxRecDepth 100000 in
theorem ini_X1 : Cond.initialized RX1 ∈ wsA := in_t1 3 rfl rfl
set_option maxRecDepth 100000 in
theorem ini_X2 : Cond.initialized RX2 ∈ wsA := in_t1 11 rfl rfl
set_option maxRecDepth 100000 in
theorem ini_X3 : Cond.initialized RX3 ∈ wsA := in_t1 4 rfl rfl
set_option maxRecDepth 100000 in
theorem ini_X4 : Cond.initialized RX4 ∈ wsA := in_t1 5 rfl rfl
set_option maxRecDepth 100000 in
theorem ini_X5 : Cond.initialized RX5 ∈ wsA := in_t1 9 rfl rfl
set_option maxRecDepth 100000 in
theorem ini_X6 : Cond.initialized RX6 ∈ wsA := in_t1 7 rfl rfl
set_option maxRecDepth 100000 in
theorem ini_X7 : Cond.initialized RX7 ∈ wsA := in_t1 6 rfl rfl
set_option maxRecDepth 100000 in
theorem ini_X8 : Cond.initialized RX8 ∈ wsA := in_t1 2 rfl rfl
set_option maxRecDepth 100000 in
theorem ini_X9 : Cond.initialized RX9 ∈ wsA := in_t1 10 rfl rfl
set_option maxRecDepth 100000 in
theorem ini_X10 : Cond.initialized RX10 ∈ wsA := in_t1 1 rfl rfl
set_option maxRecDepth 100000 in
theorem ini_X11 : Cond.initialized RX11 ∈ wsA := in_t1 12 rfl rfl
set_option maxRecDepth 100000 in
theorem ini_J6 : Cond.initialized RJ6 ∈ wsA := in_t1 19 rfl rfl
set_option maxRecDepth 100000 in
theorem ini_J9 : Cond.initialized RJ9 ∈ wsA := in_t1 13 rfl rfl
set_option maxRecDepth 100000 in
theorem ini_J7 : Cond.initialized "java/lang/System" ∈ wsA := in_t1 14 rfl rfl
set_option maxRecDepth 100000 in
theorem w_max : Cond.static Lib.Math.max.name ∈ wsA ∧ Cond.initialized "java/lang/Math" ∈ wsA ∧ Cond.code Lib.Math.max.name Lib.Math.max.code 2 (some .int) ∈ wsA := ⟨(in_t3 54 rfl rfl), ini_J9, in_lw (List.mem_append_right _ (by decide +kernel)) (by decide +kernel)⟩
theorem w_min : Cond.static Lib.Math.min.name ∈ wsA ∧ Cond.initialized "java/lang/Math" ∈ wsA ∧ Cond.code Lib.Math.min.name Lib.Math.min.code 2 (some .int) ∈ wsA := ⟨(in_t3 51 rfl rfl), ini_J9, in_lw (List.mem_append_right _ (by decide +kernel)) (by decide +kernel)⟩
set_option maxRecDepth 100000 in
theorem w_copy : Cond.native arraycopyName ∈ wsA ∧ Cond.static arraycopyName ∈ wsA ∧ Cond.initialized "java/lang/System" ∈ wsA := ⟨(in_t3 71 rfl rfl), (in_t3 70 rfl rfl), ini_J7⟩
set_option maxRecDepth 100000 in
theorem cw_X5_55 : Cond.constant RX5 55 1103515245 ∈ wsA := in_t5 41 rfl rfl
set_option maxRecDepth 100000 in
theorem cw_X11_321 : Cond.constant RX11 321 1000000 ∈ wsA := in_t7 105 rfl rfl
set_option maxRecDepth 100000 in
theorem cw_X11_420 : Cond.constant RX11 420 1103515245 ∈ wsA := in_t8 22 rfl rfl
set_option maxRecDepth 100000 in
theorem cw_J6_264 : Cond.constant RJ6 264 65536 ∈ wsA := in_t8 26 rfl rfl
set_option maxRecDepth 100000 in
theorem cw_J6_265 : Cond.constant RJ6 265 1431655765 ∈ wsA := in_t3 134 rfl rfl
set_option maxRecDepth 100000 in
theorem cw_J6_266 : Cond.constant RJ6 266 858993459 ∈ wsA := in_t3 135 rfl rfl
set_option maxRecDepth 100000 in
theorem cw_J6_267 : Cond.constant RJ6 267 252645135 ∈ wsA := in_t3 136 rfl rfl
set_option maxRecDepth 100000 in
theorem fl_X10_10 : FR RX10 10 10 0 := ⟨⟨(RX10, TX10, 17), rfl, by decide, (in_t2 107 rfl rfl)⟩, rfl⟩
set_option maxRecDepth 100000 in
theorem fl_X10_19 : FR RX10 19 10 1 := ⟨⟨(RX10, TX10, 17), rfl, by decide, (in_t2 108 rfl rfl)⟩, rfl⟩
set_option maxRecDepth 100000 in
theorem fl_X10_28 : FR RX10 28 10 2 := ⟨⟨(RX10, TX10, 17), rfl, by decide, (in_t2 109 rfl rfl)⟩, rfl⟩
set_option maxRecDepth 100000 in
theorem fl_X10_35 : FR RX10 35 10 3 := ⟨⟨(RX10, TX10, 17), rfl, by decide, (in_t2 110 rfl rfl)⟩, rfl⟩
set_option maxRecDepth 100000 in
theorem fl_X10_39 : FR RX10 39 10 4 := ⟨⟨(RX10, TX10, 17), rfl, by decide, (in_t2 111 rfl rfl)⟩, rfl⟩
set_option maxRecDepth 100000 in
theorem fl_X10_42 : FR RX10 42 10 5 := ⟨⟨(RX10, TX10, 17), rfl, by decide, (in_t2 112 rfl rfl)⟩, rfl⟩
set_option maxRecDepth 100000 in
theorem fl_X10_45 : FR RX10 45 10 6 := ⟨⟨(RX10, TX10, 17), rfl, by decide, (in_t2 113 rfl rfl)⟩, rfl⟩
set_option maxRecDepth 100000 in
theorem fl_X10_51 : FR RX10 51 10 7 := ⟨⟨(RX10, TX10, 17), rfl, by decide, (in_t2 114 rfl rfl)⟩, rfl⟩
set_option maxRecDepth 100000 in
theorem fl_X10_55 : FR RX10 55 10 8 := ⟨⟨(RX10, TX10, 17), rfl, by decide, (in_t2 115 rfl rfl)⟩, rfl⟩
set_option maxRecDepth 100000 in
theorem fl_X10_59 : FR RX10 59 10 9 := ⟨⟨(RX10, TX10, 17), rfl, by decide, (in_t2 116 rfl rfl)⟩, rfl⟩
set_option maxRecDepth 100000 in
theorem fl_X10_66 : FR RX10 66 10 10 := ⟨⟨(RX10, TX10, 17), rfl, by decide, (in_t2 117 rfl rfl)⟩, rfl⟩
set_option maxRecDepth 100000 in
theorem fl_X10_73 : FR RX10 73 10 11 := ⟨⟨(RX10, TX10, 17), rfl, by decide, (in_t2 118 rfl rfl)⟩, rfl⟩
set_option maxRecDepth 100000 in
theorem fl_X10_77 : FR RX10 77 10 12 := ⟨⟨(RX10, TX10, 17), rfl, by decide, (in_t2 119 rfl rfl)⟩, rfl⟩
set_option maxRecDepth 100000 in
theorem fl_X10_85 : FR RX10 85 10 13 := ⟨⟨(RX10, TX10, 17), rfl, by decide, (in_t2 120 rfl rfl)⟩, rfl⟩
set_option maxRecDepth 100000 in
theorem fl_X10_94 : FR RX10 94 10 14 := ⟨⟨(RX10, TX10, 17), rfl, by decide, (in_t2 121 rfl rfl)⟩, rfl⟩
set_option maxRecDepth 100000 in
theorem fl_X10_98 : FR RX10 98 10 15 := ⟨⟨(RX10, TX10, 17), rfl, by decide, (in_t2 122 rfl rfl)⟩, rfl⟩
set_option maxRecDepth 100000 in
theorem fl_X10_101 : FI RX10 101 10 16 := ⟨⟨(RX10, TX10, 17), rfl, by decide, (in_t2 123 rfl rfl)⟩, rfl, rfl, rfl⟩
set_option maxRecDepth 100000 in
theorem fl_X10_120 : FI RX10 120 8 1 := ⟨⟨(RX8, TX8, 3), rfl, by decide, (in_t1 40 rfl rfl)⟩, rfl, rfl, rfl⟩
set_option maxRecDepth 100000 in
theorem fl_X10_123 : FI RX10 123 1 0 := ⟨⟨(RX1, TX1, 11), rfl, by decide, (in_t1 109 rfl rfl)⟩, rfl, rfl, rfl⟩
set_option maxRecDepth 100000 in
theorem fl_X10_129 : FI RX10 129 1 2 := ⟨⟨(RX1, TX1, 11), rfl, by decide, (in_t1 115 rfl rfl)⟩, rfl, rfl, rfl⟩
set_option maxRecDepth 100000 in
theorem fl_X10_138 : FR RX10 138 1 10 := ⟨⟨(RX1, TX1, 11), rfl, by decide, (in_t1 143 rfl rfl)⟩, rfl⟩
set_option maxRecDepth 100000 in
theorem fl_X10_167 : FR RX10 167 1 6 := ⟨⟨(RX1, TX1, 11), rfl, by decide, (in_t1 131 rfl rfl)⟩, rfl⟩
set_option maxRecDepth 100000 in
theorem fl_X10_170 : FR RX10 170 7 4 := ⟨⟨(RX7, TX7, 8), rfl, by decide, (in_t1 206 rfl rfl)⟩, rfl⟩
set_option maxRecDepth 100000 in
theorem fl_X10_173 : FR RX10 173 7 5 := ⟨⟨(RX7, TX7, 8), rfl, by decide, (in_t1 209 rfl rfl)⟩, rfl⟩
set_option maxRecDepth 100000 in
theorem fl_X10_176 : FR RX10 176 7 6 := ⟨⟨(RX7, TX7, 8), rfl, by decide, (in_t1 212 rfl rfl)⟩, rfl⟩
set_option maxRecDepth 100000 in
theorem fl_X10_179 : FR RX10 179 7 7 := ⟨⟨(RX7, TX7, 8), rfl, by decide, (in_t1 215 rfl rfl)⟩, rfl⟩
set_option maxRecDepth 100000 in
theorem fl_X10_182 : FR RX10 182 1 7 := ⟨⟨(RX1, TX1, 11), rfl, by decide, (in_t1 135 rfl rfl)⟩, rfl⟩
set_option maxRecDepth 100000 in
theorem fl_X10_201 : FR RX10 201 1 9 := ⟨⟨(RX1, TX1, 11), rfl, by decide, (in_t1 141 rfl rfl)⟩, rfl⟩
set_option maxRecDepth 100000 in
theorem fl_X10_208 : FR RX10 208 1 8 := ⟨⟨(RX1, TX1, 11), rfl, by decide, (in_t1 139 rfl rfl)⟩, rfl⟩
set_option maxRecDepth 100000 in
theorem fl_X10_237 : FI RX10 237 7 0 := ⟨⟨(RX7, TX7, 8), rfl, by decide, (in_t1 196 rfl rfl)⟩, rfl, rfl, rfl⟩
set_option maxRecDepth 100000 in
theorem fl_X10_249 : FI RX10 249 7 2 := ⟨⟨(RX7, TX7, 8), rfl, by decide, (in_t1 200 rfl rfl)⟩, rfl, rfl, rfl⟩
set_option maxRecDepth 100000 in
theorem fl_X10_256 : FI RX10 256 7 3 := ⟨⟨(RX7, TX7, 8), rfl, by decide, (in_t1 203 rfl rfl)⟩, rfl, rfl, rfl⟩
set_option maxRecDepth 100000 in
theorem fl_X10_277 : FI RX10 277 6 2 := ⟨⟨(RX6, TX6, 3), rfl, by decide, (in_t2 6 rfl rfl)⟩, rfl, rfl, rfl⟩
set_option maxRecDepth 100000 in
theorem fl_X10_303 : FI RX10 303 5 1 := ⟨⟨(RX5, TX5, 2), rfl, by decide, (in_t2 45 rfl rfl)⟩, rfl, rfl, rfl⟩
set_option maxRecDepth 100000 in
theorem fl_X10_304 : FR RX10 304 9 6 := ⟨⟨(RX9, TX9, 7), rfl, by decide, (in_t2 66 rfl rfl)⟩, rfl⟩
set_option maxRecDepth 100000 in
theorem fl_X10_307 : FR RX10 307 5 0 := ⟨⟨(RX5, TX5, 2), rfl, by decide, (in_t2 42 rfl rfl)⟩, rfl⟩
set_option maxRecDepth 100000 in
theorem fl_X10_385 : FI RX10 385 2 4 := ⟨⟨(RX2, TX2, 5), rfl, by decide, (in_t2 95 rfl rfl)⟩, rfl, rfl, rfl⟩
set_option maxRecDepth 100000 in
theorem fl_X10_388 : FR RX10 388 2 2 := ⟨⟨(RX2, TX2, 5), rfl, by decide, (in_t2 91 rfl rfl)⟩, rfl⟩
set_option maxRecDepth 100000 in
theorem fl_X10_391 : FI RX10 391 2 3 := ⟨⟨(RX2, TX2, 5), rfl, by decide, (in_t2 93 rfl rfl)⟩, rfl, rfl, rfl⟩
set_option maxRecDepth 100000 in
theorem fl_X10_396 : FI RX10 396 0 3 := ⟨⟨(RX0, TX0, 4), rfl, by decide, (in_t2 24 rfl rfl)⟩, rfl, rfl, rfl⟩
set_option maxRecDepth 100000 in
theorem fl_X10_403 : FI RX10 403 8 2 := ⟨⟨(RX8, TX8, 3), rfl, by decide, (in_t1 43 rfl rfl)⟩, rfl, rfl, rfl⟩
set_option maxRecDepth 100000 in
theorem fl_X10_408 : FI RX10 408 1 1 := ⟨⟨(RX1, TX1, 11), rfl, by decide, (in_t1 111 rfl rfl)⟩, rfl, rfl, rfl⟩
set_option maxRecDepth 100000 in
theorem fl_X0_9 : FR RX0 9 0 0 := ⟨⟨(RX0, TX0, 4), rfl, by decide, (in_t2 20 rfl rfl)⟩, rfl⟩
set_option maxRecDepth 100000 in
theorem fl_X0_15 : FR RX0 15 0 1 := ⟨⟨(RX0, TX0, 4), rfl, by decide, (in_t2 21 rfl rfl)⟩, rfl⟩
set_option maxRecDepth 100000 in
theorem fl_X0_18 : FR RX0 18 0 2 := ⟨⟨(RX0, TX0, 4), rfl, by decide, (in_t2 22 rfl rfl)⟩, rfl⟩
set_option maxRecDepth 100000 in
theorem fl_X0_21 : FI RX0 21 0 3 := ⟨⟨(RX0, TX0, 4), rfl, by decide, (in_t2 23 rfl rfl)⟩, rfl, rfl, rfl⟩
set_option maxRecDepth 100000 in
theorem fl_X0_44 : FI RX0 44 1 2 := ⟨⟨(RX1, TX1, 11), rfl, by decide, (in_t1 116 rfl rfl)⟩, rfl, rfl, rfl⟩
set_option maxRecDepth 100000 in
theorem fl_X0_53 : FR RX0 53 1 4 := ⟨⟨(RX1, TX1, 11), rfl, by decide, (in_t1 123 rfl rfl)⟩, rfl⟩
set_option maxRecDepth 100000 in
theorem fl_X1_9 : FI RX1 9 1 0 := ⟨⟨(RX1, TX1, 11), rfl, by decide, (in_t1 107 rfl rfl)⟩, rfl, rfl, rfl⟩
set_option maxRecDepth 100000 in
theorem fl_X1_15 : FI RX1 15 1 1 := ⟨⟨(RX1, TX1, 11), rfl, by decide, (in_t1 110 rfl rfl)⟩, rfl, rfl, rfl⟩
set_option maxRecDepth 100000 in
theorem fl_X1_18 : FI RX1 18 1 2 := ⟨⟨(RX1, TX1, 11), rfl, by decide, (in_t1 112 rfl rfl)⟩, rfl, rfl, rfl⟩
set_option maxRecDepth 100000 in
theorem fl_X1_21 : FR RX1 21 1 3 := ⟨⟨(RX1, TX1, 11), rfl, by decide, (in_t1 117 rfl rfl)⟩, rfl⟩
set_option maxRecDepth 100000 in
theorem fl_X1_25 : FR RX1 25 1 4 := ⟨⟨(RX1, TX1, 11), rfl, by decide, (in_t1 121 rfl rfl)⟩, rfl⟩
set_option maxRecDepth 100000 in
theorem fl_X1_28 : FR RX1 28 1 5 := ⟨⟨(RX1, TX1, 11), rfl, by decide, (in_t1 125 rfl rfl)⟩, rfl⟩
set_option maxRecDepth 100000 in
theorem fl_X1_31 : FR RX1 31 1 6 := ⟨⟨(RX1, TX1, 11), rfl, by decide, (in_t1 129 rfl rfl)⟩, rfl⟩
set_option maxRecDepth 100000 in
theorem fl_X1_34 : FR RX1 34 1 7 := ⟨⟨(RX1, TX1, 11), rfl, by decide, (in_t1 133 rfl rfl)⟩, rfl⟩
set_option maxRecDepth 100000 in
theorem fl_X1_42 : FR RX1 42 1 9 := ⟨⟨(RX1, TX1, 11), rfl, by decide, (in_t1 140 rfl rfl)⟩, rfl⟩
set_option maxRecDepth 100000 in
theorem fl_X1_48 : FR RX1 48 1 10 := ⟨⟨(RX1, TX1, 11), rfl, by decide, (in_t1 142 rfl rfl)⟩, rfl⟩
set_option maxRecDepth 100000 in
theorem fl_X1_76 : FR RX1 76 7 4 := ⟨⟨(RX7, TX7, 8), rfl, by decide, (in_t1 207 rfl rfl)⟩, rfl⟩
set_option maxRecDepth 100000 in
theorem fl_X1_81 : FI RX1 81 7 0 := ⟨⟨(RX7, TX7, 8), rfl, by decide, (in_t1 195 rfl rfl)⟩, rfl, rfl, rfl⟩
set_option maxRecDepth 100000 in
theorem fl_X1_84 : FI RX1 84 7 1 := ⟨⟨(RX7, TX7, 8), rfl, by decide, (in_t1 198 rfl rfl)⟩, rfl, rfl, rfl⟩
set_option maxRecDepth 100000 in
theorem fl_X1_91 : FR RX1 91 7 5 := ⟨⟨(RX7, TX7, 8), rfl, by decide, (in_t1 210 rfl rfl)⟩, rfl⟩
set_option maxRecDepth 100000 in
theorem fl_X1_94 : FR RX1 94 7 7 := ⟨⟨(RX7, TX7, 8), rfl, by decide, (in_t1 216 rfl rfl)⟩, rfl⟩
set_option maxRecDepth 100000 in
theorem fl_X1_97 : FI RX1 97 7 2 := ⟨⟨(RX7, TX7, 8), rfl, by decide, (in_t1 201 rfl rfl)⟩, rfl, rfl, rfl⟩
set_option maxRecDepth 100000 in
theorem fl_X1_100 : FI RX1 100 7 3 := ⟨⟨(RX7, TX7, 8), rfl, by decide, (in_t1 204 rfl rfl)⟩, rfl, rfl, rfl⟩
set_option maxRecDepth 100000 in
theorem fl_X1_107 : FR RX1 107 7 6 := ⟨⟨(RX7, TX7, 8), rfl, by decide, (in_t1 213 rfl rfl)⟩, rfl⟩
set_option maxRecDepth 100000 in
theorem fl_X2_9 : FR RX2 9 2 0 := ⟨⟨(RX2, TX2, 5), rfl, by decide, (in_t2 88 rfl rfl)⟩, rfl⟩
set_option maxRecDepth 100000 in
theorem fl_X2_15 : FR RX2 15 2 1 := ⟨⟨(RX2, TX2, 5), rfl, by decide, (in_t2 89 rfl rfl)⟩, rfl⟩
set_option maxRecDepth 100000 in
theorem fl_X2_19 : FR RX2 19 2 2 := ⟨⟨(RX2, TX2, 5), rfl, by decide, (in_t2 90 rfl rfl)⟩, rfl⟩
set_option maxRecDepth 100000 in
theorem fl_X2_22 : FI RX2 22 2 3 := ⟨⟨(RX2, TX2, 5), rfl, by decide, (in_t2 92 rfl rfl)⟩, rfl, rfl, rfl⟩
set_option maxRecDepth 100000 in
theorem fl_X2_26 : FI RX2 26 2 4 := ⟨⟨(RX2, TX2, 5), rfl, by decide, (in_t2 94 rfl rfl)⟩, rfl, rfl, rfl⟩
set_option maxRecDepth 100000 in
theorem fl_X2_33 : FI RX2 33 1 2 := ⟨⟨(RX1, TX1, 11), rfl, by decide, (in_t1 114 rfl rfl)⟩, rfl, rfl, rfl⟩
set_option maxRecDepth 100000 in
theorem fl_X3_11 : FR RX3 11 3 0 := ⟨⟨(RX3, TX3, 13), rfl, by decide, (in_t1 66 rfl rfl)⟩, rfl⟩
set_option maxRecDepth 100000 in
theorem fl_X3_15 : FI RX3 15 3 1 := ⟨⟨(RX3, TX3, 13), rfl, by decide, (in_t1 67 rfl rfl)⟩, rfl, rfl, rfl⟩
set_option maxRecDepth 100000 in
theorem fl_X3_19 : FR RX3 19 3 2 := ⟨⟨(RX3, TX3, 13), rfl, by decide, (in_t1 68 rfl rfl)⟩, rfl⟩
set_option maxRecDepth 100000 in
theorem fl_X3_22 : FI RX3 22 8 1 := ⟨⟨(RX8, TX8, 3), rfl, by decide, (in_t1 37 rfl rfl)⟩, rfl, rfl, rfl⟩
set_option maxRecDepth 100000 in
theorem fl_X3_25 : FR RX3 25 8 0 := ⟨⟨(RX8, TX8, 3), rfl, by decide, (in_t1 35 rfl rfl)⟩, rfl⟩
set_option maxRecDepth 100000 in
theorem fl_X3_32 : FI RX3 32 3 3 := ⟨⟨(RX3, TX3, 13), rfl, by decide, (in_t1 69 rfl rfl)⟩, rfl, rfl, rfl⟩
set_option maxRecDepth 100000 in
theorem fl_X3_35 : FZ RX3 35 3 4 := ⟨⟨(RX3, TX3, 13), rfl, by decide, (in_t1 70 rfl rfl)⟩, rfl, rfl, rfl⟩
set_option maxRecDepth 100000 in
theorem fl_X3_43 : FI RX3 43 3 6 := ⟨⟨(RX3, TX3, 13), rfl, by decide, (in_t1 72 rfl rfl)⟩, rfl, rfl, rfl⟩
set_option maxRecDepth 100000 in
theorem fl_X3_52 : FR RX3 52 1 8 := ⟨⟨(RX1, TX1, 11), rfl, by decide, (in_t1 137 rfl rfl)⟩, rfl⟩
set_option maxRecDepth 100000 in
theorem fl_X3_58 : FI RX3 58 3 7 := ⟨⟨(RX3, TX3, 13), rfl, by decide, (in_t1 73 rfl rfl)⟩, rfl, rfl, rfl⟩
set_option maxRecDepth 100000 in
theorem fl_X3_61 : FR RX3 61 1 5 := ⟨⟨(RX1, TX1, 11), rfl, by decide, (in_t1 126 rfl rfl)⟩, rfl⟩
set_option maxRecDepth 100000 in
theorem fl_X3_65 : FI RX3 65 3 8 := ⟨⟨(RX3, TX3, 13), rfl, by decide, (in_t1 74 rfl rfl)⟩, rfl, rfl, rfl⟩
set_option maxRecDepth 100000 in
theorem fl_X3_67 : FI RX3 67 3 9 := ⟨⟨(RX3, TX3, 13), rfl, by decide, (in_t1 75 rfl rfl)⟩, rfl, rfl, rfl⟩
set_option maxRecDepth 100000 in
theorem fl_X3_70 : FI RX3 70 3 10 := ⟨⟨(RX3, TX3, 13), rfl, by decide, (in_t1 76 rfl rfl)⟩, rfl, rfl, rfl⟩
set_option maxRecDepth 100000 in
theorem fl_X3_77 : FI RX3 77 3 11 := ⟨⟨(RX3, TX3, 13), rfl, by decide, (in_t1 77 rfl rfl)⟩, rfl, rfl, rfl⟩
set_option maxRecDepth 100000 in
theorem fl_X3_80 : FR RX3 80 1 6 := ⟨⟨(RX1, TX1, 11), rfl, by decide, (in_t1 130 rfl rfl)⟩, rfl⟩
set_option maxRecDepth 100000 in
theorem fl_X3_83 : FI RX3 83 3 12 := ⟨⟨(RX3, TX3, 13), rfl, by decide, (in_t1 78 rfl rfl)⟩, rfl, rfl, rfl⟩
set_option maxRecDepth 100000 in
theorem fl_X3_85 : FI RX3 85 3 5 := ⟨⟨(RX3, TX3, 13), rfl, by decide, (in_t1 71 rfl rfl)⟩, rfl, rfl, rfl⟩
set_option maxRecDepth 100000 in
theorem fl_X4_9 : FR RX4 9 4 0 := ⟨⟨(RX4, TX4, 3), rfl, by decide, (in_t1 173 rfl rfl)⟩, rfl⟩
set_option maxRecDepth 100000 in
theorem fl_X4_15 : FR RX4 15 4 1 := ⟨⟨(RX4, TX4, 3), rfl, by decide, (in_t1 174 rfl rfl)⟩, rfl⟩
set_option maxRecDepth 100000 in
theorem fl_X4_19 : FI RX4 19 4 2 := ⟨⟨(RX4, TX4, 3), rfl, by decide, (in_t1 175 rfl rfl)⟩, rfl, rfl, rfl⟩
set_option maxRecDepth 100000 in
theorem fl_X4_23 : FI RX4 23 8 2 := ⟨⟨(RX8, TX8, 3), rfl, by decide, (in_t1 42 rfl rfl)⟩, rfl, rfl, rfl⟩
set_option maxRecDepth 100000 in
theorem fl_X4_28 : FI RX4 28 8 1 := ⟨⟨(RX8, TX8, 3), rfl, by decide, (in_t1 38 rfl rfl)⟩, rfl, rfl, rfl⟩
set_option maxRecDepth 100000 in
theorem fl_X4_31 : FI RX4 31 1 2 := ⟨⟨(RX1, TX1, 11), rfl, by decide, (in_t1 113 rfl rfl)⟩, rfl, rfl, rfl⟩
set_option maxRecDepth 100000 in
theorem fl_X4_36 : FI RX4 36 1 0 := ⟨⟨(RX1, TX1, 11), rfl, by decide, (in_t1 108 rfl rfl)⟩, rfl, rfl, rfl⟩
set_option maxRecDepth 100000 in
theorem fl_X4_47 : FR RX4 47 1 7 := ⟨⟨(RX1, TX1, 11), rfl, by decide, (in_t1 134 rfl rfl)⟩, rfl⟩
set_option maxRecDepth 100000 in
theorem fl_X4_69 : FR RX4 69 1 3 := ⟨⟨(RX1, TX1, 11), rfl, by decide, (in_t1 118 rfl rfl)⟩, rfl⟩
set_option maxRecDepth 100000 in
theorem fl_X4_76 : FR RX4 76 1 4 := ⟨⟨(RX1, TX1, 11), rfl, by decide, (in_t1 122 rfl rfl)⟩, rfl⟩
set_option maxRecDepth 100000 in
theorem fl_X4_79 : FR RX4 79 1 5 := ⟨⟨(RX1, TX1, 11), rfl, by decide, (in_t1 127 rfl rfl)⟩, rfl⟩
set_option maxRecDepth 100000 in
theorem fl_X4_82 : FR RX4 82 1 6 := ⟨⟨(RX1, TX1, 11), rfl, by decide, (in_t1 132 rfl rfl)⟩, rfl⟩
set_option maxRecDepth 100000 in
theorem fl_X4_85 : FR RX4 85 1 8 := ⟨⟨(RX1, TX1, 11), rfl, by decide, (in_t1 138 rfl rfl)⟩, rfl⟩
set_option maxRecDepth 100000 in
theorem fl_X5_9 : FR RX5 9 5 0 := ⟨⟨(RX5, TX5, 2), rfl, by decide, (in_t2 40 rfl rfl)⟩, rfl⟩
set_option maxRecDepth 100000 in
theorem fl_X5_15 : FI RX5 15 5 1 := ⟨⟨(RX5, TX5, 2), rfl, by decide, (in_t2 43 rfl rfl)⟩, rfl, rfl, rfl⟩
set_option maxRecDepth 100000 in
theorem fl_X5_29 : FI RX5 29 8 1 := ⟨⟨(RX8, TX8, 3), rfl, by decide, (in_t1 39 rfl rfl)⟩, rfl, rfl, rfl⟩
set_option maxRecDepth 100000 in
theorem fl_X6_11 : FR RX6 11 6 0 := ⟨⟨(RX6, TX6, 3), rfl, by decide, (in_t2 3 rfl rfl)⟩, rfl⟩
set_option maxRecDepth 100000 in
theorem fl_X6_18 : FI RX6 18 6 1 := ⟨⟨(RX6, TX6, 3), rfl, by decide, (in_t2 4 rfl rfl)⟩, rfl, rfl, rfl⟩
set_option maxRecDepth 100000 in
theorem fl_X6_22 : FI RX6 22 6 2 := ⟨⟨(RX6, TX6, 3), rfl, by decide, (in_t2 5 rfl rfl)⟩, rfl, rfl, rfl⟩
set_option maxRecDepth 100000 in
theorem fl_X7_9 : FR RX7 9 7 4 := ⟨⟨(RX7, TX7, 8), rfl, by decide, (in_t1 205 rfl rfl)⟩, rfl⟩
set_option maxRecDepth 100000 in
theorem fl_X7_15 : FR RX7 15 7 5 := ⟨⟨(RX7, TX7, 8), rfl, by decide, (in_t1 208 rfl rfl)⟩, rfl⟩
set_option maxRecDepth 100000 in
theorem fl_X7_18 : FR RX7 18 7 6 := ⟨⟨(RX7, TX7, 8), rfl, by decide, (in_t1 211 rfl rfl)⟩, rfl⟩
set_option maxRecDepth 100000 in
theorem fl_X7_21 : FR RX7 21 7 7 := ⟨⟨(RX7, TX7, 8), rfl, by decide, (in_t1 214 rfl rfl)⟩, rfl⟩
set_option maxRecDepth 100000 in
theorem fl_X7_27 : FI RX7 27 7 0 := ⟨⟨(RX7, TX7, 8), rfl, by decide, (in_t1 193 rfl rfl)⟩, rfl, rfl, rfl⟩
set_option maxRecDepth 100000 in
theorem fl_X7_31 : FI RX7 31 7 1 := ⟨⟨(RX7, TX7, 8), rfl, by decide, (in_t1 197 rfl rfl)⟩, rfl, rfl, rfl⟩
set_option maxRecDepth 100000 in
theorem fl_X7_34 : FI RX7 34 7 2 := ⟨⟨(RX7, TX7, 8), rfl, by decide, (in_t1 199 rfl rfl)⟩, rfl, rfl, rfl⟩
set_option maxRecDepth 100000 in
theorem fl_X7_37 : FI RX7 37 7 3 := ⟨⟨(RX7, TX7, 8), rfl, by decide, (in_t1 202 rfl rfl)⟩, rfl, rfl, rfl⟩
set_option maxRecDepth 100000 in
theorem fl_X8_9 : FR RX8 9 8 0 := ⟨⟨(RX8, TX8, 3), rfl, by decide, (in_t1 34 rfl rfl)⟩, rfl⟩
set_option maxRecDepth 100000 in
theorem fl_X8_15 : FI RX8 15 8 1 := ⟨⟨(RX8, TX8, 3), rfl, by decide, (in_t1 36 rfl rfl)⟩, rfl, rfl, rfl⟩
set_option maxRecDepth 100000 in
theorem fl_X8_19 : FI RX8 19 8 2 := ⟨⟨(RX8, TX8, 3), rfl, by decide, (in_t1 41 rfl rfl)⟩, rfl, rfl, rfl⟩
set_option maxRecDepth 100000 in
theorem fl_X9_9 : FR RX9 9 9 0 := ⟨⟨(RX9, TX9, 7), rfl, by decide, (in_t2 59 rfl rfl)⟩, rfl⟩
set_option maxRecDepth 100000 in
theorem fl_X9_15 : FR RX9 15 9 1 := ⟨⟨(RX9, TX9, 7), rfl, by decide, (in_t2 60 rfl rfl)⟩, rfl⟩
set_option maxRecDepth 100000 in
theorem fl_X9_21 : FR RX9 21 9 2 := ⟨⟨(RX9, TX9, 7), rfl, by decide, (in_t2 61 rfl rfl)⟩, rfl⟩
set_option maxRecDepth 100000 in
theorem fl_X9_26 : FR RX9 26 9 6 := ⟨⟨(RX9, TX9, 7), rfl, by decide, (in_t2 65 rfl rfl)⟩, rfl⟩
set_option maxRecDepth 100000 in
theorem fl_X9_30 : FI RX9 30 9 4 := ⟨⟨(RX9, TX9, 7), rfl, by decide, (in_t2 63 rfl rfl)⟩, rfl, rfl, rfl⟩
set_option maxRecDepth 100000 in
theorem fl_X9_38 : FI RX9 38 7 0 := ⟨⟨(RX7, TX7, 8), rfl, by decide, (in_t1 194 rfl rfl)⟩, rfl, rfl, rfl⟩
set_option maxRecDepth 100000 in
theorem fl_X9_41 : FI RX9 41 9 5 := ⟨⟨(RX9, TX9, 7), rfl, by decide, (in_t2 64 rfl rfl)⟩, rfl, rfl, rfl⟩
set_option maxRecDepth 100000 in
theorem fl_X9_44 : FZ RX9 44 9 3 := ⟨⟨(RX9, TX9, 7), rfl, by decide, (in_t2 62 rfl rfl)⟩, rfl, rfl, rfl⟩
set_option maxRecDepth 100000 in
theorem fl_X9_54 : FI RX9 54 5 1 := ⟨⟨(RX5, TX5, 2), rfl, by decide, (in_t2 44 rfl rfl)⟩, rfl, rfl, rfl⟩
set_option maxRecDepth 100000 in
theorem fl_X9_59 : FR RX9 59 5 0 := ⟨⟨(RX5, TX5, 2), rfl, by decide, (in_t2 41 rfl rfl)⟩, rfl⟩
set_option maxRecDepth 100000 in
theorem fl_X9_92 : FR RX9 92 1 3 := ⟨⟨(RX1, TX1, 11), rfl, by decide, (in_t1 119 rfl rfl)⟩, rfl⟩
set_option maxRecDepth 100000 in
theorem fl_X11_9 : FR RX11 9 11 0 := ⟨⟨(RX11, TX11, 61), rfl, by decide, (in_t5 144 rfl rfl)⟩, rfl⟩
set_option maxRecDepth 100000 in
theorem fl_X11_13 : FR RX11 13 11 2 := ⟨⟨(RX11, TX11, 61), rfl, by decide, (in_t5 146 rfl rfl)⟩, rfl⟩
set_option maxRecDepth 100000 in
theorem fl_X11_17 : FR RX11 17 11 4 := ⟨⟨(RX11, TX11, 61), rfl, by decide, (in_t5 148 rfl rfl)⟩, rfl⟩
set_option maxRecDepth 100000 in
theorem fl_X11_20 : FR RX11 20 11 5 := ⟨⟨(RX11, TX11, 61), rfl, by decide, (in_t5 149 rfl rfl)⟩, rfl⟩
set_option maxRecDepth 100000 in
theorem fl_X11_23 : FR RX11 23 11 6 := ⟨⟨(RX11, TX11, 61), rfl, by decide, (in_t5 150 rfl rfl)⟩, rfl⟩
set_option maxRecDepth 100000 in
theorem fl_X11_26 : FR RX11 26 11 7 := ⟨⟨(RX11, TX11, 61), rfl, by decide, (in_t5 151 rfl rfl)⟩, rfl⟩
set_option maxRecDepth 100000 in
theorem fl_X11_29 : FR RX11 29 11 8 := ⟨⟨(RX11, TX11, 61), rfl, by decide, (in_t5 152 rfl rfl)⟩, rfl⟩
set_option maxRecDepth 100000 in
theorem fl_X11_32 : FR RX11 32 11 9 := ⟨⟨(RX11, TX11, 61), rfl, by decide, (in_t5 153 rfl rfl)⟩, rfl⟩
set_option maxRecDepth 100000 in
theorem fl_X11_35 : FR RX11 35 11 10 := ⟨⟨(RX11, TX11, 61), rfl, by decide, (in_t5 154 rfl rfl)⟩, rfl⟩
set_option maxRecDepth 100000 in
theorem fl_X11_39 : FR RX11 39 11 12 := ⟨⟨(RX11, TX11, 61), rfl, by decide, (in_t5 156 rfl rfl)⟩, rfl⟩
set_option maxRecDepth 100000 in
theorem fl_X11_42 : FR RX11 42 11 20 := ⟨⟨(RX11, TX11, 61), rfl, by decide, (in_t5 164 rfl rfl)⟩, rfl⟩
set_option maxRecDepth 100000 in
theorem fl_X11_45 : FR RX11 45 11 21 := ⟨⟨(RX11, TX11, 61), rfl, by decide, (in_t5 165 rfl rfl)⟩, rfl⟩
set_option maxRecDepth 100000 in
theorem fl_X11_48 : FR RX11 48 11 26 := ⟨⟨(RX11, TX11, 61), rfl, by decide, (in_t5 170 rfl rfl)⟩, rfl⟩
set_option maxRecDepth 100000 in
theorem fl_X11_51 : FR RX11 51 11 27 := ⟨⟨(RX11, TX11, 61), rfl, by decide, (in_t5 171 rfl rfl)⟩, rfl⟩
set_option maxRecDepth 100000 in
theorem fl_X11_54 : FR RX11 54 11 29 := ⟨⟨(RX11, TX11, 61), rfl, by decide, (in_t5 173 rfl rfl)⟩, rfl⟩
set_option maxRecDepth 100000 in
theorem fl_X11_57 : FR RX11 57 11 33 := ⟨⟨(RX11, TX11, 61), rfl, by decide, (in_t5 177 rfl rfl)⟩, rfl⟩
set_option maxRecDepth 100000 in
theorem fl_X11_60 : FR RX11 60 11 35 := ⟨⟨(RX11, TX11, 61), rfl, by decide, (in_t5 179 rfl rfl)⟩, rfl⟩
set_option maxRecDepth 100000 in
theorem fl_X11_63 : FR RX11 63 11 36 := ⟨⟨(RX11, TX11, 61), rfl, by decide, (in_t5 180 rfl rfl)⟩, rfl⟩
set_option maxRecDepth 100000 in
theorem fl_X11_66 : FR RX11 66 11 38 := ⟨⟨(RX11, TX11, 61), rfl, by decide, (in_t5 182 rfl rfl)⟩, rfl⟩
set_option maxRecDepth 100000 in
theorem fl_X11_69 : FR RX11 69 11 42 := ⟨⟨(RX11, TX11, 61), rfl, by decide, (in_t5 186 rfl rfl)⟩, rfl⟩
set_option maxRecDepth 100000 in
theorem fl_X11_72 : FR RX11 72 11 43 := ⟨⟨(RX11, TX11, 61), rfl, by decide, (in_t5 187 rfl rfl)⟩, rfl⟩
set_option maxRecDepth 100000 in
theorem fl_X11_75 : FR RX11 75 11 45 := ⟨⟨(RX11, TX11, 61), rfl, by decide, (in_t5 189 rfl rfl)⟩, rfl⟩
set_option maxRecDepth 100000 in
theorem fl_X11_78 : FR RX11 78 11 46 := ⟨⟨(RX11, TX11, 61), rfl, by decide, (in_t5 190 rfl rfl)⟩, rfl⟩
set_option maxRecDepth 100000 in
theorem fl_X11_81 : FR RX11 81 11 47 := ⟨⟨(RX11, TX11, 61), rfl, by decide, (in_t5 191 rfl rfl)⟩, rfl⟩
set_option maxRecDepth 100000 in
theorem fl_X11_84 : FR RX11 84 11 48 := ⟨⟨(RX11, TX11, 61), rfl, by decide, (in_t5 192 rfl rfl)⟩, rfl⟩
set_option maxRecDepth 100000 in
theorem fl_X11_87 : FR RX11 87 11 51 := ⟨⟨(RX11, TX11, 61), rfl, by decide, (in_t5 195 rfl rfl)⟩, rfl⟩
set_option maxRecDepth 100000 in
theorem fl_X11_90 : FR RX11 90 11 58 := ⟨⟨(RX11, TX11, 61), rfl, by decide, (in_t5 202 rfl rfl)⟩, rfl⟩
set_option maxRecDepth 100000 in
theorem fl_X11_93 : FR RX11 93 11 59 := ⟨⟨(RX11, TX11, 61), rfl, by decide, (in_t5 203 rfl rfl)⟩, rfl⟩
set_option maxRecDepth 100000 in
theorem fl_X11_96 : FR RX11 96 11 60 := ⟨⟨(RX11, TX11, 61), rfl, by decide, (in_t5 204 rfl rfl)⟩, rfl⟩
set_option maxRecDepth 100000 in
theorem fl_X11_99 : FI RX11 99 11 14 := ⟨⟨(RX11, TX11, 61), rfl, by decide, (in_t5 158 rfl rfl)⟩, rfl, rfl, rfl⟩
set_option maxRecDepth 100000 in
theorem fl_X11_103 : FI RX11 103 11 13 := ⟨⟨(RX11, TX11, 61), rfl, by decide, (in_t5 157 rfl rfl)⟩, rfl, rfl, rfl⟩
set_option maxRecDepth 100000 in
theorem fl_X11_106 : FI RX11 106 11 1 := ⟨⟨(RX11, TX11, 61), rfl, by decide, (in_t5 145 rfl rfl)⟩, rfl, rfl, rfl⟩
set_option maxRecDepth 100000 in
theorem fl_X11_113 : FI RX11 113 11 3 := ⟨⟨(RX11, TX11, 61), rfl, by decide, (in_t5 147 rfl rfl)⟩, rfl, rfl, rfl⟩
set_option maxRecDepth 100000 in
theorem fl_X11_116 : FI RX11 116 11 11 := ⟨⟨(RX11, TX11, 61), rfl, by decide, (in_t5 155 rfl rfl)⟩, rfl, rfl, rfl⟩
set_option maxRecDepth 100000 in
theorem fl_X11_119 : FR RX11 119 11 15 := ⟨⟨(RX11, TX11, 61), rfl, by decide, (in_t5 159 rfl rfl)⟩, rfl⟩
set_option maxRecDepth 100000 in
theorem fl_X11_122 : FI RX11 122 11 16 := ⟨⟨(RX11, TX11, 61), rfl, by decide, (in_t5 160 rfl rfl)⟩, rfl, rfl, rfl⟩
set_option maxRecDepth 100000 in
theorem fl_X11_125 : FI RX11 125 11 17 := ⟨⟨(RX11, TX11, 61), rfl, by decide, (in_t5 161 rfl rfl)⟩, rfl, rfl, rfl⟩
set_option maxRecDepth 100000 in
theorem fl_X11_128 : FI RX11 128 11 18 := ⟨⟨(RX11, TX11, 61), rfl, by decide, (in_t5 162 rfl rfl)⟩, rfl, rfl, rfl⟩
set_option maxRecDepth 100000 in
theorem fl_X11_131 : FI RX11 131 11 19 := ⟨⟨(RX11, TX11, 61), rfl, by decide, (in_t5 163 rfl rfl)⟩, rfl, rfl, rfl⟩
set_option maxRecDepth 100000 in
theorem fl_X11_150 : FI RX11 150 11 52 := ⟨⟨(RX11, TX11, 61), rfl, by decide, (in_t5 196 rfl rfl)⟩, rfl, rfl, rfl⟩
set_option maxRecDepth 100000 in
theorem fl_X11_153 : FI RX11 153 11 28 := ⟨⟨(RX11, TX11, 61), rfl, by decide, (in_t5 172 rfl rfl)⟩, rfl, rfl, rfl⟩
set_option maxRecDepth 100000 in
theorem fl_X11_178 : FI RX11 178 11 57 := ⟨⟨(RX11, TX11, 61), rfl, by decide, (in_t5 201 rfl rfl)⟩, rfl, rfl, rfl⟩
set_option maxRecDepth 100000 in
theorem fl_X11_193 : FZ RX11 193 11 23 := ⟨⟨(RX11, TX11, 61), rfl, by decide, (in_t5 167 rfl rfl)⟩, rfl, rfl, rfl⟩
set_option maxRecDepth 100000 in
theorem fl_X11_200 : FI RX11 200 11 24 := ⟨⟨(RX11, TX11, 61), rfl, by decide, (in_t5 168 rfl rfl)⟩, rfl, rfl, rfl⟩
set_option maxRecDepth 100000 in
theorem fl_X11_203 : FI RX11 203 11 25 := ⟨⟨(RX11, TX11, 61), rfl, by decide, (in_t5 169 rfl rfl)⟩, rfl, rfl, rfl⟩
set_option maxRecDepth 100000 in
theorem fl_X11_206 : FI RX11 206 11 22 := ⟨⟨(RX11, TX11, 61), rfl, by decide, (in_t5 166 rfl rfl)⟩, rfl, rfl, rfl⟩
set_option maxRecDepth 100000 in
theorem fl_X11_255 : FI RX11 255 11 30 := ⟨⟨(RX11, TX11, 61), rfl, by decide, (in_t5 174 rfl rfl)⟩, rfl, rfl, rfl⟩
set_option maxRecDepth 100000 in
theorem fl_X11_258 : FI RX11 258 11 31 := ⟨⟨(RX11, TX11, 61), rfl, by decide, (in_t5 175 rfl rfl)⟩, rfl, rfl, rfl⟩
set_option maxRecDepth 100000 in
theorem fl_X11_261 : FI RX11 261 11 32 := ⟨⟨(RX11, TX11, 61), rfl, by decide, (in_t5 176 rfl rfl)⟩, rfl, rfl, rfl⟩
set_option maxRecDepth 100000 in
theorem fl_X11_306 : FI RX11 306 11 34 := ⟨⟨(RX11, TX11, 61), rfl, by decide, (in_t5 178 rfl rfl)⟩, rfl, rfl, rfl⟩
set_option maxRecDepth 100000 in
theorem fl_X11_315 : FI RX11 315 11 37 := ⟨⟨(RX11, TX11, 61), rfl, by decide, (in_t5 181 rfl rfl)⟩, rfl, rfl, rfl⟩
set_option maxRecDepth 100000 in
theorem fl_X11_338 : FI RX11 338 11 39 := ⟨⟨(RX11, TX11, 61), rfl, by decide, (in_t5 183 rfl rfl)⟩, rfl, rfl, rfl⟩
set_option maxRecDepth 100000 in
theorem fl_X11_341 : FI RX11 341 11 40 := ⟨⟨(RX11, TX11, 61), rfl, by decide, (in_t5 184 rfl rfl)⟩, rfl, rfl, rfl⟩
set_option maxRecDepth 100000 in
theorem fl_X11_357 : FI RX11 357 11 41 := ⟨⟨(RX11, TX11, 61), rfl, by decide, (in_t5 185 rfl rfl)⟩, rfl, rfl, rfl⟩
set_option maxRecDepth 100000 in
theorem fl_X11_369 : FI RX11 369 11 44 := ⟨⟨(RX11, TX11, 61), rfl, by decide, (in_t5 188 rfl rfl)⟩, rfl, rfl, rfl⟩
set_option maxRecDepth 100000 in
theorem fl_X11_388 : FI RX11 388 11 49 := ⟨⟨(RX11, TX11, 61), rfl, by decide, (in_t5 193 rfl rfl)⟩, rfl, rfl, rfl⟩
set_option maxRecDepth 100000 in
theorem fl_X11_391 : FI RX11 391 11 50 := ⟨⟨(RX11, TX11, 61), rfl, by decide, (in_t5 194 rfl rfl)⟩, rfl, rfl, rfl⟩
set_option maxRecDepth 100000 in
theorem fl_X11_402 : FI RX11 402 11 53 := ⟨⟨(RX11, TX11, 61), rfl, by decide, (in_t5 197 rfl rfl)⟩, rfl, rfl, rfl⟩
set_option maxRecDepth 100000 in
theorem fl_X11_405 : FI RX11 405 11 54 := ⟨⟨(RX11, TX11, 61), rfl, by decide, (in_t5 198 rfl rfl)⟩, rfl, rfl, rfl⟩
set_option maxRecDepth 100000 in
theorem fl_X11_408 : FI RX11 408 11 55 := ⟨⟨(RX11, TX11, 61), rfl, by decide, (in_t5 199 rfl rfl)⟩, rfl, rfl, rfl⟩
set_option maxRecDepth 100000 in
theorem fl_X11_417 : FI RX11 417 11 56 := ⟨⟨(RX11, TX11, 61), rfl, by decide, (in_t5 200 rfl rfl)⟩, rfl, rfl, rfl⟩
theorem nw_X7 : Cond.methodLinkNest RX7 50 yX10_has RX10 ∈ nwA := by decide +kernel
theorem nw_X0 : Cond.methodLinkNest RX0 49 yX10_has RX10 ∈ nwA := by decide +kernel
theorem nw_X5 : Cond.methodLinkNest RX5 25 yX10_has RX10 ∈ nwA := by decide +kernel
theorem nw_X1 : Cond.methodLinkNest RX1 65 yX10_has RX10 ∈ nwA := by decide +kernel
set_option maxRecDepth 100000 in
theorem lk_X10_105 : Cond.methodLink RX10 105 yX8_add ∈ wsA := in_t2 163 rfl rfl
set_option maxRecDepth 100000 in
theorem lk_X10_109 : Cond.methodLink RX10 109 yX8_cut ∈ wsA := in_t2 171 rfl rfl
set_option maxRecDepth 100000 in
theorem lk_X10_113 : Cond.methodLink RX10 113 yX10_faultOfPalace ∈ wsA := in_t2 179 rfl rfl
set_option maxRecDepth 100000 in
theorem lk_X10_117 : Cond.methodLink RX10 117 yX10_buildPalace ∈ wsA := in_t2 187 rfl rfl
set_option maxRecDepth 100000 in
theorem lk_X10_126 : Cond.methodLink RX10 126 yX4_read ∈ wsA := in_t2 200 rfl rfl
set_option maxRecDepth 100000 in
theorem lk_X10_132 : Cond.methodLink RX10 132 yX1_reckon ∈ wsA := in_t2 238 rfl rfl
set_option maxRecDepth 100000 in
theorem lk_X10_135 : Cond.methodLink RX10 135 yX6_clear ∈ wsA := in_t2 192 rfl rfl
set_option maxRecDepth 100000 in
theorem lk_X10_142 : Cond.methodLink RX10 142 yX3_faultOf ∈ wsA := in_t3 60 rfl rfl
set_option maxRecDepth 100000 in
theorem lk_X10_148 : Cond.methodLink RX10 148 yX3_take ∈ wsA := in_t3 65 rfl rfl
set_option maxRecDepth 100000 in
theorem lk_X10_152 : Cond.methodLink RX10 152 yX1_hasGroup ∈ wsA := in_t3 76 rfl rfl
set_option maxRecDepth 100000 in
theorem lk_X10_185 : Cond.methodLink RX10 185 yX1_hasRoom ∈ wsA := in_t3 80 rfl rfl
set_option maxRecDepth 100000 in
theorem lk_X10_188 : Cond.methodLink RX10 188 yX1_isCorridor ∈ wsA := in_t4 183 rfl rfl
set_option maxRecDepth 100000 in
theorem lk_X10_194 : Cond.methodLink RX10 194 yX1_everybody ∈ wsA := in_t3 189 rfl rfl
set_option maxRecDepth 100000 in
theorem lk_X10_197 : Cond.methodLink RX10 197 yX1_togetherIn ∈ wsA := in_t4 184 rfl rfl
set_option maxRecDepth 100000 in
theorem lk_X10_205 : Cond.methodLink RX10 205 yX10_entryOf ∈ wsA := in_t3 92 rfl rfl
set_option maxRecDepth 100000 in
theorem lk_X10_211 : Cond.methodLink RX10 211 yX1_barTo ∈ wsA := in_t3 101 rfl rfl
set_option maxRecDepth 100000 in
theorem lk_X10_215 : Cond.methodLink RX10 215 yX6_add ∈ wsA := in_t3 109 rfl rfl
set_option maxRecDepth 100000 in
theorem lk_X10_218 : Cond.methodLink RX10 218 yX1_setOff ∈ wsA := in_t3 119 rfl rfl
set_option maxRecDepth 100000 in
theorem lk_X10_222 : Cond.methodLink RX10 222 yX7_bitsInside ∈ wsA := in_t3 127 rfl rfl
set_option maxRecDepth 100000 in
theorem lk_X10_225 : Cond.methodLink RX10 225 yJ6_bitCount_0f7a4 ∈ wsA := in_t3 131 rfl rfl
set_option maxRecDepth 100000 in
theorem lk_X10_230 : Cond.methodLink RX10 230 yX10_isInside ∈ wsA := in_t3 141 rfl rfl
set_option maxRecDepth 100000 in
theorem lk_X10_233 : Cond.methodLink RX10 233 yX7_runOver ∈ wsA := in_t3 148 rfl rfl
set_option maxRecDepth 100000 in
theorem lk_X10_240 : Cond.methodLink RX10 240 yX7_bitsThrough ∈ wsA := in_t3 161 rfl rfl
set_option maxRecDepth 100000 in
theorem lk_X10_243 : Cond.methodLink RX10 243 yX1_pass ∈ wsA := in_t3 169 rfl rfl
set_option maxRecDepth 100000 in
theorem lk_X10_246 : Cond.methodLink RX10 246 yX10_clearRow ∈ wsA := in_t3 177 rfl rfl
set_option maxRecDepth 100000 in
theorem lk_X10_252 : Cond.methodLink RX10 252 yX10_tell ∈ wsA := in_t3 181 rfl rfl
set_option maxRecDepth 100000 in
theorem lk_X10_259 : Cond.methodLink RX10 259 yX7_waitedBy ∈ wsA := in_t3 193 rfl rfl
set_option maxRecDepth 100000 in
theorem lk_X10_262 : Cond.methodLink RX10 262 yX1_goOn ∈ wsA := in_t3 198 rfl rfl
set_option maxRecDepth 100000 in
theorem lk_X10_265 : Cond.methodLink RX10 265 yX10_faultOfDay ∈ wsA := in_t3 215 rfl rfl
set_option maxRecDepth 100000 in
theorem lk_X10_268 : Cond.methodLink RX10 268 yX7_copy ∈ wsA := in_t3 228 rfl rfl
set_option maxRecDepth 100000 in
theorem lk_X10_271 : Cond.methodLink RX10 271 yX10_actsTold ∈ wsA := in_t3 229 rfl rfl
set_option maxRecDepth 100000 in
theorem lk_X10_274 : Cond.methodLink RX10 274 yX10_doActs ∈ wsA := in_t3 233 rfl rfl
set_option maxRecDepth 100000 in
theorem lk_X10_279 : Cond.methodLink RX10 279 yX6_takeBack ∈ wsA := in_t4 5 rfl rfl
set_option maxRecDepth 100000 in
theorem lk_X10_282 : Cond.methodLink RX10 282 yX7_lastThrough ∈ wsA := in_t4 17 rfl rfl
set_option maxRecDepth 100000 in
theorem lk_X10_285 : Cond.methodLink RX10 285 yX10_faultOfOrder ∈ wsA := in_t4 26 rfl rfl
set_option maxRecDepth 100000 in
theorem lk_X10_288 : Cond.methodLink RX10 288 yX5_take ∈ wsA := in_t4 30 rfl rfl
set_option maxRecDepth 100000 in
theorem lk_X10_289 : Cond.methodLink RX10 289 yX5_bits ∈ wsA := in_t4 37 rfl rfl
set_option maxRecDepth 100000 in
theorem lk_X10_292 : Cond.methodLink RX10 292 yX10_areOutside ∈ wsA := in_t4 41 rfl rfl
set_option maxRecDepth 100000 in
theorem lk_X10_295 : Cond.methodLink RX10 295 yX9_begin ∈ wsA := in_t4 49 rfl rfl
set_option maxRecDepth 100000 in
theorem lk_X10_299 : Cond.methodLink RX10 299 yX9_walk ∈ wsA := in_t4 54 rfl rfl
set_option maxRecDepth 100000 in
theorem lk_X10_310 : Cond.methodLink RX10 310 yX9_minutesGone ∈ wsA := in_t4 95 rfl rfl
set_option maxRecDepth 100000 in
theorem lk_X10_313 : Cond.methodLink RX10 313 yX10_findSoonest ∈ wsA := in_t4 103 rfl rfl
set_option maxRecDepth 100000 in
theorem lk_X10_316 : Cond.methodLink RX10 316 yX10_tellFound ∈ wsA := in_t4 129 rfl rfl
set_option maxRecDepth 100000 in
theorem lk_X10_319 : Cond.methodLink RX10 319 yX10_beginOrders ∈ wsA := in_t4 107 rfl rfl
set_option maxRecDepth 100000 in
theorem lk_X10_323 : Cond.methodLink RX10 323 yX5_copy ∈ wsA := in_t4 116 rfl rfl
set_option maxRecDepth 100000 in
theorem lk_X10_326 : Cond.methodLink RX10 326 yX5_turnToNext ∈ wsA := in_t4 121 rfl rfl
set_option maxRecDepth 100000 in
theorem lk_X10_329 : Cond.methodLink RX10 329 yX1_gapOf ∈ wsA := in_t4 145 rfl rfl
set_option maxRecDepth 100000 in
theorem lk_X10_332 : Cond.methodLink RX10 332 yX1_placeOfGap ∈ wsA := in_t4 150 rfl rfl
set_option maxRecDepth 100000 in
theorem lk_X10_336 : Cond.methodLink RX10 336 yX10_areThere ∈ wsA := in_t4 45 rfl rfl
set_option maxRecDepth 100000 in
theorem lk_X10_339 : Cond.methodLink RX10 339 yX10_goOneWay ∈ wsA := in_t4 158 rfl rfl
set_option maxRecDepth 100000 in
theorem lk_X10_342 : Cond.methodLink RX10 342 yX5_begin ∈ wsA := in_t4 111 rfl rfl
set_option maxRecDepth 100000 in
theorem lk_X10_344 : Cond.methodLink RX10 344 yX10_smoothMinutes ∈ wsA := in_t4 162 rfl rfl
set_option maxRecDepth 100000 in
theorem lk_X10_348 : Cond.methodLink RX10 348 yX10_tellSettingOff ∈ wsA := in_t4 167 rfl rfl
set_option maxRecDepth 100000 in
theorem lk_X10_351 : Cond.methodLink RX10 351 yX1_longestPlace ∈ wsA := in_t4 175 rfl rfl
set_option maxRecDepth 100000 in
theorem lk_X10_354 : Cond.methodLink RX10 354 yX1_wholeStay ∈ wsA := in_t4 166 rfl rfl
set_option maxRecDepth 100000 in
theorem lk_X10_357 : Cond.methodLink RX10 357 Lib.Math.max.name ∈ wsA := in_t3 96 rfl rfl
set_option maxRecDepth 100000 in
theorem lk_X10_362 : Cond.methodLink RX10 362 yX10_has ∈ wsA := in_t3 145 rfl rfl
set_option maxRecDepth 100000 in
theorem lk_X10_366 : Cond.methodLink RX10 366 yX10_firstWithTogether ∈ wsA := in_t4 189 rfl rfl
set_option maxRecDepth 100000 in
theorem lk_X10_369 : Cond.methodLink RX10 369 yX10_bitsWithWhole ∈ wsA := in_t4 193 rfl rfl
set_option maxRecDepth 100000 in
theorem lk_X10_372 : Cond.methodLink RX10 372 yX10_foresee ∈ wsA := in_t4 201 rfl rfl
set_option maxRecDepth 100000 in
theorem lk_X10_376 : Cond.methodLink RX10 376 yX10_nobodyLater ∈ wsA := in_t4 209 rfl rfl
set_option maxRecDepth 100000 in
theorem lk_X10_379 : Cond.methodLink RX10 379 yX1_lossOf ∈ wsA := in_t4 221 rfl rfl
set_option maxRecDepth 100000 in
theorem lk_X10_382 : Cond.methodLink RX10 382 yX2_find ∈ wsA := in_t4 229 rfl rfl
set_option maxRecDepth 100000 in
theorem lk_X10_394 : Cond.methodLink RX10 394 yX0_add ∈ wsA := in_t5 11 rfl rfl
set_option maxRecDepth 100000 in
theorem lk_X10_397 : Cond.methodLink RX10 397 yX0_latest ∈ wsA := in_t5 23 rfl rfl
set_option maxRecDepth 100000 in
theorem lk_X10_400 : Cond.methodLink RX10 400 yX5_draw ∈ wsA := in_t5 36 rfl rfl
set_option maxRecDepth 100000 in
theorem lk_X10_406 : Cond.methodLink RX10 406 yX8_at ∈ wsA := in_t2 183 rfl rfl
set_option maxRecDepth 100000 in
theorem lk_X10_411 : Cond.methodLink RX10 411 yX7_clear ∈ wsA := in_t2 191 rfl rfl
set_option maxRecDepth 100000 in
theorem lk_X10_412 : Cond.methodLink RX10 412 Lib.Math.min.name ∈ wsA := in_t3 95 rfl rfl
set_option maxRecDepth 100000 in
theorem lk_X10_415 : Cond.methodLink RX10 415 yX8_letterAt ∈ wsA := in_t3 224 rfl rfl
set_option maxRecDepth 100000 in
theorem lk_X10_418 : Cond.methodLink RX10 418 yX10_behindAct ∈ wsA := in_t3 219 rfl rfl
set_option maxRecDepth 100000 in
theorem lk_X10_421 : Cond.methodLink RX10 421 yX8_digitAt ∈ wsA := in_t3 223 rfl rfl
set_option maxRecDepth 100000 in
theorem lk_X10_424 : Cond.methodLink RX10 424 yX10_doAct ∈ wsA := in_t3 237 rfl rfl
set_option maxRecDepth 100000 in
theorem lk_X0_25 : Cond.methodLink RX0 25 Lib.Math.max.name ∈ wsA := in_t5 27 rfl rfl
set_option maxRecDepth 100000 in
theorem lk_X0_31 : Cond.methodLink RX0 31 Lib.Math.min.name ∈ wsA := in_t4 79 rfl rfl
set_option maxRecDepth 100000 in
theorem lk_X0_34 : Cond.methodLink RX0 34 yX7_bitsIn ∈ wsA := in_t4 84 rfl rfl
set_option maxRecDepth 100000 in
theorem lk_X0_40 : Cond.methodLink RX0 40 yX0_sounds ∈ wsA := in_t4 85 rfl rfl
set_option maxRecDepth 100000 in
theorem lk_X1_52 : Cond.methodLink RX1 52 yX3_valueOf ∈ wsA := in_t3 2 rfl rfl
set_option maxRecDepth 100000 in
theorem lk_X1_56 : Cond.methodLink RX1 56 Lib.Math.min.name ∈ wsA := in_t3 50 rfl rfl
set_option maxRecDepth 100000 in
theorem lk_X1_62 : Cond.methodLink RX1 62 Lib.Math.max.name ∈ wsA := in_t3 53 rfl rfl
set_option maxRecDepth 100000 in
theorem lk_X1_69 : Cond.methodLink RX1 69 yX1_isCorridor ∈ wsA := in_t4 149 rfl rfl
set_option maxRecDepth 100000 in
theorem lk_X1_73 : Cond.methodLink RX1 73 yX1_onWay ∈ wsA := in_t3 105 rfl rfl
set_option maxRecDepth 100000 in
theorem lk_X1_87 : Cond.methodLink RX1 87 yX1_move ∈ wsA := in_t3 123 rfl rfl
set_option maxRecDepth 100000 in
theorem lk_X1_103 : Cond.methodLink RX1 103 yX1_firstThatCan ∈ wsA := in_t3 173 rfl rfl
set_option maxRecDepth 100000 in
theorem lk_X1_110 : Cond.methodLink RX1 110 yX1_quietMinutes ∈ wsA := in_t3 206 rfl rfl
set_option maxRecDepth 100000 in
theorem lk_X1_114 : Cond.methodLink RX1 114 yX1_pass ∈ wsA := in_t3 210 rfl rfl
set_option maxRecDepth 100000 in
theorem lk_X1_118 : Cond.methodLink RX1 118 yX1_advance ∈ wsA := in_t3 202 rfl rfl
set_option maxRecDepth 100000 in
theorem lk_X2_29 : Cond.methodLink RX2 29 yX2_pairFrom ∈ wsA := in_t4 233 rfl rfl
set_option maxRecDepth 100000 in
theorem lk_X2_38 : Cond.methodLink RX2 38 yX2_judge ∈ wsA := in_t4 237 rfl rfl
set_option maxRecDepth 100000 in
theorem lk_X2_42 : Cond.methodLink RX2 42 yX1_lossOf ∈ wsA := in_t5 2 rfl rfl
set_option maxRecDepth 100000 in
theorem lk_X2_46 : Cond.methodLink RX2 46 arraycopyName ∈ wsA := in_t5 1 rfl rfl
set_option maxRecDepth 100000 in
theorem lk_X3_26 : Cond.methodLink RX3 26 Lib.Math.min.name ∈ wsA := in_t3 64 rfl rfl
set_option maxRecDepth 100000 in
theorem lk_X3_39 : Cond.methodLink RX3 39 yX3_readAll ∈ wsA := in_t3 10 rfl rfl
set_option maxRecDepth 100000 in
theorem lk_X3_46 : Cond.methodLink RX3 46 arraycopyName ∈ wsA := in_t3 69 rfl rfl
set_option maxRecDepth 100000 in
theorem lk_X3_73 : Cond.methodLink RX3 73 yX1_isCorridor ∈ wsA := in_t3 6 rfl rfl
set_option maxRecDepth 100000 in
theorem lk_X3_88 : Cond.methodLink RX3 88 yX3_readExpression ∈ wsA := in_t3 14 rfl rfl
set_option maxRecDepth 100000 in
theorem lk_X3_92 : Cond.methodLink RX3 92 yX3_look ∈ wsA := in_t3 30 rfl rfl
set_option maxRecDepth 100000 in
theorem lk_X3_95 : Cond.methodLink RX3 95 yX3_fail ∈ wsA := in_t3 42 rfl rfl
set_option maxRecDepth 100000 in
theorem lk_X3_98 : Cond.methodLink RX3 98 yX3_readSum ∈ wsA := in_t3 18 rfl rfl
set_option maxRecDepth 100000 in
theorem lk_X3_101 : Cond.methodLink RX3 101 yX3_readProduct ∈ wsA := in_t3 22 rfl rfl
set_option maxRecDepth 100000 in
theorem lk_X3_104 : Cond.methodLink RX3 104 yX3_readSigned ∈ wsA := in_t3 26 rfl rfl
set_option maxRecDepth 100000 in
theorem lk_X3_107 : Cond.methodLink RX3 107 yX3_readThing ∈ wsA := in_t3 34 rfl rfl
set_option maxRecDepth 100000 in
theorem lk_X3_110 : Cond.methodLink RX3 110 yX3_readDigits ∈ wsA := in_t3 38 rfl rfl
set_option maxRecDepth 100000 in
theorem lk_X3_113 : Cond.methodLink RX3 113 yX3_readLetter ∈ wsA := in_t3 46 rfl rfl
set_option maxRecDepth 100000 in
theorem lk_X4_39 : Cond.methodLink RX4 39 yX4_readLine ∈ wsA := in_t2 204 rfl rfl
set_option maxRecDepth 100000 in
theorem lk_X4_43 : Cond.methodLink RX4 43 yX8_at ∈ wsA := in_t2 225 rfl rfl
set_option maxRecDepth 100000 in
theorem lk_X4_51 : Cond.methodLink RX4 51 yX4_readComes ∈ wsA := in_t2 208 rfl rfl
set_option maxRecDepth 100000 in
theorem lk_X4_54 : Cond.methodLink RX4 54 yX4_readTongue ∈ wsA := in_t2 221 rfl rfl
set_option maxRecDepth 100000 in
theorem lk_X4_57 : Cond.methodLink RX4 57 yX4_readSize ∈ wsA := in_t2 226 rfl rfl
set_option maxRecDepth 100000 in
theorem lk_X4_60 : Cond.methodLink RX4 60 yX4_readWay ∈ wsA := in_t2 230 rfl rfl
set_option maxRecDepth 100000 in
theorem lk_X4_63 : Cond.methodLink RX4 63 yX4_readTold ∈ wsA := in_t2 234 rfl rfl
set_option maxRecDepth 100000 in
theorem lk_X4_66 : Cond.methodLink RX4 66 yX8_digitAt ∈ wsA := in_t2 216 rfl rfl
set_option maxRecDepth 100000 in
theorem lk_X4_72 : Cond.methodLink RX4 72 yX4_readNumber ∈ wsA := in_t2 212 rfl rfl
set_option maxRecDepth 100000 in
theorem lk_X5_19 : Cond.methodLink RX5 19 arraycopyName ∈ wsA := in_t4 120 rfl rfl
set_option maxRecDepth 100000 in
theorem lk_X5_34 : Cond.methodLink RX5 34 Lib.Math.min.name ∈ wsA := in_t4 34 rfl rfl
set_option maxRecDepth 100000 in
theorem lk_X5_40 : Cond.methodLink RX5 40 yX8_letterAt ∈ wsA := in_t4 35 rfl rfl
set_option maxRecDepth 100000 in
theorem lk_X5_44 : Cond.methodLink RX5 44 Lib.Math.max.name ∈ wsA := in_t4 36 rfl rfl
set_option maxRecDepth 100000 in
theorem lk_X5_47 : Cond.methodLink RX5 47 yX5_swap ∈ wsA := in_t4 125 rfl rfl
set_option maxRecDepth 100000 in
theorem lk_X5_51 : Cond.methodLink RX5 51 yX5_begin ∈ wsA := in_t5 40 rfl rfl
set_option maxRecDepth 100000 in
theorem lk_X6_25 : Cond.methodLink RX6 25 yX7_copy ∈ wsA := in_t3 113 rfl rfl
set_option maxRecDepth 100000 in
theorem lk_X6_29 : Cond.methodLink RX6 29 Lib.Math.min.name ∈ wsA := in_t3 118 rfl rfl
set_option maxRecDepth 100000 in
theorem lk_X7_40 : Cond.methodLink RX7 40 arraycopyName ∈ wsA := in_t3 117 rfl rfl
set_option maxRecDepth 100000 in
theorem lk_X7_46 : Cond.methodLink RX7 46 yX7_bitsIn ∈ wsA := in_t3 165 rfl rfl
set_option maxRecDepth 100000 in
theorem lk_X7_54 : Cond.methodLink RX7 54 Lib.Math.max.name ∈ wsA := in_t4 21 rfl rfl
set_option maxRecDepth 100000 in
theorem lk_X7_60 : Cond.methodLink RX7 60 Lib.Math.min.name ∈ wsA := in_t3 152 rfl rfl
set_option maxRecDepth 100000 in
theorem lk_X8_22 : Cond.methodLink RX8 22 yX8_at ∈ wsA := in_t2 220 rfl rfl
set_option maxRecDepth 100000 in
theorem lk_X9_34 : Cond.methodLink RX9 34 yX7_copy ∈ wsA := in_t4 53 rfl rfl
set_option maxRecDepth 100000 in
theorem lk_X9_48 : Cond.methodLink RX9 48 Lib.Math.max.name ∈ wsA := in_t4 58 rfl rfl
set_option maxRecDepth 100000 in
theorem lk_X9_63 : Cond.methodLink RX9 63 yX9_sendOff ∈ wsA := in_t4 59 rfl rfl
set_option maxRecDepth 100000 in
theorem lk_X9_67 : Cond.methodLink RX9 67 Lib.Math.min.name ∈ wsA := in_t4 69 rfl rfl
set_option maxRecDepth 100000 in
theorem lk_X9_70 : Cond.methodLink RX9 70 yX5_bits ∈ wsA := in_t4 89 rfl rfl
set_option maxRecDepth 100000 in
theorem lk_X9_74 : Cond.methodLink RX9 74 yX9_leadThrough ∈ wsA := in_t4 90 rfl rfl
set_option maxRecDepth 100000 in
theorem lk_X9_78 : Cond.methodLink RX9 78 yX1_wholeStay ∈ wsA := in_t4 63 rfl rfl
set_option maxRecDepth 100000 in
theorem lk_X9_84 : Cond.methodLink RX9 84 yX1_barTo ∈ wsA := in_t4 67 rfl rfl
set_option maxRecDepth 100000 in
theorem lk_X9_88 : Cond.methodLink RX9 88 yX1_setOff ∈ wsA := in_t4 68 rfl rfl
set_option maxRecDepth 100000 in
theorem lk_X9_95 : Cond.methodLink RX9 95 yX9_goBy ∈ wsA := in_t4 70 rfl rfl
set_option maxRecDepth 100000 in
theorem lk_X9_99 : Cond.methodLink RX9 99 yX7_bitsThrough ∈ wsA := in_t4 94 rfl rfl
set_option maxRecDepth 100000 in
theorem lk_X9_102 : Cond.methodLink RX9 102 yX1_advance ∈ wsA := in_t4 74 rfl rfl
set_option maxRecDepth 100000 in
theorem lk_X9_105 : Cond.methodLink RX9 105 yX0_nextBehind ∈ wsA := in_t4 75 rfl rfl
set_option maxRecDepth 100000 in
theorem lk_X9_110 : Cond.methodLink RX9 110 yX0_isSo ∈ wsA := in_t4 80 rfl rfl
set_option maxRecDepth 100000 in
theorem lk_X11_109 : Cond.methodLink RX11 109 yX11_in ∈ wsA := in_t6 102 rfl rfl
set_option maxRecDepth 100000 in
theorem lk_X11_134 : Cond.methodLink RX11 134 yX11_fine ∈ wsA := in_t6 117 rfl rfl
set_option maxRecDepth 100000 in
theorem lk_X11_138 : Cond.methodLink RX11 138 yX11_here ∈ wsA := in_t6 137 rfl rfl
set_option maxRecDepth 100000 in
theorem lk_X11_142 : Cond.methodLink RX11 142 yX11_fault ∈ wsA := in_t6 121 rfl rfl
set_option maxRecDepth 100000 in
theorem lk_X11_146 : Cond.methodLink RX11 146 yX11_digit ∈ wsA := in_t6 133 rfl rfl
set_option maxRecDepth 100000 in
theorem lk_X11_156 : Cond.methodLink RX11 156 yX11_number ∈ wsA := in_t6 129 rfl rfl
set_option maxRecDepth 100000 in
theorem lk_X11_160 : Cond.methodLink RX11 160 yX11_letter ∈ wsA := in_t6 141 rfl rfl
set_option maxRecDepth 100000 in
theorem lk_X11_164 : Cond.methodLink RX11 164 yX11_begin ∈ wsA := in_t6 113 rfl rfl
set_option maxRecDepth 100000 in
theorem lk_X11_168 : Cond.methodLink RX11 168 yX11_readGroup ∈ wsA := in_t6 125 rfl rfl
set_option maxRecDepth 100000 in
theorem lk_X11_171 : Cond.methodLink RX11 171 yX11_passes ∈ wsA := in_t6 145 rfl rfl
set_option maxRecDepth 100000 in
theorem lk_X11_175 : Cond.methodLink RX11 175 yX11_come ∈ wsA := in_t6 149 rfl rfl
set_option maxRecDepth 100000 in
theorem lk_X11_181 : Cond.methodLink RX11 181 yX11_sum ∈ wsA := in_t6 161 rfl rfl
set_option maxRecDepth 100000 in
theorem lk_X11_184 : Cond.methodLink RX11 184 yX11_product ∈ wsA := in_t6 165 rfl rfl
set_option maxRecDepth 100000 in
theorem lk_X11_187 : Cond.methodLink RX11 187 yX11_thing ∈ wsA := in_t6 169 rfl rfl
set_option maxRecDepth 100000 in
theorem lk_X11_190 : Cond.methodLink RX11 190 yX11_held ∈ wsA := in_t6 157 rfl rfl
set_option maxRecDepth 100000 in
theorem lk_X11_197 : Cond.methodLink RX11 197 yX11_valueOf ∈ wsA := in_t6 173 rfl rfl
set_option maxRecDepth 100000 in
theorem lk_X11_209 : Cond.methodLink RX11 209 yX11_has ∈ wsA := in_t6 205 rfl rfl
set_option maxRecDepth 100000 in
theorem lk_X11_213 : Cond.methodLink RX11 213 Lib.Math.min.name ∈ wsA := in_t6 208 rfl rfl
set_option maxRecDepth 100000 in
theorem lk_X11_218 : Cond.methodLink RX11 218 Lib.Math.max.name ∈ wsA := in_t6 209 rfl rfl
set_option maxRecDepth 100000 in
theorem lk_X11_221 : Cond.methodLink RX11 221 yX11_stayOf ∈ wsA := in_t6 201 rfl rfl
set_option maxRecDepth 100000 in
theorem lk_X11_224 : Cond.methodLink RX11 224 yX11_isInside ∈ wsA := in_t7 17 rfl rfl
set_option maxRecDepth 100000 in
theorem lk_X11_228 : Cond.methodLink RX11 228 yX11_isGroup ∈ wsA := in_t6 181 rfl rfl
set_option maxRecDepth 100000 in
theorem lk_X11_232 : Cond.methodLink RX11 232 yX11_lost ∈ wsA := in_t6 185 rfl rfl
set_option maxRecDepth 100000 in
theorem lk_X11_235 : Cond.methodLink RX11 235 yX11_isRoom ∈ wsA := in_t6 193 rfl rfl
set_option maxRecDepth 100000 in
theorem lk_X11_238 : Cond.methodLink RX11 238 yX11_inRoom ∈ wsA := in_t6 197 rfl rfl
set_option maxRecDepth 100000 in
theorem lk_X11_242 : Cond.methodLink RX11 242 yX11_lay ∈ wsA := in_t7 6 rfl rfl
set_option maxRecDepth 100000 in
theorem lk_X11_246 : Cond.methodLink RX11 246 yX11_firstRoom ∈ wsA := in_t6 230 rfl rfl
set_option maxRecDepth 100000 in
theorem lk_X11_249 : Cond.methodLink RX11 249 yX11_isFree ∈ wsA := in_t6 234 rfl rfl
set_option maxRecDepth 100000 in
theorem lk_X11_252 : Cond.methodLink RX11 252 yX11_nextRoom ∈ wsA := in_t7 49 rfl rfl
set_option maxRecDepth 100000 in
theorem lk_X11_264 : Cond.methodLink RX11 264 yX11_nextStep ∈ wsA := in_t7 45 rfl rfl
set_option maxRecDepth 100000 in
theorem lk_X11_268 : Cond.methodLink RX11 268 yX11_refusesOff ∈ wsA := in_t6 226 rfl rfl
set_option maxRecDepth 100000 in
theorem lk_X11_271 : Cond.methodLink RX11 271 yX11_layStays ∈ wsA := in_t6 238 rfl rfl
set_option maxRecDepth 100000 in
theorem lk_X11_274 : Cond.methodLink RX11 274 yX11_remember ∈ wsA := in_t7 2 rfl rfl
set_option maxRecDepth 100000 in
theorem lk_X11_278 : Cond.methodLink RX11 278 yX11_goOff ∈ wsA := in_t7 9 rfl rfl
set_option maxRecDepth 100000 in
theorem lk_X11_282 : Cond.methodLink RX11 282 yX11_inside ∈ wsA := in_t7 13 rfl rfl
set_option maxRecDepth 100000 in
theorem lk_X11_285 : Cond.methodLink RX11 285 yJ6_bitCount_0f7a4 ∈ wsA := in_t7 21 rfl rfl
set_option maxRecDepth 100000 in
theorem lk_X11_290 : Cond.methodLink RX11 290 yX11_canOver ∈ wsA := in_t7 26 rfl rfl
set_option maxRecDepth 100000 in
theorem lk_X11_293 : Cond.methodLink RX11 293 yX11_goOver ∈ wsA := in_t7 30 rfl rfl
set_option maxRecDepth 100000 in
theorem lk_X11_297 : Cond.methodLink RX11 297 yX11_goMinute ∈ wsA := in_t7 41 rfl rfl
set_option maxRecDepth 100000 in
theorem lk_X11_300 : Cond.methodLink RX11 300 yX11_tell ∈ wsA := in_t7 53 rfl rfl
set_option maxRecDepth 100000 in
theorem lk_X11_303 : Cond.methodLink RX11 303 yX11_readAct ∈ wsA := in_t7 65 rfl rfl
set_option maxRecDepth 100000 in
theorem lk_X11_309 : Cond.methodLink RX11 309 yX11_act ∈ wsA := in_t7 69 rfl rfl
set_option maxRecDepth 100000 in
theorem lk_X11_312 : Cond.methodLink RX11 312 yX11_goOn ∈ wsA := in_t7 85 rfl rfl
set_option maxRecDepth 100000 in
theorem lk_X11_318 : Cond.methodLink RX11 318 yX11_areThrough ∈ wsA := in_t7 101 rfl rfl
set_option maxRecDepth 100000 in
theorem lk_X11_322 : Cond.methodLink RX11 322 yX11_areOutside ∈ wsA := in_t7 93 rfl rfl
set_option maxRecDepth 100000 in
theorem lk_X11_325 : Cond.methodLink RX11 325 yX11_goDay ∈ wsA := in_t7 97 rfl rfl
set_option maxRecDepth 100000 in
theorem lk_X11_328 : Cond.methodLink RX11 328 yX11_waitedByOrder ∈ wsA := in_t7 106 rfl rfl
set_option maxRecDepth 100000 in
theorem lk_X11_331 : Cond.methodLink RX11 331 yX11_everybody ∈ wsA := in_t7 118 rfl rfl
set_option maxRecDepth 100000 in
theorem lk_X11_334 : Cond.methodLink RX11 334 yX11_swapOrder ∈ wsA := in_t7 134 rfl rfl
set_option maxRecDepth 100000 in
theorem lk_X11_344 : Cond.methodLink RX11 344 yX11_firstOrder ∈ wsA := in_t7 126 rfl rfl
set_option maxRecDepth 100000 in
theorem lk_X11_347 : Cond.methodLink RX11 347 yX11_nextOrder ∈ wsA := in_t7 130 rfl rfl
set_option maxRecDepth 100000 in
theorem lk_X11_350 : Cond.methodLink RX11 350 yX11_canOrder ∈ wsA := in_t7 114 rfl rfl
set_option maxRecDepth 100000 in
theorem lk_X11_353 : Cond.methodLink RX11 353 yX11_findBest ∈ wsA := in_t7 122 rfl rfl
set_option maxRecDepth 100000 in
theorem lk_X11_360 : Cond.methodLink RX11 360 yX11_areTwo ∈ wsA := in_t7 150 rfl rfl
set_option maxRecDepth 100000 in
theorem lk_X11_363 : Cond.methodLink RX11 363 yX11_gapOf ∈ wsA := in_t7 154 rfl rfl
set_option maxRecDepth 100000 in
theorem lk_X11_366 : Cond.methodLink RX11 366 yX11_allStays ∈ wsA := in_t7 162 rfl rfl
set_option maxRecDepth 100000 in
theorem lk_X11_372 : Cond.methodLink RX11 372 yX11_everyOf ∈ wsA := in_t7 170 rfl rfl
set_option maxRecDepth 100000 in
theorem lk_X11_375 : Cond.methodLink RX11 375 yX11_roomStays ∈ wsA := in_t7 178 rfl rfl
set_option maxRecDepth 100000 in
theorem lk_X11_378 : Cond.methodLink RX11 378 yX11_findWhen ∈ wsA := in_t7 186 rfl rfl
set_option maxRecDepth 100000 in
theorem lk_X11_382 : Cond.methodLink RX11 382 yX11_canJoin ∈ wsA := in_t7 202 rfl rfl
set_option maxRecDepth 100000 in
theorem lk_X11_385 : Cond.methodLink RX11 385 yX11_lossOf ∈ wsA := in_t7 206 rfl rfl
set_option maxRecDepth 100000 in
theorem lk_X11_394 : Cond.methodLink RX11 394 yX11_goPairs ∈ wsA := in_t7 214 rfl rfl
set_option maxRecDepth 100000 in
theorem lk_X11_398 : Cond.methodLink RX11 398 yX11_isHeard ∈ wsA := in_t8 2 rfl rfl
set_option maxRecDepth 100000 in
theorem lk_X11_411 : Cond.methodLink RX11 411 yX11_isOrderHeard ∈ wsA := in_t7 238 rfl rfl
set_option maxRecDepth 100000 in
theorem lk_X11_414 : Cond.methodLink RX11 414 yX11_findFits ∈ wsA := in_t7 234 rfl rfl
set_option maxRecDepth 100000 in
theorem lk_X11_421 : Cond.methodLink RX11 421 yX11_draw ∈ wsA := in_t8 18 rfl rfl
set_option maxRecDepth 100000 in
theorem lk_X11_424 : Cond.methodLink RX11 424 yJ6_numberOfTrailingZeros_0f7a4 ∈ wsA := in_t8 23 rfl rfl
set_option maxRecDepth 100000 in
theorem lk_X11_427 : Cond.methodLink RX11 427 yX11_drawOrder ∈ wsA := in_t8 14 rfl rfl
theorem pl_X0 : plainName RX0 = true := by decide +kernel
theorem nh_X0 : RX0 ≠ "java/lang/invoke/MethodHandle" ∧ RX0 ≠ "java/lang/invoke/VarHandle" := by decide +kernel
theorem pl_X1 : plainName RX1 = true := by decide +kernel
theorem nh_X1 : RX1 ≠ "java/lang/invoke/MethodHandle" ∧ RX1 ≠ "java/lang/invoke/VarHandle" := by decide +kernel
theorem pl_X2 : plainName RX2 = true := by decide +kernel
theorem nh_X2 : RX2 ≠ "java/lang/invoke/MethodHandle" ∧ RX2 ≠ "java/lang/invoke/VarHandle" := by decide +kernel
theorem pl_X3 : plainName RX3 = true := by decide +kernel
theorem nh_X3 : RX3 ≠ "java/lang/invoke/MethodHandle" ∧ RX3 ≠ "java/lang/invoke/VarHandle" := by decide +kernel
theorem pl_X4 : plainName RX4 = true := by decide +kernel
theorem nh_X4 : RX4 ≠ "java/lang/invoke/MethodHandle" ∧ RX4 ≠ "java/lang/invoke/VarHandle" := by decide +kernel
theorem pl_X5 : plainName RX5 = true := by decide +kernel
theorem nh_X5 : RX5 ≠ "java/lang/invoke/MethodHandle" ∧ RX5 ≠ "java/lang/invoke/VarHandle" := by decide +kernel
theorem pl_X6 : plainName RX6 = true := by decide +kernel
theorem nh_X6 : RX6 ≠ "java/lang/invoke/MethodHandle" ∧ RX6 ≠ "java/lang/invoke/VarHandle" := by decide +kernel
theorem pl_X7 : plainName RX7 = true := by decide +kernel
theorem nh_X7 : RX7 ≠ "java/lang/invoke/MethodHandle" ∧ RX7 ≠ "java/lang/invoke/VarHandle" := by decide +kernel
theorem pl_X8 : plainName RX8 = true := by decide +kernel
theorem nh_X8 : RX8 ≠ "java/lang/invoke/MethodHandle" ∧ RX8 ≠ "java/lang/invoke/VarHandle" := by decide +kernel
theorem pl_X9 : plainName RX9 = true := by decide +kernel
theorem nh_X9 : RX9 ≠ "java/lang/invoke/MethodHandle" ∧ RX9 ≠ "java/lang/invoke/VarHandle" := by decide +kernel
theorem pl_X10 : plainName RX10 = true := by decide +kernel
theorem nh_X10 : RX10 ≠ "java/lang/invoke/MethodHandle" ∧ RX10 ≠ "java/lang/invoke/VarHandle" := by decide +kernel
theorem pl_X11 : plainName RX11 = true := by decide +kernel
theorem nh_X11 : RX11 ≠ "java/lang/invoke/MethodHandle" ∧ RX11 ≠ "java/lang/invoke/VarHandle" := by decide +kernel
theorem pl_J6 : plainName RJ6 = true := by decide +kernel
theorem nh_J6 : RJ6 ≠ "java/lang/invoke/MethodHandle" ∧ RJ6 ≠ "java/lang/invoke/VarHandle" := by decide +kernel
abbrev YX1_hasGroup : MRec := (yX1_hasGroup, cX1_hasGroup, 2, (some .boolean))
set_option maxRecDepth 100000 in
theorem miX1_hasGroup : MI YX1_hasGroup 1 1 := ⟨⟨(in_t3 79 rfl rfl), ini_X1, pl_X1, ⟨nh_X1.1, nh_X1.2, rfl⟩, by decide⟩, (in_t3 77 rfl rfl), (in_t3 78 rfl rfl), ⟨(RX1, TX1, 11), rfl, rfl⟩⟩
abbrev YX1_hasRoom : MRec := (yX1_hasRoom, cX1_hasRoom, 2, (some .boolean))
set_option maxRecDepth 100000 in
theorem miX1_hasRoom : MI YX1_hasRoom 1 1 := ⟨⟨(in_t3 83 rfl rfl), ini_X1, pl_X1, ⟨nh_X1.1, nh_X1.2, rfl⟩, by decide⟩, (in_t3 81 rfl rfl), (in_t3 82 rfl rfl), ⟨(RX1, TX1, 11), rfl, rfl⟩⟩
abbrev YX1_isCorridor : MRec := (yX1_isCorridor, cX1_isCorridor, 2, (some .boolean))
set_option maxRecDepth 100000 in
theorem miX1_isCorridor : MI YX1_isCorridor 1 1 := ⟨⟨(in_t3 9 rfl rfl), ini_X1, pl_X1, ⟨nh_X1.1, nh_X1.2, rfl⟩, by decide⟩, (in_t3 7 rfl rfl), (in_t3 8 rfl rfl), ⟨(RX1, TX1, 11), rfl, rfl⟩⟩
abbrev YX7_bitsIn : MRec := (yX7_bitsIn, cX7_bitsIn, 4, (some .int))
set_option maxRecDepth 100000 in
theorem miX7_bitsIn : MI YX7_bitsIn 1 7 := ⟨⟨(in_t3 168 rfl rfl), ini_X7, pl_X7, ⟨nh_X7.1, nh_X7.2, rfl⟩, by decide⟩, (in_t3 166 rfl rfl), (in_t3 167 rfl rfl), ⟨(RX7, TX7, 8), rfl, rfl⟩⟩
abbrev YX10_has : MRec := (yX10_has, cX10_has, 2, (some .boolean))
set_option maxRecDepth 100000 in
theorem msX10_has : MS YX10_has 2 := ⟨⟨(in_t3 147 rfl rfl), ini_X10, pl_X10, ⟨nh_X10.1, nh_X10.2, rfl⟩, by decide⟩, (in_t3 146 rfl rfl)⟩
abbrev YX1_togetherIn : MRec := (yX1_togetherIn, cX1_togetherIn, 5, (some .int))
set_option maxRecDepth 100000 in
theorem miX1_togetherIn : MI YX1_togetherIn 2 1 := ⟨⟨(in_t4 187 rfl rfl), ini_X1, pl_X1, ⟨nh_X1.1, nh_X1.2, rfl⟩, by decide⟩, (in_t4 185 rfl rfl), (in_t4 186 rfl rfl), ⟨(RX1, TX1, 11), rfl, rfl⟩⟩
abbrev YX1_everybody : MRec := (yX1_everybody, cX1_everybody, 1, (some .int))
set_option maxRecDepth 100000 in
theorem miX1_everybody : MI YX1_everybody 0 1 := ⟨⟨(in_t3 192 rfl rfl), ini_X1, pl_X1, ⟨nh_X1.1, nh_X1.2, rfl⟩, by decide⟩, (in_t3 190 rfl rfl), (in_t3 191 rfl rfl), ⟨(RX1, TX1, 11), rfl, rfl⟩⟩
abbrev YX8_add : MRec := (yX8_add, cX8_add, 3, (some .int))
set_option maxRecDepth 100000 in
theorem miX8_add : MI YX8_add 1 8 := ⟨⟨(in_t2 166 rfl rfl), ini_X8, pl_X8, ⟨nh_X8.1, nh_X8.2, rfl⟩, by decide⟩, (in_t2 164 rfl rfl), (in_t2 165 rfl rfl), ⟨(RX8, TX8, 3), rfl, rfl⟩⟩
abbrev YX10_sign : MRec := (yX10_sign, cX10_sign, 2, (some .int))
set_option maxRecDepth 100000 in
theorem miX10_sign : MI YX10_sign 1 10 := ⟨⟨(in_t2 162 rfl rfl), ini_X10, pl_X10, ⟨nh_X10.1, nh_X10.2, rfl⟩, by decide⟩, (in_t2 160 rfl rfl), (in_t2 161 rfl rfl), ⟨(RX10, TX10, 17), rfl, rfl⟩⟩
abbrev YX8_cut : MRec := (yX8_cut, cX8_cut, 2, (some .boolean))
set_option maxRecDepth 100000 in
theorem miX8_cut : MI YX8_cut 1 8 := ⟨⟨(in_t2 174 rfl rfl), ini_X8, pl_X8, ⟨nh_X8.1, nh_X8.2, rfl⟩, by decide⟩, (in_t2 172 rfl rfl), (in_t2 173 rfl rfl), ⟨(RX8, TX8, 3), rfl, rfl⟩⟩
abbrev YX10_end : MRec := (yX10_end, cX10_end, 2, (some .boolean))
set_option maxRecDepth 100000 in
theorem miX10_end : MI YX10_end 1 10 := ⟨⟨(in_t2 170 rfl rfl), ini_X10, pl_X10, ⟨nh_X10.1, nh_X10.2, rfl⟩, by decide⟩, (in_t2 168 rfl rfl), (in_t2 169 rfl rfl), ⟨(RX10, TX10, 17), rfl, rfl⟩⟩
abbrev YX8_at : MRec := (yX8_at, cX8_at, 2, (some .int))
set_option maxRecDepth 100000 in
theorem miX8_at : MI YX8_at 1 8 := ⟨⟨(in_t2 186 rfl rfl), ini_X8, pl_X8, ⟨nh_X8.1, nh_X8.2, rfl⟩, by decide⟩, (in_t2 184 rfl rfl), (in_t2 185 rfl rfl), ⟨(RX8, TX8, 3), rfl, rfl⟩⟩
abbrev YX10_faultOfPalace : MRec := (yX10_faultOfPalace, cX10_faultOfPalace, 3, (some .int))
set_option maxRecDepth 100000 in
theorem miX10_faultOfPalace : MI YX10_faultOfPalace 0 10 := ⟨⟨(in_t2 182 rfl rfl), ini_X10, pl_X10, ⟨nh_X10.1, nh_X10.2, rfl⟩, by decide⟩, (in_t2 181 rfl rfl), (in_s1 0 17 rfl rfl), ⟨(RX10, TX10, 17), rfl, rfl⟩⟩
abbrev YX7_clear : MRec := (yX7_clear, cX7_clear, 2, none)
set_option maxRecDepth 100000 in
theorem miX7_clear : MI YX7_clear 0 7 := ⟨⟨(in_t1 192 rfl rfl), ini_X7, pl_X7, ⟨nh_X7.1, nh_X7.2, rfl⟩, by decide⟩, (in_t1 190 rfl rfl), (in_t1 191 rfl rfl), ⟨(RX7, TX7, 8), rfl, rfl⟩⟩
abbrev YX6_clear : MRec := (yX6_clear, cX6_clear, 1, none)
set_option maxRecDepth 100000 in
theorem miX6_clear : MI YX6_clear 0 6 := ⟨⟨(in_t2 195 rfl rfl), ini_X6, pl_X6, ⟨nh_X6.1, nh_X6.2, rfl⟩, by decide⟩, (in_t2 193 rfl rfl), (in_t2 194 rfl rfl), ⟨(RX6, TX6, 3), rfl, rfl⟩⟩
abbrev YX10_buildPalace : MRec := (yX10_buildPalace, cX10_buildPalace, 2, none)
set_option maxRecDepth 100000 in
theorem miX10_buildPalace : MI YX10_buildPalace 0 10 := ⟨⟨(in_t2 190 rfl rfl), ini_X10, pl_X10, ⟨nh_X10.1, nh_X10.2, rfl⟩, by decide⟩, (in_t2 189 rfl rfl), (in_s1 1 17 rfl rfl), ⟨(RX10, TX10, 17), rfl, rfl⟩⟩
abbrev YX10_palace : MRec := (yX10_palace, cX10_palace, 2, (some .int))
set_option maxRecDepth 100000 in
theorem miX10_palace : MI YX10_palace 0 10 := ⟨⟨(in_t2 178 rfl rfl), ini_X10, pl_X10, ⟨nh_X10.1, nh_X10.2, rfl⟩, by decide⟩, (in_t2 176 rfl rfl), (in_t2 177 rfl rfl), ⟨(RX10, TX10, 17), rfl, rfl⟩⟩
abbrev YX8_digitAt : MRec := (yX8_digitAt, cX8_digitAt, 3, (some .int))
set_option maxRecDepth 100000 in
theorem miX8_digitAt : MI YX8_digitAt 1 8 := ⟨⟨(in_t2 219 rfl rfl), ini_X8, pl_X8, ⟨nh_X8.1, nh_X8.2, rfl⟩, by decide⟩, (in_t2 217 rfl rfl), (in_t2 218 rfl rfl), ⟨(RX8, TX8, 3), rfl, rfl⟩⟩
abbrev YX4_readNumber : MRec := (yX4_readNumber, cX4_readNumber, 3, (some .int))
set_option maxRecDepth 100000 in
theorem miX4_readNumber : MI YX4_readNumber 0 4 := ⟨⟨(in_t2 215 rfl rfl), ini_X4, pl_X4, ⟨nh_X4.1, nh_X4.2, rfl⟩, by decide⟩, (in_t2 214 rfl rfl), (in_s1 4 3 rfl rfl), ⟨(RX4, TX4, 3), rfl, rfl⟩⟩
abbrev YX4_readComes : MRec := (yX4_readComes, cX4_readComes, 2, (some .boolean))
set_option maxRecDepth 100000 in
theorem miX4_readComes : MI YX4_readComes 1 4 := ⟨⟨(in_t2 211 rfl rfl), ini_X4, pl_X4, ⟨nh_X4.1, nh_X4.2, rfl⟩, by decide⟩, (in_t2 210 rfl rfl), (in_s1 3 3 rfl rfl), ⟨(RX4, TX4, 3), rfl, rfl⟩⟩
abbrev YX4_readTongue : MRec := (yX4_readTongue, cX4_readTongue, 3, (some .boolean))
set_option maxRecDepth 100000 in
theorem miX4_readTongue : MI YX4_readTongue 1 4 := ⟨⟨(in_t2 224 rfl rfl), ini_X4, pl_X4, ⟨nh_X4.1, nh_X4.2, rfl⟩, by decide⟩, (in_t2 223 rfl rfl), (in_s1 5 3 rfl rfl), ⟨(RX4, TX4, 3), rfl, rfl⟩⟩
abbrev YX4_readSize : MRec := (yX4_readSize, cX4_readSize, 3, (some .boolean))
set_option maxRecDepth 100000 in
theorem miX4_readSize : MI YX4_readSize 1 4 := ⟨⟨(in_t2 229 rfl rfl), ini_X4, pl_X4, ⟨nh_X4.1, nh_X4.2, rfl⟩, by decide⟩, (in_t2 228 rfl rfl), (in_s1 6 3 rfl rfl), ⟨(RX4, TX4, 3), rfl, rfl⟩⟩
abbrev YX4_readWay : MRec := (yX4_readWay, cX4_readWay, 3, (some .boolean))
set_option maxRecDepth 100000 in
theorem miX4_readWay : MI YX4_readWay 1 4 := ⟨⟨(in_t2 233 rfl rfl), ini_X4, pl_X4, ⟨nh_X4.1, nh_X4.2, rfl⟩, by decide⟩, (in_t2 232 rfl rfl), (in_s1 7 3 rfl rfl), ⟨(RX4, TX4, 3), rfl, rfl⟩⟩
abbrev YX4_readTold : MRec := (yX4_readTold, cX4_readTold, 4, (some .boolean))
set_option maxRecDepth 100000 in
theorem miX4_readTold : MI YX4_readTold 1 4 := ⟨⟨(in_t2 237 rfl rfl), ini_X4, pl_X4, ⟨nh_X4.1, nh_X4.2, rfl⟩, by decide⟩, (in_t2 236 rfl rfl), (in_s1 8 3 rfl rfl), ⟨(RX4, TX4, 3), rfl, rfl⟩⟩
abbrev YX4_readLine : MRec := (yX4_readLine, cX4_readLine, 2, (some .boolean))
set_option maxRecDepth 100000 in
theorem miX4_readLine : MI YX4_readLine 1 4 := ⟨⟨(in_t2 207 rfl rfl), ini_X4, pl_X4, ⟨nh_X4.1, nh_X4.2, rfl⟩, by decide⟩, (in_t2 206 rfl rfl), (in_s1 2 3 rfl rfl), ⟨(RX4, TX4, 3), rfl, rfl⟩⟩
abbrev YX4_read : MRec := (yX4_read, cX4_read, 3, (some .int))
set_option maxRecDepth 100000 in
theorem miX4_read : MI YX4_read 0 4 := ⟨⟨(in_t2 203 rfl rfl), ini_X4, pl_X4, ⟨nh_X4.1, nh_X4.2, rfl⟩, by decide⟩, (in_t2 201 rfl rfl), (in_t2 202 rfl rfl), ⟨(RX4, TX4, 3), rfl, rfl⟩⟩
abbrev YX3_look : MRec := (yX3_look, cX3_look, 1, (some .int))
set_option maxRecDepth 100000 in
theorem miX3_look : MI YX3_look 0 3 := ⟨⟨(in_t3 33 rfl rfl), ini_X3, pl_X3, ⟨nh_X3.1, nh_X3.2, rfl⟩, by decide⟩, (in_t3 32 rfl rfl), (in_s1 14 13 rfl rfl), ⟨(RX3, TX3, 13), rfl, rfl⟩⟩
abbrev YX3_readDigits : MRec := (yX3_readDigits, cX3_readDigits, 4, (some .int))
set_option maxRecDepth 100000 in
theorem miX3_readDigits : MI YX3_readDigits 0 3 := ⟨⟨(in_t3 41 rfl rfl), ini_X3, pl_X3, ⟨nh_X3.1, nh_X3.2, rfl⟩, by decide⟩, (in_t3 40 rfl rfl), (in_s2 0 13 rfl rfl), ⟨(RX3, TX3, 13), rfl, rfl⟩⟩
abbrev YX3_fail : MRec := (yX3_fail, cX3_fail, 1, none)
set_option maxRecDepth 100000 in
theorem miX3_fail : MI YX3_fail 0 3 := ⟨⟨(in_t3 45 rfl rfl), ini_X3, pl_X3, ⟨nh_X3.1, nh_X3.2, rfl⟩, by decide⟩, (in_t3 44 rfl rfl), (in_s2 1 13 rfl rfl), ⟨(RX3, TX3, 13), rfl, rfl⟩⟩
abbrev YX3_readLetter : MRec := (yX3_readLetter, cX3_readLetter, 3, (some .int))
set_option maxRecDepth 100000 in
theorem miX3_readLetter : MI YX3_readLetter 1 3 := ⟨⟨(in_t3 49 rfl rfl), ini_X3, pl_X3, ⟨nh_X3.1, nh_X3.2, rfl⟩, by decide⟩, (in_t3 48 rfl rfl), (in_s2 2 13 rfl rfl), ⟨(RX3, TX3, 13), rfl, rfl⟩⟩
abbrev YX3_readSigned : MRec := (yX3_readSigned, cX3_readSigned, 4, (some .int))
set_option maxRecDepth 100000 in
theorem miX3_readSigned : MI YX3_readSigned 1 3 := ⟨⟨(in_t3 29 rfl rfl), ini_X3, pl_X3, ⟨nh_X3.1, nh_X3.2, rfl⟩, by decide⟩, (in_t3 28 rfl rfl), (in_s1 13 13 rfl rfl), ⟨(RX3, TX3, 13), rfl, rfl⟩⟩
abbrev YX3_readProduct : MRec := (yX3_readProduct, cX3_readProduct, 6, (some .int))
set_option maxRecDepth 100000 in
theorem miX3_readProduct : MI YX3_readProduct 1 3 := ⟨⟨(in_t3 25 rfl rfl), ini_X3, pl_X3, ⟨nh_X3.1, nh_X3.2, rfl⟩, by decide⟩, (in_t3 24 rfl rfl), (in_s1 12 13 rfl rfl), ⟨(RX3, TX3, 13), rfl, rfl⟩⟩
abbrev YX3_readSum : MRec := (yX3_readSum, cX3_readSum, 6, (some .int))
set_option maxRecDepth 100000 in
theorem miX3_readSum : MI YX3_readSum 1 3 := ⟨⟨(in_t3 21 rfl rfl), ini_X3, pl_X3, ⟨nh_X3.1, nh_X3.2, rfl⟩, by decide⟩, (in_t3 20 rfl rfl), (in_s1 11 13 rfl rfl), ⟨(RX3, TX3, 13), rfl, rfl⟩⟩
abbrev YX3_readExpression : MRec := (yX3_readExpression, cX3_readExpression, 6, (some .int))
set_option maxRecDepth 100000 in
theorem miX3_readExpression : MI YX3_readExpression 1 3 := ⟨⟨(in_t3 17 rfl rfl), ini_X3, pl_X3, ⟨nh_X3.1, nh_X3.2, rfl⟩, by decide⟩, (in_t3 16 rfl rfl), (in_s1 10 13 rfl rfl), ⟨(RX3, TX3, 13), rfl, rfl⟩⟩
abbrev YX3_readThing : MRec := (yX3_readThing, cX3_readThing, 4, (some .int))
set_option maxRecDepth 100000 in
theorem miX3_readThing : MI YX3_readThing 1 3 := ⟨⟨(in_t3 37 rfl rfl), ini_X3, pl_X3, ⟨nh_X3.1, nh_X3.2, rfl⟩, by decide⟩, (in_t3 36 rfl rfl), (in_s1 15 13 rfl rfl), ⟨(RX3, TX3, 13), rfl, rfl⟩⟩
abbrev YX3_readAll : MRec := (yX3_readAll, cX3_readAll, 2, (some .int))
set_option maxRecDepth 100000 in
theorem miX3_readAll : MI YX3_readAll 0 3 := ⟨⟨(in_t3 13 rfl rfl), ini_X3, pl_X3, ⟨nh_X3.1, nh_X3.2, rfl⟩, by decide⟩, (in_t3 12 rfl rfl), (in_s1 9 13 rfl rfl), ⟨(RX3, TX3, 13), rfl, rfl⟩⟩
abbrev YX3_valueOf : MRec := (yX3_valueOf, cX3_valueOf, 4, (some .int))
set_option maxRecDepth 100000 in
theorem miX3_valueOf : MI YX3_valueOf 3 3 := ⟨⟨(in_t3 5 rfl rfl), ini_X3, pl_X3, ⟨nh_X3.1, nh_X3.2, rfl⟩, by decide⟩, (in_t3 3 rfl rfl), (in_t3 4 rfl rfl), ⟨(RX3, TX3, 13), rfl, rfl⟩⟩
abbrev YX1_reckon : MRec := (yX1_reckon, cX1_reckon, 5, none)
set_option maxRecDepth 100000 in
theorem miX1_reckon : MI YX1_reckon 0 1 := ⟨⟨(in_t3 1 rfl rfl), ini_X1, pl_X1, ⟨nh_X1.1, nh_X1.2, rfl⟩, by decide⟩, (in_t2 239 rfl rfl), (in_t3 0 rfl rfl), ⟨(RX1, TX1, 11), rfl, rfl⟩⟩
abbrev YX10_groups : MRec := (yX10_groups, cX10_groups, 2, (some .int))
set_option maxRecDepth 100000 in
theorem miX10_groups : MI YX10_groups 0 10 := ⟨⟨(in_t2 199 rfl rfl), ini_X10, pl_X10, ⟨nh_X10.1, nh_X10.2, rfl⟩, by decide⟩, (in_t2 197 rfl rfl), (in_t2 198 rfl rfl), ⟨(RX10, TX10, 17), rfl, rfl⟩⟩
abbrev YX3_faultOf : MRec := (yX3_faultOf, cX3_faultOf, 2, (some .int))
set_option maxRecDepth 100000 in
theorem miX3_faultOf : MI YX3_faultOf 1 3 := ⟨⟨(in_t3 63 rfl rfl), ini_X3, pl_X3, ⟨nh_X3.1, nh_X3.2, rfl⟩, by decide⟩, (in_t3 61 rfl rfl), (in_t3 62 rfl rfl), ⟨(RX3, TX3, 13), rfl, rfl⟩⟩
abbrev YX3_take : MRec := (yX3_take, cX3_take, 2, none)
set_option maxRecDepth 100000 in
theorem miX3_take : MI YX3_take 1 3 := ⟨⟨(in_t3 68 rfl rfl), ini_X3, pl_X3, ⟨nh_X3.1, nh_X3.2, rfl⟩, by decide⟩, (in_t3 66 rfl rfl), (in_t3 67 rfl rfl), ⟨(RX3, TX3, 13), rfl, rfl⟩⟩
abbrev YX10_rule : MRec := (yX10_rule, cX10_rule, 2, (some .int))
set_option maxRecDepth 100000 in
theorem miX10_rule : MI YX10_rule 0 10 := ⟨⟨(in_t3 59 rfl rfl), ini_X10, pl_X10, ⟨nh_X10.1, nh_X10.2, rfl⟩, by decide⟩, (in_t3 57 rfl rfl), (in_t3 58 rfl rfl), ⟨(RX10, TX10, 17), rfl, rfl⟩⟩
abbrev YX10_stay : MRec := (yX10_stay, cX10_stay, 3, (some .int))
set_option maxRecDepth 100000 in
theorem miX10_stay : MI YX10_stay 2 10 := ⟨⟨(in_t3 75 rfl rfl), ini_X10, pl_X10, ⟨nh_X10.1, nh_X10.2, rfl⟩, by decide⟩, (in_t3 73 rfl rfl), (in_t3 74 rfl rfl), ⟨(RX10, TX10, 17), rfl, rfl⟩⟩
abbrev YX10_leave : MRec := (yX10_leave, cX10_leave, 4, (some .int))
set_option maxRecDepth 100000 in
theorem miX10_leave : MI YX10_leave 2 10 := ⟨⟨(in_t3 87 rfl rfl), ini_X10, pl_X10, ⟨nh_X10.1, nh_X10.2, rfl⟩, by decide⟩, (in_t3 85 rfl rfl), (in_t3 86 rfl rfl), ⟨(RX10, TX10, 17), rfl, rfl⟩⟩
abbrev YX10_entryOf : MRec := (yX10_entryOf, cX10_entryOf, 3, (some .int))
set_option maxRecDepth 100000 in
theorem msX10_entryOf : MS YX10_entryOf 2 := ⟨⟨(in_t3 94 rfl rfl), ini_X10, pl_X10, ⟨nh_X10.1, nh_X10.2, rfl⟩, by decide⟩, (in_t3 93 rfl rfl)⟩
abbrev YX10_sheet : MRec := (yX10_sheet, cX10_sheet, 10, (some .int))
set_option maxRecDepth 100000 in
theorem miX10_sheet : MI YX10_sheet 5 10 := ⟨⟨(in_t3 91 rfl rfl), ini_X10, pl_X10, ⟨nh_X10.1, nh_X10.2, rfl⟩, by decide⟩, (in_t3 89 rfl rfl), (in_t3 90 rfl rfl), ⟨(RX10, TX10, 17), rfl, rfl⟩⟩
abbrev YX1_onWay : MRec := (yX1_onWay, cX1_onWay, 3, (some .int))
set_option maxRecDepth 100000 in
theorem miX1_onWay : MI YX1_onWay 2 1 := ⟨⟨(in_t3 108 rfl rfl), ini_X1, pl_X1, ⟨nh_X1.1, nh_X1.2, rfl⟩, by decide⟩, (in_t3 107 rfl rfl), (in_s2 3 11 rfl rfl), ⟨(RX1, TX1, 11), rfl, rfl⟩⟩
abbrev YX1_barTo : MRec := (yX1_barTo, cX1_barTo, 3, (some .int))
set_option maxRecDepth 100000 in
theorem miX1_barTo : MI YX1_barTo 2 1 := ⟨⟨(in_t3 104 rfl rfl), ini_X1, pl_X1, ⟨nh_X1.1, nh_X1.2, rfl⟩, by decide⟩, (in_t3 102 rfl rfl), (in_t3 103 rfl rfl), ⟨(RX1, TX1, 11), rfl, rfl⟩⟩
abbrev YX7_copy : MRec := (yX7_copy, cX7_copy, 2, none)
set_option maxRecDepth 100000 in
theorem miX7_copy : MI YX7_copy 1 7 := ⟨⟨(in_t3 116 rfl rfl), ini_X7, pl_X7, ⟨nh_X7.1, nh_X7.2, rfl⟩, by decide⟩, (in_t3 114 rfl rfl), (in_t3 115 rfl rfl), ⟨(RX7, TX7, 8), rfl, rfl⟩⟩
abbrev YX6_add : MRec := (yX6_add, cX6_add, 2, none)
set_option maxRecDepth 100000 in
theorem miX6_add : MI YX6_add 1 6 := ⟨⟨(in_t3 112 rfl rfl), ini_X6, pl_X6, ⟨nh_X6.1, nh_X6.2, rfl⟩, by decide⟩, (in_t3 110 rfl rfl), (in_t3 111 rfl rfl), ⟨(RX6, TX6, 3), rfl, rfl⟩⟩
abbrev YX1_move : MRec := (yX1_move, cX1_move, 5, none)
set_option maxRecDepth 100000 in
theorem miX1_move : MI YX1_move 3 1 := ⟨⟨(in_t3 126 rfl rfl), ini_X1, pl_X1, ⟨nh_X1.1, nh_X1.2, rfl⟩, by decide⟩, (in_t3 125 rfl rfl), (in_s2 4 11 rfl rfl), ⟨(RX1, TX1, 11), rfl, rfl⟩⟩
abbrev YX1_setOff : MRec := (yX1_setOff, cX1_setOff, 3, none)
set_option maxRecDepth 100000 in
theorem miX1_setOff : MI YX1_setOff 2 1 := ⟨⟨(in_t3 122 rfl rfl), ini_X1, pl_X1, ⟨nh_X1.1, nh_X1.2, rfl⟩, by decide⟩, (in_t3 120 rfl rfl), (in_t3 121 rfl rfl), ⟨(RX1, TX1, 11), rfl, rfl⟩⟩
abbrev YX7_bitsInside : MRec := (yX7_bitsInside, cX7_bitsInside, 3, (some .int))
set_option maxRecDepth 100000 in
theorem miX7_bitsInside : MI YX7_bitsInside 0 7 := ⟨⟨(in_t3 130 rfl rfl), ini_X7, pl_X7, ⟨nh_X7.1, nh_X7.2, rfl⟩, by decide⟩, (in_t3 128 rfl rfl), (in_t3 129 rfl rfl), ⟨(RX7, TX7, 8), rfl, rfl⟩⟩
abbrev YJ6_bitCount_0f7a4 : MRec := (yJ6_bitCount_0f7a4, cJ6_bitCount_0f7a4, 1, (some .int))
set_option maxRecDepth 100000 in
theorem msJ6_bitCount_0f7a4 : MS YJ6_bitCount_0f7a4 1 := ⟨⟨(in_t3 133 rfl rfl), ini_J6, pl_J6, ⟨nh_J6.1, nh_J6.2, rfl⟩, by decide⟩, (in_t3 132 rfl rfl)⟩
abbrev YX10_off : MRec := (yX10_off, cX10_off, 3, (some .int))
set_option maxRecDepth 100000 in
theorem miX10_off : MI YX10_off 1 10 := ⟨⟨(in_t3 100 rfl rfl), ini_X10, pl_X10, ⟨nh_X10.1, nh_X10.2, rfl⟩, by decide⟩, (in_t3 98 rfl rfl), (in_t3 99 rfl rfl), ⟨(RX10, TX10, 17), rfl, rfl⟩⟩
abbrev YX10_isInside : MRec := (yX10_isInside, cX10_isInside, 2, (some .boolean))
set_option maxRecDepth 100000 in
theorem miX10_isInside : MI YX10_isInside 1 10 := ⟨⟨(in_t3 144 rfl rfl), ini_X10, pl_X10, ⟨nh_X10.1, nh_X10.2, rfl⟩, by decide⟩, (in_t3 143 rfl rfl), (in_s2 5 17 rfl rfl), ⟨(RX10, TX10, 17), rfl, rfl⟩⟩
abbrev YX7_runOver : MRec := (yX7_runOver, cX7_runOver, 3, none)
set_option maxRecDepth 100000 in
theorem miX7_runOver : MI YX7_runOver 2 7 := ⟨⟨(in_t3 151 rfl rfl), ini_X7, pl_X7, ⟨nh_X7.1, nh_X7.2, rfl⟩, by decide⟩, (in_t3 149 rfl rfl), (in_t3 150 rfl rfl), ⟨(RX7, TX7, 8), rfl, rfl⟩⟩
abbrev YX10_over : MRec := (yX10_over, cX10_over, 3, (some .int))
set_option maxRecDepth 100000 in
theorem miX10_over : MI YX10_over 2 10 := ⟨⟨(in_t3 140 rfl rfl), ini_X10, pl_X10, ⟨nh_X10.1, nh_X10.2, rfl⟩, by decide⟩, (in_t3 138 rfl rfl), (in_t3 139 rfl rfl), ⟨(RX10, TX10, 17), rfl, rfl⟩⟩
abbrev YX10_stand : MRec := (yX10_stand, cX10_stand, 2, (some .int))
set_option maxRecDepth 100000 in
theorem miX10_stand : MI YX10_stand 1 10 := ⟨⟨(in_t3 156 rfl rfl), ini_X10, pl_X10, ⟨nh_X10.1, nh_X10.2, rfl⟩, by decide⟩, (in_t3 154 rfl rfl), (in_t3 155 rfl rfl), ⟨(RX10, TX10, 17), rfl, rfl⟩⟩
abbrev YX7_bitsThrough : MRec := (yX7_bitsThrough, cX7_bitsThrough, 1, (some .int))
set_option maxRecDepth 100000 in
theorem miX7_bitsThrough : MI YX7_bitsThrough 0 7 := ⟨⟨(in_t3 164 rfl rfl), ini_X7, pl_X7, ⟨nh_X7.1, nh_X7.2, rfl⟩, by decide⟩, (in_t3 162 rfl rfl), (in_t3 163 rfl rfl), ⟨(RX7, TX7, 8), rfl, rfl⟩⟩
abbrev YX1_firstThatCan : MRec := (yX1_firstThatCan, cX1_firstThatCan, 4, (some .int))
set_option maxRecDepth 100000 in
theorem miX1_firstThatCan : MI YX1_firstThatCan 1 1 := ⟨⟨(in_t3 176 rfl rfl), ini_X1, pl_X1, ⟨nh_X1.1, nh_X1.2, rfl⟩, by decide⟩, (in_t3 175 rfl rfl), (in_s2 6 11 rfl rfl), ⟨(RX1, TX1, 11), rfl, rfl⟩⟩
abbrev YX1_pass : MRec := (yX1_pass, cX1_pass, 4, none)
set_option maxRecDepth 100000 in
theorem miX1_pass : MI YX1_pass 1 1 := ⟨⟨(in_t3 172 rfl rfl), ini_X1, pl_X1, ⟨nh_X1.1, nh_X1.2, rfl⟩, by decide⟩, (in_t3 170 rfl rfl), (in_t3 171 rfl rfl), ⟨(RX1, TX1, 11), rfl, rfl⟩⟩
abbrev YX10_clearRow : MRec := (yX10_clearRow, cX10_clearRow, 1, none)
set_option maxRecDepth 100000 in
theorem miX10_clearRow : MI YX10_clearRow 0 10 := ⟨⟨(in_t3 180 rfl rfl), ini_X10, pl_X10, ⟨nh_X10.1, nh_X10.2, rfl⟩, by decide⟩, (in_t3 179 rfl rfl), (in_s2 7 17 rfl rfl), ⟨(RX10, TX10, 17), rfl, rfl⟩⟩
abbrev YX10_tell : MRec := (yX10_tell, cX10_tell, 2, none)
set_option maxRecDepth 100000 in
theorem miX10_tell : MI YX10_tell 1 10 := ⟨⟨(in_t3 184 rfl rfl), ini_X10, pl_X10, ⟨nh_X10.1, nh_X10.2, rfl⟩, by decide⟩, (in_t3 183 rfl rfl), (in_s2 8 17 rfl rfl), ⟨(RX10, TX10, 17), rfl, rfl⟩⟩
abbrev YX10_minute : MRec := (yX10_minute, cX10_minute, 2, (some .int))
set_option maxRecDepth 100000 in
theorem miX10_minute : MI YX10_minute 0 10 := ⟨⟨(in_t3 160 rfl rfl), ini_X10, pl_X10, ⟨nh_X10.1, nh_X10.2, rfl⟩, by decide⟩, (in_t3 158 rfl rfl), (in_t3 159 rfl rfl), ⟨(RX10, TX10, 17), rfl, rfl⟩⟩
abbrev YX7_waitedBy : MRec := (yX7_waitedBy, cX7_waitedBy, 4, (some .int))
set_option maxRecDepth 100000 in
theorem miX7_waitedBy : MI YX7_waitedBy 1 7 := ⟨⟨(in_t3 196 rfl rfl), ini_X7, pl_X7, ⟨nh_X7.1, nh_X7.2, rfl⟩, by decide⟩, (in_t3 194 rfl rfl), (in_t3 195 rfl rfl), ⟨(RX7, TX7, 8), rfl, rfl⟩⟩
abbrev YX1_quietMinutes : MRec := (yX1_quietMinutes, cX1_quietMinutes, 5, (some .int))
set_option maxRecDepth 100000 in
theorem miX1_quietMinutes : MI YX1_quietMinutes 2 1 := ⟨⟨(in_t3 209 rfl rfl), ini_X1, pl_X1, ⟨nh_X1.1, nh_X1.2, rfl⟩, by decide⟩, (in_t3 208 rfl rfl), (in_s2 9 11 rfl rfl), ⟨(RX1, TX1, 11), rfl, rfl⟩⟩
abbrev YX1_advance : MRec := (yX1_advance, cX1_advance, 5, none)
set_option maxRecDepth 100000 in
theorem miX1_advance : MI YX1_advance 2 1 := ⟨⟨(in_t3 205 rfl rfl), ini_X1, pl_X1, ⟨nh_X1.1, nh_X1.2, rfl⟩, by decide⟩, (in_t3 203 rfl rfl), (in_t3 204 rfl rfl), ⟨(RX1, TX1, 11), rfl, rfl⟩⟩
abbrev YX1_goOn : MRec := (yX1_goOn, cX1_goOn, 5, none)
set_option maxRecDepth 100000 in
theorem miX1_goOn : MI YX1_goOn 2 1 := ⟨⟨(in_t3 201 rfl rfl), ini_X1, pl_X1, ⟨nh_X1.1, nh_X1.2, rfl⟩, by decide⟩, (in_t3 199 rfl rfl), (in_t3 200 rfl rfl), ⟨(RX1, TX1, 11), rfl, rfl⟩⟩
abbrev YX10_minutes : MRec := (yX10_minutes, cX10_minutes, 4, (some .int))
set_option maxRecDepth 100000 in
theorem miX10_minutes : MI YX10_minutes 1 10 := ⟨⟨(in_t3 188 rfl rfl), ini_X10, pl_X10, ⟨nh_X10.1, nh_X10.2, rfl⟩, by decide⟩, (in_t3 186 rfl rfl), (in_t3 187 rfl rfl), ⟨(RX10, TX10, 17), rfl, rfl⟩⟩
abbrev YX8_letterAt : MRec := (yX8_letterAt, cX8_letterAt, 3, (some .int))
set_option maxRecDepth 100000 in
theorem miX8_letterAt : MI YX8_letterAt 1 8 := ⟨⟨(in_t3 227 rfl rfl), ini_X8, pl_X8, ⟨nh_X8.1, nh_X8.2, rfl⟩, by decide⟩, (in_t3 225 rfl rfl), (in_t3 226 rfl rfl), ⟨(RX8, TX8, 3), rfl, rfl⟩⟩
abbrev YX10_behindAct : MRec := (yX10_behindAct, cX10_behindAct, 2, (some .int))
set_option maxRecDepth 100000 in
theorem miX10_behindAct : MI YX10_behindAct 1 10 := ⟨⟨(in_t3 222 rfl rfl), ini_X10, pl_X10, ⟨nh_X10.1, nh_X10.2, rfl⟩, by decide⟩, (in_t3 221 rfl rfl), (in_s2 11 17 rfl rfl), ⟨(RX10, TX10, 17), rfl, rfl⟩⟩
abbrev YX10_faultOfDay : MRec := (yX10_faultOfDay, cX10_faultOfDay, 4, (some .int))
set_option maxRecDepth 100000 in
theorem miX10_faultOfDay : MI YX10_faultOfDay 0 10 := ⟨⟨(in_t3 218 rfl rfl), ini_X10, pl_X10, ⟨nh_X10.1, nh_X10.2, rfl⟩, by decide⟩, (in_t3 217 rfl rfl), (in_s2 10 17 rfl rfl), ⟨(RX10, TX10, 17), rfl, rfl⟩⟩
abbrev YX10_actsTold : MRec := (yX10_actsTold, cX10_actsTold, 3, (some .int))
set_option maxRecDepth 100000 in
theorem miX10_actsTold : MI YX10_actsTold 0 10 := ⟨⟨(in_t3 232 rfl rfl), ini_X10, pl_X10, ⟨nh_X10.1, nh_X10.2, rfl⟩, by decide⟩, (in_t3 231 rfl rfl), (in_s2 12 17 rfl rfl), ⟨(RX10, TX10, 17), rfl, rfl⟩⟩
abbrev YX10_doAct : MRec := (yX10_doAct, cX10_doAct, 6, (some .boolean))
set_option maxRecDepth 100000 in
theorem miX10_doAct : MI YX10_doAct 1 10 := ⟨⟨(in_t4 0 rfl rfl), ini_X10, pl_X10, ⟨nh_X10.1, nh_X10.2, rfl⟩, by decide⟩, (in_t3 239 rfl rfl), (in_s2 14 17 rfl rfl), ⟨(RX10, TX10, 17), rfl, rfl⟩⟩
abbrev YX10_doActs : MRec := (yX10_doActs, cX10_doActs, 4, (some .int))
set_option maxRecDepth 100000 in
theorem miX10_doActs : MI YX10_doActs 1 10 := ⟨⟨(in_t3 236 rfl rfl), ini_X10, pl_X10, ⟨nh_X10.1, nh_X10.2, rfl⟩, by decide⟩, (in_t3 235 rfl rfl), (in_s2 13 17 rfl rfl), ⟨(RX10, TX10, 17), rfl, rfl⟩⟩
abbrev YX10_day : MRec := (yX10_day, cX10_day, 4, (some .int))
set_option maxRecDepth 100000 in
theorem miX10_day : MI YX10_day 0 10 := ⟨⟨(in_t3 214 rfl rfl), ini_X10, pl_X10, ⟨nh_X10.1, nh_X10.2, rfl⟩, by decide⟩, (in_t3 212 rfl rfl), (in_t3 213 rfl rfl), ⟨(RX10, TX10, 17), rfl, rfl⟩⟩
abbrev YX6_takeBack : MRec := (yX6_takeBack, cX6_takeBack, 2, none)
set_option maxRecDepth 100000 in
theorem miX6_takeBack : MI YX6_takeBack 1 6 := ⟨⟨(in_t4 8 rfl rfl), ini_X6, pl_X6, ⟨nh_X6.1, nh_X6.2, rfl⟩, by decide⟩, (in_t4 6 rfl rfl), (in_t4 7 rfl rfl), ⟨(RX6, TX6, 3), rfl, rfl⟩⟩
abbrev YX10_undo : MRec := (yX10_undo, cX10_undo, 1, (some .int))
set_option maxRecDepth 100000 in
theorem miX10_undo : MI YX10_undo 0 10 := ⟨⟨(in_t4 4 rfl rfl), ini_X10, pl_X10, ⟨nh_X10.1, nh_X10.2, rfl⟩, by decide⟩, (in_t4 2 rfl rfl), (in_t4 3 rfl rfl), ⟨(RX10, TX10, 17), rfl, rfl⟩⟩
abbrev YX10_where : MRec := (yX10_where, cX10_where, 3, (some .int))
set_option maxRecDepth 100000 in
theorem miX10_where : MI YX10_where 2 10 := ⟨⟨(in_t4 12 rfl rfl), ini_X10, pl_X10, ⟨nh_X10.1, nh_X10.2, rfl⟩, by decide⟩, (in_t4 10 rfl rfl), (in_t4 11 rfl rfl), ⟨(RX10, TX10, 17), rfl, rfl⟩⟩
abbrev YX7_lastThrough : MRec := (yX7_lastThrough, cX7_lastThrough, 4, (some .int))
set_option maxRecDepth 100000 in
theorem miX7_lastThrough : MI YX7_lastThrough 1 7 := ⟨⟨(in_t4 20 rfl rfl), ini_X7, pl_X7, ⟨nh_X7.1, nh_X7.2, rfl⟩, by decide⟩, (in_t4 18 rfl rfl), (in_t4 19 rfl rfl), ⟨(RX7, TX7, 8), rfl, rfl⟩⟩
abbrev YX10_stuck : MRec := (yX10_stuck, cX10_stuck, 3, (some .int))
set_option maxRecDepth 100000 in
theorem miX10_stuck : MI YX10_stuck 0 10 := ⟨⟨(in_t4 16 rfl rfl), ini_X10, pl_X10, ⟨nh_X10.1, nh_X10.2, rfl⟩, by decide⟩, (in_t4 14 rfl rfl), (in_t4 15 rfl rfl), ⟨(RX10, TX10, 17), rfl, rfl⟩⟩
abbrev YX10_faultOfOrder : MRec := (yX10_faultOfOrder, cX10_faultOfOrder, 4, (some .int))
set_option maxRecDepth 100000 in
theorem miX10_faultOfOrder : MI YX10_faultOfOrder 0 10 := ⟨⟨(in_t4 29 rfl rfl), ini_X10, pl_X10, ⟨nh_X10.1, nh_X10.2, rfl⟩, by decide⟩, (in_t4 28 rfl rfl), (in_s2 15 17 rfl rfl), ⟨(RX10, TX10, 17), rfl, rfl⟩⟩
abbrev YX5_take : MRec := (yX5_take, cX5_take, 3, none)
set_option maxRecDepth 100000 in
theorem miX5_take : MI YX5_take 1 5 := ⟨⟨(in_t4 33 rfl rfl), ini_X5, pl_X5, ⟨nh_X5.1, nh_X5.2, rfl⟩, by decide⟩, (in_t4 31 rfl rfl), (in_t4 32 rfl rfl), ⟨(RX5, TX5, 2), rfl, rfl⟩⟩
abbrev YX5_bits : MRec := (yX5_bits, cX5_bits, 3, (some .int))
set_option maxRecDepth 100000 in
theorem miX5_bits : MI YX5_bits 0 5 := ⟨⟨(in_t4 40 rfl rfl), ini_X5, pl_X5, ⟨nh_X5.1, nh_X5.2, rfl⟩, by decide⟩, (in_t4 38 rfl rfl), (in_t4 39 rfl rfl), ⟨(RX5, TX5, 2), rfl, rfl⟩⟩
abbrev YX10_areThere : MRec := (yX10_areThere, cX10_areThere, 2, (some .boolean))
set_option maxRecDepth 100000 in
theorem miX10_areThere : MI YX10_areThere 1 10 := ⟨⟨(in_t4 48 rfl rfl), ini_X10, pl_X10, ⟨nh_X10.1, nh_X10.2, rfl⟩, by decide⟩, (in_t4 47 rfl rfl), (in_s3 1 17 rfl rfl), ⟨(RX10, TX10, 17), rfl, rfl⟩⟩
abbrev YX10_areOutside : MRec := (yX10_areOutside, cX10_areOutside, 3, (some .boolean))
set_option maxRecDepth 100000 in
theorem miX10_areOutside : MI YX10_areOutside 1 10 := ⟨⟨(in_t4 44 rfl rfl), ini_X10, pl_X10, ⟨nh_X10.1, nh_X10.2, rfl⟩, by decide⟩, (in_t4 43 rfl rfl), (in_s3 0 17 rfl rfl), ⟨(RX10, TX10, 17), rfl, rfl⟩⟩
abbrev YX9_begin : MRec := (yX9_begin, cX9_begin, 3, none)
set_option maxRecDepth 100000 in
theorem miX9_begin : MI YX9_begin 2 9 := ⟨⟨(in_t4 52 rfl rfl), ini_X9, pl_X9, ⟨nh_X9.1, nh_X9.2, rfl⟩, by decide⟩, (in_t4 50 rfl rfl), (in_t4 51 rfl rfl), ⟨(RX9, TX9, 7), rfl, rfl⟩⟩
abbrev YX1_wholeStay : MRec := (yX1_wholeStay, cX1_wholeStay, 4, (some .int))
set_option maxRecDepth 100000 in
theorem miX1_wholeStay : MI YX1_wholeStay 1 1 := ⟨⟨(in_t4 66 rfl rfl), ini_X1, pl_X1, ⟨nh_X1.1, nh_X1.2, rfl⟩, by decide⟩, (in_t4 64 rfl rfl), (in_t4 65 rfl rfl), ⟨(RX1, TX1, 11), rfl, rfl⟩⟩
abbrev YX0_nextBehind : MRec := (yX0_nextBehind, cX0_nextBehind, 4, (some .int))
set_option maxRecDepth 100000 in
theorem miX0_nextBehind : MI YX0_nextBehind 1 0 := ⟨⟨(in_t4 78 rfl rfl), ini_X0, pl_X0, ⟨nh_X0.1, nh_X0.2, rfl⟩, by decide⟩, (in_t4 76 rfl rfl), (in_t4 77 rfl rfl), ⟨(RX0, TX0, 4), rfl, rfl⟩⟩
abbrev YX0_sounds : MRec := (yX0_sounds, cX0_sounds, 4, (some .boolean))
set_option maxRecDepth 100000 in
theorem msX0_sounds : MS YX0_sounds 3 := ⟨⟨(in_t4 87 rfl rfl), ini_X0, pl_X0, ⟨nh_X0.1, nh_X0.2, rfl⟩, by decide⟩, (in_t4 86 rfl rfl)⟩
abbrev YX0_isSo : MRec := (yX0_isSo, cX0_isSo, 5, (some .boolean))
set_option maxRecDepth 100000 in
theorem miX0_isSo : MI YX0_isSo 3 0 := ⟨⟨(in_t4 83 rfl rfl), ini_X0, pl_X0, ⟨nh_X0.1, nh_X0.2, rfl⟩, by decide⟩, (in_t4 81 rfl rfl), (in_t4 82 rfl rfl), ⟨(RX0, TX0, 4), rfl, rfl⟩⟩
abbrev YX9_goBy : MRec := (yX9_goBy, cX9_goBy, 4, (some .boolean))
set_option maxRecDepth 100000 in
theorem miX9_goBy : MI YX9_goBy 2 9 := ⟨⟨(in_t4 73 rfl rfl), ini_X9, pl_X9, ⟨nh_X9.1, nh_X9.2, rfl⟩, by decide⟩, (in_t4 72 rfl rfl), (in_s3 3 7 rfl rfl), ⟨(RX9, TX9, 7), rfl, rfl⟩⟩
abbrev YX9_sendOff : MRec := (yX9_sendOff, cX9_sendOff, 7, (some .boolean))
set_option maxRecDepth 100000 in
theorem miX9_sendOff : MI YX9_sendOff 3 9 := ⟨⟨(in_t4 62 rfl rfl), ini_X9, pl_X9, ⟨nh_X9.1, nh_X9.2, rfl⟩, by decide⟩, (in_t4 61 rfl rfl), (in_s3 2 7 rfl rfl), ⟨(RX9, TX9, 7), rfl, rfl⟩⟩
abbrev YX9_leadThrough : MRec := (yX9_leadThrough, cX9_leadThrough, 4, (some .boolean))
set_option maxRecDepth 100000 in
theorem miX9_leadThrough : MI YX9_leadThrough 2 9 := ⟨⟨(in_t4 93 rfl rfl), ini_X9, pl_X9, ⟨nh_X9.1, nh_X9.2, rfl⟩, by decide⟩, (in_t4 92 rfl rfl), (in_s3 4 7 rfl rfl), ⟨(RX9, TX9, 7), rfl, rfl⟩⟩
abbrev YX9_walk : MRec := (yX9_walk, cX9_walk, 6, (some .boolean))
set_option maxRecDepth 100000 in
theorem miX9_walk : MI YX9_walk 3 9 := ⟨⟨(in_t4 57 rfl rfl), ini_X9, pl_X9, ⟨nh_X9.1, nh_X9.2, rfl⟩, by decide⟩, (in_t4 55 rfl rfl), (in_t4 56 rfl rfl), ⟨(RX9, TX9, 7), rfl, rfl⟩⟩
abbrev YX9_minutesGone : MRec := (yX9_minutesGone, cX9_minutesGone, 1, (some .int))
set_option maxRecDepth 100000 in
theorem miX9_minutesGone : MI YX9_minutesGone 0 9 := ⟨⟨(in_t4 98 rfl rfl), ini_X9, pl_X9, ⟨nh_X9.1, nh_X9.2, rfl⟩, by decide⟩, (in_t4 96 rfl rfl), (in_t4 97 rfl rfl), ⟨(RX9, TX9, 7), rfl, rfl⟩⟩
abbrev YX10_order : MRec := (yX10_order, cX10_order, 4, (some .int))
set_option maxRecDepth 100000 in
theorem miX10_order : MI YX10_order 0 10 := ⟨⟨(in_t4 25 rfl rfl), ini_X10, pl_X10, ⟨nh_X10.1, nh_X10.2, rfl⟩, by decide⟩, (in_t4 23 rfl rfl), (in_t4 24 rfl rfl), ⟨(RX10, TX10, 17), rfl, rfl⟩⟩
abbrev YX5_begin : MRec := (yX5_begin, cX5_begin, 3, none)
set_option maxRecDepth 100000 in
theorem miX5_begin : MI YX5_begin 1 5 := ⟨⟨(in_t4 114 rfl rfl), ini_X5, pl_X5, ⟨nh_X5.1, nh_X5.2, rfl⟩, by decide⟩, (in_t4 112 rfl rfl), (in_t4 113 rfl rfl), ⟨(RX5, TX5, 2), rfl, rfl⟩⟩
abbrev YX10_beginOrders : MRec := (yX10_beginOrders, cX10_beginOrders, 3, (some .int))
set_option maxRecDepth 100000 in
theorem miX10_beginOrders : MI YX10_beginOrders 2 10 := ⟨⟨(in_t4 110 rfl rfl), ini_X10, pl_X10, ⟨nh_X10.1, nh_X10.2, rfl⟩, by decide⟩, (in_t4 109 rfl rfl), (in_s3 6 17 rfl rfl), ⟨(RX10, TX10, 17), rfl, rfl⟩⟩
abbrev YX5_copy : MRec := (yX5_copy, cX5_copy, 2, none)
set_option maxRecDepth 100000 in
theorem miX5_copy : MI YX5_copy 1 5 := ⟨⟨(in_t4 119 rfl rfl), ini_X5, pl_X5, ⟨nh_X5.1, nh_X5.2, rfl⟩, by decide⟩, (in_t4 117 rfl rfl), (in_t4 118 rfl rfl), ⟨(RX5, TX5, 2), rfl, rfl⟩⟩
abbrev YX5_swap : MRec := (yX5_swap, cX5_swap, 4, none)
set_option maxRecDepth 100000 in
theorem miX5_swap : MI YX5_swap 2 5 := ⟨⟨(in_t4 128 rfl rfl), ini_X5, pl_X5, ⟨nh_X5.1, nh_X5.2, rfl⟩, by decide⟩, (in_t4 127 rfl rfl), (in_s3 7 2 rfl rfl), ⟨(RX5, TX5, 2), rfl, rfl⟩⟩
abbrev YX5_turnToNext : MRec := (yX5_turnToNext, cX5_turnToNext, 5, (some .int))
set_option maxRecDepth 100000 in
theorem miX5_turnToNext : MI YX5_turnToNext 0 5 := ⟨⟨(in_t4 124 rfl rfl), ini_X5, pl_X5, ⟨nh_X5.1, nh_X5.2, rfl⟩, by decide⟩, (in_t4 122 rfl rfl), (in_t4 123 rfl rfl), ⟨(RX5, TX5, 2), rfl, rfl⟩⟩
abbrev YX10_findSoonest : MRec := (yX10_findSoonest, cX10_findSoonest, 9, (some .int))
set_option maxRecDepth 100000 in
theorem miX10_findSoonest : MI YX10_findSoonest 2 10 := ⟨⟨(in_t4 106 rfl rfl), ini_X10, pl_X10, ⟨nh_X10.1, nh_X10.2, rfl⟩, by decide⟩, (in_t4 105 rfl rfl), (in_s3 5 17 rfl rfl), ⟨(RX10, TX10, 17), rfl, rfl⟩⟩
abbrev YX10_tellFound : MRec := (yX10_tellFound, cX10_tellFound, 2, none)
set_option maxRecDepth 100000 in
theorem miX10_tellFound : MI YX10_tellFound 0 10 := ⟨⟨(in_t4 132 rfl rfl), ini_X10, pl_X10, ⟨nh_X10.1, nh_X10.2, rfl⟩, by decide⟩, (in_t4 131 rfl rfl), (in_s3 8 17 rfl rfl), ⟨(RX10, TX10, 17), rfl, rfl⟩⟩
abbrev YX10_best : MRec := (yX10_best, cX10_best, 3, (some .int))
set_option maxRecDepth 100000 in
theorem miX10_best : MI YX10_best 1 10 := ⟨⟨(in_t4 102 rfl rfl), ini_X10, pl_X10, ⟨nh_X10.1, nh_X10.2, rfl⟩, by decide⟩, (in_t4 100 rfl rfl), (in_t4 101 rfl rfl), ⟨(RX10, TX10, 17), rfl, rfl⟩⟩
abbrev YX10_calm : MRec := (yX10_calm, cX10_calm, 8, (some .int))
set_option maxRecDepth 100000 in
theorem miX10_calm : MI YX10_calm 1 10 := ⟨⟨(in_t4 136 rfl rfl), ini_X10, pl_X10, ⟨nh_X10.1, nh_X10.2, rfl⟩, by decide⟩, (in_t4 134 rfl rfl), (in_t4 135 rfl rfl), ⟨(RX10, TX10, 17), rfl, rfl⟩⟩
abbrev YX10_many : MRec := (yX10_many, cX10_many, 7, (some .int))
set_option maxRecDepth 100000 in
theorem miX10_many : MI YX10_many 2 10 := ⟨⟨(in_t4 140 rfl rfl), ini_X10, pl_X10, ⟨nh_X10.1, nh_X10.2, rfl⟩, by decide⟩, (in_t4 138 rfl rfl), (in_t4 139 rfl rfl), ⟨(RX10, TX10, 17), rfl, rfl⟩⟩
abbrev YX1_gapOf : MRec := (yX1_gapOf, cX1_gapOf, 8, (some .int))
set_option maxRecDepth 100000 in
theorem miX1_gapOf : MI YX1_gapOf 2 1 := ⟨⟨(in_t4 148 rfl rfl), ini_X1, pl_X1, ⟨nh_X1.1, nh_X1.2, rfl⟩, by decide⟩, (in_t4 146 rfl rfl), (in_t4 147 rfl rfl), ⟨(RX1, TX1, 11), rfl, rfl⟩⟩
abbrev YX1_placeOfGap : MRec := (yX1_placeOfGap, cX1_placeOfGap, 8, (some .int))
set_option maxRecDepth 100000 in
theorem miX1_placeOfGap : MI YX1_placeOfGap 3 1 := ⟨⟨(in_t4 153 rfl rfl), ini_X1, pl_X1, ⟨nh_X1.1, nh_X1.2, rfl⟩, by decide⟩, (in_t4 151 rfl rfl), (in_t4 152 rfl rfl), ⟨(RX1, TX1, 11), rfl, rfl⟩⟩
abbrev YX10_gap : MRec := (yX10_gap, cX10_gap, 4, (some .int))
set_option maxRecDepth 100000 in
theorem miX10_gap : MI YX10_gap 2 10 := ⟨⟨(in_t4 144 rfl rfl), ini_X10, pl_X10, ⟨nh_X10.1, nh_X10.2, rfl⟩, by decide⟩, (in_t4 142 rfl rfl), (in_t4 143 rfl rfl), ⟨(RX10, TX10, 17), rfl, rfl⟩⟩
abbrev YX10_goOneWay : MRec := (yX10_goOneWay, cX10_goOneWay, 4, (some .boolean))
set_option maxRecDepth 100000 in
theorem miX10_goOneWay : MI YX10_goOneWay 1 10 := ⟨⟨(in_t4 161 rfl rfl), ini_X10, pl_X10, ⟨nh_X10.1, nh_X10.2, rfl⟩, by decide⟩, (in_t4 160 rfl rfl), (in_s3 9 17 rfl rfl), ⟨(RX10, TX10, 17), rfl, rfl⟩⟩
abbrev YX10_smoothMinutes : MRec := (yX10_smoothMinutes, cX10_smoothMinutes, 5, (some .int))
set_option maxRecDepth 100000 in
theorem miX10_smoothMinutes : MI YX10_smoothMinutes 1 10 := ⟨⟨(in_t4 165 rfl rfl), ini_X10, pl_X10, ⟨nh_X10.1, nh_X10.2, rfl⟩, by decide⟩, (in_t4 164 rfl rfl), (in_s3 10 17 rfl rfl), ⟨(RX10, TX10, 17), rfl, rfl⟩⟩
abbrev YX10_tellSettingOff : MRec := (yX10_tellSettingOff, cX10_tellSettingOff, 4, none)
set_option maxRecDepth 100000 in
theorem miX10_tellSettingOff : MI YX10_tellSettingOff 1 10 := ⟨⟨(in_t4 170 rfl rfl), ini_X10, pl_X10, ⟨nh_X10.1, nh_X10.2, rfl⟩, by decide⟩, (in_t4 169 rfl rfl), (in_s3 11 17 rfl rfl), ⟨(RX10, TX10, 17), rfl, rfl⟩⟩
abbrev YX10_smooth : MRec := (yX10_smooth, cX10_smooth, 6, (some .int))
set_option maxRecDepth 100000 in
theorem miX10_smooth : MI YX10_smooth 1 10 := ⟨⟨(in_t4 157 rfl rfl), ini_X10, pl_X10, ⟨nh_X10.1, nh_X10.2, rfl⟩, by decide⟩, (in_t4 155 rfl rfl), (in_t4 156 rfl rfl), ⟨(RX10, TX10, 17), rfl, rfl⟩⟩
abbrev YX1_longestPlace : MRec := (yX1_longestPlace, cX1_longestPlace, 4, (some .int))
set_option maxRecDepth 100000 in
theorem miX1_longestPlace : MI YX1_longestPlace 1 1 := ⟨⟨(in_t4 178 rfl rfl), ini_X1, pl_X1, ⟨nh_X1.1, nh_X1.2, rfl⟩, by decide⟩, (in_t4 176 rfl rfl), (in_t4 177 rfl rfl), ⟨(RX1, TX1, 11), rfl, rfl⟩⟩
abbrev YX10_every : MRec := (yX10_every, cX10_every, 4, (some .int))
set_option maxRecDepth 100000 in
theorem miX10_every : MI YX10_every 1 10 := ⟨⟨(in_t4 174 rfl rfl), ini_X10, pl_X10, ⟨nh_X10.1, nh_X10.2, rfl⟩, by decide⟩, (in_t4 172 rfl rfl), (in_t4 173 rfl rfl), ⟨(RX10, TX10, 17), rfl, rfl⟩⟩
abbrev YX10_firstWithTogether : MRec := (yX10_firstWithTogether, cX10_firstWithTogether, 4, (some .int))
set_option maxRecDepth 100000 in
theorem miX10_firstWithTogether : MI YX10_firstWithTogether 2 10 := ⟨⟨(in_t4 192 rfl rfl), ini_X10, pl_X10, ⟨nh_X10.1, nh_X10.2, rfl⟩, by decide⟩, (in_t4 191 rfl rfl), (in_s3 12 17 rfl rfl), ⟨(RX10, TX10, 17), rfl, rfl⟩⟩
abbrev YX10_bitsWithWhole : MRec := (yX10_bitsWithWhole, cX10_bitsWithWhole, 5, (some .int))
set_option maxRecDepth 100000 in
theorem miX10_bitsWithWhole : MI YX10_bitsWithWhole 2 10 := ⟨⟨(in_t4 196 rfl rfl), ini_X10, pl_X10, ⟨nh_X10.1, nh_X10.2, rfl⟩, by decide⟩, (in_t4 195 rfl rfl), (in_s3 13 17 rfl rfl), ⟨(RX10, TX10, 17), rfl, rfl⟩⟩
abbrev YX10_least : MRec := (yX10_least, cX10_least, 4, (some .int))
set_option maxRecDepth 100000 in
theorem miX10_least : MI YX10_least 1 10 := ⟨⟨(in_t4 182 rfl rfl), ini_X10, pl_X10, ⟨nh_X10.1, nh_X10.2, rfl⟩, by decide⟩, (in_t4 180 rfl rfl), (in_t4 181 rfl rfl), ⟨(RX10, TX10, 17), rfl, rfl⟩⟩
abbrev YX10_foresee : MRec := (yX10_foresee, cX10_foresee, 4, none)
set_option maxRecDepth 100000 in
theorem miX10_foresee : MI YX10_foresee 3 10 := ⟨⟨(in_t4 204 rfl rfl), ini_X10, pl_X10, ⟨nh_X10.1, nh_X10.2, rfl⟩, by decide⟩, (in_t4 203 rfl rfl), (in_s3 14 17 rfl rfl), ⟨(RX10, TX10, 17), rfl, rfl⟩⟩
abbrev YX10_late : MRec := (yX10_late, cX10_late, 8, (some .int))
set_option maxRecDepth 100000 in
theorem miX10_late : MI YX10_late 2 10 := ⟨⟨(in_t4 200 rfl rfl), ini_X10, pl_X10, ⟨nh_X10.1, nh_X10.2, rfl⟩, by decide⟩, (in_t4 198 rfl rfl), (in_t4 199 rfl rfl), ⟨(RX10, TX10, 17), rfl, rfl⟩⟩
abbrev YX10_nobodyLater : MRec := (yX10_nobodyLater, cX10_nobodyLater, 3, (some .boolean))
set_option maxRecDepth 100000 in
theorem miX10_nobodyLater : MI YX10_nobodyLater 1 10 := ⟨⟨(in_t4 212 rfl rfl), ini_X10, pl_X10, ⟨nh_X10.1, nh_X10.2, rfl⟩, by decide⟩, (in_t4 211 rfl rfl), (in_s3 15 17 rfl rfl), ⟨(RX10, TX10, 17), rfl, rfl⟩⟩
abbrev YX10_slack : MRec := (yX10_slack, cX10_slack, 4, (some .int))
set_option maxRecDepth 100000 in
theorem miX10_slack : MI YX10_slack 1 10 := ⟨⟨(in_t4 208 rfl rfl), ini_X10, pl_X10, ⟨nh_X10.1, nh_X10.2, rfl⟩, by decide⟩, (in_t4 206 rfl rfl), (in_t4 207 rfl rfl), ⟨(RX10, TX10, 17), rfl, rfl⟩⟩
abbrev YX10_dies : MRec := (yX10_dies, cX10_dies, 9, (some .int))
set_option maxRecDepth 100000 in
theorem miX10_dies : MI YX10_dies 3 10 := ⟨⟨(in_t4 216 rfl rfl), ini_X10, pl_X10, ⟨nh_X10.1, nh_X10.2, rfl⟩, by decide⟩, (in_t4 214 rfl rfl), (in_t4 215 rfl rfl), ⟨(RX10, TX10, 17), rfl, rfl⟩⟩
abbrev YX1_lossOf : MRec := (yX1_lossOf, cX1_lossOf, 6, (some .int))
set_option maxRecDepth 100000 in
theorem miX1_lossOf : MI YX1_lossOf 2 1 := ⟨⟨(in_t4 224 rfl rfl), ini_X1, pl_X1, ⟨nh_X1.1, nh_X1.2, rfl⟩, by decide⟩, (in_t4 222 rfl rfl), (in_t4 223 rfl rfl), ⟨(RX1, TX1, 11), rfl, rfl⟩⟩
abbrev YX10_loss : MRec := (yX10_loss, cX10_loss, 3, (some .int))
set_option maxRecDepth 100000 in
theorem miX10_loss : MI YX10_loss 2 10 := ⟨⟨(in_t4 220 rfl rfl), ini_X10, pl_X10, ⟨nh_X10.1, nh_X10.2, rfl⟩, by decide⟩, (in_t4 218 rfl rfl), (in_t4 219 rfl rfl), ⟨(RX10, TX10, 17), rfl, rfl⟩⟩
abbrev YX2_judge : MRec := (yX2_judge, cX2_judge, 3, none)
set_option maxRecDepth 100000 in
theorem miX2_judge : MI YX2_judge 2 2 := ⟨⟨(in_t5 0 rfl rfl), ini_X2, pl_X2, ⟨nh_X2.1, nh_X2.2, rfl⟩, by decide⟩, (in_t4 239 rfl rfl), (in_s4 1 5 rfl rfl), ⟨(RX2, TX2, 5), rfl, rfl⟩⟩
abbrev YX2_pairFrom : MRec := (yX2_pairFrom, cX2_pairFrom, 6, none)
set_option maxRecDepth 100000 in
theorem miX2_pairFrom : MI YX2_pairFrom 3 2 := ⟨⟨(in_t4 236 rfl rfl), ini_X2, pl_X2, ⟨nh_X2.1, nh_X2.2, rfl⟩, by decide⟩, (in_t4 235 rfl rfl), (in_s4 0 5 rfl rfl), ⟨(RX2, TX2, 5), rfl, rfl⟩⟩
abbrev YX2_find : MRec := (yX2_find, cX2_find, 2, none)
set_option maxRecDepth 100000 in
theorem miX2_find : MI YX2_find 0 2 := ⟨⟨(in_t4 232 rfl rfl), ini_X2, pl_X2, ⟨nh_X2.1, nh_X2.2, rfl⟩, by decide⟩, (in_t4 230 rfl rfl), (in_t4 231 rfl rfl), ⟨(RX2, TX2, 5), rfl, rfl⟩⟩
abbrev YX10_pairs : MRec := (yX10_pairs, cX10_pairs, 2, (some .int))
set_option maxRecDepth 100000 in
theorem miX10_pairs : MI YX10_pairs 0 10 := ⟨⟨(in_t4 228 rfl rfl), ini_X10, pl_X10, ⟨nh_X10.1, nh_X10.2, rfl⟩, by decide⟩, (in_t4 226 rfl rfl), (in_t4 227 rfl rfl), ⟨(RX10, TX10, 17), rfl, rfl⟩⟩
abbrev YX10_brief : MRec := (yX10_brief, cX10_brief, 9, (some .int))
set_option maxRecDepth 100000 in
theorem miX10_brief : MI YX10_brief 1 10 := ⟨⟨(in_t5 6 rfl rfl), ini_X10, pl_X10, ⟨nh_X10.1, nh_X10.2, rfl⟩, by decide⟩, (in_t5 4 rfl rfl), (in_t5 5 rfl rfl), ⟨(RX10, TX10, 17), rfl, rfl⟩⟩
abbrev YX0_add : MRec := (yX0_add, cX0_add, 4, (some .int))
set_option maxRecDepth 100000 in
theorem miX0_add : MI YX0_add 3 0 := ⟨⟨(in_t5 14 rfl rfl), ini_X0, pl_X0, ⟨nh_X0.1, nh_X0.2, rfl⟩, by decide⟩, (in_t5 12 rfl rfl), (in_t5 13 rfl rfl), ⟨(RX0, TX0, 4), rfl, rfl⟩⟩
abbrev YX10_heard : MRec := (yX10_heard, cX10_heard, 4, (some .int))
set_option maxRecDepth 100000 in
theorem miX10_heard : MI YX10_heard 3 10 := ⟨⟨(in_t5 10 rfl rfl), ini_X10, pl_X10, ⟨nh_X10.1, nh_X10.2, rfl⟩, by decide⟩, (in_t5 8 rfl rfl), (in_t5 9 rfl rfl), ⟨(RX10, TX10, 17), rfl, rfl⟩⟩
abbrev YX10_forget : MRec := (yX10_forget, cX10_forget, 2, (some .int))
set_option maxRecDepth 100000 in
theorem miX10_forget : MI YX10_forget 0 10 := ⟨⟨(in_t5 18 rfl rfl), ini_X10, pl_X10, ⟨nh_X10.1, nh_X10.2, rfl⟩, by decide⟩, (in_t5 16 rfl rfl), (in_t5 17 rfl rfl), ⟨(RX10, TX10, 17), rfl, rfl⟩⟩
abbrev YX0_latest : MRec := (yX0_latest, cX0_latest, 3, (some .int))
set_option maxRecDepth 100000 in
theorem miX0_latest : MI YX0_latest 0 0 := ⟨⟨(in_t5 26 rfl rfl), ini_X0, pl_X0, ⟨nh_X0.1, nh_X0.2, rfl⟩, by decide⟩, (in_t5 24 rfl rfl), (in_t5 25 rfl rfl), ⟨(RX0, TX0, 4), rfl, rfl⟩⟩
abbrev YX10_fits : MRec := (yX10_fits, cX10_fits, 5, (some .int))
set_option maxRecDepth 100000 in
theorem miX10_fits : MI YX10_fits 1 10 := ⟨⟨(in_t5 22 rfl rfl), ini_X10, pl_X10, ⟨nh_X10.1, nh_X10.2, rfl⟩, by decide⟩, (in_t5 20 rfl rfl), (in_t5 21 rfl rfl), ⟨(RX10, TX10, 17), rfl, rfl⟩⟩
abbrev YX10_began : MRec := (yX10_began, cX10_began, 6, (some .int))
set_option maxRecDepth 100000 in
theorem miX10_began : MI YX10_began 1 10 := ⟨⟨(in_t5 31 rfl rfl), ini_X10, pl_X10, ⟨nh_X10.1, nh_X10.2, rfl⟩, by decide⟩, (in_t5 29 rfl rfl), (in_t5 30 rfl rfl), ⟨(RX10, TX10, 17), rfl, rfl⟩⟩
abbrev YX5_draw : MRec := (yX5_draw, cX5_draw, 8, (some .int))
set_option maxRecDepth 100000 in
theorem miX5_draw : MI YX5_draw 2 5 := ⟨⟨(in_t5 39 rfl rfl), ini_X5, pl_X5, ⟨nh_X5.1, nh_X5.2, rfl⟩, by decide⟩, (in_t5 37 rfl rfl), (in_t5 38 rfl rfl), ⟨(RX5, TX5, 2), rfl, rfl⟩⟩
abbrev YX10_season : MRec := (yX10_season, cX10_season, 11, (some .int))
set_option maxRecDepth 100000 in
theorem miX10_season : MI YX10_season 3 10 := ⟨⟨(in_t5 35 rfl rfl), ini_X10, pl_X10, ⟨nh_X10.1, nh_X10.2, rfl⟩, by decide⟩, (in_t5 33 rfl rfl), (in_t5 34 rfl rfl), ⟨(RX10, TX10, 17), rfl, rfl⟩⟩
abbrev YX10_keep : MRec := (yX10_keep, cX10_keep, 2, (some .boolean))
set_option maxRecDepth 100000 in
theorem miX10_keep : MI YX10_keep 1 10 := ⟨⟨(in_t5 45 rfl rfl), ini_X10, pl_X10, ⟨nh_X10.1, nh_X10.2, rfl⟩, by decide⟩, (in_t5 43 rfl rfl), (in_t5 44 rfl rfl), ⟨(RX10, TX10, 17), rfl, rfl⟩⟩
abbrev YX10_again : MRec := (yX10_again, cX10_again, 2, (some .boolean))
set_option maxRecDepth 100000 in
theorem miX10_again : MI YX10_again 1 10 := ⟨⟨(in_t5 49 rfl rfl), ini_X10, pl_X10, ⟨nh_X10.1, nh_X10.2, rfl⟩, by decide⟩, (in_t5 47 rfl rfl), (in_t5 48 rfl rfl), ⟨(RX10, TX10, 17), rfl, rfl⟩⟩
abbrev YX10_count : MRec := (yX10_count, cX10_count, 2, (some .int))
set_option maxRecDepth 100000 in
theorem miX10_count : MI YX10_count 1 10 := ⟨⟨(in_t5 53 rfl rfl), ini_X10, pl_X10, ⟨nh_X10.1, nh_X10.2, rfl⟩, by decide⟩, (in_t5 51 rfl rfl), (in_t5 52 rfl rfl), ⟨(RX10, TX10, 17), rfl, rfl⟩⟩
abbrev YX11_thrown : MRec := (yX11_thrown, cX11_thrown, 1, (some .int))
set_option maxRecDepth 100000 in
theorem miX11_thrown : MI YX11_thrown 0 11 := ⟨⟨(in_t6 93 rfl rfl), ini_X11, pl_X11, ⟨nh_X11.1, nh_X11.2, rfl⟩, by decide⟩, (in_t6 91 rfl rfl), (in_t6 92 rfl rfl), ⟨(RX11, TX11, 61), rfl, rfl⟩⟩
abbrev YX11_in : MRec := (yX11_in, cX11_in, 3, (some .boolean))
set_option maxRecDepth 100000 in
theorem msX11_in : MS YX11_in 3 := ⟨⟨(in_t6 104 rfl rfl), ini_X11, pl_X11, ⟨nh_X11.1, nh_X11.2, rfl⟩, by decide⟩, (in_t6 103 rfl rfl)⟩
abbrev YX11_has : MRec := (yX11_has, cX11_has, 2, (some .boolean))
set_option maxRecDepth 100000 in
theorem msX11_has : MS YX11_has 2 := ⟨⟨(in_t6 207 rfl rfl), ini_X11, pl_X11, ⟨nh_X11.1, nh_X11.2, rfl⟩, by decide⟩, (in_t6 206 rfl rfl)⟩
abbrev YX11_lost : MRec := (yX11_lost, cX11_lost, 1, (some .int))
set_option maxRecDepth 100000 in
theorem miX11_lost : MI YX11_lost 0 11 := ⟨⟨(in_t6 188 rfl rfl), ini_X11, pl_X11, ⟨nh_X11.1, nh_X11.2, rfl⟩, by decide⟩, (in_t6 187 rfl rfl), (in_s5 3 61 rfl rfl), ⟨(RX11, TX11, 61), rfl, rfl⟩⟩
abbrev YX11_tell : MRec := (yX11_tell, cX11_tell, 2, none)
set_option maxRecDepth 100000 in
theorem miX11_tell : MI YX11_tell 1 11 := ⟨⟨(in_t7 56 rfl rfl), ini_X11, pl_X11, ⟨nh_X11.1, nh_X11.2, rfl⟩, by decide⟩, (in_t7 55 rfl rfl), (in_s6 3 61 rfl rfl), ⟨(RX11, TX11, 61), rfl, rfl⟩⟩
abbrev YX11_isRoom : MRec := (yX11_isRoom, cX11_isRoom, 2, (some .boolean))
set_option maxRecDepth 100000 in
theorem miX11_isRoom : MI YX11_isRoom 1 11 := ⟨⟨(in_t6 196 rfl rfl), ini_X11, pl_X11, ⟨nh_X11.1, nh_X11.2, rfl⟩, by decide⟩, (in_t6 195 rfl rfl), (in_s5 4 61 rfl rfl), ⟨(RX11, TX11, 61), rfl, rfl⟩⟩
abbrev YX11_isGroup : MRec := (yX11_isGroup, cX11_isGroup, 2, (some .boolean))
set_option maxRecDepth 100000 in
theorem miX11_isGroup : MI YX11_isGroup 1 11 := ⟨⟨(in_t6 184 rfl rfl), ini_X11, pl_X11, ⟨nh_X11.1, nh_X11.2, rfl⟩, by decide⟩, (in_t6 183 rfl rfl), (in_s5 2 61 rfl rfl), ⟨(RX11, TX11, 61), rfl, rfl⟩⟩
abbrev YX11_everybody : MRec := (yX11_everybody, cX11_everybody, 1, (some .int))
set_option maxRecDepth 100000 in
theorem miX11_everybody : MI YX11_everybody 0 11 := ⟨⟨(in_t7 121 rfl rfl), ini_X11, pl_X11, ⟨nh_X11.1, nh_X11.2, rfl⟩, by decide⟩, (in_t7 120 rfl rfl), (in_s6 12 61 rfl rfl), ⟨(RX11, TX11, 61), rfl, rfl⟩⟩
abbrev YX11_sign : MRec := (yX11_sign, cX11_sign, 3, (some .int))
set_option maxRecDepth 100000 in
theorem miX11_sign : MI YX11_sign 1 11 := ⟨⟨(in_t6 97 rfl rfl), ini_X11, pl_X11, ⟨nh_X11.1, nh_X11.2, rfl⟩, by decide⟩, (in_t6 95 rfl rfl), (in_t6 96 rfl rfl), ⟨(RX11, TX11, 61), rfl, rfl⟩⟩
abbrev YX11_end : MRec := (yX11_end, cX11_end, 2, (some .boolean))
set_option maxRecDepth 100000 in
theorem miX11_end : MI YX11_end 1 11 := ⟨⟨(in_t6 101 rfl rfl), ini_X11, pl_X11, ⟨nh_X11.1, nh_X11.2, rfl⟩, by decide⟩, (in_t6 99 rfl rfl), (in_t6 100 rfl rfl), ⟨(RX11, TX11, 61), rfl, rfl⟩⟩
abbrev YX11_begin : MRec := (yX11_begin, cX11_begin, 4, none)
set_option maxRecDepth 100000 in
theorem miX11_begin : MI YX11_begin 3 11 := ⟨⟨(in_t6 116 rfl rfl), ini_X11, pl_X11, ⟨nh_X11.1, nh_X11.2, rfl⟩, by decide⟩, (in_t6 115 rfl rfl), (in_s4 3 61 rfl rfl), ⟨(RX11, TX11, 61), rfl, rfl⟩⟩
abbrev YX11_here : MRec := (yX11_here, cX11_here, 1, (some .int))
set_option maxRecDepth 100000 in
theorem miX11_here : MI YX11_here 0 11 := ⟨⟨(in_t6 140 rfl rfl), ini_X11, pl_X11, ⟨nh_X11.1, nh_X11.2, rfl⟩, by decide⟩, (in_t6 139 rfl rfl), (in_s4 9 61 rfl rfl), ⟨(RX11, TX11, 61), rfl, rfl⟩⟩
abbrev YX11_fine : MRec := (yX11_fine, cX11_fine, 1, (some .boolean))
set_option maxRecDepth 100000 in
theorem miX11_fine : MI YX11_fine 0 11 := ⟨⟨(in_t6 120 rfl rfl), ini_X11, pl_X11, ⟨nh_X11.1, nh_X11.2, rfl⟩, by decide⟩, (in_t6 119 rfl rfl), (in_s4 4 61 rfl rfl), ⟨(RX11, TX11, 61), rfl, rfl⟩⟩
abbrev YX11_fault : MRec := (yX11_fault, cX11_fault, 2, none)
set_option maxRecDepth 100000 in
theorem miX11_fault : MI YX11_fault 1 11 := ⟨⟨(in_t6 124 rfl rfl), ini_X11, pl_X11, ⟨nh_X11.1, nh_X11.2, rfl⟩, by decide⟩, (in_t6 123 rfl rfl), (in_s4 5 61 rfl rfl), ⟨(RX11, TX11, 61), rfl, rfl⟩⟩
abbrev YX11_passes : MRec := (yX11_passes, cX11_passes, 2, (some .boolean))
set_option maxRecDepth 100000 in
theorem miX11_passes : MI YX11_passes 1 11 := ⟨⟨(in_t6 148 rfl rfl), ini_X11, pl_X11, ⟨nh_X11.1, nh_X11.2, rfl⟩, by decide⟩, (in_t6 147 rfl rfl), (in_s4 11 61 rfl rfl), ⟨(RX11, TX11, 61), rfl, rfl⟩⟩
abbrev YX11_digit : MRec := (yX11_digit, cX11_digit, 3, (some .int))
set_option maxRecDepth 100000 in
theorem miX11_digit : MI YX11_digit 2 11 := ⟨⟨(in_t6 136 rfl rfl), ini_X11, pl_X11, ⟨nh_X11.1, nh_X11.2, rfl⟩, by decide⟩, (in_t6 135 rfl rfl), (in_s4 8 61 rfl rfl), ⟨(RX11, TX11, 61), rfl, rfl⟩⟩
abbrev YX11_number : MRec := (yX11_number, cX11_number, 4, (some .int))
set_option maxRecDepth 100000 in
theorem miX11_number : MI YX11_number 1 11 := ⟨⟨(in_t6 132 rfl rfl), ini_X11, pl_X11, ⟨nh_X11.1, nh_X11.2, rfl⟩, by decide⟩, (in_t6 131 rfl rfl), (in_s4 7 61 rfl rfl), ⟨(RX11, TX11, 61), rfl, rfl⟩⟩
abbrev YX11_letter : MRec := (yX11_letter, cX11_letter, 3, (some .int))
set_option maxRecDepth 100000 in
theorem miX11_letter : MI YX11_letter 2 11 := ⟨⟨(in_t6 144 rfl rfl), ini_X11, pl_X11, ⟨nh_X11.1, nh_X11.2, rfl⟩, by decide⟩, (in_t6 143 rfl rfl), (in_s4 10 61 rfl rfl), ⟨(RX11, TX11, 61), rfl, rfl⟩⟩
abbrev YX11_palace : MRec := (yX11_palace, cX11_palace, 3, (some .int))
set_option maxRecDepth 100000 in
theorem miX11_palace : MI YX11_palace 0 11 := ⟨⟨(in_t6 108 rfl rfl), ini_X11, pl_X11, ⟨nh_X11.1, nh_X11.2, rfl⟩, by decide⟩, (in_t6 106 rfl rfl), (in_t6 107 rfl rfl), ⟨(RX11, TX11, 61), rfl, rfl⟩⟩
abbrev YX11_readGroup : MRec := (yX11_readGroup, cX11_readGroup, 3, none)
set_option maxRecDepth 100000 in
theorem miX11_readGroup : MI YX11_readGroup 1 11 := ⟨⟨(in_t6 128 rfl rfl), ini_X11, pl_X11, ⟨nh_X11.1, nh_X11.2, rfl⟩, by decide⟩, (in_t6 127 rfl rfl), (in_s4 6 61 rfl rfl), ⟨(RX11, TX11, 61), rfl, rfl⟩⟩
abbrev YX11_come : MRec := (yX11_come, cX11_come, 4, none)
set_option maxRecDepth 100000 in
theorem miX11_come : MI YX11_come 1 11 := ⟨⟨(in_t6 152 rfl rfl), ini_X11, pl_X11, ⟨nh_X11.1, nh_X11.2, rfl⟩, by decide⟩, (in_t6 151 rfl rfl), (in_s4 12 61 rfl rfl), ⟨(RX11, TX11, 61), rfl, rfl⟩⟩
abbrev YX11_groups : MRec := (yX11_groups, cX11_groups, 4, (some .int))
set_option maxRecDepth 100000 in
theorem miX11_groups : MI YX11_groups 0 11 := ⟨⟨(in_t6 112 rfl rfl), ini_X11, pl_X11, ⟨nh_X11.1, nh_X11.2, rfl⟩, by decide⟩, (in_t6 110 rfl rfl), (in_t6 111 rfl rfl), ⟨(RX11, TX11, 61), rfl, rfl⟩⟩
abbrev YX11_valueOf : MRec := (yX11_valueOf, cX11_valueOf, 2, (some .int))
set_option maxRecDepth 100000 in
theorem miX11_valueOf : MI YX11_valueOf 1 11 := ⟨⟨(in_t6 176 rfl rfl), ini_X11, pl_X11, ⟨nh_X11.1, nh_X11.2, rfl⟩, by decide⟩, (in_t6 175 rfl rfl), (in_s5 1 61 rfl rfl), ⟨(RX11, TX11, 61), rfl, rfl⟩⟩
abbrev YX11_product : MRec := (yX11_product, cX11_product, 5, (some .int))
set_option maxRecDepth 100000 in
theorem miX11_product : MI YX11_product 1 11 := ⟨⟨(in_t6 168 rfl rfl), ini_X11, pl_X11, ⟨nh_X11.1, nh_X11.2, rfl⟩, by decide⟩, (in_t6 167 rfl rfl), (in_s4 15 61 rfl rfl), ⟨(RX11, TX11, 61), rfl, rfl⟩⟩
abbrev YX11_sum : MRec := (yX11_sum, cX11_sum, 5, (some .int))
set_option maxRecDepth 100000 in
theorem miX11_sum : MI YX11_sum 1 11 := ⟨⟨(in_t6 164 rfl rfl), ini_X11, pl_X11, ⟨nh_X11.1, nh_X11.2, rfl⟩, by decide⟩, (in_t6 163 rfl rfl), (in_s4 14 61 rfl rfl), ⟨(RX11, TX11, 61), rfl, rfl⟩⟩
abbrev YX11_held : MRec := (yX11_held, cX11_held, 3, (some .int))
set_option maxRecDepth 100000 in
theorem miX11_held : MI YX11_held 1 11 := ⟨⟨(in_t6 160 rfl rfl), ini_X11, pl_X11, ⟨nh_X11.1, nh_X11.2, rfl⟩, by decide⟩, (in_t6 159 rfl rfl), (in_s4 13 61 rfl rfl), ⟨(RX11, TX11, 61), rfl, rfl⟩⟩
abbrev YX11_thing : MRec := (yX11_thing, cX11_thing, 4, (some .int))
set_option maxRecDepth 100000 in
theorem miX11_thing : MI YX11_thing 1 11 := ⟨⟨(in_t6 172 rfl rfl), ini_X11, pl_X11, ⟨nh_X11.1, nh_X11.2, rfl⟩, by decide⟩, (in_t6 171 rfl rfl), (in_s5 0 61 rfl rfl), ⟨(RX11, TX11, 61), rfl, rfl⟩⟩
abbrev YX11_rule : MRec := (yX11_rule, cX11_rule, 3, (some .int))
set_option maxRecDepth 100000 in
theorem miX11_rule : MI YX11_rule 0 11 := ⟨⟨(in_t6 156 rfl rfl), ini_X11, pl_X11, ⟨nh_X11.1, nh_X11.2, rfl⟩, by decide⟩, (in_t6 154 rfl rfl), (in_t6 155 rfl rfl), ⟨(RX11, TX11, 61), rfl, rfl⟩⟩
abbrev YX11_stayOf : MRec := (yX11_stayOf, cX11_stayOf, 4, (some .int))
set_option maxRecDepth 100000 in
theorem miX11_stayOf : MI YX11_stayOf 2 11 := ⟨⟨(in_t6 204 rfl rfl), ini_X11, pl_X11, ⟨nh_X11.1, nh_X11.2, rfl⟩, by decide⟩, (in_t6 203 rfl rfl), (in_s5 6 61 rfl rfl), ⟨(RX11, TX11, 61), rfl, rfl⟩⟩
abbrev YX11_layStays : MRec := (yX11_layStays, cX11_layStays, 3, none)
set_option maxRecDepth 100000 in
theorem miX11_layStays : MI YX11_layStays 0 11 := ⟨⟨(in_t7 1 rfl rfl), ini_X11, pl_X11, ⟨nh_X11.1, nh_X11.2, rfl⟩, by decide⟩, (in_t7 0 rfl rfl), (in_s5 10 61 rfl rfl), ⟨(RX11, TX11, 61), rfl, rfl⟩⟩
abbrev YX11_isInside : MRec := (yX11_isInside, cX11_isInside, 3, (some .boolean))
set_option maxRecDepth 100000 in
theorem miX11_isInside : MI YX11_isInside 2 11 := ⟨⟨(in_t7 20 rfl rfl), ini_X11, pl_X11, ⟨nh_X11.1, nh_X11.2, rfl⟩, by decide⟩, (in_t7 19 rfl rfl), (in_s5 14 61 rfl rfl), ⟨(RX11, TX11, 61), rfl, rfl⟩⟩
abbrev YX11_inRoom : MRec := (yX11_inRoom, cX11_inRoom, 5, (some .int))
set_option maxRecDepth 100000 in
theorem miX11_inRoom : MI YX11_inRoom 2 11 := ⟨⟨(in_t6 200 rfl rfl), ini_X11, pl_X11, ⟨nh_X11.1, nh_X11.2, rfl⟩, by decide⟩, (in_t6 199 rfl rfl), (in_s5 5 61 rfl rfl), ⟨(RX11, TX11, 61), rfl, rfl⟩⟩
abbrev YX11_inside : MRec := (yX11_inside, cX11_inside, 4, (some .int))
set_option maxRecDepth 100000 in
theorem miX11_inside : MI YX11_inside 1 11 := ⟨⟨(in_t7 16 rfl rfl), ini_X11, pl_X11, ⟨nh_X11.1, nh_X11.2, rfl⟩, by decide⟩, (in_t7 15 rfl rfl), (in_s5 13 61 rfl rfl), ⟨(RX11, TX11, 61), rfl, rfl⟩⟩
abbrev YX11_group : MRec := (yX11_group, cX11_group, 3, (some .int))
set_option maxRecDepth 100000 in
theorem miX11_group : MI YX11_group 2 11 := ⟨⟨(in_t6 180 rfl rfl), ini_X11, pl_X11, ⟨nh_X11.1, nh_X11.2, rfl⟩, by decide⟩, (in_t6 178 rfl rfl), (in_t6 179 rfl rfl), ⟨(RX11, TX11, 61), rfl, rfl⟩⟩
abbrev YX11_room : MRec := (yX11_room, cX11_room, 5, (some .int))
set_option maxRecDepth 100000 in
theorem miX11_room : MI YX11_room 2 11 := ⟨⟨(in_t6 192 rfl rfl), ini_X11, pl_X11, ⟨nh_X11.1, nh_X11.2, rfl⟩, by decide⟩, (in_t6 190 rfl rfl), (in_t6 191 rfl rfl), ⟨(RX11, TX11, 61), rfl, rfl⟩⟩
abbrev YX11_stay : MRec := (yX11_stay, cX11_stay, 3, (some .int))
set_option maxRecDepth 100000 in
theorem miX11_stay : MI YX11_stay 2 11 := ⟨⟨(in_t6 213 rfl rfl), ini_X11, pl_X11, ⟨nh_X11.1, nh_X11.2, rfl⟩, by decide⟩, (in_t6 211 rfl rfl), (in_t6 212 rfl rfl), ⟨(RX11, TX11, 61), rfl, rfl⟩⟩
abbrev YX11_leave : MRec := (yX11_leave, cX11_leave, 4, (some .int))
set_option maxRecDepth 100000 in
theorem miX11_leave : MI YX11_leave 2 11 := ⟨⟨(in_t6 217 rfl rfl), ini_X11, pl_X11, ⟨nh_X11.1, nh_X11.2, rfl⟩, by decide⟩, (in_t6 215 rfl rfl), (in_t6 216 rfl rfl), ⟨(RX11, TX11, 61), rfl, rfl⟩⟩
abbrev YX11_sheet : MRec := (yX11_sheet, cX11_sheet, 11, (some .int))
set_option maxRecDepth 100000 in
theorem miX11_sheet : MI YX11_sheet 5 11 := ⟨⟨(in_t6 221 rfl rfl), ini_X11, pl_X11, ⟨nh_X11.1, nh_X11.2, rfl⟩, by decide⟩, (in_t6 219 rfl rfl), (in_t6 220 rfl rfl), ⟨(RX11, TX11, 61), rfl, rfl⟩⟩
abbrev YX11_lay : MRec := (yX11_lay, cX11_lay, 4, none)
set_option maxRecDepth 100000 in
theorem msX11_lay : MS YX11_lay 3 := ⟨⟨(in_t7 8 rfl rfl), ini_X11, pl_X11, ⟨nh_X11.1, nh_X11.2, rfl⟩, by decide⟩, (in_t7 7 rfl rfl)⟩
abbrev YX11_remember : MRec := (yX11_remember, cX11_remember, 3, none)
set_option maxRecDepth 100000 in
theorem miX11_remember : MI YX11_remember 1 11 := ⟨⟨(in_t7 5 rfl rfl), ini_X11, pl_X11, ⟨nh_X11.1, nh_X11.2, rfl⟩, by decide⟩, (in_t7 4 rfl rfl), (in_s5 11 61 rfl rfl), ⟨(RX11, TX11, 61), rfl, rfl⟩⟩
abbrev YX11_firstRoom : MRec := (yX11_firstRoom, cX11_firstRoom, 2, (some .int))
set_option maxRecDepth 100000 in
theorem miX11_firstRoom : MI YX11_firstRoom 1 11 := ⟨⟨(in_t6 233 rfl rfl), ini_X11, pl_X11, ⟨nh_X11.1, nh_X11.2, rfl⟩, by decide⟩, (in_t6 232 rfl rfl), (in_s5 8 61 rfl rfl), ⟨(RX11, TX11, 61), rfl, rfl⟩⟩
abbrev YX11_nextRoom : MRec := (yX11_nextRoom, cX11_nextRoom, 4, (some .int))
set_option maxRecDepth 100000 in
theorem miX11_nextRoom : MI YX11_nextRoom 2 11 := ⟨⟨(in_t7 52 rfl rfl), ini_X11, pl_X11, ⟨nh_X11.1, nh_X11.2, rfl⟩, by decide⟩, (in_t7 51 rfl rfl), (in_s6 2 61 rfl rfl), ⟨(RX11, TX11, 61), rfl, rfl⟩⟩
abbrev YX11_isFree : MRec := (yX11_isFree, cX11_isFree, 3, (some .boolean))
set_option maxRecDepth 100000 in
theorem miX11_isFree : MI YX11_isFree 2 11 := ⟨⟨(in_t6 237 rfl rfl), ini_X11, pl_X11, ⟨nh_X11.1, nh_X11.2, rfl⟩, by decide⟩, (in_t6 236 rfl rfl), (in_s5 9 61 rfl rfl), ⟨(RX11, TX11, 61), rfl, rfl⟩⟩
abbrev YX11_refusesOff : MRec := (yX11_refusesOff, cX11_refusesOff, 3, (some .int))
set_option maxRecDepth 100000 in
theorem miX11_refusesOff : MI YX11_refusesOff 2 11 := ⟨⟨(in_t6 229 rfl rfl), ini_X11, pl_X11, ⟨nh_X11.1, nh_X11.2, rfl⟩, by decide⟩, (in_t6 228 rfl rfl), (in_s5 7 61 rfl rfl), ⟨(RX11, TX11, 61), rfl, rfl⟩⟩
abbrev YX11_goOff : MRec := (yX11_goOff, cX11_goOff, 3, none)
set_option maxRecDepth 100000 in
theorem miX11_goOff : MI YX11_goOff 2 11 := ⟨⟨(in_t7 12 rfl rfl), ini_X11, pl_X11, ⟨nh_X11.1, nh_X11.2, rfl⟩, by decide⟩, (in_t7 11 rfl rfl), (in_s5 12 61 rfl rfl), ⟨(RX11, TX11, 61), rfl, rfl⟩⟩
abbrev YX11_nextStep : MRec := (yX11_nextStep, cX11_nextStep, 3, (some .int))
set_option maxRecDepth 100000 in
theorem miX11_nextStep : MI YX11_nextStep 1 11 := ⟨⟨(in_t7 48 rfl rfl), ini_X11, pl_X11, ⟨nh_X11.1, nh_X11.2, rfl⟩, by decide⟩, (in_t7 47 rfl rfl), (in_s6 1 61 rfl rfl), ⟨(RX11, TX11, 61), rfl, rfl⟩⟩
abbrev YX11_goMinute : MRec := (yX11_goMinute, cX11_goMinute, 3, none)
set_option maxRecDepth 100000 in
theorem miX11_goMinute : MI YX11_goMinute 1 11 := ⟨⟨(in_t7 44 rfl rfl), ini_X11, pl_X11, ⟨nh_X11.1, nh_X11.2, rfl⟩, by decide⟩, (in_t7 43 rfl rfl), (in_s6 0 61 rfl rfl), ⟨(RX11, TX11, 61), rfl, rfl⟩⟩
abbrev YX11_off : MRec := (yX11_off, cX11_off, 3, (some .int))
set_option maxRecDepth 100000 in
theorem miX11_off : MI YX11_off 1 11 := ⟨⟨(in_t6 225 rfl rfl), ini_X11, pl_X11, ⟨nh_X11.1, nh_X11.2, rfl⟩, by decide⟩, (in_t6 223 rfl rfl), (in_t6 224 rfl rfl), ⟨(RX11, TX11, 61), rfl, rfl⟩⟩
abbrev YX11_canOver : MRec := (yX11_canOver, cX11_canOver, 3, (some .boolean))
set_option maxRecDepth 100000 in
theorem miX11_canOver : MI YX11_canOver 2 11 := ⟨⟨(in_t7 29 rfl rfl), ini_X11, pl_X11, ⟨nh_X11.1, nh_X11.2, rfl⟩, by decide⟩, (in_t7 28 rfl rfl), (in_s5 15 61 rfl rfl), ⟨(RX11, TX11, 61), rfl, rfl⟩⟩
abbrev YX11_goOver : MRec := (yX11_goOver, cX11_goOver, 3, none)
set_option maxRecDepth 100000 in
theorem msX11_goOver : MS YX11_goOver 3 := ⟨⟨(in_t7 32 rfl rfl), ini_X11, pl_X11, ⟨nh_X11.1, nh_X11.2, rfl⟩, by decide⟩, (in_t7 31 rfl rfl)⟩
abbrev YX11_over : MRec := (yX11_over, cX11_over, 3, (some .int))
set_option maxRecDepth 100000 in
theorem miX11_over : MI YX11_over 2 11 := ⟨⟨(in_t7 25 rfl rfl), ini_X11, pl_X11, ⟨nh_X11.1, nh_X11.2, rfl⟩, by decide⟩, (in_t7 23 rfl rfl), (in_t7 24 rfl rfl), ⟨(RX11, TX11, 61), rfl, rfl⟩⟩
abbrev YX11_stand : MRec := (yX11_stand, cX11_stand, 2, (some .int))
set_option maxRecDepth 100000 in
theorem miX11_stand : MI YX11_stand 1 11 := ⟨⟨(in_t7 36 rfl rfl), ini_X11, pl_X11, ⟨nh_X11.1, nh_X11.2, rfl⟩, by decide⟩, (in_t7 34 rfl rfl), (in_t7 35 rfl rfl), ⟨(RX11, TX11, 61), rfl, rfl⟩⟩
abbrev YX11_minute : MRec := (yX11_minute, cX11_minute, 1, (some .int))
set_option maxRecDepth 100000 in
theorem miX11_minute : MI YX11_minute 0 11 := ⟨⟨(in_t7 40 rfl rfl), ini_X11, pl_X11, ⟨nh_X11.1, nh_X11.2, rfl⟩, by decide⟩, (in_t7 38 rfl rfl), (in_t7 39 rfl rfl), ⟨(RX11, TX11, 61), rfl, rfl⟩⟩
abbrev YX11_minutes : MRec := (yX11_minutes, cX11_minutes, 5, (some .int))
set_option maxRecDepth 100000 in
theorem miX11_minutes : MI YX11_minutes 1 11 := ⟨⟨(in_t7 60 rfl rfl), ini_X11, pl_X11, ⟨nh_X11.1, nh_X11.2, rfl⟩, by decide⟩, (in_t7 58 rfl rfl), (in_t7 59 rfl rfl), ⟨(RX11, TX11, 61), rfl, rfl⟩⟩
abbrev YX11_readAct : MRec := (yX11_readAct, cX11_readAct, 3, none)
set_option maxRecDepth 100000 in
theorem miX11_readAct : MI YX11_readAct 1 11 := ⟨⟨(in_t7 68 rfl rfl), ini_X11, pl_X11, ⟨nh_X11.1, nh_X11.2, rfl⟩, by decide⟩, (in_t7 67 rfl rfl), (in_s6 4 61 rfl rfl), ⟨(RX11, TX11, 61), rfl, rfl⟩⟩
abbrev YX11_act : MRec := (yX11_act, cX11_act, 4, (some .boolean))
set_option maxRecDepth 100000 in
theorem miX11_act : MI YX11_act 1 11 := ⟨⟨(in_t7 72 rfl rfl), ini_X11, pl_X11, ⟨nh_X11.1, nh_X11.2, rfl⟩, by decide⟩, (in_t7 71 rfl rfl), (in_s6 5 61 rfl rfl), ⟨(RX11, TX11, 61), rfl, rfl⟩⟩
abbrev YX11_day : MRec := (yX11_day, cX11_day, 4, (some .int))
set_option maxRecDepth 100000 in
theorem miX11_day : MI YX11_day 0 11 := ⟨⟨(in_t7 64 rfl rfl), ini_X11, pl_X11, ⟨nh_X11.1, nh_X11.2, rfl⟩, by decide⟩, (in_t7 62 rfl rfl), (in_t7 63 rfl rfl), ⟨(RX11, TX11, 61), rfl, rfl⟩⟩
abbrev YX11_undo : MRec := (yX11_undo, cX11_undo, 2, (some .int))
set_option maxRecDepth 100000 in
theorem miX11_undo : MI YX11_undo 0 11 := ⟨⟨(in_t7 76 rfl rfl), ini_X11, pl_X11, ⟨nh_X11.1, nh_X11.2, rfl⟩, by decide⟩, (in_t7 74 rfl rfl), (in_t7 75 rfl rfl), ⟨(RX11, TX11, 61), rfl, rfl⟩⟩
abbrev YX11_where : MRec := (yX11_where, cX11_where, 4, (some .int))
set_option maxRecDepth 100000 in
theorem miX11_where : MI YX11_where 2 11 := ⟨⟨(in_t7 80 rfl rfl), ini_X11, pl_X11, ⟨nh_X11.1, nh_X11.2, rfl⟩, by decide⟩, (in_t7 78 rfl rfl), (in_t7 79 rfl rfl), ⟨(RX11, TX11, 61), rfl, rfl⟩⟩
abbrev YX11_goOn : MRec := (yX11_goOn, cX11_goOn, 2, none)
set_option maxRecDepth 100000 in
theorem miX11_goOn : MI YX11_goOn 0 11 := ⟨⟨(in_t7 88 rfl rfl), ini_X11, pl_X11, ⟨nh_X11.1, nh_X11.2, rfl⟩, by decide⟩, (in_t7 87 rfl rfl), (in_s6 6 61 rfl rfl), ⟨(RX11, TX11, 61), rfl, rfl⟩⟩
abbrev YX11_stuck : MRec := (yX11_stuck, cX11_stuck, 3, (some .int))
set_option maxRecDepth 100000 in
theorem miX11_stuck : MI YX11_stuck 0 11 := ⟨⟨(in_t7 84 rfl rfl), ini_X11, pl_X11, ⟨nh_X11.1, nh_X11.2, rfl⟩, by decide⟩, (in_t7 82 rfl rfl), (in_t7 83 rfl rfl), ⟨(RX11, TX11, 61), rfl, rfl⟩⟩
abbrev YX11_areThrough : MRec := (yX11_areThrough, cX11_areThrough, 2, (some .boolean))
set_option maxRecDepth 100000 in
theorem miX11_areThrough : MI YX11_areThrough 0 11 := ⟨⟨(in_t7 104 rfl rfl), ini_X11, pl_X11, ⟨nh_X11.1, nh_X11.2, rfl⟩, by decide⟩, (in_t7 103 rfl rfl), (in_s6 9 61 rfl rfl), ⟨(RX11, TX11, 61), rfl, rfl⟩⟩
abbrev YX11_goDay : MRec := (yX11_goDay, cX11_goDay, 3, (some .int))
set_option maxRecDepth 100000 in
theorem miX11_goDay : MI YX11_goDay 0 11 := ⟨⟨(in_t7 100 rfl rfl), ini_X11, pl_X11, ⟨nh_X11.1, nh_X11.2, rfl⟩, by decide⟩, (in_t7 99 rfl rfl), (in_s6 8 61 rfl rfl), ⟨(RX11, TX11, 61), rfl, rfl⟩⟩
abbrev YX11_waitedByOrder : MRec := (yX11_waitedByOrder, cX11_waitedByOrder, 3, (some .int))
set_option maxRecDepth 100000 in
theorem miX11_waitedByOrder : MI YX11_waitedByOrder 0 11 := ⟨⟨(in_t7 109 rfl rfl), ini_X11, pl_X11, ⟨nh_X11.1, nh_X11.2, rfl⟩, by decide⟩, (in_t7 108 rfl rfl), (in_s6 10 61 rfl rfl), ⟨(RX11, TX11, 61), rfl, rfl⟩⟩
abbrev YX11_areOutside : MRec := (yX11_areOutside, cX11_areOutside, 3, (some .boolean))
set_option maxRecDepth 100000 in
theorem miX11_areOutside : MI YX11_areOutside 1 11 := ⟨⟨(in_t7 96 rfl rfl), ini_X11, pl_X11, ⟨nh_X11.1, nh_X11.2, rfl⟩, by decide⟩, (in_t7 95 rfl rfl), (in_s6 7 61 rfl rfl), ⟨(RX11, TX11, 61), rfl, rfl⟩⟩
abbrev YX11_order : MRec := (yX11_order, cX11_order, 5, (some .int))
set_option maxRecDepth 100000 in
theorem miX11_order : MI YX11_order 0 11 := ⟨⟨(in_t7 92 rfl rfl), ini_X11, pl_X11, ⟨nh_X11.1, nh_X11.2, rfl⟩, by decide⟩, (in_t7 90 rfl rfl), (in_t7 91 rfl rfl), ⟨(RX11, TX11, 61), rfl, rfl⟩⟩
abbrev YX11_canOrder : MRec := (yX11_canOrder, cX11_canOrder, 2, (some .boolean))
set_option maxRecDepth 100000 in
theorem miX11_canOrder : MI YX11_canOrder 1 11 := ⟨⟨(in_t7 117 rfl rfl), ini_X11, pl_X11, ⟨nh_X11.1, nh_X11.2, rfl⟩, by decide⟩, (in_t7 116 rfl rfl), (in_s6 11 61 rfl rfl), ⟨(RX11, TX11, 61), rfl, rfl⟩⟩
abbrev YX11_firstOrder : MRec := (yX11_firstOrder, cX11_firstOrder, 3, none)
set_option maxRecDepth 100000 in
theorem miX11_firstOrder : MI YX11_firstOrder 1 11 := ⟨⟨(in_t7 129 rfl rfl), ini_X11, pl_X11, ⟨nh_X11.1, nh_X11.2, rfl⟩, by decide⟩, (in_t7 128 rfl rfl), (in_s6 14 61 rfl rfl), ⟨(RX11, TX11, 61), rfl, rfl⟩⟩
abbrev YX11_swapOrder : MRec := (yX11_swapOrder, cX11_swapOrder, 4, none)
set_option maxRecDepth 100000 in
theorem miX11_swapOrder : MI YX11_swapOrder 2 11 := ⟨⟨(in_t7 137 rfl rfl), ini_X11, pl_X11, ⟨nh_X11.1, nh_X11.2, rfl⟩, by decide⟩, (in_t7 136 rfl rfl), (in_s7 0 61 rfl rfl), ⟨(RX11, TX11, 61), rfl, rfl⟩⟩
abbrev YX11_nextOrder : MRec := (yX11_nextOrder, cX11_nextOrder, 5, (some .boolean))
set_option maxRecDepth 100000 in
theorem miX11_nextOrder : MI YX11_nextOrder 0 11 := ⟨⟨(in_t7 133 rfl rfl), ini_X11, pl_X11, ⟨nh_X11.1, nh_X11.2, rfl⟩, by decide⟩, (in_t7 132 rfl rfl), (in_s6 15 61 rfl rfl), ⟨(RX11, TX11, 61), rfl, rfl⟩⟩
abbrev YX11_findBest : MRec := (yX11_findBest, cX11_findBest, 8, none)
set_option maxRecDepth 100000 in
theorem miX11_findBest : MI YX11_findBest 2 11 := ⟨⟨(in_t7 125 rfl rfl), ini_X11, pl_X11, ⟨nh_X11.1, nh_X11.2, rfl⟩, by decide⟩, (in_t7 124 rfl rfl), (in_s6 13 61 rfl rfl), ⟨(RX11, TX11, 61), rfl, rfl⟩⟩
abbrev YX11_best : MRec := (yX11_best, cX11_best, 3, (some .int))
set_option maxRecDepth 100000 in
theorem miX11_best : MI YX11_best 1 11 := ⟨⟨(in_t7 113 rfl rfl), ini_X11, pl_X11, ⟨nh_X11.1, nh_X11.2, rfl⟩, by decide⟩, (in_t7 111 rfl rfl), (in_t7 112 rfl rfl), ⟨(RX11, TX11, 61), rfl, rfl⟩⟩
abbrev YX11_calm : MRec := (yX11_calm, cX11_calm, 3, (some .int))
set_option maxRecDepth 100000 in
theorem miX11_calm : MI YX11_calm 1 11 := ⟨⟨(in_t7 141 rfl rfl), ini_X11, pl_X11, ⟨nh_X11.1, nh_X11.2, rfl⟩, by decide⟩, (in_t7 139 rfl rfl), (in_t7 140 rfl rfl), ⟨(RX11, TX11, 61), rfl, rfl⟩⟩
abbrev YX11_many : MRec := (yX11_many, cX11_many, 7, (some .int))
set_option maxRecDepth 100000 in
theorem miX11_many : MI YX11_many 2 11 := ⟨⟨(in_t7 145 rfl rfl), ini_X11, pl_X11, ⟨nh_X11.1, nh_X11.2, rfl⟩, by decide⟩, (in_t7 143 rfl rfl), (in_t7 144 rfl rfl), ⟨(RX11, TX11, 61), rfl, rfl⟩⟩
abbrev YX11_areTwo : MRec := (yX11_areTwo, cX11_areTwo, 3, (some .boolean))
set_option maxRecDepth 100000 in
theorem miX11_areTwo : MI YX11_areTwo 2 11 := ⟨⟨(in_t7 153 rfl rfl), ini_X11, pl_X11, ⟨nh_X11.1, nh_X11.2, rfl⟩, by decide⟩, (in_t7 152 rfl rfl), (in_s7 1 61 rfl rfl), ⟨(RX11, TX11, 61), rfl, rfl⟩⟩
abbrev YX11_allStays : MRec := (yX11_allStays, cX11_allStays, 4, (some .int))
set_option maxRecDepth 100000 in
theorem miX11_allStays : MI YX11_allStays 1 11 := ⟨⟨(in_t7 165 rfl rfl), ini_X11, pl_X11, ⟨nh_X11.1, nh_X11.2, rfl⟩, by decide⟩, (in_t7 164 rfl rfl), (in_s7 3 61 rfl rfl), ⟨(RX11, TX11, 61), rfl, rfl⟩⟩
abbrev YX11_gapOf : MRec := (yX11_gapOf, cX11_gapOf, 7, (some .int))
set_option maxRecDepth 100000 in
theorem miX11_gapOf : MI YX11_gapOf 2 11 := ⟨⟨(in_t7 157 rfl rfl), ini_X11, pl_X11, ⟨nh_X11.1, nh_X11.2, rfl⟩, by decide⟩, (in_t7 156 rfl rfl), (in_s7 2 61 rfl rfl), ⟨(RX11, TX11, 61), rfl, rfl⟩⟩
abbrev YX11_gap : MRec := (yX11_gap, cX11_gap, 4, (some .int))
set_option maxRecDepth 100000 in
theorem miX11_gap : MI YX11_gap 2 11 := ⟨⟨(in_t7 149 rfl rfl), ini_X11, pl_X11, ⟨nh_X11.1, nh_X11.2, rfl⟩, by decide⟩, (in_t7 147 rfl rfl), (in_t7 148 rfl rfl), ⟨(RX11, TX11, 61), rfl, rfl⟩⟩
abbrev YX11_smooth : MRec := (yX11_smooth, cX11_smooth, 7, (some .int))
set_option maxRecDepth 100000 in
theorem miX11_smooth : MI YX11_smooth 1 11 := ⟨⟨(in_t7 161 rfl rfl), ini_X11, pl_X11, ⟨nh_X11.1, nh_X11.2, rfl⟩, by decide⟩, (in_t7 159 rfl rfl), (in_t7 160 rfl rfl), ⟨(RX11, TX11, 61), rfl, rfl⟩⟩
abbrev YX11_everyOf : MRec := (yX11_everyOf, cX11_everyOf, 4, (some .int))
set_option maxRecDepth 100000 in
theorem miX11_everyOf : MI YX11_everyOf 1 11 := ⟨⟨(in_t7 173 rfl rfl), ini_X11, pl_X11, ⟨nh_X11.1, nh_X11.2, rfl⟩, by decide⟩, (in_t7 172 rfl rfl), (in_s7 4 61 rfl rfl), ⟨(RX11, TX11, 61), rfl, rfl⟩⟩
abbrev YX11_every : MRec := (yX11_every, cX11_every, 4, (some .int))
set_option maxRecDepth 100000 in
theorem miX11_every : MI YX11_every 1 11 := ⟨⟨(in_t7 169 rfl rfl), ini_X11, pl_X11, ⟨nh_X11.1, nh_X11.2, rfl⟩, by decide⟩, (in_t7 167 rfl rfl), (in_t7 168 rfl rfl), ⟨(RX11, TX11, 61), rfl, rfl⟩⟩
abbrev YX11_roomStays : MRec := (yX11_roomStays, cX11_roomStays, 5, (some .int))
set_option maxRecDepth 100000 in
theorem miX11_roomStays : MI YX11_roomStays 2 11 := ⟨⟨(in_t7 181 rfl rfl), ini_X11, pl_X11, ⟨nh_X11.1, nh_X11.2, rfl⟩, by decide⟩, (in_t7 180 rfl rfl), (in_s7 5 61 rfl rfl), ⟨(RX11, TX11, 61), rfl, rfl⟩⟩
abbrev YX11_least : MRec := (yX11_least, cX11_least, 6, (some .int))
set_option maxRecDepth 100000 in
theorem miX11_least : MI YX11_least 1 11 := ⟨⟨(in_t7 177 rfl rfl), ini_X11, pl_X11, ⟨nh_X11.1, nh_X11.2, rfl⟩, by decide⟩, (in_t7 175 rfl rfl), (in_t7 176 rfl rfl), ⟨(RX11, TX11, 61), rfl, rfl⟩⟩
abbrev YX11_findWhen : MRec := (yX11_findWhen, cX11_findWhen, 5, (some .boolean))
set_option maxRecDepth 100000 in
theorem miX11_findWhen : MI YX11_findWhen 3 11 := ⟨⟨(in_t7 189 rfl rfl), ini_X11, pl_X11, ⟨nh_X11.1, nh_X11.2, rfl⟩, by decide⟩, (in_t7 188 rfl rfl), (in_s7 6 61 rfl rfl), ⟨(RX11, TX11, 61), rfl, rfl⟩⟩
abbrev YX11_late : MRec := (yX11_late, cX11_late, 8, (some .int))
set_option maxRecDepth 100000 in
theorem miX11_late : MI YX11_late 2 11 := ⟨⟨(in_t7 185 rfl rfl), ini_X11, pl_X11, ⟨nh_X11.1, nh_X11.2, rfl⟩, by decide⟩, (in_t7 183 rfl rfl), (in_t7 184 rfl rfl), ⟨(RX11, TX11, 61), rfl, rfl⟩⟩
abbrev YX11_slack : MRec := (yX11_slack, cX11_slack, 6, (some .int))
set_option maxRecDepth 100000 in
theorem miX11_slack : MI YX11_slack 1 11 := ⟨⟨(in_t7 193 rfl rfl), ini_X11, pl_X11, ⟨nh_X11.1, nh_X11.2, rfl⟩, by decide⟩, (in_t7 191 rfl rfl), (in_t7 192 rfl rfl), ⟨(RX11, TX11, 61), rfl, rfl⟩⟩
abbrev YX11_dies : MRec := (yX11_dies, cX11_dies, 8, (some .int))
set_option maxRecDepth 100000 in
theorem miX11_dies : MI YX11_dies 3 11 := ⟨⟨(in_t7 197 rfl rfl), ini_X11, pl_X11, ⟨nh_X11.1, nh_X11.2, rfl⟩, by decide⟩, (in_t7 195 rfl rfl), (in_t7 196 rfl rfl), ⟨(RX11, TX11, 61), rfl, rfl⟩⟩
abbrev YX11_canJoin : MRec := (yX11_canJoin, cX11_canJoin, 3, (some .boolean))
set_option maxRecDepth 100000 in
theorem miX11_canJoin : MI YX11_canJoin 2 11 := ⟨⟨(in_t7 205 rfl rfl), ini_X11, pl_X11, ⟨nh_X11.1, nh_X11.2, rfl⟩, by decide⟩, (in_t7 204 rfl rfl), (in_s7 7 61 rfl rfl), ⟨(RX11, TX11, 61), rfl, rfl⟩⟩
abbrev YX11_lossOf : MRec := (yX11_lossOf, cX11_lossOf, 6, (some .int))
set_option maxRecDepth 100000 in
theorem miX11_lossOf : MI YX11_lossOf 2 11 := ⟨⟨(in_t7 209 rfl rfl), ini_X11, pl_X11, ⟨nh_X11.1, nh_X11.2, rfl⟩, by decide⟩, (in_t7 208 rfl rfl), (in_s7 8 61 rfl rfl), ⟨(RX11, TX11, 61), rfl, rfl⟩⟩
abbrev YX11_loss : MRec := (yX11_loss, cX11_loss, 3, (some .int))
set_option maxRecDepth 100000 in
theorem miX11_loss : MI YX11_loss 2 11 := ⟨⟨(in_t7 201 rfl rfl), ini_X11, pl_X11, ⟨nh_X11.1, nh_X11.2, rfl⟩, by decide⟩, (in_t7 199 rfl rfl), (in_t7 200 rfl rfl), ⟨(RX11, TX11, 61), rfl, rfl⟩⟩
abbrev YX11_goPairs : MRec := (yX11_goPairs, cX11_goPairs, 5, none)
set_option maxRecDepth 100000 in
theorem miX11_goPairs : MI YX11_goPairs 3 11 := ⟨⟨(in_t7 217 rfl rfl), ini_X11, pl_X11, ⟨nh_X11.1, nh_X11.2, rfl⟩, by decide⟩, (in_t7 216 rfl rfl), (in_s7 9 61 rfl rfl), ⟨(RX11, TX11, 61), rfl, rfl⟩⟩
abbrev YX11_pairs : MRec := (yX11_pairs, cX11_pairs, 2, (some .int))
set_option maxRecDepth 100000 in
theorem miX11_pairs : MI YX11_pairs 0 11 := ⟨⟨(in_t7 213 rfl rfl), ini_X11, pl_X11, ⟨nh_X11.1, nh_X11.2, rfl⟩, by decide⟩, (in_t7 211 rfl rfl), (in_t7 212 rfl rfl), ⟨(RX11, TX11, 61), rfl, rfl⟩⟩
abbrev YX11_brief : MRec := (yX11_brief, cX11_brief, 8, (some .int))
set_option maxRecDepth 100000 in
theorem miX11_brief : MI YX11_brief 1 11 := ⟨⟨(in_t7 221 rfl rfl), ini_X11, pl_X11, ⟨nh_X11.1, nh_X11.2, rfl⟩, by decide⟩, (in_t7 219 rfl rfl), (in_t7 220 rfl rfl), ⟨(RX11, TX11, 61), rfl, rfl⟩⟩
abbrev YX11_heard : MRec := (yX11_heard, cX11_heard, 4, (some .int))
set_option maxRecDepth 100000 in
theorem miX11_heard : MI YX11_heard 3 11 := ⟨⟨(in_t7 225 rfl rfl), ini_X11, pl_X11, ⟨nh_X11.1, nh_X11.2, rfl⟩, by decide⟩, (in_t7 223 rfl rfl), (in_t7 224 rfl rfl), ⟨(RX11, TX11, 61), rfl, rfl⟩⟩
abbrev YX11_forget : MRec := (yX11_forget, cX11_forget, 2, (some .int))
set_option maxRecDepth 100000 in
theorem miX11_forget : MI YX11_forget 0 11 := ⟨⟨(in_t7 229 rfl rfl), ini_X11, pl_X11, ⟨nh_X11.1, nh_X11.2, rfl⟩, by decide⟩, (in_t7 227 rfl rfl), (in_t7 228 rfl rfl), ⟨(RX11, TX11, 61), rfl, rfl⟩⟩
abbrev YX11_isHeard : MRec := (yX11_isHeard, cX11_isHeard, 5, (some .boolean))
set_option maxRecDepth 100000 in
theorem miX11_isHeard : MI YX11_isHeard 2 11 := ⟨⟨(in_t8 5 rfl rfl), ini_X11, pl_X11, ⟨nh_X11.1, nh_X11.2, rfl⟩, by decide⟩, (in_t8 4 rfl rfl), (in_s7 12 61 rfl rfl), ⟨(RX11, TX11, 61), rfl, rfl⟩⟩
abbrev YX11_isOrderHeard : MRec := (yX11_isOrderHeard, cX11_isOrderHeard, 5, (some .boolean))
set_option maxRecDepth 100000 in
theorem miX11_isOrderHeard : MI YX11_isOrderHeard 0 11 := ⟨⟨(in_t8 1 rfl rfl), ini_X11, pl_X11, ⟨nh_X11.1, nh_X11.2, rfl⟩, by decide⟩, (in_t8 0 rfl rfl), (in_s7 11 61 rfl rfl), ⟨(RX11, TX11, 61), rfl, rfl⟩⟩
abbrev YX11_findFits : MRec := (yX11_findFits, cX11_findFits, 4, none)
set_option maxRecDepth 100000 in
theorem miX11_findFits : MI YX11_findFits 1 11 := ⟨⟨(in_t7 237 rfl rfl), ini_X11, pl_X11, ⟨nh_X11.1, nh_X11.2, rfl⟩, by decide⟩, (in_t7 236 rfl rfl), (in_s7 10 61 rfl rfl), ⟨(RX11, TX11, 61), rfl, rfl⟩⟩
abbrev YX11_fits : MRec := (yX11_fits, cX11_fits, 3, (some .int))
set_option maxRecDepth 100000 in
theorem miX11_fits : MI YX11_fits 1 11 := ⟨⟨(in_t7 233 rfl rfl), ini_X11, pl_X11, ⟨nh_X11.1, nh_X11.2, rfl⟩, by decide⟩, (in_t7 231 rfl rfl), (in_t7 232 rfl rfl), ⟨(RX11, TX11, 61), rfl, rfl⟩⟩
abbrev YX11_began : MRec := (yX11_began, cX11_began, 2, (some .int))
set_option maxRecDepth 100000 in
theorem miX11_began : MI YX11_began 1 11 := ⟨⟨(in_t8 9 rfl rfl), ini_X11, pl_X11, ⟨nh_X11.1, nh_X11.2, rfl⟩, by decide⟩, (in_t8 7 rfl rfl), (in_t8 8 rfl rfl), ⟨(RX11, TX11, 61), rfl, rfl⟩⟩
abbrev YX11_draw : MRec := (yX11_draw, cX11_draw, 2, (some .int))
set_option maxRecDepth 100000 in
theorem miX11_draw : MI YX11_draw 1 11 := ⟨⟨(in_t8 21 rfl rfl), ini_X11, pl_X11, ⟨nh_X11.1, nh_X11.2, rfl⟩, by decide⟩, (in_t8 20 rfl rfl), (in_s7 14 61 rfl rfl), ⟨(RX11, TX11, 61), rfl, rfl⟩⟩
abbrev YJ6_numberOfTrailingZeros_0f7a4 : MRec := (yJ6_numberOfTrailingZeros_0f7a4, cJ6_numberOfTrailingZeros_0f7a4, 2, (some .int))
set_option maxRecDepth 100000 in
theorem msJ6_numberOfTrailingZeros_0f7a4 : MS YJ6_numberOfTrailingZeros_0f7a4 1 := ⟨⟨(in_t8 25 rfl rfl), ini_J6, pl_J6, ⟨nh_J6.1, nh_J6.2, rfl⟩, by decide⟩, (in_t8 24 rfl rfl)⟩
abbrev YX11_drawOrder : MRec := (yX11_drawOrder, cX11_drawOrder, 6, none)
set_option maxRecDepth 100000 in
theorem miX11_drawOrder : MI YX11_drawOrder 1 11 := ⟨⟨(in_t8 17 rfl rfl), ini_X11, pl_X11, ⟨nh_X11.1, nh_X11.2, rfl⟩, by decide⟩, (in_t8 16 rfl rfl), (in_s7 13 61 rfl rfl), ⟨(RX11, TX11, 61), rfl, rfl⟩⟩
abbrev YX11_season : MRec := (yX11_season, cX11_season, 10, (some .int))
set_option maxRecDepth 100000 in
theorem miX11_season : MI YX11_season 3 11 := ⟨⟨(in_t8 13 rfl rfl), ini_X11, pl_X11, ⟨nh_X11.1, nh_X11.2, rfl⟩, by decide⟩, (in_t8 11 rfl rfl), (in_t8 12 rfl rfl), ⟨(RX11, TX11, 61), rfl, rfl⟩⟩
abbrev YX11_keep : MRec := (yX11_keep, cX11_keep, 2, (some .boolean))
set_option maxRecDepth 100000 in
theorem miX11_keep : MI YX11_keep 1 11 := ⟨⟨(in_t8 30 rfl rfl), ini_X11, pl_X11, ⟨nh_X11.1, nh_X11.2, rfl⟩, by decide⟩, (in_t8 28 rfl rfl), (in_t8 29 rfl rfl), ⟨(RX11, TX11, 61), rfl, rfl⟩⟩
abbrev YX11_again : MRec := (yX11_again, cX11_again, 3, (some .boolean))
set_option maxRecDepth 100000 in
theorem miX11_again : MI YX11_again 1 11 := ⟨⟨(in_t8 34 rfl rfl), ini_X11, pl_X11, ⟨nh_X11.1, nh_X11.2, rfl⟩, by decide⟩, (in_t8 32 rfl rfl), (in_t8 33 rfl rfl), ⟨(RX11, TX11, 61), rfl, rfl⟩⟩
abbrev YX11_count : MRec := (yX11_count, cX11_count, 4, (some .int))
set_option maxRecDepth 100000 in
theorem miX11_count : MI YX11_count 1 11 := ⟨⟨(in_t8 38 rfl rfl), ini_X11, pl_X11, ⟨nh_X11.1, nh_X11.2, rfl⟩, by decide⟩, (in_t8 36 rfl rfl), (in_t8 37 rfl rfl), ⟨(RX11, TX11, 61), rfl, rfl⟩⟩
abbrev YX11_row : MRec := (yX11_row, cX11_row, 2, (some .int))
set_option maxRecDepth 100000 in
theorem miX11_row : MI YX11_row 1 11 := ⟨⟨(in_t8 42 rfl rfl), ini_X11, pl_X11, ⟨nh_X11.1, nh_X11.2, rfl⟩, by decide⟩, (in_t8 40 rfl rfl), (in_t8 41 rfl rfl), ⟨(RX11, TX11, 61), rfl, rfl⟩⟩
