set_option maxRecDepth 100000 in
theorem fl_X10_158 : FR RX10 158 1 3 := ⟨⟨(RX1, TX1, 11), rfl, by decide, (in_t1 120 rfl rfl)⟩, rfl⟩
set_option maxRecDepth 100000 in
theorem fl_X10_161 : FR RX10 161 1 4 := ⟨⟨(RX1, TX1, 11), rfl, by decide, (in_t1 124 rfl rfl)⟩, rfl⟩
set_option maxRecDepth 100000 in
theorem fl_X10_164 : FR RX10 164 1 5 := ⟨⟨(RX1, TX1, 11), rfl, by decide, (in_t1 128 rfl rfl)⟩, rfl⟩
set_option maxRecDepth 100000 in
theorem lk_X10_191 : Cond.methodLink RX10 191 yX7_bitsIn ∈ wsA := in_t5 130 rfl rfl
abbrev YX10_group : MRec := (yX10_group, cX10_group, 3, (some .int))
set_option maxRecDepth 100000 in
theorem miX10_group : MI YX10_group 2 10 := ⟨⟨(in_t5 61 rfl rfl), ini_X10, pl_X10, ⟨nh_X10.1, nh_X10.2, rfl⟩, by decide⟩, (in_t5 59 rfl rfl), (in_t5 60 rfl rfl), ⟨(RX10, TX10, 17), rfl, rfl⟩⟩
theorem dX10_group_0 : decode cX10_group 0 = .ok (.aload_n 0, 1) := by decide +kernel
theorem dX10_group_1 : decode cX10_group 1 = .ok (.getfield 19, 3) := by decide +kernel
theorem dX10_group_4 : decode cX10_group 4 = .ok (.iload_n 1, 1) := by decide +kernel
theorem dX10_group_5 : decode cX10_group 5 = .ok (.invokevirtual 152, 3) := by decide +kernel
theorem dX10_group_8 : decode cX10_group 8 = .ok (.ifCond .eq 13, 3) := by decide +kernel
theorem dX10_group_11 : decode cX10_group 11 = .ok (.iload_n 2, 1) := by decide +kernel
theorem dX10_group_12 : decode cX10_group 12 = .ok (.ifCond .lt 9, 3) := by decide +kernel
theorem dX10_group_15 : decode cX10_group 15 = .ok (.iload_n 2, 1) := by decide +kernel
theorem dX10_group_16 : decode cX10_group 16 = .ok (.bipush 8, 2) := by decide +kernel
theorem dX10_group_18 : decode cX10_group 18 = .ok (.if_icmp .le 11, 3) := by decide +kernel
theorem dX10_group_21 : decode cX10_group 21 = .ok (.new 155, 3) := by decide +kernel
theorem dX10_group_24 : decode cX10_group 24 = .ok (.dup, 1) := by decide +kernel
theorem dX10_group_25 : decode cX10_group 25 = .ok (.invokespecial 157, 3) := by decide +kernel
theorem dX10_group_28 : decode cX10_group 28 = .ok (.athrow, 1) := by decide +kernel
theorem dX10_group_29 : decode cX10_group 29 = .ok (.iload_n 2, 1) := by decide +kernel
theorem dX10_group_30 : decode cX10_group 30 = .ok (.tableswitch 126 0 7 #[46, 56, 66, 76, 86, 96, 106, 116], 46) := by decide +kernel
theorem dX10_group_76 : decode cX10_group 76 = .ok (.aload_n 0, 1) := by decide +kernel
theorem dX10_group_77 : decode cX10_group 77 = .ok (.getfield 19, 3) := by decide +kernel
theorem dX10_group_80 : decode cX10_group 80 = .ok (.getfield 158, 3) := by decide +kernel
theorem dX10_group_83 : decode cX10_group 83 = .ok (.iload_n 1, 1) := by decide +kernel
theorem dX10_group_84 : decode cX10_group 84 = .ok (.iaload, 1) := by decide +kernel
theorem dX10_group_85 : decode cX10_group 85 = .ok (.ireturn, 1) := by decide +kernel
theorem dX10_group_86 : decode cX10_group 86 = .ok (.aload_n 0, 1) := by decide +kernel
theorem dX10_group_87 : decode cX10_group 87 = .ok (.getfield 19, 3) := by decide +kernel
theorem dX10_group_90 : decode cX10_group 90 = .ok (.getfield 161, 3) := by decide +kernel
theorem dX10_group_93 : decode cX10_group 93 = .ok (.iload_n 1, 1) := by decide +kernel
theorem dX10_group_94 : decode cX10_group 94 = .ok (.iaload, 1) := by decide +kernel
theorem dX10_group_95 : decode cX10_group 95 = .ok (.ireturn, 1) := by decide +kernel
theorem dX10_group_96 : decode cX10_group 96 = .ok (.aload_n 0, 1) := by decide +kernel
theorem dX10_group_97 : decode cX10_group 97 = .ok (.getfield 19, 3) := by decide +kernel
theorem dX10_group_100 : decode cX10_group 100 = .ok (.getfield 164, 3) := by decide +kernel
theorem dX10_group_103 : decode cX10_group 103 = .ok (.iload_n 1, 1) := by decide +kernel
theorem dX10_group_104 : decode cX10_group 104 = .ok (.iaload, 1) := by decide +kernel
theorem dX10_group_105 : decode cX10_group 105 = .ok (.ireturn, 1) := by decide +kernel
theorem dX10_group_106 : decode cX10_group 106 = .ok (.aload_n 0, 1) := by decide +kernel
theorem dX10_group_107 : decode cX10_group 107 = .ok (.getfield 19, 3) := by decide +kernel
theorem dX10_group_110 : decode cX10_group 110 = .ok (.getfield 167, 3) := by decide +kernel
theorem dX10_group_113 : decode cX10_group 113 = .ok (.iload_n 1, 1) := by decide +kernel
theorem dX10_group_114 : decode cX10_group 114 = .ok (.iaload, 1) := by decide +kernel
theorem dX10_group_115 : decode cX10_group 115 = .ok (.ireturn, 1) := by decide +kernel
theorem dX10_group_116 : decode cX10_group 116 = .ok (.aload_n 0, 1) := by decide +kernel
theorem dX10_group_117 : decode cX10_group 117 = .ok (.getfield 35, 3) := by decide +kernel
theorem dX10_group_120 : decode cX10_group 120 = .ok (.getfield 170, 3) := by decide +kernel
theorem dX10_group_123 : decode cX10_group 123 = .ok (.iload_n 1, 1) := by decide +kernel
theorem dX10_group_124 : decode cX10_group 124 = .ok (.iaload, 1) := by decide +kernel
theorem dX10_group_125 : decode cX10_group 125 = .ok (.ireturn, 1) := by decide +kernel
theorem dX10_group_126 : decode cX10_group 126 = .ok (.aload_n 0, 1) := by decide +kernel
theorem dX10_group_127 : decode cX10_group 127 = .ok (.getfield 35, 3) := by decide +kernel
theorem dX10_group_130 : decode cX10_group 130 = .ok (.getfield 173, 3) := by decide +kernel
theorem dX10_group_133 : decode cX10_group 133 = .ok (.iload_n 1, 1) := by decide +kernel
theorem dX10_group_134 : decode cX10_group 134 = .ok (.iaload, 1) := by decide +kernel
theorem dX10_group_135 : decode cX10_group 135 = .ok (.ireturn, 1) := by decide +kernel
theorem dX10_group_136 : decode cX10_group 136 = .ok (.aload_n 0, 1) := by decide +kernel
theorem dX10_group_137 : decode cX10_group 137 = .ok (.getfield 35, 3) := by decide +kernel
theorem dX10_group_140 : decode cX10_group 140 = .ok (.getfield 176, 3) := by decide +kernel
theorem dX10_group_143 : decode cX10_group 143 = .ok (.iload_n 1, 1) := by decide +kernel
theorem dX10_group_144 : decode cX10_group 144 = .ok (.iaload, 1) := by decide +kernel
theorem dX10_group_145 : decode cX10_group 145 = .ok (.ireturn, 1) := by decide +kernel
theorem dX10_group_146 : decode cX10_group 146 = .ok (.aload_n 0, 1) := by decide +kernel
theorem dX10_group_147 : decode cX10_group 147 = .ok (.getfield 35, 3) := by decide +kernel
theorem dX10_group_150 : decode cX10_group 150 = .ok (.getfield 179, 3) := by decide +kernel
theorem dX10_group_153 : decode cX10_group 153 = .ok (.iload_n 1, 1) := by decide +kernel
theorem dX10_group_154 : decode cX10_group 154 = .ok (.iaload, 1) := by decide +kernel
theorem dX10_group_155 : decode cX10_group 155 = .ok (.ireturn, 1) := by decide +kernel
theorem dX10_group_156 : decode cX10_group 156 = .ok (.aload_n 0, 1) := by decide +kernel
theorem dX10_group_157 : decode cX10_group 157 = .ok (.getfield 19, 3) := by decide +kernel
theorem dX10_group_160 : decode cX10_group 160 = .ok (.getfield 182, 3) := by decide +kernel
theorem dX10_group_163 : decode cX10_group 163 = .ok (.iload_n 1, 1) := by decide +kernel
theorem dX10_group_164 : decode cX10_group 164 = .ok (.iaload, 1) := by decide +kernel
theorem dX10_group_165 : decode cX10_group 165 = .ok (.ireturn, 1) := by decide +kernel
section NXG
variable {l : Launch} {D : va_G} {cy : Nat → ClassId} {ad : Nat → Nat} {dT : Nat} {X : Mm}
def f_X10_group_21  (M : Mem) : Option (Option Int32 × Mem) :=
  some (none, M)
set_option maxRecDepth 100000 in
theorem w_X10_group_21 {P : Option Int32} {M' : Mem}  (M : Mem) (hF : f_X10_group_21  M = some (P, M')) : RunG l D cy ad none YX10_group (rmD 6 1 6) (QX l D cy ad P (lay X M')) 0 0 21 [] [] (lay X M) := by
  unfold f_X10_group_21 at hF
  exact y_throw (Y := YX10_group) (pc := 21) rfl dX10_group_21 dX10_group_24 dX10_group_25 dX10_group_28 (Nat.le_of_ble_eq_true rfl) hF
def f_X10_group_0  (x1 : Int32) (x2 : Int32) (M : Mem) : Option (Option Int32 × Mem) :=
  bd (f_X1_hasGroup x1 M) fun r1 M2 =>
  if r1 = 0 then
    f_X10_group_21 M2
  else
    if x2 < 0 then
      f_X10_group_21 M2
    else
      if 8 < x2 then
        f_X10_group_21 M2
      else
        if x2 = 0 then
          gd (0 ≤ x1 ∧ x1.toNatClampNeg < 6) <|
          some (some (M2 4 x1.toNatClampNeg), M2)
        else
          if x2 = 1 then
            gd (0 ≤ x1 ∧ x1.toNatClampNeg < 6) <|
            some (some (M2 5 x1.toNatClampNeg), M2)
          else
            if x2 = 2 then
              gd (0 ≤ x1 ∧ x1.toNatClampNeg < 6) <|
              some (some (M2 6 x1.toNatClampNeg), M2)
            else
              if x2 = 3 then
                gd (0 ≤ x1 ∧ x1.toNatClampNeg < 6) <|
                some (some (M2 7 x1.toNatClampNeg), M2)
              else
                if x2 = 4 then
                  gd (0 ≤ x1 ∧ x1.toNatClampNeg < 6) <|
                  some (some (M2 27 x1.toNatClampNeg), M2)
                else
                  if x2 = 5 then
                    gd (0 ≤ x1 ∧ x1.toNatClampNeg < 6) <|
                    some (some (M2 28 x1.toNatClampNeg), M2)
                  else
                    if x2 = 6 then
                      gd (0 ≤ x1 ∧ x1.toNatClampNeg < 6) <|
                      some (some (M2 29 x1.toNatClampNeg), M2)
                    else
                      if x2 = 7 then
                        gd (0 ≤ x1 ∧ x1.toNatClampNeg < 6) <|
                        some (some (M2 30 x1.toNatClampNeg), M2)
                      else
                        gd (0 ≤ x1 ∧ x1.toNatClampNeg < 6) <|
                        some (some (M2 8 x1.toNatClampNeg), M2)
set_option maxRecDepth 100000 in
theorem w_X10_group_0 {P : Option Int32} {M' : Mem}  (x1 x2 : Int32) (M : Mem) (hF : f_X10_group_0 x1 x2 M = some (P, M')) : RunG l D cy ad none YX10_group (rmD 6 1 6) (QX l D cy ad P (lay X M')) 0 0 0 [(0, .ref 0), (1, .int x1), (2, .int x2)] [] (lay X M) := by
  unfold f_X10_group_0 at hF
  refine g_aload_n (Y := YX10_group) (pc := 0) 0 dX10_group_0 rfl ?_
  refine s_getR (Y := YX10_group) (pc := 1) (j := 3) dX10_group_1 fl_X10_19.1 fl_X10_19.2 k_0 rf_0_1 ?_
  refine g_iload_n (Y := YX10_group) (pc := 4) 1 dX10_group_4 rfl ?_
  obtain ⟨r1, M2, e3, hF⟩ := bd_some hF
  refine z_callVi (Y := YX10_group) (pc := 5) (as := [.int x1]) (st := []) (r_X1_hasGroup  e3) miX1_hasGroup lk_X10_152 dX10_group_5 k_3 rfl (Nat.le_of_ble_eq_true rfl) (Nat.le_of_ble_eq_true rfl) rfl ?_
  clear e3
  refine g_if_eq (Y := YX10_group) (pc := 8) (tgt := 21) dX10_group_8 rfl (fun c4 => ?_) (fun c4 => ?_)
  · replace hF := if_t c4 hF
    refine g_loc [] rfl ?_
    exact w_X10_group_21  _ hF
  · replace hF := if_f c4 hF
    refine g_iload_n (Y := YX10_group) (pc := 11) 2 dX10_group_11 rfl ?_
    refine g_if_lt (Y := YX10_group) (pc := 12) (tgt := 21) dX10_group_12 rfl (fun c5 => ?_) (fun c5 => ?_)
    · replace hF := if_t c5 hF
      refine g_loc [] rfl ?_
      exact w_X10_group_21  _ hF
    · replace hF := if_f c5 hF
      refine g_iload_n (Y := YX10_group) (pc := 15) 2 dX10_group_15 rfl ?_
      refine g_bipush (Y := YX10_group) (pc := 16) dX10_group_16 kB_8 ?_
      refine g_icmp_le (Y := YX10_group) (pc := 18) (tgt := 29) dX10_group_18 rfl (fun c6 => ?_) (fun c6 => ?_)
      · replace hF := if_f c6 hF
        refine g_iload_n (Y := YX10_group) (pc := 29) 2 dX10_group_29 rfl ?_
        by_cases c7 : x2 = 0
        · replace hF := if_t c7 hF
          refine g_tableIn (Y := YX10_group) (pc := 30) (tgt := 76) dX10_group_30 (by rw [c7]; decide) (by rw [c7]; decide) (off := 46) (by rw [c7]; decide) (by decide) ?_
          refine g_aload_n (Y := YX10_group) (pc := 76) 0 dX10_group_76 rfl ?_
          refine s_getR (Y := YX10_group) (pc := 77) (j := 3) dX10_group_77 fl_X10_19.1 fl_X10_19.2 k_0 rf_0_1 ?_
          refine s_getR (Y := YX10_group) (pc := 80) (j := 4) dX10_group_80 fl_X10_158.1 fl_X10_158.2 k_3 rf_3_3 ?_
          refine g_iload_n (Y := YX10_group) (pc := 83) 1 dX10_group_83 rfl ?_
          obtain ⟨g8, hF⟩ := gd_some hF
          refine s_iald (Y := YX10_group) (pc := 84) dX10_group_84 k_4 n_4 g8 ?_
          exact y_iret (Y := YX10_group) (pc := 85) dX10_group_85 rfl hF
        replace hF := if_f c7 hF
        by_cases c9 : x2 = 1
        · replace hF := if_t c9 hF
          refine g_tableIn (Y := YX10_group) (pc := 30) (tgt := 86) dX10_group_30 (by rw [c9]; decide) (by rw [c9]; decide) (off := 56) (by rw [c9]; decide) (by decide) ?_
          refine g_aload_n (Y := YX10_group) (pc := 86) 0 dX10_group_86 rfl ?_
          refine s_getR (Y := YX10_group) (pc := 87) (j := 3) dX10_group_87 fl_X10_19.1 fl_X10_19.2 k_0 rf_0_1 ?_
          refine s_getR (Y := YX10_group) (pc := 90) (j := 5) dX10_group_90 fl_X10_161.1 fl_X10_161.2 k_3 rf_3_4 ?_
          refine g_iload_n (Y := YX10_group) (pc := 93) 1 dX10_group_93 rfl ?_
          obtain ⟨g10, hF⟩ := gd_some hF
          refine s_iald (Y := YX10_group) (pc := 94) dX10_group_94 k_5 n_5 g10 ?_
          exact y_iret (Y := YX10_group) (pc := 95) dX10_group_95 rfl hF
        replace hF := if_f c9 hF
        by_cases c11 : x2 = 2
        · replace hF := if_t c11 hF
          refine g_tableIn (Y := YX10_group) (pc := 30) (tgt := 96) dX10_group_30 (by rw [c11]; decide) (by rw [c11]; decide) (off := 66) (by rw [c11]; decide) (by decide) ?_
          refine g_aload_n (Y := YX10_group) (pc := 96) 0 dX10_group_96 rfl ?_
          refine s_getR (Y := YX10_group) (pc := 97) (j := 3) dX10_group_97 fl_X10_19.1 fl_X10_19.2 k_0 rf_0_1 ?_
          refine s_getR (Y := YX10_group) (pc := 100) (j := 6) dX10_group_100 fl_X10_164.1 fl_X10_164.2 k_3 rf_3_5 ?_
          refine g_iload_n (Y := YX10_group) (pc := 103) 1 dX10_group_103 rfl ?_
          obtain ⟨g12, hF⟩ := gd_some hF
          refine s_iald (Y := YX10_group) (pc := 104) dX10_group_104 k_6 n_6 g12 ?_
          exact y_iret (Y := YX10_group) (pc := 105) dX10_group_105 rfl hF
        replace hF := if_f c11 hF
        by_cases c13 : x2 = 3
        · replace hF := if_t c13 hF
          refine g_tableIn (Y := YX10_group) (pc := 30) (tgt := 106) dX10_group_30 (by rw [c13]; decide) (by rw [c13]; decide) (off := 76) (by rw [c13]; decide) (by decide) ?_
          refine g_aload_n (Y := YX10_group) (pc := 106) 0 dX10_group_106 rfl ?_
          refine s_getR (Y := YX10_group) (pc := 107) (j := 3) dX10_group_107 fl_X10_19.1 fl_X10_19.2 k_0 rf_0_1 ?_
          refine s_getR (Y := YX10_group) (pc := 110) (j := 7) dX10_group_110 fl_X10_167.1 fl_X10_167.2 k_3 rf_3_6 ?_
          refine g_iload_n (Y := YX10_group) (pc := 113) 1 dX10_group_113 rfl ?_
          obtain ⟨g14, hF⟩ := gd_some hF
          refine s_iald (Y := YX10_group) (pc := 114) dX10_group_114 k_7 n_7 g14 ?_
          exact y_iret (Y := YX10_group) (pc := 115) dX10_group_115 rfl hF
        replace hF := if_f c13 hF
        by_cases c15 : x2 = 4
        · replace hF := if_t c15 hF
          refine g_tableIn (Y := YX10_group) (pc := 30) (tgt := 116) dX10_group_30 (by rw [c15]; decide) (by rw [c15]; decide) (off := 86) (by rw [c15]; decide) (by decide) ?_
          refine g_aload_n (Y := YX10_group) (pc := 116) 0 dX10_group_116 rfl ?_
          refine s_getR (Y := YX10_group) (pc := 117) (j := 26) dX10_group_117 fl_X10_35.1 fl_X10_35.2 k_0 rf_0_3 ?_
          refine s_getR (Y := YX10_group) (pc := 120) (j := 27) dX10_group_120 fl_X10_170.1 fl_X10_170.2 k_26 (st_r4 isSt_26) ?_
          refine g_iload_n (Y := YX10_group) (pc := 123) 1 dX10_group_123 rfl ?_
          obtain ⟨g16, hF⟩ := gd_some hF
          refine s_iald (Y := YX10_group) (pc := 124) dX10_group_124 k_27 n_27 g16 ?_
          exact y_iret (Y := YX10_group) (pc := 125) dX10_group_125 rfl hF
        replace hF := if_f c15 hF
        by_cases c17 : x2 = 5
        · replace hF := if_t c17 hF
          refine g_tableIn (Y := YX10_group) (pc := 30) (tgt := 126) dX10_group_30 (by rw [c17]; decide) (by rw [c17]; decide) (off := 96) (by rw [c17]; decide) (by decide) ?_
          refine g_aload_n (Y := YX10_group) (pc := 126) 0 dX10_group_126 rfl ?_
          refine s_getR (Y := YX10_group) (pc := 127) (j := 26) dX10_group_127 fl_X10_35.1 fl_X10_35.2 k_0 rf_0_3 ?_
          refine s_getR (Y := YX10_group) (pc := 130) (j := 28) dX10_group_130 fl_X10_173.1 fl_X10_173.2 k_26 (st_r5 isSt_26) ?_
          refine g_iload_n (Y := YX10_group) (pc := 133) 1 dX10_group_133 rfl ?_
          obtain ⟨g18, hF⟩ := gd_some hF
          refine s_iald (Y := YX10_group) (pc := 134) dX10_group_134 k_28 n_28 g18 ?_
          exact y_iret (Y := YX10_group) (pc := 135) dX10_group_135 rfl hF
        replace hF := if_f c17 hF
        by_cases c19 : x2 = 6
        · replace hF := if_t c19 hF
          refine g_tableIn (Y := YX10_group) (pc := 30) (tgt := 136) dX10_group_30 (by rw [c19]; decide) (by rw [c19]; decide) (off := 106) (by rw [c19]; decide) (by decide) ?_
          refine g_aload_n (Y := YX10_group) (pc := 136) 0 dX10_group_136 rfl ?_
          refine s_getR (Y := YX10_group) (pc := 137) (j := 26) dX10_group_137 fl_X10_35.1 fl_X10_35.2 k_0 rf_0_3 ?_
          refine s_getR (Y := YX10_group) (pc := 140) (j := 29) dX10_group_140 fl_X10_176.1 fl_X10_176.2 k_26 (st_r6 isSt_26) ?_
          refine g_iload_n (Y := YX10_group) (pc := 143) 1 dX10_group_143 rfl ?_
          obtain ⟨g20, hF⟩ := gd_some hF
          refine s_iald (Y := YX10_group) (pc := 144) dX10_group_144 k_29 n_29 g20 ?_
          exact y_iret (Y := YX10_group) (pc := 145) dX10_group_145 rfl hF
        replace hF := if_f c19 hF
        by_cases c21 : x2 = 7
        · replace hF := if_t c21 hF
          refine g_tableIn (Y := YX10_group) (pc := 30) (tgt := 146) dX10_group_30 (by rw [c21]; decide) (by rw [c21]; decide) (off := 116) (by rw [c21]; decide) (by decide) ?_
          refine g_aload_n (Y := YX10_group) (pc := 146) 0 dX10_group_146 rfl ?_
          refine s_getR (Y := YX10_group) (pc := 147) (j := 26) dX10_group_147 fl_X10_35.1 fl_X10_35.2 k_0 rf_0_3 ?_
          refine s_getR (Y := YX10_group) (pc := 150) (j := 30) dX10_group_150 fl_X10_179.1 fl_X10_179.2 k_26 (st_r7 isSt_26) ?_
          refine g_iload_n (Y := YX10_group) (pc := 153) 1 dX10_group_153 rfl ?_
          obtain ⟨g22, hF⟩ := gd_some hF
          refine s_iald (Y := YX10_group) (pc := 154) dX10_group_154 k_30 n_30 g22 ?_
          exact y_iret (Y := YX10_group) (pc := 155) dX10_group_155 rfl hF
        replace hF := if_f c21 hF
        refine g_tableOut (Y := YX10_group) (pc := 30) (tgt := 156) dX10_group_30 (tb_out (lo := 0) (hi := 7) (by decide) (fun k h8 hk => by match k, h8, hk with | 0, _, _ => exact c7 | 1, _, _ => exact c9 | 2, _, _ => exact c11 | 3, _, _ => exact c13 | 4, _, _ => exact c15 | 5, _, _ => exact c17 | 6, _, _ => exact c19 | 7, _, _ => exact c21 | k + 8, _, h9 => exact absurd h9 (by omega))) (by decide) ?_
        refine g_aload_n (Y := YX10_group) (pc := 156) 0 dX10_group_156 rfl ?_
        refine s_getR (Y := YX10_group) (pc := 157) (j := 3) dX10_group_157 fl_X10_19.1 fl_X10_19.2 k_0 rf_0_1 ?_
        refine s_getR (Y := YX10_group) (pc := 160) (j := 8) dX10_group_160 fl_X10_182.1 fl_X10_182.2 k_3 rf_3_7 ?_
        refine g_iload_n (Y := YX10_group) (pc := 163) 1 dX10_group_163 rfl ?_
        obtain ⟨g23, hF⟩ := gd_some hF
        refine s_iald (Y := YX10_group) (pc := 164) dX10_group_164 k_8 n_8 g23 ?_
        exact y_iret (Y := YX10_group) (pc := 165) dX10_group_165 rfl hF
      · replace hF := if_t c6 hF
        refine g_loc [] rfl ?_
        exact w_X10_group_21  _ hF
def f_X10_group (x1 : Int32) (x2 : Int32) (M : Mem) : Option (Option Int32 × Mem) := f_X10_group_0 x1 x2 M
theorem r_X10_group {P : Option Int32} {x1 x2 : Int32} {M M' : Mem}  (hF : f_X10_group x1 x2 M = some (P, M')) : RunX l D cy ad YX10_group 6 [.ref 0, .int x1, .int x2] (lay X M) P (lay X M') := RunX.of 2 (miX10_group).1 (Nat.le_of_ble_eq_true rfl) (w_X10_group_0  _ _ _ hF)
end NXG
abbrev YX10_room : MRec := (yX10_room, cX10_room, 3, (some .int))
set_option maxRecDepth 100000 in
theorem miX10_room : MI YX10_room 2 10 := ⟨⟨(in_t5 129 rfl rfl), ini_X10, pl_X10, ⟨nh_X10.1, nh_X10.2, rfl⟩, by decide⟩, (in_t5 127 rfl rfl), (in_t5 128 rfl rfl), ⟨(RX10, TX10, 17), rfl, rfl⟩⟩
theorem dX10_room_0 : decode cX10_room 0 = .ok (.aload_n 0, 1) := by decide +kernel
theorem dX10_room_1 : decode cX10_room 1 = .ok (.getfield 19, 3) := by decide +kernel
theorem dX10_room_4 : decode cX10_room 4 = .ok (.iload_n 1, 1) := by decide +kernel
theorem dX10_room_5 : decode cX10_room 5 = .ok (.invokevirtual 185, 3) := by decide +kernel
theorem dX10_room_8 : decode cX10_room 8 = .ok (.ifCond .eq 12, 3) := by decide +kernel
theorem dX10_room_11 : decode cX10_room 11 = .ok (.iload_n 2, 1) := by decide +kernel
theorem dX10_room_12 : decode cX10_room 12 = .ok (.ifCond .lt 8, 3) := by decide +kernel
theorem dX10_room_15 : decode cX10_room 15 = .ok (.iload_n 2, 1) := by decide +kernel
theorem dX10_room_16 : decode cX10_room 16 = .ok (.iconst 2, 1) := by decide +kernel
theorem dX10_room_17 : decode cX10_room 17 = .ok (.if_icmp .le 11, 3) := by decide +kernel
theorem dX10_room_20 : decode cX10_room 20 = .ok (.new 155, 3) := by decide +kernel
theorem dX10_room_23 : decode cX10_room 23 = .ok (.dup, 1) := by decide +kernel
theorem dX10_room_24 : decode cX10_room 24 = .ok (.invokespecial 157, 3) := by decide +kernel
theorem dX10_room_27 : decode cX10_room 27 = .ok (.athrow, 1) := by decide +kernel
theorem dX10_room_28 : decode cX10_room 28 = .ok (.iload_n 2, 1) := by decide +kernel
theorem dX10_room_29 : decode cX10_room 29 = .ok (.lookupswitch 53 #[(0, 27), (1, 44)], 27) := by decide +kernel
theorem dX10_room_56 : decode cX10_room 56 = .ok (.aload_n 0, 1) := by decide +kernel
theorem dX10_room_57 : decode cX10_room 57 = .ok (.getfield 19, 3) := by decide +kernel
theorem dX10_room_60 : decode cX10_room 60 = .ok (.iload_n 1, 1) := by decide +kernel
theorem dX10_room_61 : decode cX10_room 61 = .ok (.invokevirtual 188, 3) := by decide +kernel
theorem dX10_room_64 : decode cX10_room 64 = .ok (.ifCond .eq 7, 3) := by decide +kernel
theorem dX10_room_67 : decode cX10_room 67 = .ok (.iconst 1, 1) := by decide +kernel
theorem dX10_room_68 : decode cX10_room 68 = .ok (.goto 4, 3) := by decide +kernel
theorem dX10_room_71 : decode cX10_room 71 = .ok (.iconst 0, 1) := by decide +kernel
theorem dX10_room_72 : decode cX10_room 72 = .ok (.ireturn, 1) := by decide +kernel
theorem dX10_room_73 : decode cX10_room 73 = .ok (.aload_n 0, 1) := by decide +kernel
theorem dX10_room_74 : decode cX10_room 74 = .ok (.getfield 35, 3) := by decide +kernel
theorem dX10_room_77 : decode cX10_room 77 = .ok (.iload_n 1, 1) := by decide +kernel
theorem dX10_room_78 : decode cX10_room 78 = .ok (.invokevirtual 191, 3) := by decide +kernel
theorem dX10_room_81 : decode cX10_room 81 = .ok (.ireturn, 1) := by decide +kernel
theorem dX10_room_82 : decode cX10_room 82 = .ok (.aload_n 0, 1) := by decide +kernel
theorem dX10_room_83 : decode cX10_room 83 = .ok (.getfield 19, 3) := by decide +kernel
theorem dX10_room_86 : decode cX10_room 86 = .ok (.iload_n 1, 1) := by decide +kernel
theorem dX10_room_87 : decode cX10_room 87 = .ok (.aload_n 0, 1) := by decide +kernel
theorem dX10_room_88 : decode cX10_room 88 = .ok (.getfield 19, 3) := by decide +kernel
theorem dX10_room_91 : decode cX10_room 91 = .ok (.invokevirtual 194, 3) := by decide +kernel
theorem dX10_room_94 : decode cX10_room 94 = .ok (.invokevirtual 197, 3) := by decide +kernel
theorem dX10_room_97 : decode cX10_room 97 = .ok (.ireturn, 1) := by decide +kernel
section NXG
variable {l : Launch} {D : va_G} {cy : Nat → ClassId} {ad : Nat → Nat} {dT : Nat} {X : Mm}
def f_X10_room_20  (M : Mem) : Option (Option Int32 × Mem) :=
  some (none, M)
set_option maxRecDepth 100000 in
theorem w_X10_room_20 {P : Option Int32} {M' : Mem}  (M : Mem) (hF : f_X10_room_20  M = some (P, M')) : RunG l D cy ad none YX10_room (rmD 6 1 6) (QX l D cy ad P (lay X M')) 0 0 20 [] [] (lay X M) := by
  unfold f_X10_room_20 at hF
  exact y_throw (Y := YX10_room) (pc := 20) rfl dX10_room_20 dX10_room_23 dX10_room_24 dX10_room_27 (Nat.le_of_ble_eq_true rfl) hF
def f_X10_room_72  (t0 : Int32) (M : Mem) : Option (Option Int32 × Mem) :=
  some (some t0, M)
set_option maxRecDepth 100000 in
theorem w_X10_room_72 {P : Option Int32} {M' : Mem}  (t0 : Int32) (M : Mem) (hF : f_X10_room_72 t0 M = some (P, M')) : RunG l D cy ad none YX10_room (rmD 6 1 6) (QX l D cy ad P (lay X M')) 0 0 72 [] [.int t0] (lay X M) := by
  unfold f_X10_room_72 at hF
  exact y_iret (Y := YX10_room) (pc := 72) dX10_room_72 rfl hF
def f_X10_room_0  (x1 : Int32) (x2 : Int32) (M : Mem) : Option (Option Int32 × Mem) :=
  bd (f_X1_hasRoom x1 M) fun r1 M2 =>
  if r1 = 0 then
    f_X10_room_20 M2
  else
    if x2 < 0 then
      f_X10_room_20 M2
    else
      if 2 < x2 then
        f_X10_room_20 M2
      else
        if x2 = 0 then
          bd (f_X1_isCorridor x1 M2) fun r8 M9 =>
          if r8 = 0 then
            f_X10_room_72 0 M9
          else
            f_X10_room_72 1 M9
        else
          if x2 = 1 then
            bd (f_X7_bitsIn 26 x1 M2) fun r13 M14 =>
            some (some r13, M14)
          else
            bd (f_X1_everybody M2) fun r16 M17 =>
            bd (f_X1_togetherIn x1 r16 M17) fun r19 M20 =>
            some (some r19, M20)
set_option maxRecDepth 100000 in
theorem w_X10_room_0 {P : Option Int32} {M' : Mem}  (x1 x2 : Int32) (M : Mem) (hF : f_X10_room_0 x1 x2 M = some (P, M')) : RunG l D cy ad none YX10_room (rmD 6 1 6) (QX l D cy ad P (lay X M')) 0 0 0 [(0, .ref 0), (1, .int x1), (2, .int x2)] [] (lay X M) := by
  unfold f_X10_room_0 at hF
  refine g_aload_n (Y := YX10_room) (pc := 0) 0 dX10_room_0 rfl ?_
  refine s_getR (Y := YX10_room) (pc := 1) (j := 3) dX10_room_1 fl_X10_19.1 fl_X10_19.2 k_0 rf_0_1 ?_
  refine g_iload_n (Y := YX10_room) (pc := 4) 1 dX10_room_4 rfl ?_
  obtain ⟨r1, M2, e3, hF⟩ := bd_some hF
  refine z_callVi (Y := YX10_room) (pc := 5) (as := [.int x1]) (st := []) (r_X1_hasRoom  e3) miX1_hasRoom lk_X10_185 dX10_room_5 k_3 rfl (Nat.le_of_ble_eq_true rfl) (Nat.le_of_ble_eq_true rfl) rfl ?_
  clear e3
  refine g_if_eq (Y := YX10_room) (pc := 8) (tgt := 20) dX10_room_8 rfl (fun c4 => ?_) (fun c4 => ?_)
  · replace hF := if_t c4 hF
    refine g_loc [] rfl ?_
    exact w_X10_room_20  _ hF
  · replace hF := if_f c4 hF
    refine g_iload_n (Y := YX10_room) (pc := 11) 2 dX10_room_11 rfl ?_
    refine g_if_lt (Y := YX10_room) (pc := 12) (tgt := 20) dX10_room_12 rfl (fun c5 => ?_) (fun c5 => ?_)
    · replace hF := if_t c5 hF
      refine g_loc [] rfl ?_
      exact w_X10_room_20  _ hF
    · replace hF := if_f c5 hF
      refine g_iload_n (Y := YX10_room) (pc := 15) 2 dX10_room_15 rfl ?_
      refine g_iconst (Y := YX10_room) (pc := 16) dX10_room_16 kI_2 ?_
      refine g_icmp_le (Y := YX10_room) (pc := 17) (tgt := 28) dX10_room_17 rfl (fun c6 => ?_) (fun c6 => ?_)
      · replace hF := if_f c6 hF
        refine g_iload_n (Y := YX10_room) (pc := 28) 2 dX10_room_28 rfl ?_
        by_cases c7 : x2 = 0
        · replace hF := if_t c7 hF
          refine g_lookup (Y := YX10_room) (pc := 29) (tgt := 56) dX10_room_29 (by decide) (off := 27) (by rw [c7]; decide) (by decide) ?_
          refine g_aload_n (Y := YX10_room) (pc := 56) 0 dX10_room_56 rfl ?_
          refine s_getR (Y := YX10_room) (pc := 57) (j := 3) dX10_room_57 fl_X10_19.1 fl_X10_19.2 k_0 rf_0_1 ?_
          refine g_iload_n (Y := YX10_room) (pc := 60) 1 dX10_room_60 rfl ?_
          obtain ⟨r8, M9, e10, hF⟩ := bd_some hF
          refine z_callVi (Y := YX10_room) (pc := 61) (as := [.int x1]) (st := []) (r_X1_isCorridor  e10) miX1_isCorridor lk_X10_188 dX10_room_61 k_3 rfl (Nat.le_of_ble_eq_true rfl) (Nat.le_of_ble_eq_true rfl) rfl ?_
          clear e10
          refine g_if_eq (Y := YX10_room) (pc := 64) (tgt := 71) dX10_room_64 rfl (fun c11 => ?_) (fun c11 => ?_)
          · replace hF := if_t c11 hF
            refine g_iconst (Y := YX10_room) (pc := 71) dX10_room_71 kI_0 ?_
            refine g_loc [] rfl ?_
            exact w_X10_room_72  _ _ hF
          · replace hF := if_f c11 hF
            refine g_iconst (Y := YX10_room) (pc := 67) dX10_room_67 kI_1 ?_
            refine g_goto (Y := YX10_room) (pc := 68) (tgt := 72) dX10_room_68 rfl ?_
            refine g_loc [] rfl ?_
            exact w_X10_room_72  _ _ hF
        replace hF := if_f c7 hF
        by_cases c12 : x2 = 1
        · replace hF := if_t c12 hF
          refine g_lookup (Y := YX10_room) (pc := 29) (tgt := 73) dX10_room_29 (by decide) (off := 44) (by rw [c12]; decide) (by decide) ?_
          refine g_aload_n (Y := YX10_room) (pc := 73) 0 dX10_room_73 rfl ?_
          refine s_getR (Y := YX10_room) (pc := 74) (j := 26) dX10_room_74 fl_X10_35.1 fl_X10_35.2 k_0 rf_0_3 ?_
          refine g_iload_n (Y := YX10_room) (pc := 77) 1 dX10_room_77 rfl ?_
          obtain ⟨r13, M14, e15, hF⟩ := bd_some hF
          refine z_callVi (Y := YX10_room) (pc := 78) (as := [.int x1]) (st := []) (r_X7_bitsIn isSt_26 e15) miX7_bitsIn lk_X10_191 dX10_room_78 k_26 rfl (Nat.le_of_ble_eq_true rfl) (Nat.le_of_ble_eq_true rfl) rfl ?_
          clear e15
          exact y_iret (Y := YX10_room) (pc := 81) dX10_room_81 rfl hF
        replace hF := if_f c12 hF
        refine g_lookup (Y := YX10_room) (pc := 29) (tgt := 82) dX10_room_29 (by decide) (off := 53) (lk_out ⟨ne_ti c7 (by decide), ne_ti c12 (by decide), trivial⟩) (by decide) ?_
        refine g_aload_n (Y := YX10_room) (pc := 82) 0 dX10_room_82 rfl ?_
        refine s_getR (Y := YX10_room) (pc := 83) (j := 3) dX10_room_83 fl_X10_19.1 fl_X10_19.2 k_0 rf_0_1 ?_
        refine g_iload_n (Y := YX10_room) (pc := 86) 1 dX10_room_86 rfl ?_
        refine g_aload_n (Y := YX10_room) (pc := 87) 0 dX10_room_87 rfl ?_
        refine s_getR (Y := YX10_room) (pc := 88) (j := 3) dX10_room_88 fl_X10_19.1 fl_X10_19.2 k_0 rf_0_1 ?_
        obtain ⟨r16, M17, e18, hF⟩ := bd_some hF
        refine z_callVi (Y := YX10_room) (pc := 91) (as := []) (st := [.int x1, .ref 3]) (r_X1_everybody  e18) miX1_everybody lk_X10_194 dX10_room_91 k_3 rfl (Nat.le_of_ble_eq_true rfl) (Nat.le_of_ble_eq_true rfl) rfl ?_
        clear e18
        obtain ⟨r19, M20, e21, hF⟩ := bd_some hF
        refine z_callVi (Y := YX10_room) (pc := 94) (as := [.int x1, .int r16]) (st := []) (r_X1_togetherIn  e21) miX1_togetherIn lk_X10_197 dX10_room_94 k_3 rfl (Nat.le_of_ble_eq_true rfl) (Nat.le_of_ble_eq_true rfl) rfl ?_
        clear e21
        exact y_iret (Y := YX10_room) (pc := 97) dX10_room_97 rfl hF
      · replace hF := if_t c6 hF
        refine g_loc [] rfl ?_
        exact w_X10_room_20  _ hF
def f_X10_room (x1 : Int32) (x2 : Int32) (M : Mem) : Option (Option Int32 × Mem) := f_X10_room_0 x1 x2 M
theorem r_X10_room {P : Option Int32} {x1 x2 : Int32} {M M' : Mem}  (hF : f_X10_room x1 x2 M = some (P, M')) : RunX l D cy ad YX10_room 6 [.ref 0, .int x1, .int x2] (lay X M) P (lay X M') := RunX.of 2 (miX10_room).1 (Nat.le_of_ble_eq_true rfl) (w_X10_room_0  _ _ _ hF)
end NXG
abbrev YX10_row : MRec := (yX10_row, cX10_row, 2, (some .int))
set_option maxRecDepth 100000 in
theorem miX10_row : MI YX10_row 1 10 := ⟨⟨(in_t5 137 rfl rfl), ini_X10, pl_X10, ⟨nh_X10.1, nh_X10.2, rfl⟩, by decide⟩, (in_t5 135 rfl rfl), (in_t5 136 rfl rfl), ⟨(RX10, TX10, 17), rfl, rfl⟩⟩
theorem dX10_row_0 : decode cX10_row 0 = .ok (.iload_n 1, 1) := by decide +kernel
theorem dX10_row_1 : decode cX10_row 1 = .ok (.ifCond .lt 17, 3) := by decide +kernel
theorem dX10_row_4 : decode cX10_row 4 = .ok (.iload_n 1, 1) := by decide +kernel
theorem dX10_row_5 : decode cX10_row 5 = .ok (.aload_n 0, 1) := by decide +kernel
theorem dX10_row_6 : decode cX10_row 6 = .ok (.getfield 101, 3) := by decide +kernel
theorem dX10_row_9 : decode cX10_row 9 = .ok (.if_icmp .ge 9, 3) := by decide +kernel
theorem dX10_row_12 : decode cX10_row 12 = .ok (.iload_n 1, 1) := by decide +kernel
theorem dX10_row_13 : decode cX10_row 13 = .ok (.bipush 12, 2) := by decide +kernel
theorem dX10_row_15 : decode cX10_row 15 = .ok (.if_icmp .lt 11, 3) := by decide +kernel
theorem dX10_row_18 : decode cX10_row 18 = .ok (.new 155, 3) := by decide +kernel
theorem dX10_row_21 : decode cX10_row 21 = .ok (.dup, 1) := by decide +kernel
theorem dX10_row_22 : decode cX10_row 22 = .ok (.invokespecial 157, 3) := by decide +kernel
theorem dX10_row_25 : decode cX10_row 25 = .ok (.athrow, 1) := by decide +kernel
theorem dX10_row_26 : decode cX10_row 26 = .ok (.aload_n 0, 1) := by decide +kernel
theorem dX10_row_27 : decode cX10_row 27 = .ok (.getfield 98, 3) := by decide +kernel
theorem dX10_row_30 : decode cX10_row 30 = .ok (.iload_n 1, 1) := by decide +kernel
theorem dX10_row_31 : decode cX10_row 31 = .ok (.iaload, 1) := by decide +kernel
theorem dX10_row_32 : decode cX10_row 32 = .ok (.ireturn, 1) := by decide +kernel
section NXG
variable {l : Launch} {D : va_G} {cy : Nat → ClassId} {ad : Nat → Nat} {dT : Nat} {X : Mm}
def f_X10_row_18  (M : Mem) : Option (Option Int32 × Mem) :=
  some (none, M)
set_option maxRecDepth 100000 in
theorem w_X10_row_18 {P : Option Int32} {M' : Mem}  (M : Mem) (hF : f_X10_row_18  M = some (P, M')) : RunG l D cy ad none YX10_row (rmD 6 1 6) (QX l D cy ad P (lay X M')) 0 0 18 [] [] (lay X M) := by
  unfold f_X10_row_18 at hF
  exact y_throw (Y := YX10_row) (pc := 18) rfl dX10_row_18 dX10_row_21 dX10_row_22 dX10_row_25 (Nat.le_of_ble_eq_true rfl) hF
def f_X10_row_0  (x1 : Int32) (M : Mem) : Option (Option Int32 × Mem) :=
  if x1 < 0 then
    f_X10_row_18 M
  else
    if x1 < (M 0 16) then
      if x1 < 12 then
        gd (0 ≤ x1 ∧ x1.toNatClampNeg < 12) <|
        some (some (M 173 x1.toNatClampNeg), M)
      else
        f_X10_row_18 M
    else
      f_X10_row_18 M
set_option maxRecDepth 100000 in
theorem w_X10_row_0 {P : Option Int32} {M' : Mem}  (x1 : Int32) (M : Mem) (hF : f_X10_row_0 x1 M = some (P, M')) : RunG l D cy ad none YX10_row (rmD 6 1 6) (QX l D cy ad P (lay X M')) 0 0 0 [(0, .ref 0), (1, .int x1)] [] (lay X M) := by
  unfold f_X10_row_0 at hF
  refine g_iload_n (Y := YX10_row) (pc := 0) 1 dX10_row_0 rfl ?_
  refine g_if_lt (Y := YX10_row) (pc := 1) (tgt := 18) dX10_row_1 rfl (fun c1 => ?_) (fun c1 => ?_)
  · replace hF := if_t c1 hF
    refine g_loc [] rfl ?_
    exact w_X10_row_18  _ hF
  · replace hF := if_f c1 hF
    refine g_iload_n (Y := YX10_row) (pc := 4) 1 dX10_row_4 rfl ?_
    refine g_aload_n (Y := YX10_row) (pc := 5) 0 dX10_row_5 rfl ?_
    refine s_getI (Y := YX10_row) (pc := 6) dX10_row_6 fl_X10_101.1 fl_X10_101.2.1 k_0 ?_
    refine g_icmp_ge (Y := YX10_row) (pc := 9) (tgt := 18) dX10_row_9 rfl (fun c2 => ?_) (fun c2 => ?_)
    · replace hF := if_f c2 hF
      refine g_loc [] rfl ?_
      exact w_X10_row_18  _ hF
    · replace hF := if_t c2 hF
      refine g_iload_n (Y := YX10_row) (pc := 12) 1 dX10_row_12 rfl ?_
      refine g_bipush (Y := YX10_row) (pc := 13) dX10_row_13 kB_12 ?_
      refine g_icmp_lt (Y := YX10_row) (pc := 15) (tgt := 26) dX10_row_15 rfl (fun c3 => ?_) (fun c3 => ?_)
      · replace hF := if_t c3 hF
        refine g_aload_n (Y := YX10_row) (pc := 26) 0 dX10_row_26 rfl ?_
        refine s_getR (Y := YX10_row) (pc := 27) (j := 173) dX10_row_27 fl_X10_98.1 fl_X10_98.2 k_0 rf_0_15 ?_
        refine g_iload_n (Y := YX10_row) (pc := 30) 1 dX10_row_30 rfl ?_
        obtain ⟨g4, hF⟩ := gd_some hF
        refine s_iald (Y := YX10_row) (pc := 31) dX10_row_31 k_173 n_173 g4 ?_
        exact y_iret (Y := YX10_row) (pc := 32) dX10_row_32 rfl hF
      · replace hF := if_f c3 hF
        refine g_loc [] rfl ?_
        exact w_X10_row_18  _ hF
def f_X10_row (x1 : Int32) (M : Mem) : Option (Option Int32 × Mem) := f_X10_row_0 x1 M
theorem r_X10_row {P : Option Int32} {x1 : Int32} {M M' : Mem}  (hF : f_X10_row x1 M = some (P, M')) : RunX l D cy ad YX10_row 6 [.ref 0, .int x1] (lay X M) P (lay X M') := RunX.of 1 (miX10_row).1 (Nat.le_of_ble_eq_true rfl) (w_X10_row_0  _ _ hF)
end NXG
