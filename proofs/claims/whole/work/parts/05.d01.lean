theorem dX9_build_81 : decode cX9_build 81 = .ok (.goto (-65), 3) := by decide +kernel
theorem dX9_build_84 : decode cX9_build 84 = .ok (.aload_n 0, 1) := by decide +kernel
theorem dX9_build_85 : decode cX9_build 85 = .ok (.invokevirtual 44, 3) := by decide +kernel
theorem dX9_build_88 : decode cX9_build 88 = .ok (.return_, 1) := by decide +kernel
theorem dX9_keepGreatest_0 : decode cX9_keepGreatest 0 = .ok (.iload_n 1, 1) := by decide +kernel
theorem dX9_keepGreatest_1 : decode cX9_keepGreatest 1 = .ok (.ifCond .lt 27, 3) := by decide +kernel
theorem dX9_keepGreatest_4 : decode cX9_keepGreatest 4 = .ok (.iload_n 1, 1) := by decide +kernel
theorem dX9_keepGreatest_5 : decode cX9_keepGreatest 5 = .ok (.sipush 1189, 3) := by decide +kernel
theorem dX9_keepGreatest_8 : decode cX9_keepGreatest 8 = .ok (.if_icmp .ge 20, 3) := by decide +kernel
theorem dX9_keepGreatest_11 : decode cX9_keepGreatest 11 = .ok (.iload_n 2, 1) := by decide +kernel
theorem dX9_keepGreatest_12 : decode cX9_keepGreatest 12 = .ok (.aload_n 0, 1) := by decide +kernel
theorem dX9_keepGreatest_13 : decode cX9_keepGreatest 13 = .ok (.getfield 9, 3) := by decide +kernel
theorem dX9_keepGreatest_16 : decode cX9_keepGreatest 16 = .ok (.iload_n 1, 1) := by decide +kernel
theorem dX9_keepGreatest_17 : decode cX9_keepGreatest 17 = .ok (.iaload, 1) := by decide +kernel
theorem dX9_keepGreatest_18 : decode cX9_keepGreatest 18 = .ok (.if_icmp .le 10, 3) := by decide +kernel
theorem dX9_keepGreatest_21 : decode cX9_keepGreatest 21 = .ok (.aload_n 0, 1) := by decide +kernel
theorem dX9_keepGreatest_22 : decode cX9_keepGreatest 22 = .ok (.getfield 9, 3) := by decide +kernel
theorem dX9_keepGreatest_25 : decode cX9_keepGreatest 25 = .ok (.iload_n 1, 1) := by decide +kernel
theorem dX9_keepGreatest_26 : decode cX9_keepGreatest 26 = .ok (.iload_n 2, 1) := by decide +kernel
theorem dX9_keepGreatest_27 : decode cX9_keepGreatest 27 = .ok (.iastore, 1) := by decide +kernel
theorem dX9_keepGreatest_28 : decode cX9_keepGreatest 28 = .ok (.return_, 1) := by decide +kernel
theorem dX9_dropBeaten_0 : decode cX9_dropBeaten 0 = .ok (.iconst (-1), 1) := by decide +kernel
theorem dX9_dropBeaten_1 : decode cX9_dropBeaten 1 = .ok (.istore_n 1, 1) := by decide +kernel
theorem dX9_dropBeaten_2 : decode cX9_dropBeaten 2 = .ok (.sipush 1188, 3) := by decide +kernel
theorem dX9_dropBeaten_5 : decode cX9_dropBeaten 5 = .ok (.istore_n 2, 1) := by decide +kernel
theorem dX9_dropBeaten_6 : decode cX9_dropBeaten 6 = .ok (.iload_n 2, 1) := by decide +kernel
theorem dX9_dropBeaten_7 : decode cX9_dropBeaten 7 = .ok (.ifCond .lt 36, 3) := by decide +kernel
theorem dX9_dropBeaten_10 : decode cX9_dropBeaten 10 = .ok (.aload_n 0, 1) := by decide +kernel
theorem dX9_dropBeaten_11 : decode cX9_dropBeaten 11 = .ok (.getfield 9, 3) := by decide +kernel
theorem dX9_dropBeaten_14 : decode cX9_dropBeaten 14 = .ok (.iload_n 2, 1) := by decide +kernel
theorem dX9_dropBeaten_15 : decode cX9_dropBeaten 15 = .ok (.iaload, 1) := by decide +kernel
theorem dX9_dropBeaten_16 : decode cX9_dropBeaten 16 = .ok (.iload_n 1, 1) := by decide +kernel
theorem dX9_dropBeaten_17 : decode cX9_dropBeaten 17 = .ok (.if_icmp .le 13, 3) := by decide +kernel
theorem dX9_dropBeaten_20 : decode cX9_dropBeaten 20 = .ok (.aload_n 0, 1) := by decide +kernel
theorem dX9_dropBeaten_21 : decode cX9_dropBeaten 21 = .ok (.getfield 9, 3) := by decide +kernel
theorem dX9_dropBeaten_24 : decode cX9_dropBeaten 24 = .ok (.iload_n 2, 1) := by decide +kernel
theorem dX9_dropBeaten_25 : decode cX9_dropBeaten 25 = .ok (.iaload, 1) := by decide +kernel
theorem dX9_dropBeaten_26 : decode cX9_dropBeaten 26 = .ok (.istore_n 1, 1) := by decide +kernel
theorem dX9_dropBeaten_27 : decode cX9_dropBeaten 27 = .ok (.goto 10, 3) := by decide +kernel
theorem dX9_dropBeaten_30 : decode cX9_dropBeaten 30 = .ok (.aload_n 0, 1) := by decide +kernel
theorem dX9_dropBeaten_31 : decode cX9_dropBeaten 31 = .ok (.getfield 9, 3) := by decide +kernel
theorem dX9_dropBeaten_34 : decode cX9_dropBeaten 34 = .ok (.iload_n 2, 1) := by decide +kernel
theorem dX9_dropBeaten_35 : decode cX9_dropBeaten 35 = .ok (.iconst (-1), 1) := by decide +kernel
theorem dX9_dropBeaten_36 : decode cX9_dropBeaten 36 = .ok (.iastore, 1) := by decide +kernel
theorem dX9_dropBeaten_37 : decode cX9_dropBeaten 37 = .ok (.iinc 2 (-1), 3) := by decide +kernel
theorem dX9_dropBeaten_40 : decode cX9_dropBeaten 40 = .ok (.goto (-34), 3) := by decide +kernel
theorem dX9_dropBeaten_43 : decode cX9_dropBeaten 43 = .ok (.return_, 1) := by decide +kernel
theorem dX9_countCorners_0 : decode cX9_countCorners 0 = .ok (.iconst 0, 1) := by decide +kernel
theorem dX9_countCorners_1 : decode cX9_countCorners 1 = .ok (.istore_n 1, 1) := by decide +kernel
theorem dX9_countCorners_2 : decode cX9_countCorners 2 = .ok (.iconst 0, 1) := by decide +kernel
theorem dX9_countCorners_3 : decode cX9_countCorners 3 = .ok (.istore_n 2, 1) := by decide +kernel
theorem dX9_countCorners_4 : decode cX9_countCorners 4 = .ok (.iload_n 2, 1) := by decide +kernel
theorem dX9_countCorners_5 : decode cX9_countCorners 5 = .ok (.sipush 1189, 3) := by decide +kernel
theorem dX9_countCorners_8 : decode cX9_countCorners 8 = .ok (.if_icmp .ge 22, 3) := by decide +kernel
theorem dX9_countCorners_11 : decode cX9_countCorners 11 = .ok (.aload_n 0, 1) := by decide +kernel
theorem dX9_countCorners_12 : decode cX9_countCorners 12 = .ok (.getfield 9, 3) := by decide +kernel
theorem dX9_countCorners_15 : decode cX9_countCorners 15 = .ok (.iload_n 2, 1) := by decide +kernel
theorem dX9_countCorners_16 : decode cX9_countCorners 16 = .ok (.iaload, 1) := by decide +kernel
theorem dX9_countCorners_17 : decode cX9_countCorners 17 = .ok (.iconst (-1), 1) := by decide +kernel
theorem dX9_countCorners_18 : decode cX9_countCorners 18 = .ok (.if_icmp .eq 6, 3) := by decide +kernel
theorem dX9_countCorners_21 : decode cX9_countCorners 21 = .ok (.iinc 1 1, 3) := by decide +kernel
theorem dX9_countCorners_24 : decode cX9_countCorners 24 = .ok (.iinc 2 1, 3) := by decide +kernel
theorem dX9_countCorners_27 : decode cX9_countCorners 27 = .ok (.goto (-23), 3) := by decide +kernel
theorem dX9_countCorners_30 : decode cX9_countCorners 30 = .ok (.iload_n 1, 1) := by decide +kernel
theorem dX9_countCorners_31 : decode cX9_countCorners 31 = .ok (.ireturn, 1) := by decide +kernel
theorem dX9_areaBelow_0 : decode cX9_areaBelow 0 = .ok (.iconst 0, 1) := by decide +kernel
theorem dX9_areaBelow_1 : decode cX9_areaBelow 1 = .ok (.istore_n 1, 1) := by decide +kernel
theorem dX9_areaBelow_2 : decode cX9_areaBelow 2 = .ok (.iconst 0, 1) := by decide +kernel
theorem dX9_areaBelow_3 : decode cX9_areaBelow 3 = .ok (.istore_n 2, 1) := by decide +kernel
theorem dX9_areaBelow_4 : decode cX9_areaBelow 4 = .ok (.iconst 0, 1) := by decide +kernel
theorem dX9_areaBelow_5 : decode cX9_areaBelow 5 = .ok (.istore_n 3, 1) := by decide +kernel
theorem dX9_areaBelow_6 : decode cX9_areaBelow 6 = .ok (.iload_n 3, 1) := by decide +kernel
theorem dX9_areaBelow_7 : decode cX9_areaBelow 7 = .ok (.sipush 1189, 3) := by decide +kernel
theorem dX9_areaBelow_10 : decode cX9_areaBelow 10 = .ok (.if_icmp .ge 34, 3) := by decide +kernel
theorem dX9_areaBelow_13 : decode cX9_areaBelow 13 = .ok (.aload_n 0, 1) := by decide +kernel
theorem dX9_areaBelow_14 : decode cX9_areaBelow 14 = .ok (.getfield 9, 3) := by decide +kernel
theorem dX9_areaBelow_17 : decode cX9_areaBelow 17 = .ok (.iload_n 3, 1) := by decide +kernel
theorem dX9_areaBelow_18 : decode cX9_areaBelow 18 = .ok (.iaload, 1) := by decide +kernel
theorem dX9_areaBelow_19 : decode cX9_areaBelow 19 = .ok (.iconst (-1), 1) := by decide +kernel
theorem dX9_areaBelow_20 : decode cX9_areaBelow 20 = .ok (.if_icmp .eq 18, 3) := by decide +kernel
theorem dX9_areaBelow_23 : decode cX9_areaBelow 23 = .ok (.iload_n 1, 1) := by decide +kernel
theorem dX9_areaBelow_24 : decode cX9_areaBelow 24 = .ok (.iload_n 3, 1) := by decide +kernel
theorem dX9_areaBelow_25 : decode cX9_areaBelow 25 = .ok (.iload_n 2, 1) := by decide +kernel
theorem dX9_areaBelow_26 : decode cX9_areaBelow 26 = .ok (.isub, 1) := by decide +kernel
theorem dX9_areaBelow_27 : decode cX9_areaBelow 27 = .ok (.aload_n 0, 1) := by decide +kernel
theorem dX9_areaBelow_28 : decode cX9_areaBelow 28 = .ok (.getfield 9, 3) := by decide +kernel
theorem dX9_areaBelow_31 : decode cX9_areaBelow 31 = .ok (.iload_n 3, 1) := by decide +kernel
theorem dX9_areaBelow_32 : decode cX9_areaBelow 32 = .ok (.iaload, 1) := by decide +kernel
theorem dX9_areaBelow_33 : decode cX9_areaBelow 33 = .ok (.imul, 1) := by decide +kernel
theorem dX9_areaBelow_34 : decode cX9_areaBelow 34 = .ok (.iadd, 1) := by decide +kernel
theorem dX9_areaBelow_35 : decode cX9_areaBelow 35 = .ok (.istore_n 1, 1) := by decide +kernel
theorem dX9_areaBelow_36 : decode cX9_areaBelow 36 = .ok (.iload_n 3, 1) := by decide +kernel
theorem dX9_areaBelow_37 : decode cX9_areaBelow 37 = .ok (.istore_n 2, 1) := by decide +kernel
theorem dX9_areaBelow_38 : decode cX9_areaBelow 38 = .ok (.iinc 3 1, 3) := by decide +kernel
theorem dX9_areaBelow_41 : decode cX9_areaBelow 41 = .ok (.goto (-35), 3) := by decide +kernel
theorem dX9_areaBelow_44 : decode cX9_areaBelow 44 = .ok (.iload_n 1, 1) := by decide +kernel
theorem dX9_areaBelow_45 : decode cX9_areaBelow 45 = .ok (.ireturn, 1) := by decide +kernel
theorem dX10_init_0 : decode cX10_init 0 = .ok (.aload_n 0, 1) := by decide +kernel
theorem dX10_init_1 : decode cX10_init 1 = .ok (.invokespecial 3, 3) := by decide +kernel
theorem dX10_init_4 : decode cX10_init 4 = .ok (.aload_n 0, 1) := by decide +kernel
theorem dX10_init_5 : decode cX10_init 5 = .ok (.sipush 600, 3) := by decide +kernel
theorem dX10_init_8 : decode cX10_init 8 = .ok (.newarray .byte, 2) := by decide +kernel
theorem dX10_init_10 : decode cX10_init 10 = .ok (.putfield 9, 3) := by decide +kernel
theorem dX10_init_13 : decode cX10_init 13 = .ok (.aload_n 0, 1) := by decide +kernel
theorem dX10_init_14 : decode cX10_init 14 = .ok (.new 13, 3) := by decide +kernel
theorem dX10_init_17 : decode cX10_init 17 = .ok (.dup, 1) := by decide +kernel
theorem dX10_init_18 : decode cX10_init 18 = .ok (.invokespecial 15, 3) := by decide +kernel
theorem dX10_init_21 : decode cX10_init 21 = .ok (.putfield 16, 3) := by decide +kernel
theorem dX10_init_24 : decode cX10_init 24 = .ok (.aload_n 0, 1) := by decide +kernel
theorem dX10_init_25 : decode cX10_init 25 = .ok (.iconst (-1), 1) := by decide +kernel
theorem dX10_init_26 : decode cX10_init 26 = .ok (.putfield 20, 3) := by decide +kernel
theorem dX10_init_29 : decode cX10_init 29 = .ok (.aload_n 0, 1) := by decide +kernel
theorem dX10_init_30 : decode cX10_init 30 = .ok (.new 24, 3) := by decide +kernel
theorem dX10_init_33 : decode cX10_init 33 = .ok (.dup, 1) := by decide +kernel
theorem dX10_init_34 : decode cX10_init 34 = .ok (.invokespecial 26, 3) := by decide +kernel
theorem dX10_init_37 : decode cX10_init 37 = .ok (.putfield 27, 3) := by decide +kernel
theorem dX10_init_40 : decode cX10_init 40 = .ok (.aload_n 0, 1) := by decide +kernel
theorem dX10_init_41 : decode cX10_init 41 = .ok (.new 31, 3) := by decide +kernel
theorem dX10_init_44 : decode cX10_init 44 = .ok (.dup, 1) := by decide +kernel
theorem dX10_init_45 : decode cX10_init 45 = .ok (.invokespecial 33, 3) := by decide +kernel
theorem dX10_init_48 : decode cX10_init 48 = .ok (.putfield 34, 3) := by decide +kernel
theorem dX10_init_51 : decode cX10_init 51 = .ok (.aload_n 0, 1) := by decide +kernel
theorem dX10_init_52 : decode cX10_init 52 = .ok (.iconst 2, 1) := by decide +kernel
theorem dX10_init_53 : decode cX10_init 53 = .ok (.anewarray 24, 3) := by decide +kernel
theorem dX10_init_56 : decode cX10_init 56 = .ok (.putfield 38, 3) := by decide +kernel
theorem dX10_init_59 : decode cX10_init 59 = .ok (.aload_n 0, 1) := by decide +kernel
theorem dX10_init_60 : decode cX10_init 60 = .ok (.iconst 2, 1) := by decide +kernel
theorem dX10_init_61 : decode cX10_init 61 = .ok (.newarray .boolean, 2) := by decide +kernel
theorem dX10_init_63 : decode cX10_init 63 = .ok (.putfield 42, 3) := by decide +kernel
theorem dX10_init_66 : decode cX10_init 66 = .ok (.aload_n 0, 1) := by decide +kernel
theorem dX10_init_67 : decode cX10_init 67 = .ok (.new 46, 3) := by decide +kernel
theorem dX10_init_70 : decode cX10_init 70 = .ok (.dup, 1) := by decide +kernel
theorem dX10_init_71 : decode cX10_init 71 = .ok (.invokespecial 48, 3) := by decide +kernel
theorem dX10_init_74 : decode cX10_init 74 = .ok (.putfield 49, 3) := by decide +kernel
theorem dX10_init_77 : decode cX10_init 77 = .ok (.aload_n 0, 1) := by decide +kernel
theorem dX10_init_78 : decode cX10_init 78 = .ok (.new 53, 3) := by decide +kernel
theorem dX10_init_81 : decode cX10_init 81 = .ok (.dup, 1) := by decide +kernel
theorem dX10_init_82 : decode cX10_init 82 = .ok (.invokespecial 55, 3) := by decide +kernel
theorem dX10_init_85 : decode cX10_init 85 = .ok (.putfield 56, 3) := by decide +kernel
theorem dX10_init_88 : decode cX10_init 88 = .ok (.aload_n 0, 1) := by decide +kernel
theorem dX10_init_89 : decode cX10_init 89 = .ok (.new 60, 3) := by decide +kernel
theorem dX10_init_92 : decode cX10_init 92 = .ok (.dup, 1) := by decide +kernel
theorem dX10_init_93 : decode cX10_init 93 = .ok (.invokespecial 62, 3) := by decide +kernel
theorem dX10_init_96 : decode cX10_init 96 = .ok (.putfield 63, 3) := by decide +kernel
theorem dX10_init_99 : decode cX10_init 99 = .ok (.aload_n 0, 1) := by decide +kernel
theorem dX10_init_100 : decode cX10_init 100 = .ok (.new 67, 3) := by decide +kernel
theorem dX10_init_103 : decode cX10_init 103 = .ok (.dup, 1) := by decide +kernel
theorem dX10_init_104 : decode cX10_init 104 = .ok (.invokespecial 69, 3) := by decide +kernel
theorem dX10_init_107 : decode cX10_init 107 = .ok (.putfield 70, 3) := by decide +kernel
theorem dX10_init_110 : decode cX10_init 110 = .ok (.aload_n 0, 1) := by decide +kernel
theorem dX10_init_111 : decode cX10_init 111 = .ok (.new 74, 3) := by decide +kernel
theorem dX10_init_114 : decode cX10_init 114 = .ok (.dup, 1) := by decide +kernel
theorem dX10_init_115 : decode cX10_init 115 = .ok (.invokespecial 76, 3) := by decide +kernel
theorem dX10_init_118 : decode cX10_init 118 = .ok (.putfield 77, 3) := by decide +kernel
theorem dX10_init_121 : decode cX10_init 121 = .ok (.aload_n 0, 1) := by decide +kernel
theorem dX10_init_122 : decode cX10_init 122 = .ok (.new 81, 3) := by decide +kernel
theorem dX10_init_125 : decode cX10_init 125 = .ok (.dup, 1) := by decide +kernel
theorem dX10_init_126 : decode cX10_init 126 = .ok (.invokespecial 83, 3) := by decide +kernel
theorem dX10_init_129 : decode cX10_init 129 = .ok (.putfield 84, 3) := by decide +kernel
theorem dX10_init_132 : decode cX10_init 132 = .ok (.aload_n 0, 1) := by decide +kernel
theorem dX10_init_133 : decode cX10_init 133 = .ok (.new 88, 3) := by decide +kernel
theorem dX10_init_136 : decode cX10_init 136 = .ok (.dup, 1) := by decide +kernel
theorem dX10_init_137 : decode cX10_init 137 = .ok (.invokespecial 90, 3) := by decide +kernel
theorem dX10_init_140 : decode cX10_init 140 = .ok (.putfield 91, 3) := by decide +kernel
theorem dX10_init_143 : decode cX10_init 143 = .ok (.iconst 0, 1) := by decide +kernel
theorem dX10_init_144 : decode cX10_init 144 = .ok (.istore_n 1, 1) := by decide +kernel
theorem dX10_init_145 : decode cX10_init 145 = .ok (.iload_n 1, 1) := by decide +kernel
theorem dX10_init_146 : decode cX10_init 146 = .ok (.iconst 2, 1) := by decide +kernel
theorem dX10_init_147 : decode cX10_init 147 = .ok (.if_icmp .ge 22, 3) := by decide +kernel
theorem dX10_init_150 : decode cX10_init 150 = .ok (.aload_n 0, 1) := by decide +kernel
theorem dX10_init_151 : decode cX10_init 151 = .ok (.getfield 38, 3) := by decide +kernel
theorem dX10_init_154 : decode cX10_init 154 = .ok (.iload_n 1, 1) := by decide +kernel
theorem dX10_init_155 : decode cX10_init 155 = .ok (.new 24, 3) := by decide +kernel
theorem dX10_init_158 : decode cX10_init 158 = .ok (.dup, 1) := by decide +kernel
theorem dX10_init_159 : decode cX10_init 159 = .ok (.invokespecial 26, 3) := by decide +kernel
theorem dX10_init_162 : decode cX10_init 162 = .ok (.aastore, 1) := by decide +kernel
theorem dX10_init_163 : decode cX10_init 163 = .ok (.iinc 1 1, 3) := by decide +kernel
theorem dX10_init_166 : decode cX10_init 166 = .ok (.goto (-21), 3) := by decide +kernel
theorem dX10_init_169 : decode cX10_init 169 = .ok (.return_, 1) := by decide +kernel
theorem dX10_append_0 : decode cX10_append 0 = .ok (.aload_n 0, 1) := by decide +kernel
theorem dX10_append_1 : decode cX10_append 1 = .ok (.getfield 95, 3) := by decide +kernel
theorem dX10_append_4 : decode cX10_append 4 = .ok (.sipush 580, 3) := by decide +kernel
theorem dX10_append_7 : decode cX10_append 7 = .ok (.if_icmp .le 13, 3) := by decide +kernel
theorem dX10_append_10 : decode cX10_append 10 = .ok (.new 98, 3) := by decide +kernel
theorem dX10_append_13 : decode cX10_append 13 = .ok (.dup, 1) := by decide +kernel
theorem dX10_append_14 : decode cX10_append 14 = .ok (.ldc 100, 2) := by decide +kernel
theorem dX10_append_16 : decode cX10_append 16 = .ok (.invokespecial 102, 3) := by decide +kernel
theorem dX10_append_19 : decode cX10_append 19 = .ok (.athrow, 1) := by decide +kernel
theorem dX10_append_20 : decode cX10_append 20 = .ok (.aload_n 0, 1) := by decide +kernel
theorem dX10_append_21 : decode cX10_append 21 = .ok (.iload_n 1, 1) := by decide +kernel
theorem dX10_append_22 : decode cX10_append 22 = .ok (.invokevirtual 105, 3) := by decide +kernel
theorem dX10_append_25 : decode cX10_append 25 = .ok (.aload_n 0, 1) := by decide +kernel
theorem dX10_append_26 : decode cX10_append 26 = .ok (.iload_n 2, 1) := by decide +kernel
theorem dX10_append_27 : decode cX10_append 27 = .ok (.invokevirtual 105, 3) := by decide +kernel
theorem dX10_append_30 : decode cX10_append 30 = .ok (.aload_n 0, 1) := by decide +kernel
theorem dX10_append_31 : decode cX10_append 31 = .ok (.iload_n 3, 1) := by decide +kernel
theorem dX10_append_32 : decode cX10_append 32 = .ok (.invokevirtual 105, 3) := by decide +kernel
theorem dX10_append_35 : decode cX10_append 35 = .ok (.aload_n 0, 1) := by decide +kernel
theorem dX10_append_36 : decode cX10_append 36 = .ok (.iload 4, 2) := by decide +kernel
theorem dX10_append_38 : decode cX10_append 38 = .ok (.invokevirtual 105, 3) := by decide +kernel
theorem dX10_append_41 : decode cX10_append 41 = .ok (.aload_n 0, 1) := by decide +kernel
theorem dX10_append_42 : decode cX10_append 42 = .ok (.iload 5, 2) := by decide +kernel
theorem dX10_append_44 : decode cX10_append 44 = .ok (.invokevirtual 105, 3) := by decide +kernel
theorem dX10_append_47 : decode cX10_append 47 = .ok (.aload_n 0, 1) := by decide +kernel
theorem dX10_append_48 : decode cX10_append 48 = .ok (.getfield 95, 3) := by decide +kernel
theorem dX10_append_51 : decode cX10_append 51 = .ok (.ireturn, 1) := by decide +kernel
theorem dX10_putInput_0 : decode cX10_putInput 0 = .ok (.bipush 24, 2) := by decide +kernel
theorem dX10_putInput_2 : decode cX10_putInput 2 = .ok (.istore_n 2, 1) := by decide +kernel
theorem dX10_putInput_3 : decode cX10_putInput 3 = .ok (.iload_n 2, 1) := by decide +kernel
theorem dX10_putInput_4 : decode cX10_putInput 4 = .ok (.ifCond .lt 42, 3) := by decide +kernel
theorem dX10_putInput_7 : decode cX10_putInput 7 = .ok (.aload_n 0, 1) := by decide +kernel
theorem dX10_putInput_8 : decode cX10_putInput 8 = .ok (.getfield 95, 3) := by decide +kernel
theorem dX10_putInput_11 : decode cX10_putInput 11 = .ok (.sipush 600, 3) := by decide +kernel
theorem dX10_putInput_14 : decode cX10_putInput 14 = .ok (.if_icmp .ge 26, 3) := by decide +kernel
theorem dX10_putInput_17 : decode cX10_putInput 17 = .ok (.aload_n 0, 1) := by decide +kernel
theorem dX10_putInput_18 : decode cX10_putInput 18 = .ok (.getfield 9, 3) := by decide +kernel
theorem dX10_putInput_21 : decode cX10_putInput 21 = .ok (.aload_n 0, 1) := by decide +kernel
theorem dX10_putInput_22 : decode cX10_putInput 22 = .ok (.getfield 95, 3) := by decide +kernel
theorem dX10_putInput_25 : decode cX10_putInput 25 = .ok (.iload_n 1, 1) := by decide +kernel
theorem dX10_putInput_26 : decode cX10_putInput 26 = .ok (.iload_n 2, 1) := by decide +kernel
theorem dX10_putInput_27 : decode cX10_putInput 27 = .ok (.ishr, 1) := by decide +kernel
theorem dX10_putInput_28 : decode cX10_putInput 28 = .ok (.i2b, 1) := by decide +kernel
theorem dX10_putInput_29 : decode cX10_putInput 29 = .ok (.bastore, 1) := by decide +kernel
theorem dX10_putInput_30 : decode cX10_putInput 30 = .ok (.aload_n 0, 1) := by decide +kernel
theorem dX10_putInput_31 : decode cX10_putInput 31 = .ok (.dup, 1) := by decide +kernel
theorem dX10_putInput_32 : decode cX10_putInput 32 = .ok (.getfield 95, 3) := by decide +kernel
theorem dX10_putInput_35 : decode cX10_putInput 35 = .ok (.iconst 1, 1) := by decide +kernel
theorem dX10_putInput_36 : decode cX10_putInput 36 = .ok (.iadd, 1) := by decide +kernel
theorem dX10_putInput_37 : decode cX10_putInput 37 = .ok (.putfield 95, 3) := by decide +kernel
theorem dX10_putInput_40 : decode cX10_putInput 40 = .ok (.iinc 2 (-8), 3) := by decide +kernel
theorem dX10_putInput_43 : decode cX10_putInput 43 = .ok (.goto (-40), 3) := by decide +kernel
theorem dX10_putInput_46 : decode cX10_putInput 46 = .ok (.return_, 1) := by decide +kernel
theorem dX10_truncate_0 : decode cX10_truncate 0 = .ok (.iload_n 1, 1) := by decide +kernel
theorem dX10_truncate_1 : decode cX10_truncate 1 = .ok (.ifCond .lt 11, 3) := by decide +kernel
theorem dX10_truncate_4 : decode cX10_truncate 4 = .ok (.iload_n 1, 1) := by decide +kernel
theorem dX10_truncate_5 : decode cX10_truncate 5 = .ok (.aload_n 0, 1) := by decide +kernel
theorem dX10_truncate_6 : decode cX10_truncate 6 = .ok (.getfield 95, 3) := by decide +kernel
theorem dX10_truncate_9 : decode cX10_truncate 9 = .ok (.if_icmp .le 13, 3) := by decide +kernel
theorem dX10_truncate_12 : decode cX10_truncate 12 = .ok (.new 109, 3) := by decide +kernel
theorem dX10_truncate_15 : decode cX10_truncate 15 = .ok (.dup, 1) := by decide +kernel
theorem dX10_truncate_16 : decode cX10_truncate 16 = .ok (.ldc 111, 2) := by decide +kernel
theorem dX10_truncate_18 : decode cX10_truncate 18 = .ok (.invokespecial 113, 3) := by decide +kernel
theorem dX10_truncate_21 : decode cX10_truncate 21 = .ok (.athrow, 1) := by decide +kernel
theorem dX10_truncate_22 : decode cX10_truncate 22 = .ok (.aload_n 0, 1) := by decide +kernel
theorem dX10_truncate_23 : decode cX10_truncate 23 = .ok (.iload_n 1, 1) := by decide +kernel
theorem dX10_truncate_24 : decode cX10_truncate 24 = .ok (.putfield 95, 3) := by decide +kernel
theorem dX10_truncate_27 : decode cX10_truncate 27 = .ok (.return_, 1) := by decide +kernel
theorem dX10_load_0 : decode cX10_load 0 = .ok (.aload_n 0, 1) := by decide +kernel
theorem dX10_load_1 : decode cX10_load 1 = .ok (.getfield 16, 3) := by decide +kernel
theorem dX10_load_4 : decode cX10_load 4 = .ok (.aload_n 0, 1) := by decide +kernel
theorem dX10_load_5 : decode cX10_load 5 = .ok (.getfield 9, 3) := by decide +kernel
theorem dX10_load_8 : decode cX10_load 8 = .ok (.aload_n 0, 1) := by decide +kernel
theorem dX10_load_9 : decode cX10_load 9 = .ok (.getfield 95, 3) := by decide +kernel
theorem dX10_load_12 : decode cX10_load 12 = .ok (.invokevirtual 114, 3) := by decide +kernel
theorem dX10_load_15 : decode cX10_load 15 = .ok (.istore_n 1, 1) := by decide +kernel
theorem dX10_load_16 : decode cX10_load 16 = .ok (.aload_n 0, 1) := by decide +kernel
theorem dX10_load_17 : decode cX10_load 17 = .ok (.iconst 0, 1) := by decide +kernel
theorem dX10_load_18 : decode cX10_load 18 = .ok (.putfield 95, 3) := by decide +kernel
theorem dX10_load_21 : decode cX10_load 21 = .ok (.aload_n 0, 1) := by decide +kernel
theorem dX10_load_22 : decode cX10_load 22 = .ok (.aload_n 0, 1) := by decide +kernel
theorem dX10_load_23 : decode cX10_load 23 = .ok (.getfield 16, 3) := by decide +kernel
theorem dX10_load_26 : decode cX10_load 26 = .ok (.getfield 118, 3) := by decide +kernel
theorem dX10_load_29 : decode cX10_load 29 = .ok (.putfield 121, 3) := by decide +kernel
theorem dX10_load_32 : decode cX10_load 32 = .ok (.aload_n 0, 1) := by decide +kernel
theorem dX10_load_33 : decode cX10_load 33 = .ok (.aload_n 0, 1) := by decide +kernel
theorem dX10_load_34 : decode cX10_load 34 = .ok (.getfield 16, 3) := by decide +kernel
theorem dX10_load_37 : decode cX10_load 37 = .ok (.getfield 124, 3) := by decide +kernel
theorem dX10_load_40 : decode cX10_load 40 = .ok (.putfield 20, 3) := by decide +kernel
theorem dX10_load_43 : decode cX10_load 43 = .ok (.iload_n 1, 1) := by decide +kernel
theorem dX10_load_44 : decode cX10_load 44 = .ok (.ifCond .ne 6, 3) := by decide +kernel
theorem dX10_load_47 : decode cX10_load 47 = .ok (.bipush (-4), 2) := by decide +kernel
theorem dX10_load_49 : decode cX10_load 49 = .ok (.ireturn, 1) := by decide +kernel
theorem dX10_load_50 : decode cX10_load 50 = .ok (.aload_n 0, 1) := by decide +kernel
theorem dX10_load_51 : decode cX10_load 51 = .ok (.getfield 34, 3) := by decide +kernel
theorem dX10_load_54 : decode cX10_load 54 = .ok (.aload_n 0, 1) := by decide +kernel
theorem dX10_load_55 : decode cX10_load 55 = .ok (.getfield 27, 3) := by decide +kernel
theorem dX10_load_58 : decode cX10_load 58 = .ok (.invokevirtual 127, 3) := by decide +kernel
theorem dX10_load_61 : decode cX10_load 61 = .ok (.aload_n 0, 1) := by decide +kernel
theorem dX10_load_62 : decode cX10_load 62 = .ok (.getfield 27, 3) := by decide +kernel
theorem dX10_load_65 : decode cX10_load 65 = .ok (.aload_n 0, 1) := by decide +kernel
theorem dX10_load_66 : decode cX10_load 66 = .ok (.getfield 16, 3) := by decide +kernel
theorem dX10_load_69 : decode cX10_load 69 = .ok (.getfield 131, 3) := by decide +kernel
theorem dX10_load_72 : decode cX10_load 72 = .ok (.invokevirtual 134, 3) := by decide +kernel
theorem dX10_load_75 : decode cX10_load 75 = .ok (.aload_n 0, 1) := by decide +kernel
theorem dX10_load_76 : decode cX10_load 76 = .ok (.invokevirtual 137, 3) := by decide +kernel
theorem dX10_load_79 : decode cX10_load 79 = .ok (.aload_n 0, 1) := by decide +kernel
theorem dX10_load_80 : decode cX10_load 80 = .ok (.getfield 27, 3) := by decide +kernel
theorem dX10_load_83 : decode cX10_load 83 = .ok (.getfield 140, 3) := by decide +kernel
theorem dX10_load_86 : decode cX10_load 86 = .ok (.ireturn, 1) := by decide +kernel
theorem dX10_errorCode_0 : decode cX10_errorCode 0 = .ok (.aload_n 0, 1) := by decide +kernel
theorem dX10_errorCode_1 : decode cX10_errorCode 1 = .ok (.getfield 121, 3) := by decide +kernel
theorem dX10_errorCode_4 : decode cX10_errorCode 4 = .ok (.ireturn, 1) := by decide +kernel
theorem dX10_errorPosition_0 : decode cX10_errorPosition 0 = .ok (.aload_n 0, 1) := by decide +kernel
theorem dX10_errorPosition_1 : decode cX10_errorPosition 1 = .ok (.getfield 20, 3) := by decide +kernel
theorem dX10_errorPosition_4 : decode cX10_errorPosition 4 = .ok (.ireturn, 1) := by decide +kernel
theorem dX10_property_0 : decode cX10_property 0 = .ok (.iload_n 1, 1) := by decide +kernel
theorem dX10_property_1 : decode cX10_property 1 = .ok (.bipush 7, 2) := by decide +kernel
theorem dX10_property_3 : decode cX10_property 3 = .ok (.invokestatic 143, 3) := by decide +kernel
theorem dX10_property_6 : decode cX10_property 6 = .ok (.iload_n 1, 1) := by decide +kernel
theorem dX10_property_7 : decode cX10_property 7 = .ok (.tableswitch 113 0 6 #[41, 49, 57, 65, 82, 97, 105], 41) := by decide +kernel
theorem dX10_property_48 : decode cX10_property 48 = .ok (.aload_n 0, 1) := by decide +kernel
theorem dX10_property_49 : decode cX10_property 49 = .ok (.getfield 27, 3) := by decide +kernel
theorem dX10_property_52 : decode cX10_property 52 = .ok (.getfield 140, 3) := by decide +kernel
theorem dX10_property_55 : decode cX10_property 55 = .ok (.ireturn, 1) := by decide +kernel
theorem dX10_property_56 : decode cX10_property 56 = .ok (.aload_n 0, 1) := by decide +kernel
theorem dX10_property_57 : decode cX10_property 57 = .ok (.getfield 27, 3) := by decide +kernel
theorem dX10_property_60 : decode cX10_property 60 = .ok (.getfield 147, 3) := by decide +kernel
theorem dX10_property_63 : decode cX10_property 63 = .ok (.ireturn, 1) := by decide +kernel
theorem dX10_property_64 : decode cX10_property 64 = .ok (.aload_n 0, 1) := by decide +kernel
theorem dX10_property_65 : decode cX10_property 65 = .ok (.getfield 27, 3) := by decide +kernel
theorem dX10_property_68 : decode cX10_property 68 = .ok (.getfield 150, 3) := by decide +kernel
theorem dX10_property_71 : decode cX10_property 71 = .ok (.ireturn, 1) := by decide +kernel
theorem dX10_property_72 : decode cX10_property 72 = .ok (.aload_n 0, 1) := by decide +kernel
theorem dX10_property_73 : decode cX10_property 73 = .ok (.getfield 27, 3) := by decide +kernel
theorem dX10_property_76 : decode cX10_property 76 = .ok (.aload_n 0, 1) := by decide +kernel
theorem dX10_property_77 : decode cX10_property 77 = .ok (.getfield 27, 3) := by decide +kernel
theorem dX10_property_80 : decode cX10_property 80 = .ok (.getfield 153, 3) := by decide +kernel
theorem dX10_property_83 : decode cX10_property 83 = .ok (.invokevirtual 157, 3) := by decide +kernel
theorem dX10_property_86 : decode cX10_property 86 = .ok (.iconst 2, 1) := by decide +kernel
theorem dX10_property_87 : decode cX10_property 87 = .ok (.idiv, 1) := by decide +kernel
theorem dX10_property_88 : decode cX10_property 88 = .ok (.ireturn, 1) := by decide +kernel
theorem dX10_property_89 : decode cX10_property 89 = .ok (.aload_n 0, 1) := by decide +kernel
theorem dX10_property_90 : decode cX10_property 90 = .ok (.getfield 27, 3) := by decide +kernel
theorem dX10_property_93 : decode cX10_property 93 = .ok (.aload_n 0, 1) := by decide +kernel
theorem dX10_property_94 : decode cX10_property 94 = .ok (.getfield 27, 3) := by decide +kernel
theorem dX10_property_97 : decode cX10_property 97 = .ok (.getfield 161, 3) := by decide +kernel
theorem dX10_property_100 : decode cX10_property 100 = .ok (.invokevirtual 157, 3) := by decide +kernel
theorem dX10_property_103 : decode cX10_property 103 = .ok (.ireturn, 1) := by decide +kernel
theorem dX10_property_104 : decode cX10_property 104 = .ok (.aload_n 0, 1) := by decide +kernel
theorem dX10_property_105 : decode cX10_property 105 = .ok (.getfield 27, 3) := by decide +kernel
theorem dX10_property_108 : decode cX10_property 108 = .ok (.getfield 164, 3) := by decide +kernel
theorem dX10_property_111 : decode cX10_property 111 = .ok (.ireturn, 1) := by decide +kernel
theorem dX10_property_112 : decode cX10_property 112 = .ok (.aload_n 0, 1) := by decide +kernel
theorem dX10_property_113 : decode cX10_property 113 = .ok (.getfield 27, 3) := by decide +kernel
theorem dX10_property_116 : decode cX10_property 116 = .ok (.getfield 167, 3) := by decide +kernel
theorem dX10_property_119 : decode cX10_property 119 = .ok (.ireturn, 1) := by decide +kernel
theorem dX10_property_120 : decode cX10_property 120 = .ok (.aload_n 0, 1) := by decide +kernel
theorem dX10_property_121 : decode cX10_property 121 = .ok (.getfield 27, 3) := by decide +kernel
theorem dX10_property_124 : decode cX10_property 124 = .ok (.getfield 170, 3) := by decide +kernel
theorem dX10_property_127 : decode cX10_property 127 = .ok (.ireturn, 1) := by decide +kernel
theorem dX10_item_0 : decode cX10_item 0 = .ok (.aload_n 0, 1) := by decide +kernel
theorem dX10_item_1 : decode cX10_item 1 = .ok (.iload_n 1, 1) := by decide +kernel
theorem dX10_item_2 : decode cX10_item 2 = .ok (.invokevirtual 173, 3) := by decide +kernel
theorem dX10_item_5 : decode cX10_item 5 = .ok (.iload_n 2, 1) := by decide +kernel
theorem dX10_item_6 : decode cX10_item 6 = .ok (.iconst 4, 1) := by decide +kernel
theorem dX10_item_7 : decode cX10_item 7 = .ok (.invokestatic 143, 3) := by decide +kernel
theorem dX10_item_10 : decode cX10_item 10 = .ok (.iload_n 2, 1) := by decide +kernel
theorem dX10_item_11 : decode cX10_item 11 = .ok (.tableswitch 69 0 3 #[29, 39, 49, 59], 29) := by decide +kernel
theorem dX10_item_40 : decode cX10_item 40 = .ok (.aload_n 0, 1) := by decide +kernel
theorem dX10_item_41 : decode cX10_item 41 = .ok (.getfield 27, 3) := by decide +kernel
theorem dX10_item_44 : decode cX10_item 44 = .ok (.getfield 176, 3) := by decide +kernel
theorem dX10_item_47 : decode cX10_item 47 = .ok (.iload_n 1, 1) := by decide +kernel
theorem dX10_item_48 : decode cX10_item 48 = .ok (.iaload, 1) := by decide +kernel
theorem dX10_item_49 : decode cX10_item 49 = .ok (.ireturn, 1) := by decide +kernel
theorem dX10_item_50 : decode cX10_item 50 = .ok (.aload_n 0, 1) := by decide +kernel
theorem dX10_item_51 : decode cX10_item 51 = .ok (.getfield 27, 3) := by decide +kernel
theorem dX10_item_54 : decode cX10_item 54 = .ok (.getfield 179, 3) := by decide +kernel
theorem dX10_item_57 : decode cX10_item 57 = .ok (.iload_n 1, 1) := by decide +kernel
theorem dX10_item_58 : decode cX10_item 58 = .ok (.iaload, 1) := by decide +kernel
theorem dX10_item_59 : decode cX10_item 59 = .ok (.ireturn, 1) := by decide +kernel
theorem dX10_item_60 : decode cX10_item 60 = .ok (.aload_n 0, 1) := by decide +kernel
theorem dX10_item_61 : decode cX10_item 61 = .ok (.getfield 27, 3) := by decide +kernel
theorem dX10_item_64 : decode cX10_item 64 = .ok (.getfield 182, 3) := by decide +kernel
theorem dX10_item_67 : decode cX10_item 67 = .ok (.iload_n 1, 1) := by decide +kernel
theorem dX10_item_68 : decode cX10_item 68 = .ok (.iaload, 1) := by decide +kernel
theorem dX10_item_69 : decode cX10_item 69 = .ok (.ireturn, 1) := by decide +kernel
theorem dX10_item_70 : decode cX10_item 70 = .ok (.aload_n 0, 1) := by decide +kernel
theorem dX10_item_71 : decode cX10_item 71 = .ok (.getfield 27, 3) := by decide +kernel
theorem dX10_item_74 : decode cX10_item 74 = .ok (.getfield 153, 3) := by decide +kernel
theorem dX10_item_77 : decode cX10_item 77 = .ok (.iload_n 1, 1) := by decide +kernel
theorem dX10_item_78 : decode cX10_item 78 = .ok (.iaload, 1) := by decide +kernel
theorem dX10_item_79 : decode cX10_item 79 = .ok (.ireturn, 1) := by decide +kernel
theorem dX10_item_80 : decode cX10_item 80 = .ok (.aload_n 0, 1) := by decide +kernel
theorem dX10_item_81 : decode cX10_item 81 = .ok (.getfield 27, 3) := by decide +kernel
theorem dX10_item_84 : decode cX10_item 84 = .ok (.getfield 161, 3) := by decide +kernel
theorem dX10_item_87 : decode cX10_item 87 = .ok (.iload_n 1, 1) := by decide +kernel
theorem dX10_item_88 : decode cX10_item 88 = .ok (.iaload, 1) := by decide +kernel
theorem dX10_item_89 : decode cX10_item 89 = .ok (.ireturn, 1) := by decide +kernel
theorem dX10_refusal_0 : decode cX10_refusal 0 = .ok (.aload_n 0, 1) := by decide +kernel
theorem dX10_refusal_1 : decode cX10_refusal 1 = .ok (.iload_n 1, 1) := by decide +kernel
theorem dX10_refusal_2 : decode cX10_refusal 2 = .ok (.invokevirtual 185, 3) := by decide +kernel
theorem dX10_refusal_5 : decode cX10_refusal 5 = .ok (.aload_n 0, 1) := by decide +kernel
theorem dX10_refusal_6 : decode cX10_refusal 6 = .ok (.invokevirtual 188, 3) := by decide +kernel
theorem dX10_refusal_9 : decode cX10_refusal 9 = .ok (.aload_n 0, 1) := by decide +kernel
theorem dX10_refusal_10 : decode cX10_refusal 10 = .ok (.getfield 56, 3) := by decide +kernel
theorem dX10_refusal_13 : decode cX10_refusal 13 = .ok (.iload_n 1, 1) := by decide +kernel
theorem dX10_refusal_14 : decode cX10_refusal 14 = .ok (.aload_n 0, 1) := by decide +kernel
theorem dX10_refusal_15 : decode cX10_refusal 15 = .ok (.getfield 27, 3) := by decide +kernel
theorem dX10_refusal_18 : decode cX10_refusal 18 = .ok (.getfield 147, 3) := by decide +kernel
theorem dX10_refusal_21 : decode cX10_refusal 21 = .ok (.invokevirtual 191, 3) := by decide +kernel
theorem dX10_refusal_24 : decode cX10_refusal 24 = .ok (.ireturn, 1) := by decide +kernel
theorem dX10_sum_0 : decode cX10_sum 0 = .ok (.aload_n 0, 1) := by decide +kernel
theorem dX10_sum_1 : decode cX10_sum 1 = .ok (.iload_n 1, 1) := by decide +kernel
theorem dX10_sum_2 : decode cX10_sum 2 = .ok (.invokevirtual 185, 3) := by decide +kernel
theorem dX10_sum_5 : decode cX10_sum 5 = .ok (.iload_n 2, 1) := by decide +kernel
theorem dX10_sum_6 : decode cX10_sum 6 = .ok (.iconst 2, 1) := by decide +kernel
theorem dX10_sum_7 : decode cX10_sum 7 = .ok (.invokestatic 143, 3) := by decide +kernel
theorem dX10_sum_10 : decode cX10_sum 10 = .ok (.aload_n 0, 1) := by decide +kernel
theorem dX10_sum_11 : decode cX10_sum 11 = .ok (.invokevirtual 188, 3) := by decide +kernel
theorem dX10_sum_14 : decode cX10_sum 14 = .ok (.iload_n 2, 1) := by decide +kernel
theorem dX10_sum_15 : decode cX10_sum 15 = .ok (.lookupswitch 45 #[(0, 25), (1, 35)], 25) := by decide +kernel
theorem dX10_sum_40 : decode cX10_sum 40 = .ok (.aload_n 0, 1) := by decide +kernel
theorem dX10_sum_41 : decode cX10_sum 41 = .ok (.getfield 56, 3) := by decide +kernel
theorem dX10_sum_44 : decode cX10_sum 44 = .ok (.getfield 195, 3) := by decide +kernel
theorem dX10_sum_47 : decode cX10_sum 47 = .ok (.iload_n 1, 1) := by decide +kernel
theorem dX10_sum_48 : decode cX10_sum 48 = .ok (.iaload, 1) := by decide +kernel
theorem dX10_sum_49 : decode cX10_sum 49 = .ok (.ireturn, 1) := by decide +kernel
theorem dX10_sum_50 : decode cX10_sum 50 = .ok (.aload_n 0, 1) := by decide +kernel
theorem dX10_sum_51 : decode cX10_sum 51 = .ok (.getfield 56, 3) := by decide +kernel
theorem dX10_sum_54 : decode cX10_sum 54 = .ok (.getfield 196, 3) := by decide +kernel
theorem dX10_sum_57 : decode cX10_sum 57 = .ok (.iload_n 1, 1) := by decide +kernel
theorem dX10_sum_58 : decode cX10_sum 58 = .ok (.iaload, 1) := by decide +kernel
theorem dX10_sum_59 : decode cX10_sum 59 = .ok (.ireturn, 1) := by decide +kernel
theorem dX10_sum_60 : decode cX10_sum 60 = .ok (.aload_n 0, 1) := by decide +kernel
theorem dX10_sum_61 : decode cX10_sum 61 = .ok (.getfield 56, 3) := by decide +kernel
theorem dX10_sum_64 : decode cX10_sum 64 = .ok (.getfield 197, 3) := by decide +kernel
theorem dX10_sum_67 : decode cX10_sum 67 = .ok (.iload_n 1, 1) := by decide +kernel
theorem dX10_sum_68 : decode cX10_sum 68 = .ok (.iaload, 1) := by decide +kernel
theorem dX10_sum_69 : decode cX10_sum 69 = .ok (.ireturn, 1) := by decide +kernel
theorem dX10_allowed_0 : decode cX10_allowed 0 = .ok (.aload_n 0, 1) := by decide +kernel
theorem dX10_allowed_1 : decode cX10_allowed 1 = .ok (.invokevirtual 188, 3) := by decide +kernel
theorem dX10_allowed_4 : decode cX10_allowed 4 = .ok (.aload_n 0, 1) := by decide +kernel
theorem dX10_allowed_5 : decode cX10_allowed 5 = .ok (.getfield 70, 3) := by decide +kernel
theorem dX10_allowed_8 : decode cX10_allowed 8 = .ok (.getfield 198, 3) := by decide +kernel
theorem dX10_allowed_11 : decode cX10_allowed 11 = .ok (.ireturn, 1) := by decide +kernel
theorem dX10_points_0 : decode cX10_points 0 = .ok (.aload_n 0, 1) := by decide +kernel
theorem dX10_points_1 : decode cX10_points 1 = .ok (.invokevirtual 188, 3) := by decide +kernel
theorem dX10_points_4 : decode cX10_points 4 = .ok (.aload_n 0, 1) := by decide +kernel
theorem dX10_points_5 : decode cX10_points 5 = .ok (.getfield 70, 3) := by decide +kernel
theorem dX10_points_8 : decode cX10_points 8 = .ok (.getfield 201, 3) := by decide +kernel
theorem dX10_points_11 : decode cX10_points 11 = .ok (.ireturn, 1) := by decide +kernel
theorem dX10_point_0 : decode cX10_point 0 = .ok (.aload_n 0, 1) := by decide +kernel
theorem dX10_point_1 : decode cX10_point 1 = .ok (.iload_n 1, 1) := by decide +kernel
theorem dX10_point_2 : decode cX10_point 2 = .ok (.invokevirtual 204, 3) := by decide +kernel
theorem dX10_point_5 : decode cX10_point 5 = .ok (.iload_n 2, 1) := by decide +kernel
theorem dX10_point_6 : decode cX10_point 6 = .ok (.bipush 6, 2) := by decide +kernel
theorem dX10_point_8 : decode cX10_point 8 = .ok (.invokestatic 143, 3) := by decide +kernel
theorem dX10_point_11 : decode cX10_point 11 = .ok (.iload_n 2, 1) := by decide +kernel
theorem dX10_point_12 : decode cX10_point 12 = .ok (.tableswitch 117 0 5 #[40, 50, 60, 70, 80, 98], 40) := by decide +kernel
theorem dX10_point_52 : decode cX10_point 52 = .ok (.aload_n 0, 1) := by decide +kernel
theorem dX10_point_53 : decode cX10_point 53 = .ok (.getfield 70, 3) := by decide +kernel
theorem dX10_point_56 : decode cX10_point 56 = .ok (.getfield 207, 3) := by decide +kernel
theorem dX10_point_59 : decode cX10_point 59 = .ok (.iload_n 1, 1) := by decide +kernel
theorem dX10_point_60 : decode cX10_point 60 = .ok (.iaload, 1) := by decide +kernel
theorem dX10_point_61 : decode cX10_point 61 = .ok (.ireturn, 1) := by decide +kernel
theorem dX10_point_62 : decode cX10_point 62 = .ok (.aload_n 0, 1) := by decide +kernel
theorem dX10_point_63 : decode cX10_point 63 = .ok (.getfield 70, 3) := by decide +kernel
theorem dX10_point_66 : decode cX10_point 66 = .ok (.getfield 208, 3) := by decide +kernel
theorem dX10_point_69 : decode cX10_point 69 = .ok (.iload_n 1, 1) := by decide +kernel
theorem dX10_point_70 : decode cX10_point 70 = .ok (.iaload, 1) := by decide +kernel
theorem dX10_point_71 : decode cX10_point 71 = .ok (.ireturn, 1) := by decide +kernel
theorem dX10_point_72 : decode cX10_point 72 = .ok (.aload_n 0, 1) := by decide +kernel
theorem dX10_point_73 : decode cX10_point 73 = .ok (.getfield 70, 3) := by decide +kernel
theorem dX10_point_76 : decode cX10_point 76 = .ok (.getfield 209, 3) := by decide +kernel
theorem dX10_point_79 : decode cX10_point 79 = .ok (.iload_n 1, 1) := by decide +kernel
theorem dX10_point_80 : decode cX10_point 80 = .ok (.iaload, 1) := by decide +kernel
theorem dX10_point_81 : decode cX10_point 81 = .ok (.ireturn, 1) := by decide +kernel
theorem dX10_point_82 : decode cX10_point 82 = .ok (.aload_n 0, 1) := by decide +kernel
theorem dX10_point_83 : decode cX10_point 83 = .ok (.getfield 70, 3) := by decide +kernel
theorem dX10_point_86 : decode cX10_point 86 = .ok (.getfield 212, 3) := by decide +kernel
theorem dX10_point_89 : decode cX10_point 89 = .ok (.iload_n 1, 1) := by decide +kernel
theorem dX10_point_90 : decode cX10_point 90 = .ok (.iaload, 1) := by decide +kernel
theorem dX10_point_91 : decode cX10_point 91 = .ok (.ireturn, 1) := by decide +kernel
theorem dX10_point_92 : decode cX10_point 92 = .ok (.aload_n 0, 1) := by decide +kernel
theorem dX10_point_93 : decode cX10_point 93 = .ok (.getfield 56, 3) := by decide +kernel
theorem dX10_point_96 : decode cX10_point 96 = .ok (.getfield 195, 3) := by decide +kernel
theorem dX10_point_99 : decode cX10_point 99 = .ok (.aload_n 0, 1) := by decide +kernel
theorem dX10_point_100 : decode cX10_point 100 = .ok (.getfield 70, 3) := by decide +kernel
theorem dX10_point_103 : decode cX10_point 103 = .ok (.getfield 209, 3) := by decide +kernel
theorem dX10_point_106 : decode cX10_point 106 = .ok (.iload_n 1, 1) := by decide +kernel
theorem dX10_point_107 : decode cX10_point 107 = .ok (.iaload, 1) := by decide +kernel
theorem dX10_point_108 : decode cX10_point 108 = .ok (.iaload, 1) := by decide +kernel
theorem dX10_point_109 : decode cX10_point 109 = .ok (.ireturn, 1) := by decide +kernel
theorem dX10_point_110 : decode cX10_point 110 = .ok (.aload_n 0, 1) := by decide +kernel
theorem dX10_point_111 : decode cX10_point 111 = .ok (.getfield 70, 3) := by decide +kernel
theorem dX10_point_114 : decode cX10_point 114 = .ok (.getfield 215, 3) := by decide +kernel
theorem dX10_point_117 : decode cX10_point 117 = .ok (.iload_n 1, 1) := by decide +kernel
theorem dX10_point_118 : decode cX10_point 118 = .ok (.iaload, 1) := by decide +kernel
theorem dX10_point_119 : decode cX10_point 119 = .ok (.iconst 1, 1) := by decide +kernel
theorem dX10_point_120 : decode cX10_point 120 = .ok (.if_icmp .lt 7, 3) := by decide +kernel
theorem dX10_point_123 : decode cX10_point 123 = .ok (.iconst 1, 1) := by decide +kernel
theorem dX10_point_124 : decode cX10_point 124 = .ok (.goto 4, 3) := by decide +kernel
theorem dX10_point_127 : decode cX10_point 127 = .ok (.iconst 0, 1) := by decide +kernel
theorem dX10_point_128 : decode cX10_point 128 = .ok (.ireturn, 1) := by decide +kernel
theorem dX10_point_129 : decode cX10_point 129 = .ok (.aload_n 0, 1) := by decide +kernel
theorem dX10_point_130 : decode cX10_point 130 = .ok (.getfield 70, 3) := by decide +kernel
theorem dX10_point_133 : decode cX10_point 133 = .ok (.getfield 215, 3) := by decide +kernel
theorem dX10_point_136 : decode cX10_point 136 = .ok (.iload_n 1, 1) := by decide +kernel
theorem dX10_point_137 : decode cX10_point 137 = .ok (.iaload, 1) := by decide +kernel
theorem dX10_point_138 : decode cX10_point 138 = .ok (.iconst 2, 1) := by decide +kernel
theorem dX10_point_139 : decode cX10_point 139 = .ok (.if_icmp .ne 7, 3) := by decide +kernel
theorem dX10_point_142 : decode cX10_point 142 = .ok (.iconst 1, 1) := by decide +kernel
theorem dX10_point_143 : decode cX10_point 143 = .ok (.goto 4, 3) := by decide +kernel
theorem dX10_point_146 : decode cX10_point 146 = .ok (.iconst 0, 1) := by decide +kernel
theorem dX10_point_147 : decode cX10_point 147 = .ok (.ireturn, 1) := by decide +kernel
theorem dX10_lightest_0 : decode cX10_lightest 0 = .ok (.aload_n 0, 1) := by decide +kernel
theorem dX10_lightest_1 : decode cX10_lightest 1 = .ok (.iload_n 1, 1) := by decide +kernel
theorem dX10_lightest_2 : decode cX10_lightest 2 = .ok (.invokevirtual 204, 3) := by decide +kernel
theorem dX10_lightest_5 : decode cX10_lightest 5 = .ok (.aload_n 0, 1) := by decide +kernel
theorem dX10_lightest_6 : decode cX10_lightest 6 = .ok (.getfield 70, 3) := by decide +kernel
theorem dX10_lightest_9 : decode cX10_lightest 9 = .ok (.getfield 218, 3) := by decide +kernel
theorem dX10_lightest_12 : decode cX10_lightest 12 = .ok (.iload_n 1, 1) := by decide +kernel
theorem dX10_lightest_13 : decode cX10_lightest 13 = .ok (.iaload, 1) := by decide +kernel
theorem dX10_lightest_14 : decode cX10_lightest 14 = .ok (.ireturn, 1) := by decide +kernel
theorem dX10_pointOf_0 : decode cX10_pointOf 0 = .ok (.aload_n 0, 1) := by decide +kernel
theorem dX10_pointOf_1 : decode cX10_pointOf 1 = .ok (.iload_n 1, 1) := by decide +kernel
theorem dX10_pointOf_2 : decode cX10_pointOf 2 = .ok (.invokevirtual 185, 3) := by decide +kernel
theorem dX10_pointOf_5 : decode cX10_pointOf 5 = .ok (.aload_n 0, 1) := by decide +kernel
theorem dX10_pointOf_6 : decode cX10_pointOf 6 = .ok (.invokevirtual 188, 3) := by decide +kernel
theorem dX10_pointOf_9 : decode cX10_pointOf 9 = .ok (.aload_n 0, 1) := by decide +kernel
theorem dX10_pointOf_10 : decode cX10_pointOf 10 = .ok (.getfield 70, 3) := by decide +kernel
theorem dX10_pointOf_13 : decode cX10_pointOf 13 = .ok (.aload_n 0, 1) := by decide +kernel
theorem dX10_pointOf_14 : decode cX10_pointOf 14 = .ok (.getfield 56, 3) := by decide +kernel
theorem dX10_pointOf_17 : decode cX10_pointOf 17 = .ok (.getfield 196, 3) := by decide +kernel
theorem dX10_pointOf_20 : decode cX10_pointOf 20 = .ok (.iload_n 1, 1) := by decide +kernel
theorem dX10_pointOf_21 : decode cX10_pointOf 21 = .ok (.iaload, 1) := by decide +kernel
theorem dX10_pointOf_22 : decode cX10_pointOf 22 = .ok (.aload_n 0, 1) := by decide +kernel
theorem dX10_pointOf_23 : decode cX10_pointOf 23 = .ok (.getfield 56, 3) := by decide +kernel
theorem dX10_pointOf_26 : decode cX10_pointOf 26 = .ok (.getfield 197, 3) := by decide +kernel
theorem dX10_pointOf_29 : decode cX10_pointOf 29 = .ok (.iload_n 1, 1) := by decide +kernel
theorem dX10_pointOf_30 : decode cX10_pointOf 30 = .ok (.iaload, 1) := by decide +kernel
theorem dX10_pointOf_31 : decode cX10_pointOf 31 = .ok (.invokevirtual 221, 3) := by decide +kernel
theorem dX10_pointOf_34 : decode cX10_pointOf 34 = .ok (.ireturn, 1) := by decide +kernel
theorem dX10_beatenBy_0 : decode cX10_beatenBy 0 = .ok (.aload_n 0, 1) := by decide +kernel
theorem dX10_beatenBy_1 : decode cX10_beatenBy 1 = .ok (.iload_n 1, 1) := by decide +kernel
theorem dX10_beatenBy_2 : decode cX10_beatenBy 2 = .ok (.invokevirtual 185, 3) := by decide +kernel
theorem dX10_beatenBy_5 : decode cX10_beatenBy 5 = .ok (.aload_n 0, 1) := by decide +kernel
theorem dX10_beatenBy_6 : decode cX10_beatenBy 6 = .ok (.invokevirtual 188, 3) := by decide +kernel
theorem dX10_beatenBy_9 : decode cX10_beatenBy 9 = .ok (.iconst 0, 1) := by decide +kernel
theorem dX10_beatenBy_10 : decode cX10_beatenBy 10 = .ok (.istore_n 2, 1) := by decide +kernel
theorem dX10_beatenBy_11 : decode cX10_beatenBy 11 = .ok (.iload_n 2, 1) := by decide +kernel
theorem dX10_beatenBy_12 : decode cX10_beatenBy 12 = .ok (.aload_n 0, 1) := by decide +kernel
theorem dX10_beatenBy_13 : decode cX10_beatenBy 13 = .ok (.getfield 70, 3) := by decide +kernel
theorem dX10_beatenBy_16 : decode cX10_beatenBy 16 = .ok (.getfield 201, 3) := by decide +kernel
theorem dX10_beatenBy_19 : decode cX10_beatenBy 19 = .ok (.if_icmp .ge 40, 3) := by decide +kernel
theorem dX10_beatenBy_22 : decode cX10_beatenBy 22 = .ok (.aload_n 0, 1) := by decide +kernel
theorem dX10_beatenBy_23 : decode cX10_beatenBy 23 = .ok (.getfield 70, 3) := by decide +kernel
theorem dX10_beatenBy_26 : decode cX10_beatenBy 26 = .ok (.iload_n 2, 1) := by decide +kernel
theorem dX10_beatenBy_27 : decode cX10_beatenBy 27 = .ok (.aload_n 0, 1) := by decide +kernel
theorem dX10_beatenBy_28 : decode cX10_beatenBy 28 = .ok (.getfield 56, 3) := by decide +kernel
theorem dX10_beatenBy_31 : decode cX10_beatenBy 31 = .ok (.getfield 196, 3) := by decide +kernel
theorem dX10_beatenBy_34 : decode cX10_beatenBy 34 = .ok (.iload_n 1, 1) := by decide +kernel
theorem dX10_beatenBy_35 : decode cX10_beatenBy 35 = .ok (.iaload, 1) := by decide +kernel
theorem dX10_beatenBy_36 : decode cX10_beatenBy 36 = .ok (.aload_n 0, 1) := by decide +kernel
theorem dX10_beatenBy_37 : decode cX10_beatenBy 37 = .ok (.getfield 56, 3) := by decide +kernel
theorem dX10_beatenBy_40 : decode cX10_beatenBy 40 = .ok (.getfield 197, 3) := by decide +kernel
theorem dX10_beatenBy_43 : decode cX10_beatenBy 43 = .ok (.iload_n 1, 1) := by decide +kernel
theorem dX10_beatenBy_44 : decode cX10_beatenBy 44 = .ok (.iaload, 1) := by decide +kernel
theorem dX10_beatenBy_45 : decode cX10_beatenBy 45 = .ok (.invokevirtual 224, 3) := by decide +kernel
theorem dX10_beatenBy_48 : decode cX10_beatenBy 48 = .ok (.ifCond .eq 5, 3) := by decide +kernel
theorem dX10_beatenBy_51 : decode cX10_beatenBy 51 = .ok (.iload_n 2, 1) := by decide +kernel
theorem dX10_beatenBy_52 : decode cX10_beatenBy 52 = .ok (.ireturn, 1) := by decide +kernel
theorem dX10_beatenBy_53 : decode cX10_beatenBy 53 = .ok (.iinc 2 1, 3) := by decide +kernel
theorem dX10_beatenBy_56 : decode cX10_beatenBy 56 = .ok (.goto (-45), 3) := by decide +kernel
theorem dX10_beatenBy_59 : decode cX10_beatenBy 59 = .ok (.iconst (-1), 1) := by decide +kernel
theorem dX10_beatenBy_60 : decode cX10_beatenBy 60 = .ok (.ireturn, 1) := by decide +kernel
theorem dX10_beating_0 : decode cX10_beating 0 = .ok (.aload_n 0, 1) := by decide +kernel
theorem dX10_beating_1 : decode cX10_beating 1 = .ok (.invokevirtual 188, 3) := by decide +kernel
theorem dX10_beating_4 : decode cX10_beating 4 = .ok (.iconst 0, 1) := by decide +kernel
theorem dX10_beating_5 : decode cX10_beating 5 = .ok (.istore_n 3, 1) := by decide +kernel
theorem dX10_beating_6 : decode cX10_beating 6 = .ok (.iconst 0, 1) := by decide +kernel
theorem dX10_beating_7 : decode cX10_beating 7 = .ok (.istore 4, 2) := by decide +kernel
theorem dX10_beating_9 : decode cX10_beating 9 = .ok (.iload 4, 2) := by decide +kernel
theorem dX10_beating_11 : decode cX10_beating 11 = .ok (.aload_n 0, 1) := by decide +kernel
theorem dX10_beating_12 : decode cX10_beating 12 = .ok (.getfield 70, 3) := by decide +kernel
theorem dX10_beating_15 : decode cX10_beating 15 = .ok (.getfield 201, 3) := by decide +kernel
theorem dX10_beating_18 : decode cX10_beating 18 = .ok (.if_icmp .ge 26, 3) := by decide +kernel
theorem dX10_beating_21 : decode cX10_beating 21 = .ok (.aload_n 0, 1) := by decide +kernel
theorem dX10_beating_22 : decode cX10_beating 22 = .ok (.getfield 70, 3) := by decide +kernel
theorem dX10_beating_25 : decode cX10_beating 25 = .ok (.iload 4, 2) := by decide +kernel
theorem dX10_beating_27 : decode cX10_beating 27 = .ok (.iload_n 1, 1) := by decide +kernel
theorem dX10_beating_28 : decode cX10_beating 28 = .ok (.iload_n 2, 1) := by decide +kernel
theorem dX10_beating_29 : decode cX10_beating 29 = .ok (.invokevirtual 224, 3) := by decide +kernel
theorem dX10_beating_32 : decode cX10_beating 32 = .ok (.ifCond .eq 6, 3) := by decide +kernel
theorem dX10_beating_35 : decode cX10_beating 35 = .ok (.iinc 3 1, 3) := by decide +kernel
theorem dX10_beating_38 : decode cX10_beating 38 = .ok (.iinc 4 1, 3) := by decide +kernel
theorem dX10_beating_41 : decode cX10_beating 41 = .ok (.goto (-32), 3) := by decide +kernel
theorem dX10_beating_44 : decode cX10_beating 44 = .ok (.iload_n 3, 1) := by decide +kernel
theorem dX10_beating_45 : decode cX10_beating 45 = .ok (.ireturn, 1) := by decide +kernel
theorem dX10_joyFor_0 : decode cX10_joyFor 0 = .ok (.aload_n 0, 1) := by decide +kernel
theorem dX10_joyFor_1 : decode cX10_joyFor 1 = .ok (.invokevirtual 188, 3) := by decide +kernel
theorem dX10_joyFor_4 : decode cX10_joyFor 4 = .ok (.iconst 0, 1) := by decide +kernel
theorem dX10_joyFor_5 : decode cX10_joyFor 5 = .ok (.istore_n 2, 1) := by decide +kernel
theorem dX10_joyFor_6 : decode cX10_joyFor 6 = .ok (.iload_n 2, 1) := by decide +kernel
theorem dX10_joyFor_7 : decode cX10_joyFor 7 = .ok (.aload_n 0, 1) := by decide +kernel
theorem dX10_joyFor_8 : decode cX10_joyFor 8 = .ok (.getfield 70, 3) := by decide +kernel
theorem dX10_joyFor_11 : decode cX10_joyFor 11 = .ok (.getfield 201, 3) := by decide +kernel
theorem dX10_joyFor_14 : decode cX10_joyFor 14 = .ok (.if_icmp .ge 32, 3) := by decide +kernel
theorem dX10_joyFor_17 : decode cX10_joyFor 17 = .ok (.aload_n 0, 1) := by decide +kernel
theorem dX10_joyFor_18 : decode cX10_joyFor 18 = .ok (.getfield 70, 3) := by decide +kernel
theorem dX10_joyFor_21 : decode cX10_joyFor 21 = .ok (.getfield 207, 3) := by decide +kernel
theorem dX10_joyFor_24 : decode cX10_joyFor 24 = .ok (.iload_n 2, 1) := by decide +kernel
theorem dX10_joyFor_25 : decode cX10_joyFor 25 = .ok (.iaload, 1) := by decide +kernel
theorem dX10_joyFor_26 : decode cX10_joyFor 26 = .ok (.iload_n 1, 1) := by decide +kernel
theorem dX10_joyFor_27 : decode cX10_joyFor 27 = .ok (.if_icmp .lt 13, 3) := by decide +kernel
theorem dX10_joyFor_30 : decode cX10_joyFor 30 = .ok (.aload_n 0, 1) := by decide +kernel
theorem dX10_joyFor_31 : decode cX10_joyFor 31 = .ok (.getfield 70, 3) := by decide +kernel
theorem dX10_joyFor_34 : decode cX10_joyFor 34 = .ok (.getfield 208, 3) := by decide +kernel
theorem dX10_joyFor_37 : decode cX10_joyFor 37 = .ok (.iload_n 2, 1) := by decide +kernel
theorem dX10_joyFor_38 : decode cX10_joyFor 38 = .ok (.iaload, 1) := by decide +kernel
theorem dX10_joyFor_39 : decode cX10_joyFor 39 = .ok (.ireturn, 1) := by decide +kernel
theorem dX10_joyFor_40 : decode cX10_joyFor 40 = .ok (.iinc 2 1, 3) := by decide +kernel
theorem dX10_joyFor_43 : decode cX10_joyFor 43 = .ok (.goto (-37), 3) := by decide +kernel
theorem dX10_joyFor_46 : decode cX10_joyFor 46 = .ok (.iconst (-1), 1) := by decide +kernel
theorem dX10_joyFor_47 : decode cX10_joyFor 47 = .ok (.ireturn, 1) := by decide +kernel
theorem dX10_gainFor_0 : decode cX10_gainFor 0 = .ok (.aload_n 0, 1) := by decide +kernel
theorem dX10_gainFor_1 : decode cX10_gainFor 1 = .ok (.invokevirtual 188, 3) := by decide +kernel
theorem dX10_gainFor_4 : decode cX10_gainFor 4 = .ok (.aload_n 0, 1) := by decide +kernel
theorem dX10_gainFor_5 : decode cX10_gainFor 5 = .ok (.getfield 70, 3) := by decide +kernel
theorem dX10_gainFor_8 : decode cX10_gainFor 8 = .ok (.getfield 201, 3) := by decide +kernel
theorem dX10_gainFor_11 : decode cX10_gainFor 11 = .ok (.iconst 1, 1) := by decide +kernel
theorem dX10_gainFor_12 : decode cX10_gainFor 12 = .ok (.isub, 1) := by decide +kernel
theorem dX10_gainFor_13 : decode cX10_gainFor 13 = .ok (.istore_n 2, 1) := by decide +kernel
theorem dX10_gainFor_14 : decode cX10_gainFor 14 = .ok (.iload_n 2, 1) := by decide +kernel
theorem dX10_gainFor_15 : decode cX10_gainFor 15 = .ok (.ifCond .lt 32, 3) := by decide +kernel
theorem dX10_gainFor_18 : decode cX10_gainFor 18 = .ok (.aload_n 0, 1) := by decide +kernel
theorem dX10_gainFor_19 : decode cX10_gainFor 19 = .ok (.getfield 70, 3) := by decide +kernel
theorem dX10_gainFor_22 : decode cX10_gainFor 22 = .ok (.getfield 208, 3) := by decide +kernel
theorem dX10_gainFor_25 : decode cX10_gainFor 25 = .ok (.iload_n 2, 1) := by decide +kernel
theorem dX10_gainFor_26 : decode cX10_gainFor 26 = .ok (.iaload, 1) := by decide +kernel
theorem dX10_gainFor_27 : decode cX10_gainFor 27 = .ok (.iload_n 1, 1) := by decide +kernel
theorem dX10_gainFor_28 : decode cX10_gainFor 28 = .ok (.if_icmp .lt 13, 3) := by decide +kernel
theorem dX10_gainFor_31 : decode cX10_gainFor 31 = .ok (.aload_n 0, 1) := by decide +kernel
theorem dX10_gainFor_32 : decode cX10_gainFor 32 = .ok (.getfield 70, 3) := by decide +kernel
theorem dX10_gainFor_35 : decode cX10_gainFor 35 = .ok (.getfield 207, 3) := by decide +kernel
theorem dX10_gainFor_38 : decode cX10_gainFor 38 = .ok (.iload_n 2, 1) := by decide +kernel
theorem dX10_gainFor_39 : decode cX10_gainFor 39 = .ok (.iaload, 1) := by decide +kernel
theorem dX10_gainFor_40 : decode cX10_gainFor 40 = .ok (.ireturn, 1) := by decide +kernel
theorem dX10_gainFor_41 : decode cX10_gainFor 41 = .ok (.iinc 2 (-1), 3) := by decide +kernel
theorem dX10_gainFor_44 : decode cX10_gainFor 44 = .ok (.goto (-30), 3) := by decide +kernel
theorem dX10_gainFor_47 : decode cX10_gainFor 47 = .ok (.iconst (-1), 1) := by decide +kernel
theorem dX10_gainFor_48 : decode cX10_gainFor 48 = .ok (.ireturn, 1) := by decide +kernel
theorem dX10_best_0 : decode cX10_best 0 = .ok (.iload_n 1, 1) := by decide +kernel
theorem dX10_best_1 : decode cX10_best 1 = .ok (.iload_n 2, 1) := by decide +kernel
theorem dX10_best_2 : decode cX10_best 2 = .ok (.invokestatic 228, 3) := by decide +kernel
theorem dX10_best_5 : decode cX10_best 5 = .ok (.aload_n 0, 1) := by decide +kernel
theorem dX10_best_6 : decode cX10_best 6 = .ok (.invokevirtual 188, 3) := by decide +kernel
theorem dX10_best_9 : decode cX10_best 9 = .ok (.aload_n 0, 1) := by decide +kernel
theorem dX10_best_10 : decode cX10_best 10 = .ok (.getfield 70, 3) := by decide +kernel
theorem dX10_best_13 : decode cX10_best 13 = .ok (.iload_n 1, 1) := by decide +kernel
theorem dX10_best_14 : decode cX10_best 14 = .ok (.iload_n 2, 1) := by decide +kernel
theorem dX10_best_15 : decode cX10_best 15 = .ok (.invokevirtual 231, 3) := by decide +kernel
theorem dX10_best_18 : decode cX10_best 18 = .ok (.ireturn, 1) := by decide +kernel
theorem dX10_nearest_0 : decode cX10_nearest 0 = .ok (.iload_n 1, 1) := by decide +kernel
theorem dX10_nearest_1 : decode cX10_nearest 1 = .ok (.iload_n 2, 1) := by decide +kernel
theorem dX10_nearest_2 : decode cX10_nearest 2 = .ok (.invokestatic 228, 3) := by decide +kernel
theorem dX10_nearest_5 : decode cX10_nearest 5 = .ok (.aload_n 0, 1) := by decide +kernel
theorem dX10_nearest_6 : decode cX10_nearest 6 = .ok (.invokevirtual 188, 3) := by decide +kernel
theorem dX10_nearest_9 : decode cX10_nearest 9 = .ok (.aload_n 0, 1) := by decide +kernel
theorem dX10_nearest_10 : decode cX10_nearest 10 = .ok (.getfield 70, 3) := by decide +kernel
theorem dX10_nearest_13 : decode cX10_nearest 13 = .ok (.iload_n 1, 1) := by decide +kernel
theorem dX10_nearest_14 : decode cX10_nearest 14 = .ok (.iload_n 2, 1) := by decide +kernel
theorem dX10_nearest_15 : decode cX10_nearest 15 = .ok (.invokevirtual 234, 3) := by decide +kernel
theorem dX10_nearest_18 : decode cX10_nearest 18 = .ok (.ireturn, 1) := by decide +kernel
theorem dX10_vertices_0 : decode cX10_vertices 0 = .ok (.aload_n 0, 1) := by decide +kernel
theorem dX10_vertices_1 : decode cX10_vertices 1 = .ok (.invokevirtual 188, 3) := by decide +kernel
theorem dX10_vertices_4 : decode cX10_vertices 4 = .ok (.aload_n 0, 1) := by decide +kernel
theorem dX10_vertices_5 : decode cX10_vertices 5 = .ok (.getfield 70, 3) := by decide +kernel
theorem dX10_vertices_8 : decode cX10_vertices 8 = .ok (.getfield 237, 3) := by decide +kernel
theorem dX10_vertices_11 : decode cX10_vertices 11 = .ok (.ireturn, 1) := by decide +kernel
theorem dX10_vertex_0 : decode cX10_vertex 0 = .ok (.aload_n 0, 1) := by decide +kernel
theorem dX10_vertex_1 : decode cX10_vertex 1 = .ok (.invokevirtual 188, 3) := by decide +kernel
theorem dX10_vertex_4 : decode cX10_vertex 4 = .ok (.iload_n 1, 1) := by decide +kernel
theorem dX10_vertex_5 : decode cX10_vertex 5 = .ok (.ifCond .lt 14, 3) := by decide +kernel
theorem dX10_vertex_8 : decode cX10_vertex 8 = .ok (.iload_n 1, 1) := by decide +kernel
theorem dX10_vertex_9 : decode cX10_vertex 9 = .ok (.aload_n 0, 1) := by decide +kernel
theorem dX10_vertex_10 : decode cX10_vertex 10 = .ok (.getfield 70, 3) := by decide +kernel
theorem dX10_vertex_13 : decode cX10_vertex 13 = .ok (.getfield 237, 3) := by decide +kernel
theorem dX10_vertex_16 : decode cX10_vertex 16 = .ok (.if_icmp .lt 13, 3) := by decide +kernel
theorem dX10_vertex_19 : decode cX10_vertex 19 = .ok (.new 240, 3) := by decide +kernel
theorem dX10_vertex_22 : decode cX10_vertex 22 = .ok (.dup, 1) := by decide +kernel
theorem dX10_vertex_23 : decode cX10_vertex 23 = .ok (.ldc 242, 2) := by decide +kernel
theorem dX10_vertex_25 : decode cX10_vertex 25 = .ok (.invokespecial 244, 3) := by decide +kernel
theorem dX10_vertex_28 : decode cX10_vertex 28 = .ok (.athrow, 1) := by decide +kernel
theorem dX10_vertex_29 : decode cX10_vertex 29 = .ok (.aload_n 0, 1) := by decide +kernel
theorem dX10_vertex_30 : decode cX10_vertex 30 = .ok (.getfield 70, 3) := by decide +kernel
theorem dX10_vertex_33 : decode cX10_vertex 33 = .ok (.getfield 245, 3) := by decide +kernel
theorem dX10_vertex_36 : decode cX10_vertex 36 = .ok (.iload_n 1, 1) := by decide +kernel
theorem dX10_vertex_37 : decode cX10_vertex 37 = .ok (.iaload, 1) := by decide +kernel
theorem dX10_vertex_38 : decode cX10_vertex 38 = .ok (.ireturn, 1) := by decide +kernel
theorem dX10_supported_0 : decode cX10_supported 0 = .ok (.aload_n 0, 1) := by decide +kernel
theorem dX10_supported_1 : decode cX10_supported 1 = .ok (.invokevirtual 188, 3) := by decide +kernel
theorem dX10_supported_4 : decode cX10_supported 4 = .ok (.aload_n 0, 1) := by decide +kernel
theorem dX10_supported_5 : decode cX10_supported 5 = .ok (.getfield 70, 3) := by decide +kernel
theorem dX10_supported_8 : decode cX10_supported 8 = .ok (.iconst (-1), 1) := by decide +kernel
theorem dX10_supported_9 : decode cX10_supported 9 = .ok (.aload_n 0, 1) := by decide +kernel
theorem dX10_supported_10 : decode cX10_supported 10 = .ok (.getfield 70, 3) := by decide +kernel
theorem dX10_supported_13 : decode cX10_supported 13 = .ok (.getfield 201, 3) := by decide +kernel
theorem dX10_supported_16 : decode cX10_supported 16 = .ok (.invokevirtual 248, 3) := by decide +kernel
theorem dX10_supported_19 : decode cX10_supported 19 = .ok (.ireturn, 1) := by decide +kernel
theorem dX10_box_0 : decode cX10_box 0 = .ok (.aload_n 0, 1) := by decide +kernel
theorem dX10_box_1 : decode cX10_box 1 = .ok (.invokevirtual 188, 3) := by decide +kernel
theorem dX10_box_4 : decode cX10_box 4 = .ok (.iload_n 1, 1) := by decide +kernel
theorem dX10_box_5 : decode cX10_box 5 = .ok (.ifCond .lt 16, 3) := by decide +kernel
theorem dX10_box_8 : decode cX10_box 8 = .ok (.iload_n 1, 1) := by decide +kernel
theorem dX10_box_9 : decode cX10_box 9 = .ok (.aload_n 0, 1) := by decide +kernel
theorem dX10_box_10 : decode cX10_box 10 = .ok (.getfield 70, 3) := by decide +kernel
theorem dX10_box_13 : decode cX10_box 13 = .ok (.getfield 237, 3) := by decide +kernel
theorem dX10_box_16 : decode cX10_box 16 = .ok (.iconst 1, 1) := by decide +kernel
theorem dX10_box_17 : decode cX10_box 17 = .ok (.isub, 1) := by decide +kernel
theorem dX10_box_18 : decode cX10_box 18 = .ok (.if_icmp .lt 13, 3) := by decide +kernel
theorem dX10_box_21 : decode cX10_box 21 = .ok (.new 240, 3) := by decide +kernel
theorem dX10_box_24 : decode cX10_box 24 = .ok (.dup, 1) := by decide +kernel
theorem dX10_box_25 : decode cX10_box 25 = .ok (.ldc 251, 2) := by decide +kernel
theorem dX10_box_27 : decode cX10_box 27 = .ok (.invokespecial 244, 3) := by decide +kernel
theorem dX10_box_30 : decode cX10_box 30 = .ok (.athrow, 1) := by decide +kernel
theorem dX10_box_31 : decode cX10_box 31 = .ok (.iload_n 2, 1) := by decide +kernel
theorem dX10_box_32 : decode cX10_box 32 = .ok (.iconst 4, 1) := by decide +kernel
theorem dX10_box_33 : decode cX10_box 33 = .ok (.invokestatic 143, 3) := by decide +kernel
theorem dX10_box_36 : decode cX10_box 36 = .ok (.aload_n 0, 1) := by decide +kernel
theorem dX10_box_37 : decode cX10_box 37 = .ok (.getfield 70, 3) := by decide +kernel
theorem dX10_box_40 : decode cX10_box 40 = .ok (.getfield 245, 3) := by decide +kernel
theorem dX10_box_43 : decode cX10_box 43 = .ok (.iload_n 1, 1) := by decide +kernel
theorem dX10_box_44 : decode cX10_box 44 = .ok (.iaload, 1) := by decide +kernel
theorem dX10_box_45 : decode cX10_box 45 = .ok (.istore_n 3, 1) := by decide +kernel
theorem dX10_box_46 : decode cX10_box 46 = .ok (.aload_n 0, 1) := by decide +kernel
theorem dX10_box_47 : decode cX10_box 47 = .ok (.getfield 70, 3) := by decide +kernel
theorem dX10_box_50 : decode cX10_box 50 = .ok (.getfield 245, 3) := by decide +kernel
theorem dX10_box_53 : decode cX10_box 53 = .ok (.iload_n 1, 1) := by decide +kernel
theorem dX10_box_54 : decode cX10_box 54 = .ok (.iconst 1, 1) := by decide +kernel
theorem dX10_box_55 : decode cX10_box 55 = .ok (.iadd, 1) := by decide +kernel
theorem dX10_box_56 : decode cX10_box 56 = .ok (.iaload, 1) := by decide +kernel
theorem dX10_box_57 : decode cX10_box 57 = .ok (.istore 4, 2) := by decide +kernel
theorem dX10_box_59 : decode cX10_box 59 = .ok (.iload_n 2, 1) := by decide +kernel
theorem dX10_box_60 : decode cX10_box 60 = .ok (.tableswitch 55 0 3 #[32, 34, 37, 44], 32) := by decide +kernel
theorem dX10_box_92 : decode cX10_box 92 = .ok (.iload_n 3, 1) := by decide +kernel
theorem dX10_box_93 : decode cX10_box 93 = .ok (.ireturn, 1) := by decide +kernel
theorem dX10_box_94 : decode cX10_box 94 = .ok (.iload 4, 2) := by decide +kernel
theorem dX10_box_96 : decode cX10_box 96 = .ok (.ireturn, 1) := by decide +kernel
theorem dX10_box_97 : decode cX10_box 97 = .ok (.iload 4, 2) := by decide +kernel
theorem dX10_box_99 : decode cX10_box 99 = .ok (.iload_n 3, 1) := by decide +kernel
theorem dX10_box_100 : decode cX10_box 100 = .ok (.isub, 1) := by decide +kernel
theorem dX10_box_101 : decode cX10_box 101 = .ok (.iconst 1, 1) := by decide +kernel
theorem dX10_box_102 : decode cX10_box 102 = .ok (.isub, 1) := by decide +kernel
theorem dX10_box_103 : decode cX10_box 103 = .ok (.ireturn, 1) := by decide +kernel
theorem dX10_box_104 : decode cX10_box 104 = .ok (.aload_n 0, 1) := by decide +kernel
theorem dX10_box_105 : decode cX10_box 105 = .ok (.getfield 70, 3) := by decide +kernel
theorem dX10_box_108 : decode cX10_box 108 = .ok (.iload_n 3, 1) := by decide +kernel
theorem dX10_box_109 : decode cX10_box 109 = .ok (.iload 4, 2) := by decide +kernel
theorem dX10_box_111 : decode cX10_box 111 = .ok (.invokevirtual 248, 3) := by decide +kernel
theorem dX10_box_114 : decode cX10_box 114 = .ok (.ireturn, 1) := by decide +kernel
theorem dX10_box_115 : decode cX10_box 115 = .ok (.iload 4, 2) := by decide +kernel
theorem dX10_box_117 : decode cX10_box 117 = .ok (.iload_n 3, 1) := by decide +kernel
theorem dX10_box_118 : decode cX10_box 118 = .ok (.isub, 1) := by decide +kernel
theorem dX10_box_119 : decode cX10_box 119 = .ok (.iconst 1, 1) := by decide +kernel
theorem dX10_box_120 : decode cX10_box 120 = .ok (.if_icmp .le 18, 3) := by decide +kernel
theorem dX10_box_123 : decode cX10_box 123 = .ok (.aload_n 0, 1) := by decide +kernel
theorem dX10_box_124 : decode cX10_box 124 = .ok (.getfield 70, 3) := by decide +kernel
theorem dX10_box_127 : decode cX10_box 127 = .ok (.getfield 207, 3) := by decide +kernel
theorem dX10_box_130 : decode cX10_box 130 = .ok (.iload 4, 2) := by decide +kernel
theorem dX10_box_132 : decode cX10_box 132 = .ok (.iconst 1, 1) := by decide +kernel
theorem dX10_box_133 : decode cX10_box 133 = .ok (.isub, 1) := by decide +kernel
theorem dX10_box_134 : decode cX10_box 134 = .ok (.iaload, 1) := by decide +kernel
theorem dX10_box_135 : decode cX10_box 135 = .ok (.goto 4, 3) := by decide +kernel
theorem dX10_box_138 : decode cX10_box 138 = .ok (.iconst (-1), 1) := by decide +kernel
theorem dX10_box_139 : decode cX10_box 139 = .ok (.ireturn, 1) := by decide +kernel
theorem dX10_steps_0 : decode cX10_steps 0 = .ok (.aload_n 0, 1) := by decide +kernel
theorem dX10_steps_1 : decode cX10_steps 1 = .ok (.invokevirtual 253, 3) := by decide +kernel
theorem dX10_steps_4 : decode cX10_steps 4 = .ok (.aload_n 0, 1) := by decide +kernel
theorem dX10_steps_5 : decode cX10_steps 5 = .ok (.getfield 77, 3) := by decide +kernel
theorem dX10_steps_8 : decode cX10_steps 8 = .ok (.getfield 256, 3) := by decide +kernel
theorem dX10_steps_11 : decode cX10_steps 11 = .ok (.ireturn, 1) := by decide +kernel
theorem dX10_step_0 : decode cX10_step 0 = .ok (.iload_n 2, 1) := by decide +kernel
theorem dX10_step_1 : decode cX10_step 1 = .ok (.iconst 4, 1) := by decide +kernel
theorem dX10_step_2 : decode cX10_step 2 = .ok (.invokestatic 143, 3) := by decide +kernel
theorem dX10_step_5 : decode cX10_step 5 = .ok (.aload_n 0, 1) := by decide +kernel
theorem dX10_step_6 : decode cX10_step 6 = .ok (.invokevirtual 253, 3) := by decide +kernel
theorem dX10_step_9 : decode cX10_step 9 = .ok (.iload_n 1, 1) := by decide +kernel
theorem dX10_step_10 : decode cX10_step 10 = .ok (.ifCond .lt 14, 3) := by decide +kernel
theorem dX10_step_13 : decode cX10_step 13 = .ok (.iload_n 1, 1) := by decide +kernel
theorem dX10_step_14 : decode cX10_step 14 = .ok (.aload_n 0, 1) := by decide +kernel
theorem dX10_step_15 : decode cX10_step 15 = .ok (.getfield 77, 3) := by decide +kernel
theorem dX10_step_18 : decode cX10_step 18 = .ok (.getfield 256, 3) := by decide +kernel
theorem dX10_step_21 : decode cX10_step 21 = .ok (.if_icmp .lt 14, 3) := by decide +kernel
theorem dX10_step_24 : decode cX10_step 24 = .ok (.new 259, 3) := by decide +kernel
theorem dX10_step_27 : decode cX10_step 27 = .ok (.dup, 1) := by decide +kernel
theorem dX10_step_28 : decode cX10_step 28 = .ok (.ldc_w 261, 3) := by decide +kernel
theorem dX10_step_31 : decode cX10_step 31 = .ok (.invokespecial 263, 3) := by decide +kernel
theorem dX10_step_34 : decode cX10_step 34 = .ok (.athrow, 1) := by decide +kernel
theorem dX10_step_35 : decode cX10_step 35 = .ok (.aload_n 0, 1) := by decide +kernel
theorem dX10_step_36 : decode cX10_step 36 = .ok (.getfield 77, 3) := by decide +kernel
theorem dX10_step_39 : decode cX10_step 39 = .ok (.getfield 264, 3) := by decide +kernel
theorem dX10_step_42 : decode cX10_step 42 = .ok (.iload_n 1, 1) := by decide +kernel
theorem dX10_step_43 : decode cX10_step 43 = .ok (.iaload, 1) := by decide +kernel
theorem dX10_step_44 : decode cX10_step 44 = .ok (.istore_n 3, 1) := by decide +kernel
theorem dX10_step_45 : decode cX10_step 45 = .ok (.aload_n 0, 1) := by decide +kernel
theorem dX10_step_46 : decode cX10_step 46 = .ok (.getfield 77, 3) := by decide +kernel
theorem dX10_step_49 : decode cX10_step 49 = .ok (.getfield 267, 3) := by decide +kernel
theorem dX10_step_52 : decode cX10_step 52 = .ok (.iload_n 1, 1) := by decide +kernel
theorem dX10_step_53 : decode cX10_step 53 = .ok (.iaload, 1) := by decide +kernel
theorem dX10_step_54 : decode cX10_step 54 = .ok (.istore 4, 2) := by decide +kernel
theorem dX10_step_56 : decode cX10_step 56 = .ok (.iload_n 2, 1) := by decide +kernel
theorem dX10_step_57 : decode cX10_step 57 = .ok (.tableswitch 58 0 3 #[31, 33, 36, 47], 31) := by decide +kernel
theorem dX10_step_88 : decode cX10_step 88 = .ok (.iload_n 3, 1) := by decide +kernel
theorem dX10_step_89 : decode cX10_step 89 = .ok (.ireturn, 1) := by decide +kernel
theorem dX10_step_90 : decode cX10_step 90 = .ok (.iload 4, 2) := by decide +kernel
theorem dX10_step_92 : decode cX10_step 92 = .ok (.ireturn, 1) := by decide +kernel
theorem dX10_step_93 : decode cX10_step 93 = .ok (.aload_n 0, 1) := by decide +kernel
theorem dX10_step_94 : decode cX10_step 94 = .ok (.getfield 70, 3) := by decide +kernel
theorem dX10_step_97 : decode cX10_step 97 = .ok (.iload_n 3, 1) := by decide +kernel
theorem dX10_step_98 : decode cX10_step 98 = .ok (.iload 4, 2) := by decide +kernel
theorem dX10_step_100 : decode cX10_step 100 = .ok (.invokevirtual 270, 3) := by decide +kernel
theorem dX10_step_103 : decode cX10_step 103 = .ok (.ireturn, 1) := by decide +kernel
theorem dX10_step_104 : decode cX10_step 104 = .ok (.aload_n 0, 1) := by decide +kernel
theorem dX10_step_105 : decode cX10_step 105 = .ok (.getfield 70, 3) := by decide +kernel
theorem dX10_step_108 : decode cX10_step 108 = .ok (.iload_n 3, 1) := by decide +kernel
theorem dX10_step_109 : decode cX10_step 109 = .ok (.iload 4, 2) := by decide +kernel
theorem dX10_step_111 : decode cX10_step 111 = .ok (.invokevirtual 273, 3) := by decide +kernel
theorem dX10_step_114 : decode cX10_step 114 = .ok (.ireturn, 1) := by decide +kernel
theorem dX10_step_115 : decode cX10_step 115 = .ok (.aload_n 0, 1) := by decide +kernel
theorem dX10_step_116 : decode cX10_step 116 = .ok (.getfield 77, 3) := by decide +kernel
theorem dX10_step_119 : decode cX10_step 119 = .ok (.getfield 276, 3) := by decide +kernel
theorem dX10_step_122 : decode cX10_step 122 = .ok (.iload_n 1, 1) := by decide +kernel
theorem dX10_step_123 : decode cX10_step 123 = .ok (.iaload, 1) := by decide +kernel
theorem dX10_step_124 : decode cX10_step 124 = .ok (.ireturn, 1) := by decide +kernel
theorem dX10_fullest_0 : decode cX10_fullest 0 = .ok (.aload_n 0, 1) := by decide +kernel
theorem dX10_fullest_1 : decode cX10_fullest 1 = .ok (.invokevirtual 188, 3) := by decide +kernel
theorem dX10_fullest_4 : decode cX10_fullest 4 = .ok (.iconst (-1), 1) := by decide +kernel
theorem dX10_fullest_5 : decode cX10_fullest 5 = .ok (.istore_n 1, 1) := by decide +kernel
theorem dX10_fullest_6 : decode cX10_fullest 6 = .ok (.iconst (-1), 1) := by decide +kernel
theorem dX10_fullest_7 : decode cX10_fullest 7 = .ok (.istore_n 2, 1) := by decide +kernel
theorem dX10_fullest_8 : decode cX10_fullest 8 = .ok (.iconst 0, 1) := by decide +kernel
theorem dX10_fullest_9 : decode cX10_fullest 9 = .ok (.istore_n 3, 1) := by decide +kernel
theorem dX10_fullest_10 : decode cX10_fullest 10 = .ok (.iload_n 3, 1) := by decide +kernel
theorem dX10_fullest_11 : decode cX10_fullest 11 = .ok (.iconst 1, 1) := by decide +kernel
theorem dX10_fullest_12 : decode cX10_fullest 12 = .ok (.iadd, 1) := by decide +kernel
theorem dX10_fullest_13 : decode cX10_fullest 13 = .ok (.aload_n 0, 1) := by decide +kernel
theorem dX10_fullest_14 : decode cX10_fullest 14 = .ok (.getfield 70, 3) := by decide +kernel
theorem dX10_fullest_17 : decode cX10_fullest 17 = .ok (.getfield 237, 3) := by decide +kernel
theorem dX10_fullest_20 : decode cX10_fullest 20 = .ok (.if_icmp .ge 45, 3) := by decide +kernel
theorem dX10_fullest_23 : decode cX10_fullest 23 = .ok (.aload_n 0, 1) := by decide +kernel
theorem dX10_fullest_24 : decode cX10_fullest 24 = .ok (.getfield 70, 3) := by decide +kernel
theorem dX10_fullest_27 : decode cX10_fullest 27 = .ok (.getfield 245, 3) := by decide +kernel
theorem dX10_fullest_30 : decode cX10_fullest 30 = .ok (.iload_n 3, 1) := by decide +kernel
theorem dX10_fullest_31 : decode cX10_fullest 31 = .ok (.iconst 1, 1) := by decide +kernel
theorem dX10_fullest_32 : decode cX10_fullest 32 = .ok (.iadd, 1) := by decide +kernel
theorem dX10_fullest_33 : decode cX10_fullest 33 = .ok (.iaload, 1) := by decide +kernel
theorem dX10_fullest_34 : decode cX10_fullest 34 = .ok (.aload_n 0, 1) := by decide +kernel
theorem dX10_fullest_35 : decode cX10_fullest 35 = .ok (.getfield 70, 3) := by decide +kernel
theorem dX10_fullest_38 : decode cX10_fullest 38 = .ok (.getfield 245, 3) := by decide +kernel
theorem dX10_fullest_41 : decode cX10_fullest 41 = .ok (.iload_n 3, 1) := by decide +kernel
theorem dX10_fullest_42 : decode cX10_fullest 42 = .ok (.iaload, 1) := by decide +kernel
theorem dX10_fullest_43 : decode cX10_fullest 43 = .ok (.isub, 1) := by decide +kernel
theorem dX10_fullest_44 : decode cX10_fullest 44 = .ok (.iconst 1, 1) := by decide +kernel
theorem dX10_fullest_45 : decode cX10_fullest 45 = .ok (.isub, 1) := by decide +kernel
theorem dX10_fullest_46 : decode cX10_fullest 46 = .ok (.istore 4, 2) := by decide +kernel
theorem dX10_fullest_48 : decode cX10_fullest 48 = .ok (.iload 4, 2) := by decide +kernel
theorem dX10_fullest_50 : decode cX10_fullest 50 = .ok (.iload_n 2, 1) := by decide +kernel
theorem dX10_fullest_51 : decode cX10_fullest 51 = .ok (.if_icmp .le 8, 3) := by decide +kernel
theorem dX10_fullest_54 : decode cX10_fullest 54 = .ok (.iload 4, 2) := by decide +kernel
theorem dX10_fullest_56 : decode cX10_fullest 56 = .ok (.istore_n 2, 1) := by decide +kernel
theorem dX10_fullest_57 : decode cX10_fullest 57 = .ok (.iload_n 3, 1) := by decide +kernel
theorem dX10_fullest_58 : decode cX10_fullest 58 = .ok (.istore_n 1, 1) := by decide +kernel
theorem dX10_fullest_59 : decode cX10_fullest 59 = .ok (.iinc 3 1, 3) := by decide +kernel
theorem dX10_fullest_62 : decode cX10_fullest 62 = .ok (.goto (-52), 3) := by decide +kernel
theorem dX10_fullest_65 : decode cX10_fullest 65 = .ok (.iload_n 1, 1) := by decide +kernel
theorem dX10_fullest_66 : decode cX10_fullest 66 = .ok (.ireturn, 1) := by decide +kernel
theorem dX10_area_0 : decode cX10_area 0 = .ok (.aload_n 0, 1) := by decide +kernel
theorem dX10_area_1 : decode cX10_area 1 = .ok (.invokevirtual 188, 3) := by decide +kernel
theorem dX10_area_4 : decode cX10_area 4 = .ok (.aload_n 0, 1) := by decide +kernel
theorem dX10_area_5 : decode cX10_area 5 = .ok (.getfield 70, 3) := by decide +kernel
theorem dX10_area_8 : decode cX10_area 8 = .ok (.getfield 279, 3) := by decide +kernel
theorem dX10_area_11 : decode cX10_area 11 = .ok (.ireturn, 1) := by decide +kernel
theorem dX10_knee_0 : decode cX10_knee 0 = .ok (.aload_n 0, 1) := by decide +kernel
theorem dX10_knee_1 : decode cX10_knee 1 = .ok (.invokevirtual 253, 3) := by decide +kernel
theorem dX10_knee_4 : decode cX10_knee 4 = .ok (.aload_n 0, 1) := by decide +kernel
theorem dX10_knee_5 : decode cX10_knee 5 = .ok (.getfield 77, 3) := by decide +kernel
theorem dX10_knee_8 : decode cX10_knee 8 = .ok (.getfield 256, 3) := by decide +kernel
theorem dX10_knee_11 : decode cX10_knee 11 = .ok (.ifCond .le 15, 3) := by decide +kernel
theorem dX10_knee_14 : decode cX10_knee 14 = .ok (.aload_n 0, 1) := by decide +kernel
theorem dX10_knee_15 : decode cX10_knee 15 = .ok (.getfield 77, 3) := by decide +kernel
theorem dX10_knee_18 : decode cX10_knee 18 = .ok (.getfield 276, 3) := by decide +kernel
theorem dX10_knee_21 : decode cX10_knee 21 = .ok (.iconst 0, 1) := by decide +kernel
theorem dX10_knee_22 : decode cX10_knee 22 = .ok (.iaload, 1) := by decide +kernel
theorem dX10_knee_23 : decode cX10_knee 23 = .ok (.goto 4, 3) := by decide +kernel
theorem dX10_knee_26 : decode cX10_knee 26 = .ok (.iconst (-1), 1) := by decide +kernel
theorem dX10_knee_27 : decode cX10_knee 27 = .ok (.ireturn, 1) := by decide +kernel
theorem dX10_gap_0 : decode cX10_gap 0 = .ok (.aload_n 0, 1) := by decide +kernel
theorem dX10_gap_1 : decode cX10_gap 1 = .ok (.invokevirtual 188, 3) := by decide +kernel
theorem dX10_gap_4 : decode cX10_gap 4 = .ok (.iconst (-1), 1) := by decide +kernel
theorem dX10_gap_5 : decode cX10_gap 5 = .ok (.istore_n 1, 1) := by decide +kernel
theorem dX10_gap_6 : decode cX10_gap 6 = .ok (.iconst 0, 1) := by decide +kernel
theorem dX10_gap_7 : decode cX10_gap 7 = .ok (.istore_n 2, 1) := by decide +kernel
theorem dX10_gap_8 : decode cX10_gap 8 = .ok (.iconst 0, 1) := by decide +kernel
theorem dX10_gap_9 : decode cX10_gap 9 = .ok (.istore_n 3, 1) := by decide +kernel
theorem dX10_gap_10 : decode cX10_gap 10 = .ok (.iload_n 3, 1) := by decide +kernel
theorem dX10_gap_11 : decode cX10_gap 11 = .ok (.iconst 1, 1) := by decide +kernel
theorem dX10_gap_12 : decode cX10_gap 12 = .ok (.iadd, 1) := by decide +kernel
theorem dX10_gap_13 : decode cX10_gap 13 = .ok (.aload_n 0, 1) := by decide +kernel
theorem dX10_gap_14 : decode cX10_gap 14 = .ok (.getfield 70, 3) := by decide +kernel
theorem dX10_gap_17 : decode cX10_gap 17 = .ok (.getfield 201, 3) := by decide +kernel
theorem dX10_gap_20 : decode cX10_gap 20 = .ok (.if_icmp .ge 45, 3) := by decide +kernel
theorem dX10_gap_23 : decode cX10_gap 23 = .ok (.aload_n 0, 1) := by decide +kernel
theorem dX10_gap_24 : decode cX10_gap 24 = .ok (.getfield 70, 3) := by decide +kernel
theorem dX10_gap_27 : decode cX10_gap 27 = .ok (.iload_n 3, 1) := by decide +kernel
theorem dX10_gap_28 : decode cX10_gap 28 = .ok (.iload_n 3, 1) := by decide +kernel
theorem dX10_gap_29 : decode cX10_gap 29 = .ok (.iconst 1, 1) := by decide +kernel
theorem dX10_gap_30 : decode cX10_gap 30 = .ok (.iadd, 1) := by decide +kernel
theorem dX10_gap_31 : decode cX10_gap 31 = .ok (.invokevirtual 273, 3) := by decide +kernel
theorem dX10_gap_34 : decode cX10_gap 34 = .ok (.aload_n 0, 1) := by decide +kernel
theorem dX10_gap_35 : decode cX10_gap 35 = .ok (.getfield 70, 3) := by decide +kernel
theorem dX10_gap_38 : decode cX10_gap 38 = .ok (.iload_n 3, 1) := by decide +kernel
theorem dX10_gap_39 : decode cX10_gap 39 = .ok (.iload_n 3, 1) := by decide +kernel
theorem dX10_gap_40 : decode cX10_gap 40 = .ok (.iconst 1, 1) := by decide +kernel
theorem dX10_gap_41 : decode cX10_gap 41 = .ok (.iadd, 1) := by decide +kernel
theorem dX10_gap_42 : decode cX10_gap 42 = .ok (.invokevirtual 270, 3) := by decide +kernel
theorem dX10_gap_45 : decode cX10_gap 45 = .ok (.imul, 1) := by decide +kernel
theorem dX10_gap_46 : decode cX10_gap 46 = .ok (.istore 4, 2) := by decide +kernel
theorem dX10_gap_48 : decode cX10_gap 48 = .ok (.iload 4, 2) := by decide +kernel
theorem dX10_gap_50 : decode cX10_gap 50 = .ok (.iload_n 2, 1) := by decide +kernel
theorem dX10_gap_51 : decode cX10_gap 51 = .ok (.if_icmp .le 8, 3) := by decide +kernel
theorem dX10_gap_54 : decode cX10_gap 54 = .ok (.iload 4, 2) := by decide +kernel
theorem dX10_gap_56 : decode cX10_gap 56 = .ok (.istore_n 2, 1) := by decide +kernel
theorem dX10_gap_57 : decode cX10_gap 57 = .ok (.iload_n 3, 1) := by decide +kernel
theorem dX10_gap_58 : decode cX10_gap 58 = .ok (.istore_n 1, 1) := by decide +kernel
theorem dX10_gap_59 : decode cX10_gap 59 = .ok (.iinc 3 1, 3) := by decide +kernel
theorem dX10_gap_62 : decode cX10_gap 62 = .ok (.goto (-52), 3) := by decide +kernel
theorem dX10_gap_65 : decode cX10_gap 65 = .ok (.iload_n 1, 1) := by decide +kernel
theorem dX10_gap_66 : decode cX10_gap 66 = .ok (.ireturn, 1) := by decide +kernel
theorem dX10_core_0 : decode cX10_core 0 = .ok (.aload_n 0, 1) := by decide +kernel
theorem dX10_core_1 : decode cX10_core 1 = .ok (.invokevirtual 188, 3) := by decide +kernel
theorem dX10_core_4 : decode cX10_core 4 = .ok (.aload_n 0, 1) := by decide +kernel
theorem dX10_core_5 : decode cX10_core 5 = .ok (.getfield 70, 3) := by decide +kernel
theorem dX10_core_8 : decode cX10_core 8 = .ok (.getfield 201, 3) := by decide +kernel
theorem dX10_core_11 : decode cX10_core 11 = .ok (.ifCond .le 13, 3) := by decide +kernel
theorem dX10_core_14 : decode cX10_core 14 = .ok (.aload_n 0, 1) := by decide +kernel
theorem dX10_core_15 : decode cX10_core 15 = .ok (.getfield 27, 3) := by decide +kernel
theorem dX10_core_18 : decode cX10_core 18 = .ok (.invokevirtual 282, 3) := by decide +kernel
theorem dX10_core_21 : decode cX10_core 21 = .ok (.goto 4, 3) := by decide +kernel
theorem dX10_core_24 : decode cX10_core 24 = .ok (.iconst 0, 1) := by decide +kernel
theorem dX10_core_25 : decode cX10_core 25 = .ok (.istore_n 1, 1) := by decide +kernel
theorem dX10_core_26 : decode cX10_core 26 = .ok (.iconst 0, 1) := by decide +kernel
theorem dX10_core_27 : decode cX10_core 27 = .ok (.istore_n 2, 1) := by decide +kernel
theorem dX10_core_28 : decode cX10_core 28 = .ok (.iload_n 2, 1) := by decide +kernel
theorem dX10_core_29 : decode cX10_core 29 = .ok (.aload_n 0, 1) := by decide +kernel
theorem dX10_core_30 : decode cX10_core 30 = .ok (.getfield 70, 3) := by decide +kernel
theorem dX10_core_33 : decode cX10_core 33 = .ok (.getfield 201, 3) := by decide +kernel
theorem dX10_core_36 : decode cX10_core 36 = .ok (.if_icmp .ge 21, 3) := by decide +kernel
theorem dX10_core_39 : decode cX10_core 39 = .ok (.iload_n 1, 1) := by decide +kernel
theorem dX10_core_40 : decode cX10_core 40 = .ok (.aload_n 0, 1) := by decide +kernel
theorem dX10_core_41 : decode cX10_core 41 = .ok (.getfield 70, 3) := by decide +kernel
theorem dX10_core_44 : decode cX10_core 44 = .ok (.getfield 209, 3) := by decide +kernel
theorem dX10_core_47 : decode cX10_core 47 = .ok (.iload_n 2, 1) := by decide +kernel
theorem dX10_core_48 : decode cX10_core 48 = .ok (.iaload, 1) := by decide +kernel
theorem dX10_core_49 : decode cX10_core 49 = .ok (.iand, 1) := by decide +kernel
theorem dX10_core_50 : decode cX10_core 50 = .ok (.istore_n 1, 1) := by decide +kernel
theorem dX10_core_51 : decode cX10_core 51 = .ok (.iinc 2 1, 3) := by decide +kernel
theorem dX10_core_54 : decode cX10_core 54 = .ok (.goto (-26), 3) := by decide +kernel
theorem dX10_core_57 : decode cX10_core 57 = .ok (.iload_n 1, 1) := by decide +kernel
theorem dX10_core_58 : decode cX10_core 58 = .ok (.ireturn, 1) := by decide +kernel
theorem dX10_unused_0 : decode cX10_unused 0 = .ok (.aload_n 0, 1) := by decide +kernel
theorem dX10_unused_1 : decode cX10_unused 1 = .ok (.invokevirtual 188, 3) := by decide +kernel
theorem dX10_unused_4 : decode cX10_unused 4 = .ok (.aload_n 0, 1) := by decide +kernel
theorem dX10_unused_5 : decode cX10_unused 5 = .ok (.getfield 27, 3) := by decide +kernel
theorem dX10_unused_8 : decode cX10_unused 8 = .ok (.invokevirtual 282, 3) := by decide +kernel
theorem dX10_unused_11 : decode cX10_unused 11 = .ok (.istore_n 1, 1) := by decide +kernel
theorem dX10_unused_12 : decode cX10_unused 12 = .ok (.iconst 0, 1) := by decide +kernel
theorem dX10_unused_13 : decode cX10_unused 13 = .ok (.istore_n 2, 1) := by decide +kernel
theorem dX10_unused_14 : decode cX10_unused 14 = .ok (.iload_n 2, 1) := by decide +kernel
theorem dX10_unused_15 : decode cX10_unused 15 = .ok (.aload_n 0, 1) := by decide +kernel
theorem dX10_unused_16 : decode cX10_unused 16 = .ok (.getfield 70, 3) := by decide +kernel
theorem dX10_unused_19 : decode cX10_unused 19 = .ok (.getfield 201, 3) := by decide +kernel
theorem dX10_unused_22 : decode cX10_unused 22 = .ok (.if_icmp .ge 23, 3) := by decide +kernel
theorem dX10_unused_25 : decode cX10_unused 25 = .ok (.iload_n 1, 1) := by decide +kernel
theorem dX10_unused_26 : decode cX10_unused 26 = .ok (.aload_n 0, 1) := by decide +kernel
theorem dX10_unused_27 : decode cX10_unused 27 = .ok (.getfield 70, 3) := by decide +kernel
theorem dX10_unused_30 : decode cX10_unused 30 = .ok (.getfield 209, 3) := by decide +kernel
theorem dX10_unused_33 : decode cX10_unused 33 = .ok (.iload_n 2, 1) := by decide +kernel
theorem dX10_unused_34 : decode cX10_unused 34 = .ok (.iaload, 1) := by decide +kernel
theorem dX10_unused_35 : decode cX10_unused 35 = .ok (.iconst (-1), 1) := by decide +kernel
theorem dX10_unused_36 : decode cX10_unused 36 = .ok (.ixor, 1) := by decide +kernel
theorem dX10_unused_37 : decode cX10_unused 37 = .ok (.iand, 1) := by decide +kernel
theorem dX10_unused_38 : decode cX10_unused 38 = .ok (.istore_n 1, 1) := by decide +kernel
theorem dX10_unused_39 : decode cX10_unused 39 = .ok (.iinc 2 1, 3) := by decide +kernel
theorem dX10_unused_42 : decode cX10_unused 42 = .ok (.goto (-28), 3) := by decide +kernel
theorem dX10_unused_45 : decode cX10_unused 45 = .ok (.iload_n 1, 1) := by decide +kernel
theorem dX10_unused_46 : decode cX10_unused 46 = .ok (.ireturn, 1) := by decide +kernel
theorem dX10_lostWithout_0 : decode cX10_lostWithout 0 = .ok (.aload_n 0, 1) := by decide +kernel
theorem dX10_lostWithout_1 : decode cX10_lostWithout 1 = .ok (.iload_n 1, 1) := by decide +kernel
theorem dX10_lostWithout_2 : decode cX10_lostWithout 2 = .ok (.invokevirtual 173, 3) := by decide +kernel
theorem dX10_lostWithout_5 : decode cX10_lostWithout 5 = .ok (.aload_n 0, 1) := by decide +kernel
theorem dX10_lostWithout_6 : decode cX10_lostWithout 6 = .ok (.invokevirtual 188, 3) := by decide +kernel
theorem dX10_lostWithout_9 : decode cX10_lostWithout 9 = .ok (.aload_n 0, 1) := by decide +kernel
theorem dX10_lostWithout_10 : decode cX10_lostWithout 10 = .ok (.getfield 70, 3) := by decide +kernel
theorem dX10_lostWithout_13 : decode cX10_lostWithout 13 = .ok (.getfield 201, 3) := by decide +kernel
theorem dX10_lostWithout_16 : decode cX10_lostWithout 16 = .ok (.aload_n 0, 1) := by decide +kernel
theorem dX10_lostWithout_17 : decode cX10_lostWithout 17 = .ok (.getfield 70, 3) := by decide +kernel
theorem dX10_lostWithout_20 : decode cX10_lostWithout 20 = .ok (.aload_n 0, 1) := by decide +kernel
theorem dX10_lostWithout_21 : decode cX10_lostWithout 21 = .ok (.getfield 56, 3) := by decide +kernel
theorem dX10_lostWithout_24 : decode cX10_lostWithout 24 = .ok (.aload_n 0, 1) := by decide +kernel
theorem dX10_lostWithout_25 : decode cX10_lostWithout 25 = .ok (.getfield 27, 3) := by decide +kernel
theorem dX10_lostWithout_28 : decode cX10_lostWithout 28 = .ok (.getfield 147, 3) := by decide +kernel
theorem dX10_lostWithout_31 : decode cX10_lostWithout 31 = .ok (.iconst 1, 1) := by decide +kernel
theorem dX10_lostWithout_32 : decode cX10_lostWithout 32 = .ok (.iload_n 1, 1) := by decide +kernel
theorem dX10_lostWithout_33 : decode cX10_lostWithout 33 = .ok (.ishl, 1) := by decide +kernel
theorem dX10_lostWithout_34 : decode cX10_lostWithout 34 = .ok (.invokevirtual 286, 3) := by decide +kernel
theorem dX10_lostWithout_37 : decode cX10_lostWithout 37 = .ok (.isub, 1) := by decide +kernel
theorem dX10_lostWithout_38 : decode cX10_lostWithout 38 = .ok (.ireturn, 1) := by decide +kernel
theorem dX10_worth_0 : decode cX10_worth 0 = .ok (.aload_n 0, 1) := by decide +kernel
theorem dX10_worth_1 : decode cX10_worth 1 = .ok (.iload_n 1, 1) := by decide +kernel
theorem dX10_worth_2 : decode cX10_worth 2 = .ok (.invokevirtual 173, 3) := by decide +kernel
theorem dX10_worth_5 : decode cX10_worth 5 = .ok (.aload_n 0, 1) := by decide +kernel
theorem dX10_worth_6 : decode cX10_worth 6 = .ok (.invokevirtual 188, 3) := by decide +kernel
theorem dX10_worth_9 : decode cX10_worth 9 = .ok (.aload_n 0, 1) := by decide +kernel
theorem dX10_worth_10 : decode cX10_worth 10 = .ok (.getfield 70, 3) := by decide +kernel
theorem dX10_worth_13 : decode cX10_worth 13 = .ok (.getfield 198, 3) := by decide +kernel
theorem dX10_worth_16 : decode cX10_worth 16 = .ok (.ifCond .ne 5, 3) := by decide +kernel
theorem dX10_worth_19 : decode cX10_worth 19 = .ok (.iconst 0, 1) := by decide +kernel
theorem dX10_worth_20 : decode cX10_worth 20 = .ok (.ireturn, 1) := by decide +kernel
theorem dX10_worth_21 : decode cX10_worth 21 = .ok (.aload_n 0, 1) := by decide +kernel
theorem dX10_worth_22 : decode cX10_worth 22 = .ok (.getfield 63, 3) := by decide +kernel
theorem dX10_worth_25 : decode cX10_worth 25 = .ok (.aload_n 0, 1) := by decide +kernel
theorem dX10_worth_26 : decode cX10_worth 26 = .ok (.getfield 56, 3) := by decide +kernel
theorem dX10_worth_29 : decode cX10_worth 29 = .ok (.aload_n 0, 1) := by decide +kernel
theorem dX10_worth_30 : decode cX10_worth 30 = .ok (.getfield 27, 3) := by decide +kernel
theorem dX10_worth_33 : decode cX10_worth 33 = .ok (.getfield 147, 3) := by decide +kernel
theorem dX10_worth_36 : decode cX10_worth 36 = .ok (.iconst 1, 1) := by decide +kernel
theorem dX10_worth_37 : decode cX10_worth 37 = .ok (.iload_n 1, 1) := by decide +kernel
theorem dX10_worth_38 : decode cX10_worth 38 = .ok (.ishl, 1) := by decide +kernel
theorem dX10_worth_39 : decode cX10_worth 39 = .ok (.invokevirtual 290, 3) := by decide +kernel
theorem dX10_worth_42 : decode cX10_worth 42 = .ok (.aload_n 0, 1) := by decide +kernel
theorem dX10_worth_43 : decode cX10_worth 43 = .ok (.getfield 63, 3) := by decide +kernel
theorem dX10_worth_46 : decode cX10_worth 46 = .ok (.getfield 294, 3) := by decide +kernel
theorem dX10_worth_49 : decode cX10_worth 49 = .ok (.ifCond .ne 7, 3) := by decide +kernel
theorem dX10_worth_52 : decode cX10_worth 52 = .ok (.iconst (-1), 1) := by decide +kernel
theorem dX10_worth_53 : decode cX10_worth 53 = .ok (.goto 18, 3) := by decide +kernel
theorem dX10_worth_56 : decode cX10_worth 56 = .ok (.aload_n 0, 1) := by decide +kernel
theorem dX10_worth_57 : decode cX10_worth 57 = .ok (.getfield 70, 3) := by decide +kernel
theorem dX10_worth_60 : decode cX10_worth 60 = .ok (.getfield 279, 3) := by decide +kernel
theorem dX10_worth_63 : decode cX10_worth 63 = .ok (.aload_n 0, 1) := by decide +kernel
theorem dX10_worth_64 : decode cX10_worth 64 = .ok (.getfield 63, 3) := by decide +kernel
theorem dX10_worth_67 : decode cX10_worth 67 = .ok (.invokevirtual 295, 3) := by decide +kernel
theorem dX10_worth_70 : decode cX10_worth 70 = .ok (.isub, 1) := by decide +kernel
theorem dX10_worth_71 : decode cX10_worth 71 = .ok (.ireturn, 1) := by decide +kernel
theorem dX10_pointsWith_0 : decode cX10_pointsWith 0 = .ok (.iload_n 1, 1) := by decide +kernel
theorem dX10_pointsWith_1 : decode cX10_pointsWith 1 = .ok (.invokestatic 297, 3) := by decide +kernel
theorem dX10_pointsWith_4 : decode cX10_pointsWith 4 = .ok (.aload_n 0, 1) := by decide +kernel
theorem dX10_pointsWith_5 : decode cX10_pointsWith 5 = .ok (.invokevirtual 188, 3) := by decide +kernel
theorem dX10_pointsWith_8 : decode cX10_pointsWith 8 = .ok (.aload_n 0, 1) := by decide +kernel
theorem dX10_pointsWith_9 : decode cX10_pointsWith 9 = .ok (.getfield 63, 3) := by decide +kernel
theorem dX10_pointsWith_12 : decode cX10_pointsWith 12 = .ok (.aload_n 0, 1) := by decide +kernel
theorem dX10_pointsWith_13 : decode cX10_pointsWith 13 = .ok (.getfield 56, 3) := by decide +kernel
theorem dX10_pointsWith_16 : decode cX10_pointsWith 16 = .ok (.iload_n 1, 1) := by decide +kernel
theorem dX10_pointsWith_17 : decode cX10_pointsWith 17 = .ok (.iconst 0, 1) := by decide +kernel
theorem dX10_pointsWith_18 : decode cX10_pointsWith 18 = .ok (.invokevirtual 290, 3) := by decide +kernel
theorem dX10_pointsWith_21 : decode cX10_pointsWith 21 = .ok (.aload_n 0, 1) := by decide +kernel
theorem dX10_pointsWith_22 : decode cX10_pointsWith 22 = .ok (.getfield 63, 3) := by decide +kernel
theorem dX10_pointsWith_25 : decode cX10_pointsWith 25 = .ok (.invokevirtual 300, 3) := by decide +kernel
theorem dX10_pointsWith_28 : decode cX10_pointsWith 28 = .ok (.ireturn, 1) := by decide +kernel
theorem dX10_capacityFor_0 : decode cX10_capacityFor 0 = .ok (.aload_n 0, 1) := by decide +kernel
theorem dX10_capacityFor_1 : decode cX10_capacityFor 1 = .ok (.invokevirtual 188, 3) := by decide +kernel
theorem dX10_capacityFor_4 : decode cX10_capacityFor 4 = .ok (.aload_n 0, 1) := by decide +kernel
theorem dX10_capacityFor_5 : decode cX10_capacityFor 5 = .ok (.getfield 56, 3) := by decide +kernel
theorem dX10_capacityFor_8 : decode cX10_capacityFor 8 = .ok (.iload_n 1, 1) := by decide +kernel
theorem dX10_capacityFor_9 : decode cX10_capacityFor 9 = .ok (.iload_n 2, 1) := by decide +kernel
theorem dX10_capacityFor_10 : decode cX10_capacityFor 10 = .ok (.invokevirtual 303, 3) := by decide +kernel
theorem dX10_capacityFor_13 : decode cX10_capacityFor 13 = .ok (.ireturn, 1) := by decide +kernel
theorem dX10_nearTo_0 : decode cX10_nearTo 0 = .ok (.aload_n 0, 1) := by decide +kernel
theorem dX10_nearTo_1 : decode cX10_nearTo 1 = .ok (.iload_n 1, 1) := by decide +kernel
theorem dX10_nearTo_2 : decode cX10_nearTo 2 = .ok (.invokevirtual 185, 3) := by decide +kernel
theorem dX10_nearTo_5 : decode cX10_nearTo 5 = .ok (.aload_n 0, 1) := by decide +kernel
theorem dX10_nearTo_6 : decode cX10_nearTo 6 = .ok (.invokevirtual 188, 3) := by decide +kernel
theorem dX10_nearTo_9 : decode cX10_nearTo 9 = .ok (.iconst (-1), 1) := by decide +kernel
theorem dX10_nearTo_10 : decode cX10_nearTo 10 = .ok (.istore_n 2, 1) := by decide +kernel
theorem dX10_nearTo_11 : decode cX10_nearTo 11 = .ok (.bipush 13, 2) := by decide +kernel
theorem dX10_nearTo_13 : decode cX10_nearTo 13 = .ok (.istore_n 3, 1) := by decide +kernel
theorem dX10_nearTo_14 : decode cX10_nearTo 14 = .ok (.iconst 0, 1) := by decide +kernel
theorem dX10_nearTo_15 : decode cX10_nearTo 15 = .ok (.istore 4, 2) := by decide +kernel
theorem dX10_nearTo_17 : decode cX10_nearTo 17 = .ok (.iload 4, 2) := by decide +kernel
theorem dX10_nearTo_19 : decode cX10_nearTo 19 = .ok (.aload_n 0, 1) := by decide +kernel
theorem dX10_nearTo_20 : decode cX10_nearTo 20 = .ok (.getfield 70, 3) := by decide +kernel
theorem dX10_nearTo_23 : decode cX10_nearTo 23 = .ok (.getfield 201, 3) := by decide +kernel
theorem dX10_nearTo_26 : decode cX10_nearTo 26 = .ok (.if_icmp .ge 38, 3) := by decide +kernel
theorem dX10_nearTo_29 : decode cX10_nearTo 29 = .ok (.aload_n 0, 1) := by decide +kernel
theorem dX10_nearTo_30 : decode cX10_nearTo 30 = .ok (.getfield 70, 3) := by decide +kernel
theorem dX10_nearTo_33 : decode cX10_nearTo 33 = .ok (.getfield 209, 3) := by decide +kernel
theorem dX10_nearTo_36 : decode cX10_nearTo 36 = .ok (.iload 4, 2) := by decide +kernel
theorem dX10_nearTo_38 : decode cX10_nearTo 38 = .ok (.iaload, 1) := by decide +kernel
theorem dX10_nearTo_39 : decode cX10_nearTo 39 = .ok (.iload_n 1, 1) := by decide +kernel
theorem dX10_nearTo_40 : decode cX10_nearTo 40 = .ok (.ixor, 1) := by decide +kernel
theorem dX10_nearTo_41 : decode cX10_nearTo 41 = .ok (.invokestatic 306, 3) := by decide +kernel
theorem dX10_nearTo_44 : decode cX10_nearTo 44 = .ok (.istore 5, 2) := by decide +kernel
theorem dX10_nearTo_46 : decode cX10_nearTo 46 = .ok (.iload 5, 2) := by decide +kernel
theorem dX10_nearTo_48 : decode cX10_nearTo 48 = .ok (.iload_n 3, 1) := by decide +kernel
theorem dX10_nearTo_49 : decode cX10_nearTo 49 = .ok (.if_icmp .ge 9, 3) := by decide +kernel
theorem dX10_nearTo_52 : decode cX10_nearTo 52 = .ok (.iload 5, 2) := by decide +kernel
theorem dX10_nearTo_54 : decode cX10_nearTo 54 = .ok (.istore_n 3, 1) := by decide +kernel
theorem dX10_nearTo_55 : decode cX10_nearTo 55 = .ok (.iload 4, 2) := by decide +kernel
theorem dX10_nearTo_57 : decode cX10_nearTo 57 = .ok (.istore_n 2, 1) := by decide +kernel
theorem dX10_nearTo_58 : decode cX10_nearTo 58 = .ok (.iinc 4 1, 3) := by decide +kernel
theorem dX10_nearTo_61 : decode cX10_nearTo 61 = .ok (.goto (-44), 3) := by decide +kernel
theorem dX10_nearTo_64 : decode cX10_nearTo 64 = .ok (.iload_n 2, 1) := by decide +kernel
theorem dX10_nearTo_65 : decode cX10_nearTo 65 = .ok (.ireturn, 1) := by decide +kernel
theorem dX10_apart_0 : decode cX10_apart 0 = .ok (.aload_n 0, 1) := by decide +kernel
theorem dX10_apart_1 : decode cX10_apart 1 = .ok (.iload_n 1, 1) := by decide +kernel
theorem dX10_apart_2 : decode cX10_apart 2 = .ok (.invokevirtual 204, 3) := by decide +kernel
theorem dX10_apart_5 : decode cX10_apart 5 = .ok (.aload_n 0, 1) := by decide +kernel
theorem dX10_apart_6 : decode cX10_apart 6 = .ok (.iload_n 2, 1) := by decide +kernel
theorem dX10_apart_7 : decode cX10_apart 7 = .ok (.invokevirtual 204, 3) := by decide +kernel
theorem dX10_apart_10 : decode cX10_apart 10 = .ok (.aload_n 0, 1) := by decide +kernel
theorem dX10_apart_11 : decode cX10_apart 11 = .ok (.getfield 70, 3) := by decide +kernel
theorem dX10_apart_14 : decode cX10_apart 14 = .ok (.getfield 209, 3) := by decide +kernel
theorem dX10_apart_17 : decode cX10_apart 17 = .ok (.iload_n 1, 1) := by decide +kernel
theorem dX10_apart_18 : decode cX10_apart 18 = .ok (.iaload, 1) := by decide +kernel
theorem dX10_apart_19 : decode cX10_apart 19 = .ok (.aload_n 0, 1) := by decide +kernel
theorem dX10_apart_20 : decode cX10_apart 20 = .ok (.getfield 70, 3) := by decide +kernel
theorem dX10_apart_23 : decode cX10_apart 23 = .ok (.getfield 209, 3) := by decide +kernel
theorem dX10_apart_26 : decode cX10_apart 26 = .ok (.iload_n 2, 1) := by decide +kernel
theorem dX10_apart_27 : decode cX10_apart 27 = .ok (.iaload, 1) := by decide +kernel
theorem dX10_apart_28 : decode cX10_apart 28 = .ok (.ixor, 1) := by decide +kernel
theorem dX10_apart_29 : decode cX10_apart 29 = .ok (.invokestatic 306, 3) := by decide +kernel
theorem dX10_apart_32 : decode cX10_apart 32 = .ok (.ireturn, 1) := by decide +kernel
theorem dX10_layers_0 : decode cX10_layers 0 = .ok (.aload_n 0, 1) := by decide +kernel
theorem dX10_layers_1 : decode cX10_layers 1 = .ok (.invokevirtual 312, 3) := by decide +kernel
theorem dX10_layers_4 : decode cX10_layers 4 = .ok (.aload_n 0, 1) := by decide +kernel
theorem dX10_layers_5 : decode cX10_layers 5 = .ok (.getfield 84, 3) := by decide +kernel
theorem dX10_layers_8 : decode cX10_layers 8 = .ok (.getfield 315, 3) := by decide +kernel
theorem dX10_layers_11 : decode cX10_layers 11 = .ok (.ireturn, 1) := by decide +kernel
theorem dX10_layerSize_0 : decode cX10_layerSize 0 = .ok (.aload_n 0, 1) := by decide +kernel
theorem dX10_layerSize_1 : decode cX10_layerSize 1 = .ok (.invokevirtual 312, 3) := by decide +kernel
theorem dX10_layerSize_4 : decode cX10_layerSize 4 = .ok (.iload_n 1, 1) := by decide +kernel
theorem dX10_layerSize_5 : decode cX10_layerSize 5 = .ok (.ifCond .lt 14, 3) := by decide +kernel
theorem dX10_layerSize_8 : decode cX10_layerSize 8 = .ok (.iload_n 1, 1) := by decide +kernel
theorem dX10_layerSize_9 : decode cX10_layerSize 9 = .ok (.aload_n 0, 1) := by decide +kernel
theorem dX10_layerSize_10 : decode cX10_layerSize 10 = .ok (.getfield 84, 3) := by decide +kernel
theorem dX10_layerSize_13 : decode cX10_layerSize 13 = .ok (.getfield 315, 3) := by decide +kernel
theorem dX10_layerSize_16 : decode cX10_layerSize 16 = .ok (.if_icmp .lt 14, 3) := by decide +kernel
theorem dX10_layerSize_19 : decode cX10_layerSize 19 = .ok (.new 240, 3) := by decide +kernel
theorem dX10_layerSize_22 : decode cX10_layerSize 22 = .ok (.dup, 1) := by decide +kernel
theorem dX10_layerSize_23 : decode cX10_layerSize 23 = .ok (.ldc_w 316, 3) := by decide +kernel
theorem dX10_layerSize_26 : decode cX10_layerSize 26 = .ok (.invokespecial 244, 3) := by decide +kernel
theorem dX10_layerSize_29 : decode cX10_layerSize 29 = .ok (.athrow, 1) := by decide +kernel
theorem dX10_layerSize_30 : decode cX10_layerSize 30 = .ok (.aload_n 0, 1) := by decide +kernel
theorem dX10_layerSize_31 : decode cX10_layerSize 31 = .ok (.getfield 84, 3) := by decide +kernel
theorem dX10_layerSize_34 : decode cX10_layerSize 34 = .ok (.getfield 318, 3) := by decide +kernel
theorem dX10_layerSize_37 : decode cX10_layerSize 37 = .ok (.iload_n 1, 1) := by decide +kernel
theorem dX10_layerSize_38 : decode cX10_layerSize 38 = .ok (.iaload, 1) := by decide +kernel
theorem dX10_layerSize_39 : decode cX10_layerSize 39 = .ok (.ireturn, 1) := by decide +kernel
theorem dX10_layerOf_0 : decode cX10_layerOf 0 = .ok (.aload_n 0, 1) := by decide +kernel
theorem dX10_layerOf_1 : decode cX10_layerOf 1 = .ok (.iload_n 1, 1) := by decide +kernel
theorem dX10_layerOf_2 : decode cX10_layerOf 2 = .ok (.invokevirtual 185, 3) := by decide +kernel
theorem dX10_layerOf_5 : decode cX10_layerOf 5 = .ok (.aload_n 0, 1) := by decide +kernel
theorem dX10_layerOf_6 : decode cX10_layerOf 6 = .ok (.invokevirtual 312, 3) := by decide +kernel
theorem dX10_layerOf_9 : decode cX10_layerOf 9 = .ok (.aload_n 0, 1) := by decide +kernel
theorem dX10_layerOf_10 : decode cX10_layerOf 10 = .ok (.getfield 84, 3) := by decide +kernel
theorem dX10_layerOf_13 : decode cX10_layerOf 13 = .ok (.getfield 320, 3) := by decide +kernel
theorem dX10_layerOf_16 : decode cX10_layerOf 16 = .ok (.iload_n 1, 1) := by decide +kernel
theorem dX10_layerOf_17 : decode cX10_layerOf 17 = .ok (.iaload, 1) := by decide +kernel
theorem dX10_layerOf_18 : decode cX10_layerOf 18 = .ok (.ireturn, 1) := by decide +kernel
theorem dX10_climb_0 : decode cX10_climb 0 = .ok (.iload_n 1, 1) := by decide +kernel
theorem dX10_climb_1 : decode cX10_climb 1 = .ok (.iload_n 2, 1) := by decide +kernel
theorem dX10_climb_2 : decode cX10_climb 2 = .ok (.invokestatic 228, 3) := by decide +kernel
theorem dX10_climb_5 : decode cX10_climb 5 = .ok (.aload_n 0, 1) := by decide +kernel
theorem dX10_climb_6 : decode cX10_climb 6 = .ok (.invokevirtual 188, 3) := by decide +kernel
theorem dX10_climb_9 : decode cX10_climb 9 = .ok (.aload_n 0, 1) := by decide +kernel
theorem dX10_climb_10 : decode cX10_climb 10 = .ok (.getfield 91, 3) := by decide +kernel
theorem dX10_climb_13 : decode cX10_climb 13 = .ok (.aload_n 0, 1) := by decide +kernel
theorem dX10_climb_14 : decode cX10_climb 14 = .ok (.getfield 56, 3) := by decide +kernel
theorem dX10_climb_17 : decode cX10_climb 17 = .ok (.aload_n 0, 1) := by decide +kernel
theorem dX10_climb_18 : decode cX10_climb 18 = .ok (.getfield 27, 3) := by decide +kernel
theorem dX10_climb_21 : decode cX10_climb 21 = .ok (.iload_n 1, 1) := by decide +kernel
theorem dX10_climb_22 : decode cX10_climb 22 = .ok (.iload_n 2, 1) := by decide +kernel
theorem dX10_climb_23 : decode cX10_climb 23 = .ok (.invokevirtual 323, 3) := by decide +kernel
theorem dX10_climb_26 : decode cX10_climb 26 = .ok (.aload_n 0, 1) := by decide +kernel
theorem dX10_climb_27 : decode cX10_climb 27 = .ok (.getfield 91, 3) := by decide +kernel
theorem dX10_climb_30 : decode cX10_climb 30 = .ok (.getfield 327, 3) := by decide +kernel
theorem dX10_climb_33 : decode cX10_climb 33 = .ok (.ireturn, 1) := by decide +kernel
theorem dX10_share_0 : decode cX10_share 0 = .ok (.aload_n 0, 1) := by decide +kernel
theorem dX10_share_1 : decode cX10_share 1 = .ok (.invokevirtual 188, 3) := by decide +kernel
theorem dX10_share_4 : decode cX10_share 4 = .ok (.aload_n 0, 1) := by decide +kernel
theorem dX10_share_5 : decode cX10_share 5 = .ok (.getfield 70, 3) := by decide +kernel
theorem dX10_share_8 : decode cX10_share 8 = .ok (.getfield 198, 3) := by decide +kernel
theorem dX10_share_11 : decode cX10_share 11 = .ok (.ifCond .ne 5, 3) := by decide +kernel
theorem dX10_share_14 : decode cX10_share 14 = .ok (.dconst 0, 1) := by decide +kernel
theorem dX10_share_15 : decode cX10_share 15 = .ok (.dreturn, 1) := by decide +kernel
theorem dX10_share_16 : decode cX10_share 16 = .ok (.aload_n 0, 1) := by decide +kernel
theorem dX10_share_17 : decode cX10_share 17 = .ok (.getfield 70, 3) := by decide +kernel
theorem dX10_share_20 : decode cX10_share 20 = .ok (.getfield 201, 3) := by decide +kernel
theorem dX10_share_23 : decode cX10_share 23 = .ok (.i2d, 1) := by decide +kernel
theorem dX10_share_24 : decode cX10_share 24 = .ok (.aload_n 0, 1) := by decide +kernel
theorem dX10_share_25 : decode cX10_share 25 = .ok (.getfield 70, 3) := by decide +kernel
theorem dX10_share_28 : decode cX10_share 28 = .ok (.getfield 198, 3) := by decide +kernel
theorem dX10_share_31 : decode cX10_share 31 = .ok (.i2d, 1) := by decide +kernel
theorem dX10_share_32 : decode cX10_share 32 = .ok (.ddiv, 1) := by decide +kernel
theorem dX10_share_33 : decode cX10_share 33 = .ok (.dreturn, 1) := by decide +kernel
theorem dX10_addItem_0 : decode cX10_addItem 0 = .ok (.iload_n 1, 1) := by decide +kernel
theorem dX10_addItem_1 : decode cX10_addItem 1 = .ok (.invokestatic 330, 3) := by decide +kernel
theorem dX10_addItem_4 : decode cX10_addItem 4 = .ok (.iload_n 2, 1) := by decide +kernel
theorem dX10_addItem_5 : decode cX10_addItem 5 = .ok (.invokestatic 330, 3) := by decide +kernel
theorem dX10_addItem_8 : decode cX10_addItem 8 = .ok (.iload_n 3, 1) := by decide +kernel
theorem dX10_addItem_9 : decode cX10_addItem 9 = .ok (.invokestatic 330, 3) := by decide +kernel
theorem dX10_addItem_12 : decode cX10_addItem 12 = .ok (.aload_n 0, 1) := by decide +kernel
theorem dX10_addItem_13 : decode cX10_addItem 13 = .ok (.getfield 27, 3) := by decide +kernel
theorem dX10_addItem_16 : decode cX10_addItem 16 = .ok (.getfield 140, 3) := by decide +kernel
theorem dX10_addItem_19 : decode cX10_addItem 19 = .ok (.bipush 12, 2) := by decide +kernel
theorem dX10_addItem_21 : decode cX10_addItem 21 = .ok (.if_icmp .lt 14, 3) := by decide +kernel
theorem dX10_addItem_24 : decode cX10_addItem 24 = .ok (.new 98, 3) := by decide +kernel
theorem dX10_addItem_27 : decode cX10_addItem 27 = .ok (.dup, 1) := by decide +kernel
theorem dX10_addItem_28 : decode cX10_addItem 28 = .ok (.ldc_w 333, 3) := by decide +kernel
theorem dX10_addItem_31 : decode cX10_addItem 31 = .ok (.invokespecial 102, 3) := by decide +kernel
theorem dX10_addItem_34 : decode cX10_addItem 34 = .ok (.athrow, 1) := by decide +kernel
theorem dX10_addItem_35 : decode cX10_addItem 35 = .ok (.aload_n 0, 1) := by decide +kernel
theorem dX10_addItem_36 : decode cX10_addItem 36 = .ok (.getfield 34, 3) := by decide +kernel
theorem dX10_addItem_39 : decode cX10_addItem 39 = .ok (.aload_n 0, 1) := by decide +kernel
theorem dX10_addItem_40 : decode cX10_addItem 40 = .ok (.getfield 27, 3) := by decide +kernel
theorem dX10_addItem_43 : decode cX10_addItem 43 = .ok (.invokevirtual 127, 3) := by decide +kernel
theorem dX10_addItem_46 : decode cX10_addItem 46 = .ok (.aload_n 0, 1) := by decide +kernel
theorem dX10_addItem_47 : decode cX10_addItem 47 = .ok (.getfield 27, 3) := by decide +kernel
theorem dX10_addItem_50 : decode cX10_addItem 50 = .ok (.iload_n 1, 1) := by decide +kernel
theorem dX10_addItem_51 : decode cX10_addItem 51 = .ok (.iload_n 2, 1) := by decide +kernel
theorem dX10_addItem_52 : decode cX10_addItem 52 = .ok (.iload_n 3, 1) := by decide +kernel
theorem dX10_addItem_53 : decode cX10_addItem 53 = .ok (.invokevirtual 335, 3) := by decide +kernel
theorem dX10_addItem_56 : decode cX10_addItem 56 = .ok (.aload_n 0, 1) := by decide +kernel
theorem dX10_addItem_57 : decode cX10_addItem 57 = .ok (.invokevirtual 137, 3) := by decide +kernel
theorem dX10_addItem_60 : decode cX10_addItem 60 = .ok (.aload_n 0, 1) := by decide +kernel
theorem dX10_addItem_61 : decode cX10_addItem 61 = .ok (.getfield 27, 3) := by decide +kernel
theorem dX10_addItem_64 : decode cX10_addItem 64 = .ok (.getfield 140, 3) := by decide +kernel
theorem dX10_addItem_67 : decode cX10_addItem 67 = .ok (.iconst 1, 1) := by decide +kernel
theorem dX10_addItem_68 : decode cX10_addItem 68 = .ok (.isub, 1) := by decide +kernel
theorem dX10_addItem_69 : decode cX10_addItem 69 = .ok (.ireturn, 1) := by decide +kernel
theorem dX10_dropItem_0 : decode cX10_dropItem 0 = .ok (.aload_n 0, 1) := by decide +kernel
theorem dX10_dropItem_1 : decode cX10_dropItem 1 = .ok (.iload_n 1, 1) := by decide +kernel
theorem dX10_dropItem_2 : decode cX10_dropItem 2 = .ok (.invokevirtual 173, 3) := by decide +kernel
theorem dX10_dropItem_5 : decode cX10_dropItem 5 = .ok (.aload_n 0, 1) := by decide +kernel
theorem dX10_dropItem_6 : decode cX10_dropItem 6 = .ok (.getfield 34, 3) := by decide +kernel
theorem dX10_dropItem_9 : decode cX10_dropItem 9 = .ok (.aload_n 0, 1) := by decide +kernel
theorem dX10_dropItem_10 : decode cX10_dropItem 10 = .ok (.getfield 27, 3) := by decide +kernel
theorem dX10_dropItem_13 : decode cX10_dropItem 13 = .ok (.invokevirtual 127, 3) := by decide +kernel
theorem dX10_dropItem_16 : decode cX10_dropItem 16 = .ok (.aload_n 0, 1) := by decide +kernel
theorem dX10_dropItem_17 : decode cX10_dropItem 17 = .ok (.getfield 27, 3) := by decide +kernel
theorem dX10_dropItem_20 : decode cX10_dropItem 20 = .ok (.iload_n 1, 1) := by decide +kernel
theorem dX10_dropItem_21 : decode cX10_dropItem 21 = .ok (.invokevirtual 339, 3) := by decide +kernel
theorem dX10_dropItem_24 : decode cX10_dropItem 24 = .ok (.aload_n 0, 1) := by decide +kernel
theorem dX10_dropItem_25 : decode cX10_dropItem 25 = .ok (.invokevirtual 137, 3) := by decide +kernel
theorem dX10_dropItem_28 : decode cX10_dropItem 28 = .ok (.aload_n 0, 1) := by decide +kernel
theorem dX10_dropItem_29 : decode cX10_dropItem 29 = .ok (.getfield 27, 3) := by decide +kernel
theorem dX10_dropItem_32 : decode cX10_dropItem 32 = .ok (.getfield 140, 3) := by decide +kernel
theorem dX10_dropItem_35 : decode cX10_dropItem 35 = .ok (.ireturn, 1) := by decide +kernel
theorem dX10_setItem_0 : decode cX10_setItem 0 = .ok (.aload_n 0, 1) := by decide +kernel
theorem dX10_setItem_1 : decode cX10_setItem 1 = .ok (.iload_n 1, 1) := by decide +kernel
theorem dX10_setItem_2 : decode cX10_setItem 2 = .ok (.invokevirtual 173, 3) := by decide +kernel
theorem dX10_setItem_5 : decode cX10_setItem 5 = .ok (.iload_n 2, 1) := by decide +kernel
theorem dX10_setItem_6 : decode cX10_setItem 6 = .ok (.iconst 2, 1) := by decide +kernel
theorem dX10_setItem_7 : decode cX10_setItem 7 = .ok (.invokestatic 143, 3) := by decide +kernel
theorem dX10_setItem_10 : decode cX10_setItem 10 = .ok (.iload_n 3, 1) := by decide +kernel
theorem dX10_setItem_11 : decode cX10_setItem 11 = .ok (.invokestatic 330, 3) := by decide +kernel
theorem dX10_setItem_14 : decode cX10_setItem 14 = .ok (.aload_n 0, 1) := by decide +kernel
theorem dX10_setItem_15 : decode cX10_setItem 15 = .ok (.getfield 34, 3) := by decide +kernel
theorem dX10_setItem_18 : decode cX10_setItem 18 = .ok (.aload_n 0, 1) := by decide +kernel
theorem dX10_setItem_19 : decode cX10_setItem 19 = .ok (.getfield 27, 3) := by decide +kernel
theorem dX10_setItem_22 : decode cX10_setItem 22 = .ok (.invokevirtual 127, 3) := by decide +kernel
theorem dX10_setItem_25 : decode cX10_setItem 25 = .ok (.iload_n 2, 1) := by decide +kernel
theorem dX10_setItem_26 : decode cX10_setItem 26 = .ok (.ifCond .ne 13, 3) := by decide +kernel
theorem dX10_setItem_29 : decode cX10_setItem 29 = .ok (.aload_n 0, 1) := by decide +kernel
theorem dX10_setItem_30 : decode cX10_setItem 30 = .ok (.getfield 27, 3) := by decide +kernel
theorem dX10_setItem_33 : decode cX10_setItem 33 = .ok (.getfield 176, 3) := by decide +kernel
theorem dX10_setItem_36 : decode cX10_setItem 36 = .ok (.goto 25, 3) := by decide +kernel
theorem dX10_setItem_39 : decode cX10_setItem 39 = .ok (.iload_n 2, 1) := by decide +kernel
theorem dX10_setItem_40 : decode cX10_setItem 40 = .ok (.iconst 1, 1) := by decide +kernel
theorem dX10_setItem_41 : decode cX10_setItem 41 = .ok (.if_icmp .ne 13, 3) := by decide +kernel
theorem dX10_setItem_44 : decode cX10_setItem 44 = .ok (.aload_n 0, 1) := by decide +kernel
theorem dX10_setItem_45 : decode cX10_setItem 45 = .ok (.getfield 27, 3) := by decide +kernel
theorem dX10_setItem_48 : decode cX10_setItem 48 = .ok (.getfield 179, 3) := by decide +kernel
theorem dX10_setItem_51 : decode cX10_setItem 51 = .ok (.goto 10, 3) := by decide +kernel
theorem dX10_setItem_54 : decode cX10_setItem 54 = .ok (.aload_n 0, 1) := by decide +kernel
theorem dX10_setItem_55 : decode cX10_setItem 55 = .ok (.getfield 27, 3) := by decide +kernel
theorem dX10_setItem_58 : decode cX10_setItem 58 = .ok (.getfield 182, 3) := by decide +kernel
theorem dX10_setItem_61 : decode cX10_setItem 61 = .ok (.astore 4, 2) := by decide +kernel
theorem dX10_setItem_63 : decode cX10_setItem 63 = .ok (.aload 4, 2) := by decide +kernel
theorem dX10_setItem_65 : decode cX10_setItem 65 = .ok (.iload_n 1, 1) := by decide +kernel
theorem dX10_setItem_66 : decode cX10_setItem 66 = .ok (.iaload, 1) := by decide +kernel
theorem dX10_setItem_67 : decode cX10_setItem 67 = .ok (.istore 5, 2) := by decide +kernel
theorem dX10_setItem_69 : decode cX10_setItem 69 = .ok (.aload 4, 2) := by decide +kernel
theorem dX10_setItem_71 : decode cX10_setItem 71 = .ok (.iload_n 1, 1) := by decide +kernel
theorem dX10_setItem_72 : decode cX10_setItem 72 = .ok (.iload_n 3, 1) := by decide +kernel
theorem dX10_setItem_73 : decode cX10_setItem 73 = .ok (.iastore, 1) := by decide +kernel
theorem dX10_setItem_74 : decode cX10_setItem 74 = .ok (.aload_n 0, 1) := by decide +kernel
theorem dX10_setItem_75 : decode cX10_setItem 75 = .ok (.invokevirtual 137, 3) := by decide +kernel
theorem dX10_setItem_78 : decode cX10_setItem 78 = .ok (.iload 5, 2) := by decide +kernel
theorem dX10_setItem_80 : decode cX10_setItem 80 = .ok (.ireturn, 1) := by decide +kernel
theorem dX10_setCapacity_0 : decode cX10_setCapacity 0 = .ok (.iload_n 1, 1) := by decide +kernel
theorem dX10_setCapacity_1 : decode cX10_setCapacity 1 = .ok (.invokestatic 297, 3) := by decide +kernel
theorem dX10_setCapacity_4 : decode cX10_setCapacity 4 = .ok (.aload_n 0, 1) := by decide +kernel
theorem dX10_setCapacity_5 : decode cX10_setCapacity 5 = .ok (.getfield 34, 3) := by decide +kernel
theorem dX10_setCapacity_8 : decode cX10_setCapacity 8 = .ok (.aload_n 0, 1) := by decide +kernel
theorem dX10_setCapacity_9 : decode cX10_setCapacity 9 = .ok (.getfield 27, 3) := by decide +kernel
theorem dX10_setCapacity_12 : decode cX10_setCapacity 12 = .ok (.invokevirtual 127, 3) := by decide +kernel
theorem dX10_setCapacity_15 : decode cX10_setCapacity 15 = .ok (.aload_n 0, 1) := by decide +kernel
theorem dX10_setCapacity_16 : decode cX10_setCapacity 16 = .ok (.getfield 27, 3) := by decide +kernel
theorem dX10_setCapacity_19 : decode cX10_setCapacity 19 = .ok (.getfield 147, 3) := by decide +kernel
theorem dX10_setCapacity_22 : decode cX10_setCapacity 22 = .ok (.istore_n 2, 1) := by decide +kernel
theorem dX10_setCapacity_23 : decode cX10_setCapacity 23 = .ok (.aload_n 0, 1) := by decide +kernel
theorem dX10_setCapacity_24 : decode cX10_setCapacity 24 = .ok (.getfield 27, 3) := by decide +kernel
theorem dX10_setCapacity_27 : decode cX10_setCapacity 27 = .ok (.iload_n 1, 1) := by decide +kernel
theorem dX10_setCapacity_28 : decode cX10_setCapacity 28 = .ok (.putfield 147, 3) := by decide +kernel
theorem dX10_setCapacity_31 : decode cX10_setCapacity 31 = .ok (.aload_n 0, 1) := by decide +kernel
theorem dX10_setCapacity_32 : decode cX10_setCapacity 32 = .ok (.invokevirtual 137, 3) := by decide +kernel
theorem dX10_setCapacity_35 : decode cX10_setCapacity 35 = .ok (.iload_n 2, 1) := by decide +kernel
theorem dX10_setCapacity_36 : decode cX10_setCapacity 36 = .ok (.ireturn, 1) := by decide +kernel
theorem dX10_setLimit_0 : decode cX10_setLimit 0 = .ok (.iload_n 1, 1) := by decide +kernel
theorem dX10_setLimit_1 : decode cX10_setLimit 1 = .ok (.ifCond .lt 9, 3) := by decide +kernel
theorem dX10_setLimit_4 : decode cX10_setLimit 4 = .ok (.iload_n 1, 1) := by decide +kernel
theorem dX10_setLimit_5 : decode cX10_setLimit 5 = .ok (.bipush 12, 2) := by decide +kernel
theorem dX10_setLimit_7 : decode cX10_setLimit 7 = .ok (.if_icmp .le 14, 3) := by decide +kernel
theorem dX10_setLimit_10 : decode cX10_setLimit 10 = .ok (.new 109, 3) := by decide +kernel
theorem dX10_setLimit_13 : decode cX10_setLimit 13 = .ok (.dup, 1) := by decide +kernel
theorem dX10_setLimit_14 : decode cX10_setLimit 14 = .ok (.ldc_w 342, 3) := by decide +kernel
theorem dX10_setLimit_17 : decode cX10_setLimit 17 = .ok (.invokespecial 113, 3) := by decide +kernel
theorem dX10_setLimit_20 : decode cX10_setLimit 20 = .ok (.athrow, 1) := by decide +kernel
theorem dX10_setLimit_21 : decode cX10_setLimit 21 = .ok (.aload_n 0, 1) := by decide +kernel
theorem dX10_setLimit_22 : decode cX10_setLimit 22 = .ok (.getfield 34, 3) := by decide +kernel
theorem dX10_setLimit_25 : decode cX10_setLimit 25 = .ok (.aload_n 0, 1) := by decide +kernel
theorem dX10_setLimit_26 : decode cX10_setLimit 26 = .ok (.getfield 27, 3) := by decide +kernel
theorem dX10_setLimit_29 : decode cX10_setLimit 29 = .ok (.invokevirtual 127, 3) := by decide +kernel
theorem dX10_setLimit_32 : decode cX10_setLimit 32 = .ok (.aload_n 0, 1) := by decide +kernel
theorem dX10_setLimit_33 : decode cX10_setLimit 33 = .ok (.getfield 27, 3) := by decide +kernel
theorem dX10_setLimit_36 : decode cX10_setLimit 36 = .ok (.getfield 150, 3) := by decide +kernel
theorem dX10_setLimit_39 : decode cX10_setLimit 39 = .ok (.istore_n 2, 1) := by decide +kernel
theorem dX10_setLimit_40 : decode cX10_setLimit 40 = .ok (.aload_n 0, 1) := by decide +kernel
theorem dX10_setLimit_41 : decode cX10_setLimit 41 = .ok (.getfield 27, 3) := by decide +kernel
theorem dX10_setLimit_44 : decode cX10_setLimit 44 = .ok (.iload_n 1, 1) := by decide +kernel
theorem dX10_setLimit_45 : decode cX10_setLimit 45 = .ok (.putfield 150, 3) := by decide +kernel
theorem dX10_setLimit_48 : decode cX10_setLimit 48 = .ok (.aload_n 0, 1) := by decide +kernel
theorem dX10_setLimit_49 : decode cX10_setLimit 49 = .ok (.invokevirtual 137, 3) := by decide +kernel
theorem dX10_setLimit_52 : decode cX10_setLimit 52 = .ok (.iload_n 2, 1) := by decide +kernel
theorem dX10_setLimit_53 : decode cX10_setLimit 53 = .ok (.ireturn, 1) := by decide +kernel
theorem dX10_bar_0 : decode cX10_bar 0 = .ok (.aload_n 0, 1) := by decide +kernel
theorem dX10_bar_1 : decode cX10_bar 1 = .ok (.iload_n 1, 1) := by decide +kernel
theorem dX10_bar_2 : decode cX10_bar 2 = .ok (.iload_n 2, 1) := by decide +kernel
theorem dX10_bar_3 : decode cX10_bar 3 = .ok (.invokevirtual 344, 3) := by decide +kernel
theorem dX10_bar_6 : decode cX10_bar 6 = .ok (.aload_n 0, 1) := by decide +kernel
theorem dX10_bar_7 : decode cX10_bar 7 = .ok (.getfield 34, 3) := by decide +kernel
theorem dX10_bar_10 : decode cX10_bar 10 = .ok (.aload_n 0, 1) := by decide +kernel
theorem dX10_bar_11 : decode cX10_bar 11 = .ok (.getfield 27, 3) := by decide +kernel
theorem dX10_bar_14 : decode cX10_bar 14 = .ok (.invokevirtual 127, 3) := by decide +kernel
theorem dX10_bar_17 : decode cX10_bar 17 = .ok (.aload_n 0, 1) := by decide +kernel
theorem dX10_bar_18 : decode cX10_bar 18 = .ok (.getfield 27, 3) := by decide +kernel
theorem dX10_bar_21 : decode cX10_bar 21 = .ok (.getfield 153, 3) := by decide +kernel
theorem dX10_bar_24 : decode cX10_bar 24 = .ok (.iload_n 1, 1) := by decide +kernel
theorem dX10_bar_25 : decode cX10_bar 25 = .ok (.iaload, 1) := by decide +kernel
theorem dX10_bar_26 : decode cX10_bar 26 = .ok (.iload_n 2, 1) := by decide +kernel
theorem dX10_bar_27 : decode cX10_bar 27 = .ok (.invokestatic 347, 3) := by decide +kernel
theorem dX10_bar_30 : decode cX10_bar 30 = .ok (.istore 4, 2) := by decide +kernel
theorem dX10_bar_32 : decode cX10_bar 32 = .ok (.aload_n 0, 1) := by decide +kernel
theorem dX10_bar_33 : decode cX10_bar 33 = .ok (.getfield 27, 3) := by decide +kernel
theorem dX10_bar_36 : decode cX10_bar 36 = .ok (.getfield 153, 3) := by decide +kernel
theorem dX10_bar_39 : decode cX10_bar 39 = .ok (.iload_n 1, 1) := by decide +kernel
theorem dX10_bar_40 : decode cX10_bar 40 = .ok (.aload_n 0, 1) := by decide +kernel
theorem dX10_bar_41 : decode cX10_bar 41 = .ok (.getfield 27, 3) := by decide +kernel
theorem dX10_bar_44 : decode cX10_bar 44 = .ok (.getfield 153, 3) := by decide +kernel
theorem dX10_bar_47 : decode cX10_bar 47 = .ok (.iload_n 1, 1) := by decide +kernel
theorem dX10_bar_48 : decode cX10_bar 48 = .ok (.iaload, 1) := by decide +kernel
theorem dX10_bar_49 : decode cX10_bar 49 = .ok (.iload_n 2, 1) := by decide +kernel
theorem dX10_bar_50 : decode cX10_bar 50 = .ok (.iload_n 3, 1) := by decide +kernel
theorem dX10_bar_51 : decode cX10_bar 51 = .ok (.invokestatic 351, 3) := by decide +kernel
theorem dX10_bar_54 : decode cX10_bar 54 = .ok (.iastore, 1) := by decide +kernel
theorem dX10_bar_55 : decode cX10_bar 55 = .ok (.aload_n 0, 1) := by decide +kernel
theorem dX10_bar_56 : decode cX10_bar 56 = .ok (.getfield 27, 3) := by decide +kernel
theorem dX10_bar_59 : decode cX10_bar 59 = .ok (.getfield 153, 3) := by decide +kernel
theorem dX10_bar_62 : decode cX10_bar 62 = .ok (.iload_n 2, 1) := by decide +kernel
theorem dX10_bar_63 : decode cX10_bar 63 = .ok (.aload_n 0, 1) := by decide +kernel
theorem dX10_bar_64 : decode cX10_bar 64 = .ok (.getfield 27, 3) := by decide +kernel
theorem dX10_bar_67 : decode cX10_bar 67 = .ok (.getfield 153, 3) := by decide +kernel
theorem dX10_bar_70 : decode cX10_bar 70 = .ok (.iload_n 2, 1) := by decide +kernel
theorem dX10_bar_71 : decode cX10_bar 71 = .ok (.iaload, 1) := by decide +kernel
theorem dX10_bar_72 : decode cX10_bar 72 = .ok (.iload_n 1, 1) := by decide +kernel
theorem dX10_bar_73 : decode cX10_bar 73 = .ok (.iload_n 3, 1) := by decide +kernel
theorem dX10_bar_74 : decode cX10_bar 74 = .ok (.invokestatic 351, 3) := by decide +kernel
theorem dX10_bar_77 : decode cX10_bar 77 = .ok (.iastore, 1) := by decide +kernel
theorem dX10_bar_78 : decode cX10_bar 78 = .ok (.aload_n 0, 1) := by decide +kernel
theorem dX10_bar_79 : decode cX10_bar 79 = .ok (.invokevirtual 137, 3) := by decide +kernel
theorem dX10_bar_82 : decode cX10_bar 82 = .ok (.iload 4, 2) := by decide +kernel
theorem dX10_bar_84 : decode cX10_bar 84 = .ok (.ireturn, 1) := by decide +kernel
theorem dX10_need_0 : decode cX10_need 0 = .ok (.aload_n 0, 1) := by decide +kernel
theorem dX10_need_1 : decode cX10_need 1 = .ok (.iload_n 1, 1) := by decide +kernel
theorem dX10_need_2 : decode cX10_need 2 = .ok (.iload_n 2, 1) := by decide +kernel
theorem dX10_need_3 : decode cX10_need 3 = .ok (.invokevirtual 344, 3) := by decide +kernel
theorem dX10_need_6 : decode cX10_need 6 = .ok (.aload_n 0, 1) := by decide +kernel
theorem dX10_need_7 : decode cX10_need 7 = .ok (.getfield 34, 3) := by decide +kernel
theorem dX10_need_10 : decode cX10_need 10 = .ok (.aload_n 0, 1) := by decide +kernel
theorem dX10_need_11 : decode cX10_need 11 = .ok (.getfield 27, 3) := by decide +kernel
theorem dX10_need_14 : decode cX10_need 14 = .ok (.invokevirtual 127, 3) := by decide +kernel
theorem dX10_need_17 : decode cX10_need 17 = .ok (.aload_n 0, 1) := by decide +kernel
theorem dX10_need_18 : decode cX10_need 18 = .ok (.getfield 27, 3) := by decide +kernel
theorem dX10_need_21 : decode cX10_need 21 = .ok (.getfield 161, 3) := by decide +kernel
theorem dX10_need_24 : decode cX10_need 24 = .ok (.iload_n 1, 1) := by decide +kernel
theorem dX10_need_25 : decode cX10_need 25 = .ok (.iaload, 1) := by decide +kernel
theorem dX10_need_26 : decode cX10_need 26 = .ok (.iload_n 2, 1) := by decide +kernel
theorem dX10_need_27 : decode cX10_need 27 = .ok (.invokestatic 347, 3) := by decide +kernel
theorem dX10_need_30 : decode cX10_need 30 = .ok (.istore 4, 2) := by decide +kernel
theorem dX10_need_32 : decode cX10_need 32 = .ok (.aload_n 0, 1) := by decide +kernel
theorem dX10_need_33 : decode cX10_need 33 = .ok (.getfield 27, 3) := by decide +kernel
theorem dX10_need_36 : decode cX10_need 36 = .ok (.getfield 161, 3) := by decide +kernel
theorem dX10_need_39 : decode cX10_need 39 = .ok (.iload_n 1, 1) := by decide +kernel
theorem dX10_need_40 : decode cX10_need 40 = .ok (.aload_n 0, 1) := by decide +kernel
theorem dX10_need_41 : decode cX10_need 41 = .ok (.getfield 27, 3) := by decide +kernel
theorem dX10_need_44 : decode cX10_need 44 = .ok (.getfield 161, 3) := by decide +kernel
theorem dX10_need_47 : decode cX10_need 47 = .ok (.iload_n 1, 1) := by decide +kernel
theorem dX10_need_48 : decode cX10_need 48 = .ok (.iaload, 1) := by decide +kernel
theorem dX10_need_49 : decode cX10_need 49 = .ok (.iload_n 2, 1) := by decide +kernel
theorem dX10_need_50 : decode cX10_need 50 = .ok (.iload_n 3, 1) := by decide +kernel
theorem dX10_need_51 : decode cX10_need 51 = .ok (.invokestatic 351, 3) := by decide +kernel
theorem dX10_need_54 : decode cX10_need 54 = .ok (.iastore, 1) := by decide +kernel
theorem dX10_need_55 : decode cX10_need 55 = .ok (.aload_n 0, 1) := by decide +kernel
theorem dX10_need_56 : decode cX10_need 56 = .ok (.invokevirtual 137, 3) := by decide +kernel
theorem dX10_need_59 : decode cX10_need 59 = .ok (.iload 4, 2) := by decide +kernel
theorem dX10_need_61 : decode cX10_need 61 = .ok (.ireturn, 1) := by decide +kernel
theorem dX10_must_0 : decode cX10_must 0 = .ok (.aload_n 0, 1) := by decide +kernel
theorem dX10_must_1 : decode cX10_must 1 = .ok (.iload_n 1, 1) := by decide +kernel
theorem dX10_must_2 : decode cX10_must 2 = .ok (.invokevirtual 173, 3) := by decide +kernel
theorem dX10_must_5 : decode cX10_must 5 = .ok (.aload_n 0, 1) := by decide +kernel
theorem dX10_must_6 : decode cX10_must 6 = .ok (.getfield 34, 3) := by decide +kernel
theorem dX10_must_9 : decode cX10_must 9 = .ok (.aload_n 0, 1) := by decide +kernel
theorem dX10_must_10 : decode cX10_must 10 = .ok (.getfield 27, 3) := by decide +kernel
theorem dX10_must_13 : decode cX10_must 13 = .ok (.invokevirtual 127, 3) := by decide +kernel
theorem dX10_must_16 : decode cX10_must 16 = .ok (.aload_n 0, 1) := by decide +kernel
theorem dX10_must_17 : decode cX10_must 17 = .ok (.getfield 27, 3) := by decide +kernel
theorem dX10_must_20 : decode cX10_must 20 = .ok (.getfield 164, 3) := by decide +kernel
theorem dX10_must_23 : decode cX10_must 23 = .ok (.iload_n 1, 1) := by decide +kernel
theorem dX10_must_24 : decode cX10_must 24 = .ok (.invokestatic 347, 3) := by decide +kernel
theorem dX10_must_27 : decode cX10_must 27 = .ok (.istore_n 3, 1) := by decide +kernel
theorem dX10_must_28 : decode cX10_must 28 = .ok (.aload_n 0, 1) := by decide +kernel
theorem dX10_must_29 : decode cX10_must 29 = .ok (.getfield 27, 3) := by decide +kernel
theorem dX10_must_32 : decode cX10_must 32 = .ok (.aload_n 0, 1) := by decide +kernel
theorem dX10_must_33 : decode cX10_must 33 = .ok (.getfield 27, 3) := by decide +kernel
theorem dX10_must_36 : decode cX10_must 36 = .ok (.getfield 164, 3) := by decide +kernel
theorem dX10_must_39 : decode cX10_must 39 = .ok (.iload_n 1, 1) := by decide +kernel
theorem dX10_must_40 : decode cX10_must 40 = .ok (.iload_n 2, 1) := by decide +kernel
theorem dX10_must_41 : decode cX10_must 41 = .ok (.invokestatic 351, 3) := by decide +kernel
theorem dX10_must_44 : decode cX10_must 44 = .ok (.putfield 164, 3) := by decide +kernel
theorem dX10_must_47 : decode cX10_must 47 = .ok (.aload_n 0, 1) := by decide +kernel
theorem dX10_must_48 : decode cX10_must 48 = .ok (.invokevirtual 137, 3) := by decide +kernel
theorem dX10_must_51 : decode cX10_must 51 = .ok (.iload_n 3, 1) := by decide +kernel
theorem dX10_must_52 : decode cX10_must 52 = .ok (.ireturn, 1) := by decide +kernel
theorem dX10_never_0 : decode cX10_never 0 = .ok (.aload_n 0, 1) := by decide +kernel
theorem dX10_never_1 : decode cX10_never 1 = .ok (.iload_n 1, 1) := by decide +kernel
theorem dX10_never_2 : decode cX10_never 2 = .ok (.invokevirtual 173, 3) := by decide +kernel
theorem dX10_never_5 : decode cX10_never 5 = .ok (.aload_n 0, 1) := by decide +kernel
theorem dX10_never_6 : decode cX10_never 6 = .ok (.getfield 34, 3) := by decide +kernel
theorem dX10_never_9 : decode cX10_never 9 = .ok (.aload_n 0, 1) := by decide +kernel
theorem dX10_never_10 : decode cX10_never 10 = .ok (.getfield 27, 3) := by decide +kernel
theorem dX10_never_13 : decode cX10_never 13 = .ok (.invokevirtual 127, 3) := by decide +kernel
theorem dX10_never_16 : decode cX10_never 16 = .ok (.aload_n 0, 1) := by decide +kernel
theorem dX10_never_17 : decode cX10_never 17 = .ok (.getfield 27, 3) := by decide +kernel
theorem dX10_never_20 : decode cX10_never 20 = .ok (.getfield 167, 3) := by decide +kernel
theorem dX10_never_23 : decode cX10_never 23 = .ok (.iload_n 1, 1) := by decide +kernel
theorem dX10_never_24 : decode cX10_never 24 = .ok (.invokestatic 347, 3) := by decide +kernel
theorem dX10_never_27 : decode cX10_never 27 = .ok (.istore_n 3, 1) := by decide +kernel
theorem dX10_never_28 : decode cX10_never 28 = .ok (.aload_n 0, 1) := by decide +kernel
theorem dX10_never_29 : decode cX10_never 29 = .ok (.getfield 27, 3) := by decide +kernel
theorem dX10_never_32 : decode cX10_never 32 = .ok (.aload_n 0, 1) := by decide +kernel
theorem dX10_never_33 : decode cX10_never 33 = .ok (.getfield 27, 3) := by decide +kernel
theorem dX10_never_36 : decode cX10_never 36 = .ok (.getfield 167, 3) := by decide +kernel
theorem dX10_never_39 : decode cX10_never 39 = .ok (.iload_n 1, 1) := by decide +kernel
theorem dX10_never_40 : decode cX10_never 40 = .ok (.iload_n 2, 1) := by decide +kernel
theorem dX10_never_41 : decode cX10_never 41 = .ok (.invokestatic 351, 3) := by decide +kernel
theorem dX10_never_44 : decode cX10_never 44 = .ok (.putfield 167, 3) := by decide +kernel
theorem dX10_never_47 : decode cX10_never 47 = .ok (.aload_n 0, 1) := by decide +kernel
theorem dX10_never_48 : decode cX10_never 48 = .ok (.invokevirtual 137, 3) := by decide +kernel
theorem dX10_never_51 : decode cX10_never 51 = .ok (.iload_n 3, 1) := by decide +kernel
theorem dX10_never_52 : decode cX10_never 52 = .ok (.ireturn, 1) := by decide +kernel
theorem dX10_choose_0 : decode cX10_choose 0 = .ok (.aload_n 0, 1) := by decide +kernel
theorem dX10_choose_1 : decode cX10_choose 1 = .ok (.iload_n 1, 1) := by decide +kernel
theorem dX10_choose_2 : decode cX10_choose 2 = .ok (.invokevirtual 185, 3) := by decide +kernel
theorem dX10_choose_5 : decode cX10_choose 5 = .ok (.aload_n 0, 1) := by decide +kernel
theorem dX10_choose_6 : decode cX10_choose 6 = .ok (.iload_n 1, 1) := by decide +kernel
theorem dX10_choose_7 : decode cX10_choose 7 = .ok (.invokevirtual 355, 3) := by decide +kernel
theorem dX10_choose_10 : decode cX10_choose 10 = .ok (.aload_n 0, 1) := by decide +kernel
theorem dX10_choose_11 : decode cX10_choose 11 = .ok (.getfield 27, 3) := by decide +kernel
theorem dX10_choose_14 : decode cX10_choose 14 = .ok (.getfield 170, 3) := by decide +kernel
theorem dX10_choose_17 : decode cX10_choose 17 = .ok (.istore_n 2, 1) := by decide +kernel
theorem dX10_choose_18 : decode cX10_choose 18 = .ok (.aload_n 0, 1) := by decide +kernel
theorem dX10_choose_19 : decode cX10_choose 19 = .ok (.iload_n 1, 1) := by decide +kernel
theorem dX10_choose_20 : decode cX10_choose 20 = .ok (.invokevirtual 358, 3) := by decide +kernel
theorem dX10_choose_23 : decode cX10_choose 23 = .ok (.iload_n 2, 1) := by decide +kernel
theorem dX10_choose_24 : decode cX10_choose 24 = .ok (.ireturn, 1) := by decide +kernel
theorem dX10_chooseBest_0 : decode cX10_chooseBest 0 = .ok (.iload_n 1, 1) := by decide +kernel
theorem dX10_chooseBest_1 : decode cX10_chooseBest 1 = .ok (.iload_n 2, 1) := by decide +kernel
theorem dX10_chooseBest_2 : decode cX10_chooseBest 2 = .ok (.invokestatic 228, 3) := by decide +kernel
theorem dX10_chooseBest_5 : decode cX10_chooseBest 5 = .ok (.aload_n 0, 1) := by decide +kernel
theorem dX10_chooseBest_6 : decode cX10_chooseBest 6 = .ok (.invokevirtual 188, 3) := by decide +kernel
theorem dX10_chooseBest_9 : decode cX10_chooseBest 9 = .ok (.aload_n 0, 1) := by decide +kernel
theorem dX10_chooseBest_10 : decode cX10_chooseBest 10 = .ok (.getfield 70, 3) := by decide +kernel
theorem dX10_chooseBest_13 : decode cX10_chooseBest 13 = .ok (.iload_n 1, 1) := by decide +kernel
theorem dX10_chooseBest_14 : decode cX10_chooseBest 14 = .ok (.iload_n 2, 1) := by decide +kernel
theorem dX10_chooseBest_15 : decode cX10_chooseBest 15 = .ok (.invokevirtual 231, 3) := by decide +kernel
theorem dX10_chooseBest_18 : decode cX10_chooseBest 18 = .ok (.istore_n 3, 1) := by decide +kernel
theorem dX10_chooseBest_19 : decode cX10_chooseBest 19 = .ok (.iload_n 3, 1) := by decide +kernel
theorem dX10_chooseBest_20 : decode cX10_chooseBest 20 = .ok (.iconst (-1), 1) := by decide +kernel
theorem dX10_chooseBest_21 : decode cX10_chooseBest 21 = .ok (.if_icmp .ne 14, 3) := by decide +kernel
theorem dX10_chooseBest_24 : decode cX10_chooseBest 24 = .ok (.new 98, 3) := by decide +kernel
theorem dX10_chooseBest_27 : decode cX10_chooseBest 27 = .ok (.dup, 1) := by decide +kernel
theorem dX10_chooseBest_28 : decode cX10_chooseBest 28 = .ok (.ldc_w 361, 3) := by decide +kernel
theorem dX10_chooseBest_31 : decode cX10_chooseBest 31 = .ok (.invokespecial 102, 3) := by decide +kernel
theorem dX10_chooseBest_34 : decode cX10_chooseBest 34 = .ok (.athrow, 1) := by decide +kernel
theorem dX10_chooseBest_35 : decode cX10_chooseBest 35 = .ok (.aload_n 0, 1) := by decide +kernel
theorem dX10_chooseBest_36 : decode cX10_chooseBest 36 = .ok (.aload_n 0, 1) := by decide +kernel
theorem dX10_chooseBest_37 : decode cX10_chooseBest 37 = .ok (.getfield 70, 3) := by decide +kernel
theorem dX10_chooseBest_40 : decode cX10_chooseBest 40 = .ok (.getfield 209, 3) := by decide +kernel
theorem dX10_chooseBest_43 : decode cX10_chooseBest 43 = .ok (.iload_n 3, 1) := by decide +kernel
theorem dX10_chooseBest_44 : decode cX10_chooseBest 44 = .ok (.iaload, 1) := by decide +kernel
theorem dX10_chooseBest_45 : decode cX10_chooseBest 45 = .ok (.invokevirtual 358, 3) := by decide +kernel
theorem dX10_chooseBest_48 : decode cX10_chooseBest 48 = .ok (.aload_n 0, 1) := by decide +kernel
theorem dX10_chooseBest_49 : decode cX10_chooseBest 49 = .ok (.getfield 27, 3) := by decide +kernel
theorem dX10_chooseBest_52 : decode cX10_chooseBest 52 = .ok (.getfield 170, 3) := by decide +kernel
theorem dX10_chooseBest_55 : decode cX10_chooseBest 55 = .ok (.ireturn, 1) := by decide +kernel
theorem dX10_improve_0 : decode cX10_improve 0 = .ok (.iload_n 1, 1) := by decide +kernel
theorem dX10_improve_1 : decode cX10_improve 1 = .ok (.iload_n 2, 1) := by decide +kernel
theorem dX10_improve_2 : decode cX10_improve 2 = .ok (.invokestatic 228, 3) := by decide +kernel
theorem dX10_improve_5 : decode cX10_improve 5 = .ok (.aload_n 0, 1) := by decide +kernel
theorem dX10_improve_6 : decode cX10_improve 6 = .ok (.invokevirtual 188, 3) := by decide +kernel
theorem dX10_improve_9 : decode cX10_improve 9 = .ok (.aload_n 0, 1) := by decide +kernel
theorem dX10_improve_10 : decode cX10_improve 10 = .ok (.getfield 91, 3) := by decide +kernel
theorem dX10_improve_13 : decode cX10_improve 13 = .ok (.aload_n 0, 1) := by decide +kernel
theorem dX10_improve_14 : decode cX10_improve 14 = .ok (.getfield 56, 3) := by decide +kernel
theorem dX10_improve_17 : decode cX10_improve 17 = .ok (.aload_n 0, 1) := by decide +kernel
theorem dX10_improve_18 : decode cX10_improve 18 = .ok (.getfield 27, 3) := by decide +kernel
theorem dX10_improve_21 : decode cX10_improve 21 = .ok (.iload_n 1, 1) := by decide +kernel
theorem dX10_improve_22 : decode cX10_improve 22 = .ok (.iload_n 2, 1) := by decide +kernel
theorem dX10_improve_23 : decode cX10_improve 23 = .ok (.invokevirtual 323, 3) := by decide +kernel
theorem dX10_improve_26 : decode cX10_improve 26 = .ok (.aload_n 0, 1) := by decide +kernel
theorem dX10_improve_27 : decode cX10_improve 27 = .ok (.aload_n 0, 1) := by decide +kernel
theorem dX10_improve_28 : decode cX10_improve 28 = .ok (.getfield 91, 3) := by decide +kernel
theorem dX10_improve_31 : decode cX10_improve 31 = .ok (.getfield 327, 3) := by decide +kernel
theorem dX10_improve_34 : decode cX10_improve 34 = .ok (.invokevirtual 358, 3) := by decide +kernel
theorem dX10_improve_37 : decode cX10_improve 37 = .ok (.aload_n 0, 1) := by decide +kernel
theorem dX10_improve_38 : decode cX10_improve 38 = .ok (.getfield 91, 3) := by decide +kernel
theorem dX10_improve_41 : decode cX10_improve 41 = .ok (.getfield 363, 3) := by decide +kernel
theorem dX10_improve_44 : decode cX10_improve 44 = .ok (.ireturn, 1) := by decide +kernel
theorem dX10_take_0 : decode cX10_take 0 = .ok (.aload_n 0, 1) := by decide +kernel
theorem dX10_take_1 : decode cX10_take 1 = .ok (.iload_n 1, 1) := by decide +kernel
theorem dX10_take_2 : decode cX10_take 2 = .ok (.invokevirtual 173, 3) := by decide +kernel
theorem dX10_take_5 : decode cX10_take 5 = .ok (.aload_n 0, 1) := by decide +kernel
theorem dX10_take_6 : decode cX10_take 6 = .ok (.getfield 27, 3) := by decide +kernel
theorem dX10_take_9 : decode cX10_take 9 = .ok (.getfield 170, 3) := by decide +kernel
theorem dX10_take_12 : decode cX10_take 12 = .ok (.iload_n 1, 1) := by decide +kernel
theorem dX10_take_13 : decode cX10_take 13 = .ok (.invokestatic 347, 3) := by decide +kernel
theorem dX10_take_16 : decode cX10_take 16 = .ok (.ifCond .eq 14, 3) := by decide +kernel
theorem dX10_take_19 : decode cX10_take 19 = .ok (.new 98, 3) := by decide +kernel
theorem dX10_take_22 : decode cX10_take 22 = .ok (.dup, 1) := by decide +kernel
theorem dX10_take_23 : decode cX10_take 23 = .ok (.ldc_w 366, 3) := by decide +kernel
theorem dX10_take_26 : decode cX10_take 26 = .ok (.invokespecial 102, 3) := by decide +kernel
theorem dX10_take_29 : decode cX10_take 29 = .ok (.athrow, 1) := by decide +kernel
theorem dX10_take_30 : decode cX10_take 30 = .ok (.aload_n 0, 1) := by decide +kernel
theorem dX10_take_31 : decode cX10_take 31 = .ok (.getfield 27, 3) := by decide +kernel
theorem dX10_take_34 : decode cX10_take 34 = .ok (.getfield 170, 3) := by decide +kernel
theorem dX10_take_37 : decode cX10_take 37 = .ok (.iload_n 1, 1) := by decide +kernel
theorem dX10_take_38 : decode cX10_take 38 = .ok (.iconst 1, 1) := by decide +kernel
theorem dX10_take_39 : decode cX10_take 39 = .ok (.invokestatic 351, 3) := by decide +kernel
theorem dX10_take_42 : decode cX10_take 42 = .ok (.istore_n 2, 1) := by decide +kernel
theorem dX10_take_43 : decode cX10_take 43 = .ok (.aload_n 0, 1) := by decide +kernel
theorem dX10_take_44 : decode cX10_take 44 = .ok (.iload_n 2, 1) := by decide +kernel
theorem dX10_take_45 : decode cX10_take 45 = .ok (.invokevirtual 355, 3) := by decide +kernel
theorem dX10_take_48 : decode cX10_take 48 = .ok (.aload_n 0, 1) := by decide +kernel
theorem dX10_take_49 : decode cX10_take 49 = .ok (.iload_n 2, 1) := by decide +kernel
theorem dX10_take_50 : decode cX10_take 50 = .ok (.invokevirtual 358, 3) := by decide +kernel
theorem dX10_take_53 : decode cX10_take 53 = .ok (.aload_n 0, 1) := by decide +kernel
theorem dX10_take_54 : decode cX10_take 54 = .ok (.getfield 56, 3) := by decide +kernel
theorem dX10_take_57 : decode cX10_take 57 = .ok (.getfield 195, 3) := by decide +kernel
theorem dX10_take_60 : decode cX10_take 60 = .ok (.iload_n 2, 1) := by decide +kernel
theorem dX10_take_61 : decode cX10_take 61 = .ok (.iaload, 1) := by decide +kernel
theorem dX10_take_62 : decode cX10_take 62 = .ok (.ireturn, 1) := by decide +kernel
theorem dX10_leave_0 : decode cX10_leave 0 = .ok (.aload_n 0, 1) := by decide +kernel
theorem dX10_leave_1 : decode cX10_leave 1 = .ok (.iload_n 1, 1) := by decide +kernel
theorem dX10_leave_2 : decode cX10_leave 2 = .ok (.invokevirtual 173, 3) := by decide +kernel
theorem dX10_leave_5 : decode cX10_leave 5 = .ok (.aload_n 0, 1) := by decide +kernel
theorem dX10_leave_6 : decode cX10_leave 6 = .ok (.getfield 27, 3) := by decide +kernel
theorem dX10_leave_9 : decode cX10_leave 9 = .ok (.getfield 170, 3) := by decide +kernel
theorem dX10_leave_12 : decode cX10_leave 12 = .ok (.iload_n 1, 1) := by decide +kernel
theorem dX10_leave_13 : decode cX10_leave 13 = .ok (.invokestatic 347, 3) := by decide +kernel
theorem dX10_leave_16 : decode cX10_leave 16 = .ok (.ifCond .ne 14, 3) := by decide +kernel
theorem dX10_leave_19 : decode cX10_leave 19 = .ok (.new 98, 3) := by decide +kernel
theorem dX10_leave_22 : decode cX10_leave 22 = .ok (.dup, 1) := by decide +kernel
theorem dX10_leave_23 : decode cX10_leave 23 = .ok (.ldc_w 368, 3) := by decide +kernel
theorem dX10_leave_26 : decode cX10_leave 26 = .ok (.invokespecial 102, 3) := by decide +kernel
theorem dX10_leave_29 : decode cX10_leave 29 = .ok (.athrow, 1) := by decide +kernel
theorem dX10_leave_30 : decode cX10_leave 30 = .ok (.aload_n 0, 1) := by decide +kernel
theorem dX10_leave_31 : decode cX10_leave 31 = .ok (.getfield 27, 3) := by decide +kernel
theorem dX10_leave_34 : decode cX10_leave 34 = .ok (.getfield 170, 3) := by decide +kernel
theorem dX10_leave_37 : decode cX10_leave 37 = .ok (.iload_n 1, 1) := by decide +kernel
theorem dX10_leave_38 : decode cX10_leave 38 = .ok (.iconst 0, 1) := by decide +kernel
theorem dX10_leave_39 : decode cX10_leave 39 = .ok (.invokestatic 351, 3) := by decide +kernel
theorem dX10_leave_42 : decode cX10_leave 42 = .ok (.istore_n 2, 1) := by decide +kernel
theorem dX10_leave_43 : decode cX10_leave 43 = .ok (.aload_n 0, 1) := by decide +kernel
theorem dX10_leave_44 : decode cX10_leave 44 = .ok (.iload_n 2, 1) := by decide +kernel
theorem dX10_leave_45 : decode cX10_leave 45 = .ok (.invokevirtual 355, 3) := by decide +kernel
theorem dX10_leave_48 : decode cX10_leave 48 = .ok (.aload_n 0, 1) := by decide +kernel
theorem dX10_leave_49 : decode cX10_leave 49 = .ok (.iload_n 2, 1) := by decide +kernel
theorem dX10_leave_50 : decode cX10_leave 50 = .ok (.invokevirtual 358, 3) := by decide +kernel
theorem dX10_leave_53 : decode cX10_leave 53 = .ok (.aload_n 0, 1) := by decide +kernel
theorem dX10_leave_54 : decode cX10_leave 54 = .ok (.getfield 56, 3) := by decide +kernel
theorem dX10_leave_57 : decode cX10_leave 57 = .ok (.getfield 195, 3) := by decide +kernel
theorem dX10_leave_60 : decode cX10_leave 60 = .ok (.iload_n 2, 1) := by decide +kernel
theorem dX10_leave_61 : decode cX10_leave 61 = .ok (.iaload, 1) := by decide +kernel
theorem dX10_leave_62 : decode cX10_leave 62 = .ok (.ireturn, 1) := by decide +kernel
theorem dX10_takeInHand_0 : decode cX10_takeInHand 0 = .ok (.aload_n 0, 1) := by decide +kernel
theorem dX10_takeInHand_1 : decode cX10_takeInHand 1 = .ok (.getfield 34, 3) := by decide +kernel
theorem dX10_takeInHand_4 : decode cX10_takeInHand 4 = .ok (.aload_n 0, 1) := by decide +kernel
theorem dX10_takeInHand_5 : decode cX10_takeInHand 5 = .ok (.getfield 27, 3) := by decide +kernel
theorem dX10_takeInHand_8 : decode cX10_takeInHand 8 = .ok (.invokevirtual 127, 3) := by decide +kernel
theorem dX10_takeInHand_11 : decode cX10_takeInHand 11 = .ok (.aload_n 0, 1) := by decide +kernel
theorem dX10_takeInHand_12 : decode cX10_takeInHand 12 = .ok (.getfield 27, 3) := by decide +kernel
theorem dX10_takeInHand_15 : decode cX10_takeInHand 15 = .ok (.iload_n 1, 1) := by decide +kernel
theorem dX10_takeInHand_16 : decode cX10_takeInHand 16 = .ok (.putfield 170, 3) := by decide +kernel
theorem dX10_takeInHand_19 : decode cX10_takeInHand 19 = .ok (.return_, 1) := by decide +kernel
theorem dX10_keep_0 : decode cX10_keep 0 = .ok (.iload_n 1, 1) := by decide +kernel
theorem dX10_keep_1 : decode cX10_keep 1 = .ok (.invokestatic 370, 3) := by decide +kernel
theorem dX10_keep_4 : decode cX10_keep 4 = .ok (.aload_n 0, 1) := by decide +kernel
theorem dX10_keep_5 : decode cX10_keep 5 = .ok (.getfield 38, 3) := by decide +kernel
theorem dX10_keep_8 : decode cX10_keep 8 = .ok (.iload_n 1, 1) := by decide +kernel
theorem dX10_keep_9 : decode cX10_keep 9 = .ok (.aaload, 1) := by decide +kernel
theorem dX10_keep_10 : decode cX10_keep 10 = .ok (.aload_n 0, 1) := by decide +kernel
theorem dX10_keep_11 : decode cX10_keep 11 = .ok (.getfield 27, 3) := by decide +kernel
theorem dX10_keep_14 : decode cX10_keep 14 = .ok (.invokevirtual 134, 3) := by decide +kernel
theorem dX10_keep_17 : decode cX10_keep 17 = .ok (.aload_n 0, 1) := by decide +kernel
theorem dX10_keep_18 : decode cX10_keep 18 = .ok (.getfield 42, 3) := by decide +kernel
theorem dX10_keep_21 : decode cX10_keep 21 = .ok (.iload_n 1, 1) := by decide +kernel
theorem dX10_keep_22 : decode cX10_keep 22 = .ok (.iconst 1, 1) := by decide +kernel
theorem dX10_keep_23 : decode cX10_keep 23 = .ok (.bastore, 1) := by decide +kernel
theorem dX10_keep_24 : decode cX10_keep 24 = .ok (.aload_n 0, 1) := by decide +kernel
theorem dX10_keep_25 : decode cX10_keep 25 = .ok (.getfield 27, 3) := by decide +kernel
theorem dX10_keep_28 : decode cX10_keep 28 = .ok (.getfield 140, 3) := by decide +kernel
theorem dX10_keep_31 : decode cX10_keep 31 = .ok (.ireturn, 1) := by decide +kernel
theorem dX10_restore_0 : decode cX10_restore 0 = .ok (.iload_n 1, 1) := by decide +kernel
theorem dX10_restore_1 : decode cX10_restore 1 = .ok (.invokestatic 370, 3) := by decide +kernel
theorem dX10_restore_4 : decode cX10_restore 4 = .ok (.aload_n 0, 1) := by decide +kernel
theorem dX10_restore_5 : decode cX10_restore 5 = .ok (.getfield 42, 3) := by decide +kernel
theorem dX10_restore_8 : decode cX10_restore 8 = .ok (.iload_n 1, 1) := by decide +kernel
theorem dX10_restore_9 : decode cX10_restore 9 = .ok (.baload, 1) := by decide +kernel
theorem dX10_restore_10 : decode cX10_restore 10 = .ok (.ifCond .ne 14, 3) := by decide +kernel
theorem dX10_restore_13 : decode cX10_restore 13 = .ok (.new 98, 3) := by decide +kernel
theorem dX10_restore_16 : decode cX10_restore 16 = .ok (.dup, 1) := by decide +kernel
theorem dX10_restore_17 : decode cX10_restore 17 = .ok (.ldc_w 373, 3) := by decide +kernel
theorem dX10_restore_20 : decode cX10_restore 20 = .ok (.invokespecial 102, 3) := by decide +kernel
theorem dX10_restore_23 : decode cX10_restore 23 = .ok (.athrow, 1) := by decide +kernel
theorem dX10_restore_24 : decode cX10_restore 24 = .ok (.aload_n 0, 1) := by decide +kernel
theorem dX10_restore_25 : decode cX10_restore 25 = .ok (.getfield 34, 3) := by decide +kernel
theorem dX10_restore_28 : decode cX10_restore 28 = .ok (.aload_n 0, 1) := by decide +kernel
theorem dX10_restore_29 : decode cX10_restore 29 = .ok (.getfield 27, 3) := by decide +kernel
theorem dX10_restore_32 : decode cX10_restore 32 = .ok (.invokevirtual 127, 3) := by decide +kernel
theorem dX10_restore_35 : decode cX10_restore 35 = .ok (.aload_n 0, 1) := by decide +kernel
theorem dX10_restore_36 : decode cX10_restore 36 = .ok (.getfield 27, 3) := by decide +kernel
theorem dX10_restore_39 : decode cX10_restore 39 = .ok (.aload_n 0, 1) := by decide +kernel
theorem dX10_restore_40 : decode cX10_restore 40 = .ok (.getfield 38, 3) := by decide +kernel
theorem dX10_restore_43 : decode cX10_restore 43 = .ok (.iload_n 1, 1) := by decide +kernel
theorem dX10_restore_44 : decode cX10_restore 44 = .ok (.aaload, 1) := by decide +kernel
theorem dX10_restore_45 : decode cX10_restore 45 = .ok (.invokevirtual 134, 3) := by decide +kernel
theorem dX10_restore_48 : decode cX10_restore 48 = .ok (.aload_n 0, 1) := by decide +kernel
theorem dX10_restore_49 : decode cX10_restore 49 = .ok (.invokevirtual 137, 3) := by decide +kernel
theorem dX10_restore_52 : decode cX10_restore 52 = .ok (.aload_n 0, 1) := by decide +kernel
theorem dX10_restore_53 : decode cX10_restore 53 = .ok (.getfield 27, 3) := by decide +kernel
theorem dX10_restore_56 : decode cX10_restore 56 = .ok (.getfield 140, 3) := by decide +kernel
theorem dX10_restore_59 : decode cX10_restore 59 = .ok (.ireturn, 1) := by decide +kernel
theorem dX10_undo_0 : decode cX10_undo 0 = .ok (.aload_n 0, 1) := by decide +kernel
theorem dX10_undo_1 : decode cX10_undo 1 = .ok (.getfield 34, 3) := by decide +kernel
theorem dX10_undo_4 : decode cX10_undo 4 = .ok (.getfield 375, 3) := by decide +kernel
theorem dX10_undo_7 : decode cX10_undo 7 = .ok (.ifCond .gt 14, 3) := by decide +kernel
theorem dX10_undo_10 : decode cX10_undo 10 = .ok (.new 98, 3) := by decide +kernel
theorem dX10_undo_13 : decode cX10_undo 13 = .ok (.dup, 1) := by decide +kernel
theorem dX10_undo_14 : decode cX10_undo 14 = .ok (.ldc_w 376, 3) := by decide +kernel
theorem dX10_undo_17 : decode cX10_undo 17 = .ok (.invokespecial 102, 3) := by decide +kernel
theorem dX10_undo_20 : decode cX10_undo 20 = .ok (.athrow, 1) := by decide +kernel
theorem dX10_undo_21 : decode cX10_undo 21 = .ok (.aload_n 0, 1) := by decide +kernel
theorem dX10_undo_22 : decode cX10_undo 22 = .ok (.getfield 34, 3) := by decide +kernel
theorem dX10_undo_25 : decode cX10_undo 25 = .ok (.aload_n 0, 1) := by decide +kernel
theorem dX10_undo_26 : decode cX10_undo 26 = .ok (.getfield 27, 3) := by decide +kernel
theorem dX10_undo_29 : decode cX10_undo 29 = .ok (.invokevirtual 378, 3) := by decide +kernel
theorem dX10_undo_32 : decode cX10_undo 32 = .ok (.aload_n 0, 1) := by decide +kernel
theorem dX10_undo_33 : decode cX10_undo 33 = .ok (.invokevirtual 137, 3) := by decide +kernel
theorem dX10_undo_36 : decode cX10_undo 36 = .ok (.aload_n 0, 1) := by decide +kernel
theorem dX10_undo_37 : decode cX10_undo 37 = .ok (.getfield 34, 3) := by decide +kernel
theorem dX10_undo_40 : decode cX10_undo 40 = .ok (.getfield 375, 3) := by decide +kernel
theorem dX10_undo_43 : decode cX10_undo 43 = .ok (.ireturn, 1) := by decide +kernel
theorem dX10_undoCount_0 : decode cX10_undoCount 0 = .ok (.aload_n 0, 1) := by decide +kernel
theorem dX10_undoCount_1 : decode cX10_undoCount 1 = .ok (.getfield 34, 3) := by decide +kernel
theorem dX10_undoCount_4 : decode cX10_undoCount 4 = .ok (.getfield 375, 3) := by decide +kernel
theorem dX10_undoCount_7 : decode cX10_undoCount 7 = .ok (.ireturn, 1) := by decide +kernel
theorem dX10_writeFrontier_0 : decode cX10_writeFrontier 0 = .ok (.aload_n 0, 1) := by decide +kernel
theorem dX10_writeFrontier_1 : decode cX10_writeFrontier 1 = .ok (.invokevirtual 188, 3) := by decide +kernel
theorem dX10_writeFrontier_4 : decode cX10_writeFrontier 4 = .ok (.aload_n 0, 1) := by decide +kernel
theorem dX10_writeFrontier_5 : decode cX10_writeFrontier 5 = .ok (.getfield 49, 3) := by decide +kernel
theorem dX10_writeFrontier_8 : decode cX10_writeFrontier 8 = .ok (.iconst 0, 1) := by decide +kernel
theorem dX10_writeFrontier_9 : decode cX10_writeFrontier 9 = .ok (.putfield 381, 3) := by decide +kernel
theorem dX10_writeFrontier_12 : decode cX10_writeFrontier 12 = .ok (.iconst 0, 1) := by decide +kernel
theorem dX10_writeFrontier_13 : decode cX10_writeFrontier 13 = .ok (.istore_n 1, 1) := by decide +kernel
theorem dX10_writeFrontier_14 : decode cX10_writeFrontier 14 = .ok (.iload_n 1, 1) := by decide +kernel
theorem dX10_writeFrontier_15 : decode cX10_writeFrontier 15 = .ok (.aload_n 0, 1) := by decide +kernel
theorem dX10_writeFrontier_16 : decode cX10_writeFrontier 16 = .ok (.getfield 70, 3) := by decide +kernel
theorem dX10_writeFrontier_19 : decode cX10_writeFrontier 19 = .ok (.getfield 201, 3) := by decide +kernel
theorem dX10_writeFrontier_22 : decode cX10_writeFrontier 22 = .ok (.if_icmp .ge 108, 3) := by decide +kernel
theorem dX10_writeFrontier_25 : decode cX10_writeFrontier 25 = .ok (.iload_n 1, 1) := by decide +kernel
theorem dX10_writeFrontier_26 : decode cX10_writeFrontier 26 = .ok (.ifCond .le 12, 3) := by decide +kernel
theorem dX10_writeFrontier_29 : decode cX10_writeFrontier 29 = .ok (.aload_n 0, 1) := by decide +kernel
theorem dX10_writeFrontier_30 : decode cX10_writeFrontier 30 = .ok (.getfield 49, 3) := by decide +kernel
theorem dX10_writeFrontier_33 : decode cX10_writeFrontier 33 = .ok (.bipush 32, 2) := by decide +kernel
theorem dX10_writeFrontier_35 : decode cX10_writeFrontier 35 = .ok (.invokevirtual 384, 3) := by decide +kernel
theorem dX10_writeFrontier_38 : decode cX10_writeFrontier 38 = .ok (.aload_n 0, 1) := by decide +kernel
theorem dX10_writeFrontier_39 : decode cX10_writeFrontier 39 = .ok (.getfield 49, 3) := by decide +kernel
theorem dX10_writeFrontier_42 : decode cX10_writeFrontier 42 = .ok (.aload_n 0, 1) := by decide +kernel
theorem dX10_writeFrontier_43 : decode cX10_writeFrontier 43 = .ok (.getfield 70, 3) := by decide +kernel
theorem dX10_writeFrontier_46 : decode cX10_writeFrontier 46 = .ok (.getfield 207, 3) := by decide +kernel
theorem dX10_writeFrontier_49 : decode cX10_writeFrontier 49 = .ok (.iload_n 1, 1) := by decide +kernel
theorem dX10_writeFrontier_50 : decode cX10_writeFrontier 50 = .ok (.iaload, 1) := by decide +kernel
theorem dX10_writeFrontier_51 : decode cX10_writeFrontier 51 = .ok (.invokevirtual 387, 3) := by decide +kernel
theorem dX10_writeFrontier_54 : decode cX10_writeFrontier 54 = .ok (.aload_n 0, 1) := by decide +kernel
theorem dX10_writeFrontier_55 : decode cX10_writeFrontier 55 = .ok (.getfield 49, 3) := by decide +kernel
theorem dX10_writeFrontier_58 : decode cX10_writeFrontier 58 = .ok (.bipush 44, 2) := by decide +kernel
theorem dX10_writeFrontier_60 : decode cX10_writeFrontier 60 = .ok (.invokevirtual 384, 3) := by decide +kernel
theorem dX10_writeFrontier_63 : decode cX10_writeFrontier 63 = .ok (.aload_n 0, 1) := by decide +kernel
theorem dX10_writeFrontier_64 : decode cX10_writeFrontier 64 = .ok (.getfield 49, 3) := by decide +kernel
theorem dX10_writeFrontier_67 : decode cX10_writeFrontier 67 = .ok (.aload_n 0, 1) := by decide +kernel
theorem dX10_writeFrontier_68 : decode cX10_writeFrontier 68 = .ok (.getfield 70, 3) := by decide +kernel
theorem dX10_writeFrontier_71 : decode cX10_writeFrontier 71 = .ok (.getfield 208, 3) := by decide +kernel
theorem dX10_writeFrontier_74 : decode cX10_writeFrontier 74 = .ok (.iload_n 1, 1) := by decide +kernel
theorem dX10_writeFrontier_75 : decode cX10_writeFrontier 75 = .ok (.iaload, 1) := by decide +kernel
theorem dX10_writeFrontier_76 : decode cX10_writeFrontier 76 = .ok (.invokevirtual 387, 3) := by decide +kernel
theorem dX10_writeFrontier_79 : decode cX10_writeFrontier 79 = .ok (.aload_n 0, 1) := by decide +kernel
theorem dX10_writeFrontier_80 : decode cX10_writeFrontier 80 = .ok (.getfield 49, 3) := by decide +kernel
theorem dX10_writeFrontier_83 : decode cX10_writeFrontier 83 = .ok (.aload_n 0, 1) := by decide +kernel
theorem dX10_writeFrontier_84 : decode cX10_writeFrontier 84 = .ok (.getfield 70, 3) := by decide +kernel
theorem dX10_writeFrontier_87 : decode cX10_writeFrontier 87 = .ok (.getfield 215, 3) := by decide +kernel
theorem dX10_writeFrontier_90 : decode cX10_writeFrontier 90 = .ok (.iload_n 1, 1) := by decide +kernel
theorem dX10_writeFrontier_91 : decode cX10_writeFrontier 91 = .ok (.iaload, 1) := by decide +kernel
theorem dX10_writeFrontier_92 : decode cX10_writeFrontier 92 = .ok (.iconst 2, 1) := by decide +kernel
theorem dX10_writeFrontier_93 : decode cX10_writeFrontier 93 = .ok (.if_icmp .ne 8, 3) := by decide +kernel
theorem dX10_writeFrontier_96 : decode cX10_writeFrontier 96 = .ok (.bipush 33, 2) := by decide +kernel
theorem dX10_writeFrontier_98 : decode cX10_writeFrontier 98 = .ok (.goto 23, 3) := by decide +kernel
theorem dX10_writeFrontier_101 : decode cX10_writeFrontier 101 = .ok (.aload_n 0, 1) := by decide +kernel
theorem dX10_writeFrontier_102 : decode cX10_writeFrontier 102 = .ok (.getfield 70, 3) := by decide +kernel
theorem dX10_writeFrontier_105 : decode cX10_writeFrontier 105 = .ok (.getfield 215, 3) := by decide +kernel
theorem dX10_writeFrontier_108 : decode cX10_writeFrontier 108 = .ok (.iload_n 1, 1) := by decide +kernel
theorem dX10_writeFrontier_109 : decode cX10_writeFrontier 109 = .ok (.iaload, 1) := by decide +kernel
theorem dX10_writeFrontier_110 : decode cX10_writeFrontier 110 = .ok (.iconst 1, 1) := by decide +kernel
theorem dX10_writeFrontier_111 : decode cX10_writeFrontier 111 = .ok (.if_icmp .ne 8, 3) := by decide +kernel
theorem dX10_writeFrontier_114 : decode cX10_writeFrontier 114 = .ok (.bipush 43, 2) := by decide +kernel
theorem dX10_writeFrontier_116 : decode cX10_writeFrontier 116 = .ok (.goto 5, 3) := by decide +kernel
theorem dX10_writeFrontier_119 : decode cX10_writeFrontier 119 = .ok (.bipush 46, 2) := by decide +kernel
theorem dX10_writeFrontier_121 : decode cX10_writeFrontier 121 = .ok (.invokevirtual 384, 3) := by decide +kernel
theorem dX10_writeFrontier_124 : decode cX10_writeFrontier 124 = .ok (.iinc 1 1, 3) := by decide +kernel
theorem dX10_writeFrontier_127 : decode cX10_writeFrontier 127 = .ok (.goto (-113), 3) := by decide +kernel
theorem dX10_writeFrontier_130 : decode cX10_writeFrontier 130 = .ok (.aload_n 0, 1) := by decide +kernel
theorem dX10_writeFrontier_131 : decode cX10_writeFrontier 131 = .ok (.getfield 49, 3) := by decide +kernel
theorem dX10_writeFrontier_134 : decode cX10_writeFrontier 134 = .ok (.getfield 381, 3) := by decide +kernel
theorem dX10_writeFrontier_137 : decode cX10_writeFrontier 137 = .ok (.ireturn, 1) := by decide +kernel
theorem dX10_writeChoices_0 : decode cX10_writeChoices 0 = .ok (.aload_n 0, 1) := by decide +kernel
theorem dX10_writeChoices_1 : decode cX10_writeChoices 1 = .ok (.invokevirtual 188, 3) := by decide +kernel
theorem dX10_writeChoices_4 : decode cX10_writeChoices 4 = .ok (.aload_n 0, 1) := by decide +kernel
theorem dX10_writeChoices_5 : decode cX10_writeChoices 5 = .ok (.getfield 49, 3) := by decide +kernel
theorem dX10_writeChoices_8 : decode cX10_writeChoices 8 = .ok (.iconst 0, 1) := by decide +kernel
theorem dX10_writeChoices_9 : decode cX10_writeChoices 9 = .ok (.putfield 381, 3) := by decide +kernel
theorem dX10_writeChoices_12 : decode cX10_writeChoices 12 = .ok (.iconst 0, 1) := by decide +kernel
theorem dX10_writeChoices_13 : decode cX10_writeChoices 13 = .ok (.istore_n 1, 1) := by decide +kernel
theorem dX10_writeChoices_14 : decode cX10_writeChoices 14 = .ok (.iload_n 1, 1) := by decide +kernel
theorem dX10_writeChoices_15 : decode cX10_writeChoices 15 = .ok (.aload_n 0, 1) := by decide +kernel
theorem dX10_writeChoices_16 : decode cX10_writeChoices 16 = .ok (.getfield 70, 3) := by decide +kernel
theorem dX10_writeChoices_19 : decode cX10_writeChoices 19 = .ok (.getfield 201, 3) := by decide +kernel
theorem dX10_writeChoices_22 : decode cX10_writeChoices 22 = .ok (.if_icmp .ge 67, 3) := by decide +kernel
theorem dX10_writeChoices_25 : decode cX10_writeChoices 25 = .ok (.iconst 0, 1) := by decide +kernel
theorem dX10_writeChoices_26 : decode cX10_writeChoices 26 = .ok (.istore_n 2, 1) := by decide +kernel
theorem dX10_writeChoices_27 : decode cX10_writeChoices 27 = .ok (.iload_n 2, 1) := by decide +kernel
theorem dX10_writeChoices_28 : decode cX10_writeChoices 28 = .ok (.aload_n 0, 1) := by decide +kernel
theorem dX10_writeChoices_29 : decode cX10_writeChoices 29 = .ok (.getfield 27, 3) := by decide +kernel
theorem dX10_writeChoices_32 : decode cX10_writeChoices 32 = .ok (.getfield 140, 3) := by decide +kernel
theorem dX10_writeChoices_35 : decode cX10_writeChoices 35 = .ok (.if_icmp .ge 39, 3) := by decide +kernel
theorem dX10_writeChoices_38 : decode cX10_writeChoices 38 = .ok (.aload_n 0, 1) := by decide +kernel
theorem dX10_writeChoices_39 : decode cX10_writeChoices 39 = .ok (.getfield 49, 3) := by decide +kernel
theorem dX10_writeChoices_42 : decode cX10_writeChoices 42 = .ok (.aload_n 0, 1) := by decide +kernel
theorem dX10_writeChoices_43 : decode cX10_writeChoices 43 = .ok (.getfield 70, 3) := by decide +kernel
theorem dX10_writeChoices_46 : decode cX10_writeChoices 46 = .ok (.getfield 209, 3) := by decide +kernel
theorem dX10_writeChoices_49 : decode cX10_writeChoices 49 = .ok (.iload_n 1, 1) := by decide +kernel
theorem dX10_writeChoices_50 : decode cX10_writeChoices 50 = .ok (.iaload, 1) := by decide +kernel
theorem dX10_writeChoices_51 : decode cX10_writeChoices 51 = .ok (.iload_n 2, 1) := by decide +kernel
theorem dX10_writeChoices_52 : decode cX10_writeChoices 52 = .ok (.invokestatic 347, 3) := by decide +kernel
theorem dX10_writeChoices_55 : decode cX10_writeChoices 55 = .ok (.ifCond .eq 8, 3) := by decide +kernel
theorem dX10_writeChoices_58 : decode cX10_writeChoices 58 = .ok (.bipush 49, 2) := by decide +kernel
theorem dX10_writeChoices_60 : decode cX10_writeChoices 60 = .ok (.goto 5, 3) := by decide +kernel
theorem dX10_writeChoices_63 : decode cX10_writeChoices 63 = .ok (.bipush 48, 2) := by decide +kernel
theorem dX10_writeChoices_65 : decode cX10_writeChoices 65 = .ok (.invokevirtual 384, 3) := by decide +kernel
theorem dX10_writeChoices_68 : decode cX10_writeChoices 68 = .ok (.iinc 2 1, 3) := by decide +kernel
theorem dX10_writeChoices_71 : decode cX10_writeChoices 71 = .ok (.goto (-44), 3) := by decide +kernel
theorem dX10_writeChoices_74 : decode cX10_writeChoices 74 = .ok (.aload_n 0, 1) := by decide +kernel
theorem dX10_writeChoices_75 : decode cX10_writeChoices 75 = .ok (.getfield 49, 3) := by decide +kernel
theorem dX10_writeChoices_78 : decode cX10_writeChoices 78 = .ok (.bipush 10, 2) := by decide +kernel
theorem dX10_writeChoices_80 : decode cX10_writeChoices 80 = .ok (.invokevirtual 384, 3) := by decide +kernel
theorem dX10_writeChoices_83 : decode cX10_writeChoices 83 = .ok (.iinc 1 1, 3) := by decide +kernel
theorem dX10_writeChoices_86 : decode cX10_writeChoices 86 = .ok (.goto (-72), 3) := by decide +kernel
theorem dX10_writeChoices_89 : decode cX10_writeChoices 89 = .ok (.aload_n 0, 1) := by decide +kernel
theorem dX10_writeChoices_90 : decode cX10_writeChoices 90 = .ok (.getfield 49, 3) := by decide +kernel
theorem dX10_writeChoices_93 : decode cX10_writeChoices 93 = .ok (.getfield 381, 3) := by decide +kernel
theorem dX10_writeChoices_96 : decode cX10_writeChoices 96 = .ok (.ireturn, 1) := by decide +kernel
theorem dX10_outputByte_0 : decode cX10_outputByte 0 = .ok (.iload_n 1, 1) := by decide +kernel
theorem dX10_outputByte_1 : decode cX10_outputByte 1 = .ok (.ifCond .lt 14, 3) := by decide +kernel
theorem dX10_outputByte_4 : decode cX10_outputByte 4 = .ok (.iload_n 1, 1) := by decide +kernel
theorem dX10_outputByte_5 : decode cX10_outputByte 5 = .ok (.aload_n 0, 1) := by decide +kernel
theorem dX10_outputByte_6 : decode cX10_outputByte 6 = .ok (.getfield 49, 3) := by decide +kernel
theorem dX10_outputByte_9 : decode cX10_outputByte 9 = .ok (.getfield 381, 3) := by decide +kernel
theorem dX10_outputByte_12 : decode cX10_outputByte 12 = .ok (.if_icmp .lt 14, 3) := by decide +kernel
theorem dX10_outputByte_15 : decode cX10_outputByte 15 = .ok (.new 240, 3) := by decide +kernel
theorem dX10_outputByte_18 : decode cX10_outputByte 18 = .ok (.dup, 1) := by decide +kernel
theorem dX10_outputByte_19 : decode cX10_outputByte 19 = .ok (.ldc_w 390, 3) := by decide +kernel
theorem dX10_outputByte_22 : decode cX10_outputByte 22 = .ok (.invokespecial 244, 3) := by decide +kernel
theorem dX10_outputByte_25 : decode cX10_outputByte 25 = .ok (.athrow, 1) := by decide +kernel
theorem dX10_outputByte_26 : decode cX10_outputByte 26 = .ok (.aload_n 0, 1) := by decide +kernel
theorem dX10_outputByte_27 : decode cX10_outputByte 27 = .ok (.getfield 49, 3) := by decide +kernel
theorem dX10_outputByte_30 : decode cX10_outputByte 30 = .ok (.getfield 392, 3) := by decide +kernel
theorem dX10_outputByte_33 : decode cX10_outputByte 33 = .ok (.iload_n 1, 1) := by decide +kernel
theorem dX10_outputByte_34 : decode cX10_outputByte 34 = .ok (.baload, 1) := by decide +kernel
theorem dX10_outputByte_35 : decode cX10_outputByte 35 = .ok (.ireturn, 1) := by decide +kernel
theorem dX10_markChanged_0 : decode cX10_markChanged 0 = .ok (.aload_n 0, 1) := by decide +kernel
theorem dX10_markChanged_1 : decode cX10_markChanged 1 = .ok (.iconst 0, 1) := by decide +kernel
theorem dX10_markChanged_2 : decode cX10_markChanged 2 = .ok (.putfield 395, 3) := by decide +kernel
theorem dX10_markChanged_5 : decode cX10_markChanged 5 = .ok (.aload_n 0, 1) := by decide +kernel
theorem dX10_markChanged_6 : decode cX10_markChanged 6 = .ok (.iconst 0, 1) := by decide +kernel
theorem dX10_markChanged_7 : decode cX10_markChanged 7 = .ok (.putfield 399, 3) := by decide +kernel
theorem dX10_markChanged_10 : decode cX10_markChanged 10 = .ok (.aload_n 0, 1) := by decide +kernel
theorem dX10_markChanged_11 : decode cX10_markChanged 11 = .ok (.iconst 0, 1) := by decide +kernel
theorem dX10_markChanged_12 : decode cX10_markChanged 12 = .ok (.putfield 402, 3) := by decide +kernel
theorem dX10_markChanged_15 : decode cX10_markChanged 15 = .ok (.return_, 1) := by decide +kernel
theorem dX10_refreshFrontier_0 : decode cX10_refreshFrontier 0 = .ok (.aload_n 0, 1) := by decide +kernel
theorem dX10_refreshFrontier_1 : decode cX10_refreshFrontier 1 = .ok (.getfield 395, 3) := by decide +kernel
theorem dX10_refreshFrontier_4 : decode cX10_refreshFrontier 4 = .ok (.ifCond .ne 60, 3) := by decide +kernel
theorem dX10_refreshFrontier_7 : decode cX10_refreshFrontier 7 = .ok (.aload_n 0, 1) := by decide +kernel
theorem dX10_refreshFrontier_8 : decode cX10_refreshFrontier 8 = .ok (.getfield 56, 3) := by decide +kernel
theorem dX10_refreshFrontier_11 : decode cX10_refreshFrontier 11 = .ok (.aload_n 0, 1) := by decide +kernel
theorem dX10_refreshFrontier_12 : decode cX10_refreshFrontier 12 = .ok (.getfield 27, 3) := by decide +kernel
theorem dX10_refreshFrontier_15 : decode cX10_refreshFrontier 15 = .ok (.invokevirtual 405, 3) := by decide +kernel
theorem dX10_refreshFrontier_18 : decode cX10_refreshFrontier 18 = .ok (.aload_n 0, 1) := by decide +kernel
theorem dX10_refreshFrontier_19 : decode cX10_refreshFrontier 19 = .ok (.getfield 63, 3) := by decide +kernel
theorem dX10_refreshFrontier_22 : decode cX10_refreshFrontier 22 = .ok (.aload_n 0, 1) := by decide +kernel
theorem dX10_refreshFrontier_23 : decode cX10_refreshFrontier 23 = .ok (.getfield 56, 3) := by decide +kernel
theorem dX10_refreshFrontier_26 : decode cX10_refreshFrontier 26 = .ok (.aload_n 0, 1) := by decide +kernel
theorem dX10_refreshFrontier_27 : decode cX10_refreshFrontier 27 = .ok (.getfield 27, 3) := by decide +kernel
theorem dX10_refreshFrontier_30 : decode cX10_refreshFrontier 30 = .ok (.getfield 147, 3) := by decide +kernel
theorem dX10_refreshFrontier_33 : decode cX10_refreshFrontier 33 = .ok (.iconst 0, 1) := by decide +kernel
theorem dX10_refreshFrontier_34 : decode cX10_refreshFrontier 34 = .ok (.invokevirtual 290, 3) := by decide +kernel
theorem dX10_refreshFrontier_37 : decode cX10_refreshFrontier 37 = .ok (.aload_n 0, 1) := by decide +kernel
theorem dX10_refreshFrontier_38 : decode cX10_refreshFrontier 38 = .ok (.getfield 70, 3) := by decide +kernel
theorem dX10_refreshFrontier_41 : decode cX10_refreshFrontier 41 = .ok (.aload_n 0, 1) := by decide +kernel
theorem dX10_refreshFrontier_42 : decode cX10_refreshFrontier 42 = .ok (.getfield 56, 3) := by decide +kernel
theorem dX10_refreshFrontier_45 : decode cX10_refreshFrontier 45 = .ok (.aload_n 0, 1) := by decide +kernel
theorem dX10_refreshFrontier_46 : decode cX10_refreshFrontier 46 = .ok (.getfield 27, 3) := by decide +kernel
theorem dX10_refreshFrontier_49 : decode cX10_refreshFrontier 49 = .ok (.getfield 147, 3) := by decide +kernel
theorem dX10_refreshFrontier_52 : decode cX10_refreshFrontier 52 = .ok (.aload_n 0, 1) := by decide +kernel
theorem dX10_refreshFrontier_53 : decode cX10_refreshFrontier 53 = .ok (.getfield 63, 3) := by decide +kernel
theorem dX10_refreshFrontier_56 : decode cX10_refreshFrontier 56 = .ok (.invokevirtual 407, 3) := by decide +kernel
theorem dX10_refreshFrontier_59 : decode cX10_refreshFrontier 59 = .ok (.aload_n 0, 1) := by decide +kernel
theorem dX10_refreshFrontier_60 : decode cX10_refreshFrontier 60 = .ok (.iconst 1, 1) := by decide +kernel
theorem dX10_refreshFrontier_61 : decode cX10_refreshFrontier 61 = .ok (.putfield 395, 3) := by decide +kernel
theorem dX10_refreshFrontier_64 : decode cX10_refreshFrontier 64 = .ok (.return_, 1) := by decide +kernel
theorem dX10_refreshSearch_0 : decode cX10_refreshSearch 0 = .ok (.aload_n 0, 1) := by decide +kernel
theorem dX10_refreshSearch_1 : decode cX10_refreshSearch 1 = .ok (.invokevirtual 188, 3) := by decide +kernel
theorem dX10_refreshSearch_4 : decode cX10_refreshSearch 4 = .ok (.aload_n 0, 1) := by decide +kernel
theorem dX10_refreshSearch_5 : decode cX10_refreshSearch 5 = .ok (.getfield 399, 3) := by decide +kernel
theorem dX10_refreshSearch_8 : decode cX10_refreshSearch 8 = .ok (.ifCond .ne 19, 3) := by decide +kernel
theorem dX10_refreshSearch_11 : decode cX10_refreshSearch 11 = .ok (.aload_n 0, 1) := by decide +kernel
theorem dX10_refreshSearch_12 : decode cX10_refreshSearch 12 = .ok (.getfield 77, 3) := by decide +kernel
theorem dX10_refreshSearch_15 : decode cX10_refreshSearch 15 = .ok (.aload_n 0, 1) := by decide +kernel
theorem dX10_refreshSearch_16 : decode cX10_refreshSearch 16 = .ok (.getfield 70, 3) := by decide +kernel
theorem dX10_refreshSearch_19 : decode cX10_refreshSearch 19 = .ok (.invokevirtual 410, 3) := by decide +kernel
theorem dX10_refreshSearch_22 : decode cX10_refreshSearch 22 = .ok (.aload_n 0, 1) := by decide +kernel
theorem dX10_refreshSearch_23 : decode cX10_refreshSearch 23 = .ok (.iconst 1, 1) := by decide +kernel
theorem dX10_refreshSearch_24 : decode cX10_refreshSearch 24 = .ok (.putfield 399, 3) := by decide +kernel
theorem dX10_refreshSearch_27 : decode cX10_refreshSearch 27 = .ok (.return_, 1) := by decide +kernel
theorem dX10_refreshLayers_0 : decode cX10_refreshLayers 0 = .ok (.aload_n 0, 1) := by decide +kernel
theorem dX10_refreshLayers_1 : decode cX10_refreshLayers 1 = .ok (.invokevirtual 188, 3) := by decide +kernel
theorem dX10_refreshLayers_4 : decode cX10_refreshLayers 4 = .ok (.aload_n 0, 1) := by decide +kernel
theorem dX10_refreshLayers_5 : decode cX10_refreshLayers 5 = .ok (.getfield 402, 3) := by decide +kernel
theorem dX10_refreshLayers_8 : decode cX10_refreshLayers 8 = .ok (.ifCond .ne 26, 3) := by decide +kernel
theorem dX10_refreshLayers_11 : decode cX10_refreshLayers 11 = .ok (.aload_n 0, 1) := by decide +kernel
theorem dX10_refreshLayers_12 : decode cX10_refreshLayers 12 = .ok (.getfield 84, 3) := by decide +kernel
theorem dX10_refreshLayers_15 : decode cX10_refreshLayers 15 = .ok (.aload_n 0, 1) := by decide +kernel
theorem dX10_refreshLayers_16 : decode cX10_refreshLayers 16 = .ok (.getfield 56, 3) := by decide +kernel
theorem dX10_refreshLayers_19 : decode cX10_refreshLayers 19 = .ok (.aload_n 0, 1) := by decide +kernel
theorem dX10_refreshLayers_20 : decode cX10_refreshLayers 20 = .ok (.getfield 27, 3) := by decide +kernel
theorem dX10_refreshLayers_23 : decode cX10_refreshLayers 23 = .ok (.getfield 147, 3) := by decide +kernel
theorem dX10_refreshLayers_26 : decode cX10_refreshLayers 26 = .ok (.invokevirtual 413, 3) := by decide +kernel
theorem dX10_refreshLayers_29 : decode cX10_refreshLayers 29 = .ok (.aload_n 0, 1) := by decide +kernel
theorem dX10_refreshLayers_30 : decode cX10_refreshLayers 30 = .ok (.iconst 1, 1) := by decide +kernel
theorem dX10_refreshLayers_31 : decode cX10_refreshLayers 31 = .ok (.putfield 402, 3) := by decide +kernel
theorem dX10_refreshLayers_34 : decode cX10_refreshLayers 34 = .ok (.return_, 1) := by decide +kernel
theorem dX10_requireItem_0 : decode cX10_requireItem 0 = .ok (.aload_n 0, 1) := by decide +kernel
theorem dX10_requireItem_1 : decode cX10_requireItem 1 = .ok (.getfield 27, 3) := by decide +kernel
theorem dX10_requireItem_4 : decode cX10_requireItem 4 = .ok (.iload_n 1, 1) := by decide +kernel
theorem dX10_requireItem_5 : decode cX10_requireItem 5 = .ok (.invokevirtual 416, 3) := by decide +kernel
theorem dX10_requireItem_8 : decode cX10_requireItem 8 = .ok (.ifCond .ne 14, 3) := by decide +kernel
theorem dX10_requireItem_11 : decode cX10_requireItem 11 = .ok (.new 240, 3) := by decide +kernel
theorem dX10_requireItem_14 : decode cX10_requireItem 14 = .ok (.dup, 1) := by decide +kernel
theorem dX10_requireItem_15 : decode cX10_requireItem 15 = .ok (.ldc_w 420, 3) := by decide +kernel
theorem dX10_requireItem_18 : decode cX10_requireItem 18 = .ok (.invokespecial 244, 3) := by decide +kernel
theorem dX10_requireItem_21 : decode cX10_requireItem 21 = .ok (.athrow, 1) := by decide +kernel
theorem dX10_requireItem_22 : decode cX10_requireItem 22 = .ok (.return_, 1) := by decide +kernel
theorem dX10_requireTwoItems_0 : decode cX10_requireTwoItems 0 = .ok (.aload_n 0, 1) := by decide +kernel
theorem dX10_requireTwoItems_1 : decode cX10_requireTwoItems 1 = .ok (.iload_n 1, 1) := by decide +kernel
theorem dX10_requireTwoItems_2 : decode cX10_requireTwoItems 2 = .ok (.invokevirtual 173, 3) := by decide +kernel
theorem dX10_requireTwoItems_5 : decode cX10_requireTwoItems 5 = .ok (.aload_n 0, 1) := by decide +kernel
theorem dX10_requireTwoItems_6 : decode cX10_requireTwoItems 6 = .ok (.iload_n 2, 1) := by decide +kernel
theorem dX10_requireTwoItems_7 : decode cX10_requireTwoItems 7 = .ok (.invokevirtual 173, 3) := by decide +kernel
theorem dX10_requireTwoItems_10 : decode cX10_requireTwoItems 10 = .ok (.iload_n 1, 1) := by decide +kernel
theorem dX10_requireTwoItems_11 : decode cX10_requireTwoItems 11 = .ok (.iload_n 2, 1) := by decide +kernel
theorem dX10_requireTwoItems_12 : decode cX10_requireTwoItems 12 = .ok (.if_icmp .ne 14, 3) := by decide +kernel
theorem dX10_requireTwoItems_15 : decode cX10_requireTwoItems 15 = .ok (.new 109, 3) := by decide +kernel
theorem dX10_requireTwoItems_18 : decode cX10_requireTwoItems 18 = .ok (.dup, 1) := by decide +kernel
theorem dX10_requireTwoItems_19 : decode cX10_requireTwoItems 19 = .ok (.ldc_w 422, 3) := by decide +kernel
theorem dX10_requireTwoItems_22 : decode cX10_requireTwoItems 22 = .ok (.invokespecial 113, 3) := by decide +kernel
theorem dX10_requireTwoItems_25 : decode cX10_requireTwoItems 25 = .ok (.athrow, 1) := by decide +kernel
theorem dX10_requireTwoItems_26 : decode cX10_requireTwoItems 26 = .ok (.return_, 1) := by decide +kernel
theorem dX10_requireSet_0 : decode cX10_requireSet 0 = .ok (.iload_n 1, 1) := by decide +kernel
theorem dX10_requireSet_1 : decode cX10_requireSet 1 = .ok (.ifCond .lt 14, 3) := by decide +kernel
theorem dX10_requireSet_4 : decode cX10_requireSet 4 = .ok (.iload_n 1, 1) := by decide +kernel
theorem dX10_requireSet_5 : decode cX10_requireSet 5 = .ok (.aload_n 0, 1) := by decide +kernel
theorem dX10_requireSet_6 : decode cX10_requireSet 6 = .ok (.getfield 27, 3) := by decide +kernel
theorem dX10_requireSet_9 : decode cX10_requireSet 9 = .ok (.invokevirtual 282, 3) := by decide +kernel
theorem dX10_requireSet_12 : decode cX10_requireSet 12 = .ok (.if_icmp .le 14, 3) := by decide +kernel
theorem dX10_requireSet_15 : decode cX10_requireSet 15 = .ok (.new 109, 3) := by decide +kernel
theorem dX10_requireSet_18 : decode cX10_requireSet 18 = .ok (.dup, 1) := by decide +kernel
theorem dX10_requireSet_19 : decode cX10_requireSet 19 = .ok (.ldc_w 424, 3) := by decide +kernel
theorem dX10_requireSet_22 : decode cX10_requireSet 22 = .ok (.invokespecial 113, 3) := by decide +kernel
theorem dX10_requireSet_25 : decode cX10_requireSet 25 = .ok (.athrow, 1) := by decide +kernel
theorem dX10_requireSet_26 : decode cX10_requireSet 26 = .ok (.return_, 1) := by decide +kernel
theorem dX10_requireAllowed_0 : decode cX10_requireAllowed 0 = .ok (.aload_n 0, 1) := by decide +kernel
theorem dX10_requireAllowed_1 : decode cX10_requireAllowed 1 = .ok (.invokevirtual 188, 3) := by decide +kernel
theorem dX10_requireAllowed_4 : decode cX10_requireAllowed 4 = .ok (.aload_n 0, 1) := by decide +kernel
theorem dX10_requireAllowed_5 : decode cX10_requireAllowed 5 = .ok (.getfield 56, 3) := by decide +kernel
theorem dX10_requireAllowed_8 : decode cX10_requireAllowed 8 = .ok (.iload_n 1, 1) := by decide +kernel
theorem dX10_requireAllowed_9 : decode cX10_requireAllowed 9 = .ok (.aload_n 0, 1) := by decide +kernel
theorem dX10_requireAllowed_10 : decode cX10_requireAllowed 10 = .ok (.getfield 27, 3) := by decide +kernel
theorem dX10_requireAllowed_13 : decode cX10_requireAllowed 13 = .ok (.getfield 147, 3) := by decide +kernel
theorem dX10_requireAllowed_16 : decode cX10_requireAllowed 16 = .ok (.invokevirtual 191, 3) := by decide +kernel
theorem dX10_requireAllowed_19 : decode cX10_requireAllowed 19 = .ok (.ifCond .eq 14, 3) := by decide +kernel
theorem dX10_requireAllowed_22 : decode cX10_requireAllowed 22 = .ok (.new 98, 3) := by decide +kernel
theorem dX10_requireAllowed_25 : decode cX10_requireAllowed 25 = .ok (.dup, 1) := by decide +kernel
theorem dX10_requireAllowed_26 : decode cX10_requireAllowed 26 = .ok (.ldc_w 426, 3) := by decide +kernel
theorem dX10_requireAllowed_29 : decode cX10_requireAllowed 29 = .ok (.invokespecial 102, 3) := by decide +kernel
theorem dX10_requireAllowed_32 : decode cX10_requireAllowed 32 = .ok (.athrow, 1) := by decide +kernel
theorem dX10_requireAllowed_33 : decode cX10_requireAllowed 33 = .ok (.return_, 1) := by decide +kernel
theorem dX10_requirePoint_0 : decode cX10_requirePoint 0 = .ok (.aload_n 0, 1) := by decide +kernel
theorem dX10_requirePoint_1 : decode cX10_requirePoint 1 = .ok (.invokevirtual 188, 3) := by decide +kernel
theorem dX10_requirePoint_4 : decode cX10_requirePoint 4 = .ok (.iload_n 1, 1) := by decide +kernel
theorem dX10_requirePoint_5 : decode cX10_requirePoint 5 = .ok (.ifCond .lt 14, 3) := by decide +kernel
theorem dX10_requirePoint_8 : decode cX10_requirePoint 8 = .ok (.iload_n 1, 1) := by decide +kernel
theorem dX10_requirePoint_9 : decode cX10_requirePoint 9 = .ok (.aload_n 0, 1) := by decide +kernel
theorem dX10_requirePoint_10 : decode cX10_requirePoint 10 = .ok (.getfield 70, 3) := by decide +kernel
theorem dX10_requirePoint_13 : decode cX10_requirePoint 13 = .ok (.getfield 201, 3) := by decide +kernel
theorem dX10_requirePoint_16 : decode cX10_requirePoint 16 = .ok (.if_icmp .lt 14, 3) := by decide +kernel
theorem dX10_requirePoint_19 : decode cX10_requirePoint 19 = .ok (.new 240, 3) := by decide +kernel
theorem dX10_requirePoint_22 : decode cX10_requirePoint 22 = .ok (.dup, 1) := by decide +kernel
theorem dX10_requirePoint_23 : decode cX10_requirePoint 23 = .ok (.ldc_w 428, 3) := by decide +kernel
theorem dX10_requirePoint_26 : decode cX10_requirePoint 26 = .ok (.invokespecial 244, 3) := by decide +kernel
theorem dX10_requirePoint_29 : decode cX10_requirePoint 29 = .ok (.athrow, 1) := by decide +kernel
theorem dX10_requirePoint_30 : decode cX10_requirePoint 30 = .ok (.return_, 1) := by decide +kernel
theorem dX10_requireSlot_0 : decode cX10_requireSlot 0 = .ok (.iload_n 0, 1) := by decide +kernel
theorem dX10_requireSlot_1 : decode cX10_requireSlot 1 = .ok (.ifCond .lt 8, 3) := by decide +kernel
theorem dX10_requireSlot_4 : decode cX10_requireSlot 4 = .ok (.iload_n 0, 1) := by decide +kernel
theorem dX10_requireSlot_5 : decode cX10_requireSlot 5 = .ok (.iconst 2, 1) := by decide +kernel
theorem dX10_requireSlot_6 : decode cX10_requireSlot 6 = .ok (.if_icmp .lt 14, 3) := by decide +kernel
theorem dX10_requireSlot_9 : decode cX10_requireSlot 9 = .ok (.new 240, 3) := by decide +kernel
theorem dX10_requireSlot_12 : decode cX10_requireSlot 12 = .ok (.dup, 1) := by decide +kernel
theorem dX10_requireSlot_13 : decode cX10_requireSlot 13 = .ok (.ldc_w 430, 3) := by decide +kernel
theorem dX10_requireSlot_16 : decode cX10_requireSlot 16 = .ok (.invokespecial 244, 3) := by decide +kernel
theorem dX10_requireSlot_19 : decode cX10_requireSlot 19 = .ok (.athrow, 1) := by decide +kernel
theorem dX10_requireSlot_20 : decode cX10_requireSlot 20 = .ok (.return_, 1) := by decide +kernel
theorem dX10_requireWhat_0 : decode cX10_requireWhat 0 = .ok (.iload_n 0, 1) := by decide +kernel
theorem dX10_requireWhat_1 : decode cX10_requireWhat 1 = .ok (.ifCond .lt 8, 3) := by decide +kernel
theorem dX10_requireWhat_4 : decode cX10_requireWhat 4 = .ok (.iload_n 0, 1) := by decide +kernel
theorem dX10_requireWhat_5 : decode cX10_requireWhat 5 = .ok (.iload_n 1, 1) := by decide +kernel
theorem dX10_requireWhat_6 : decode cX10_requireWhat 6 = .ok (.if_icmp .le 14, 3) := by decide +kernel
theorem dX10_requireWhat_9 : decode cX10_requireWhat 9 = .ok (.new 109, 3) := by decide +kernel
theorem dX10_requireWhat_12 : decode cX10_requireWhat 12 = .ok (.dup, 1) := by decide +kernel
theorem dX10_requireWhat_13 : decode cX10_requireWhat 13 = .ok (.ldc_w 432, 3) := by decide +kernel
theorem dX10_requireWhat_16 : decode cX10_requireWhat 16 = .ok (.invokespecial 113, 3) := by decide +kernel
theorem dX10_requireWhat_19 : decode cX10_requireWhat 19 = .ok (.athrow, 1) := by decide +kernel
theorem dX10_requireWhat_20 : decode cX10_requireWhat 20 = .ok (.return_, 1) := by decide +kernel
theorem dX10_requireValue_0 : decode cX10_requireValue 0 = .ok (.iload_n 0, 1) := by decide +kernel
theorem dX10_requireValue_1 : decode cX10_requireValue 1 = .ok (.ifCond .lt 9, 3) := by decide +kernel
theorem dX10_requireValue_4 : decode cX10_requireValue 4 = .ok (.iload_n 0, 1) := by decide +kernel
theorem dX10_requireValue_5 : decode cX10_requireValue 5 = .ok (.bipush 99, 2) := by decide +kernel
theorem dX10_requireValue_7 : decode cX10_requireValue 7 = .ok (.if_icmp .le 14, 3) := by decide +kernel
theorem dX10_requireValue_10 : decode cX10_requireValue 10 = .ok (.new 109, 3) := by decide +kernel
theorem dX10_requireValue_13 : decode cX10_requireValue 13 = .ok (.dup, 1) := by decide +kernel
theorem dX10_requireValue_14 : decode cX10_requireValue 14 = .ok (.ldc_w 434, 3) := by decide +kernel
theorem dX10_requireValue_17 : decode cX10_requireValue 17 = .ok (.invokespecial 113, 3) := by decide +kernel
theorem dX10_requireValue_20 : decode cX10_requireValue 20 = .ok (.athrow, 1) := by decide +kernel
theorem dX10_requireValue_21 : decode cX10_requireValue 21 = .ok (.return_, 1) := by decide +kernel
theorem dX10_requireCapacity_0 : decode cX10_requireCapacity 0 = .ok (.iload_n 0, 1) := by decide +kernel
theorem dX10_requireCapacity_1 : decode cX10_requireCapacity 1 = .ok (.ifCond .lt 10, 3) := by decide +kernel
theorem dX10_requireCapacity_4 : decode cX10_requireCapacity 4 = .ok (.iload_n 0, 1) := by decide +kernel
theorem dX10_requireCapacity_5 : decode cX10_requireCapacity 5 = .ok (.sipush 999, 3) := by decide +kernel
theorem dX10_requireCapacity_8 : decode cX10_requireCapacity 8 = .ok (.if_icmp .le 14, 3) := by decide +kernel
theorem dX10_requireCapacity_11 : decode cX10_requireCapacity 11 = .ok (.new 109, 3) := by decide +kernel
theorem dX10_requireCapacity_14 : decode cX10_requireCapacity 14 = .ok (.dup, 1) := by decide +kernel
theorem dX10_requireCapacity_15 : decode cX10_requireCapacity 15 = .ok (.ldc_w 436, 3) := by decide +kernel
theorem dX10_requireCapacity_18 : decode cX10_requireCapacity 18 = .ok (.invokespecial 113, 3) := by decide +kernel
theorem dX10_requireCapacity_21 : decode cX10_requireCapacity 21 = .ok (.athrow, 1) := by decide +kernel
theorem dX10_requireCapacity_22 : decode cX10_requireCapacity 22 = .ok (.return_, 1) := by decide +kernel
theorem dX10_requireWeights_0 : decode cX10_requireWeights 0 = .ok (.iload_n 0, 1) := by decide +kernel
theorem dX10_requireWeights_1 : decode cX10_requireWeights 1 = .ok (.invokestatic 330, 3) := by decide +kernel
theorem dX10_requireWeights_4 : decode cX10_requireWeights 4 = .ok (.iload_n 1, 1) := by decide +kernel
theorem dX10_requireWeights_5 : decode cX10_requireWeights 5 = .ok (.invokestatic 330, 3) := by decide +kernel
theorem dX10_requireWeights_8 : decode cX10_requireWeights 8 = .ok (.iload_n 0, 1) := by decide +kernel
theorem dX10_requireWeights_9 : decode cX10_requireWeights 9 = .ok (.ifCond .ne 18, 3) := by decide +kernel
theorem dX10_requireWeights_12 : decode cX10_requireWeights 12 = .ok (.iload_n 1, 1) := by decide +kernel
theorem dX10_requireWeights_13 : decode cX10_requireWeights 13 = .ok (.ifCond .ne 14, 3) := by decide +kernel
theorem dX10_requireWeights_16 : decode cX10_requireWeights 16 = .ok (.new 109, 3) := by decide +kernel
theorem dX10_requireWeights_19 : decode cX10_requireWeights 19 = .ok (.dup, 1) := by decide +kernel
theorem dX10_requireWeights_20 : decode cX10_requireWeights 20 = .ok (.ldc_w 438, 3) := by decide +kernel
theorem dX10_requireWeights_23 : decode cX10_requireWeights 23 = .ok (.invokespecial 113, 3) := by decide +kernel
theorem dX10_requireWeights_26 : decode cX10_requireWeights 26 = .ok (.athrow, 1) := by decide +kernel
theorem dX10_requireWeights_27 : decode cX10_requireWeights 27 = .ok (.return_, 1) := by decide +kernel
theorem dX10_hasBit_0 : decode cX10_hasBit 0 = .ok (.iload_n 0, 1) := by decide +kernel
theorem dX10_hasBit_1 : decode cX10_hasBit 1 = .ok (.iload_n 1, 1) := by decide +kernel
theorem dX10_hasBit_2 : decode cX10_hasBit 2 = .ok (.ishr, 1) := by decide +kernel
theorem dX10_hasBit_3 : decode cX10_hasBit 3 = .ok (.iconst 1, 1) := by decide +kernel
theorem dX10_hasBit_4 : decode cX10_hasBit 4 = .ok (.iand, 1) := by decide +kernel
theorem dX10_hasBit_5 : decode cX10_hasBit 5 = .ok (.ifCond .eq 7, 3) := by decide +kernel
theorem dX10_hasBit_8 : decode cX10_hasBit 8 = .ok (.iconst 1, 1) := by decide +kernel
theorem dX10_hasBit_9 : decode cX10_hasBit 9 = .ok (.goto 4, 3) := by decide +kernel
theorem dX10_hasBit_12 : decode cX10_hasBit 12 = .ok (.iconst 0, 1) := by decide +kernel
theorem dX10_hasBit_13 : decode cX10_hasBit 13 = .ok (.ireturn, 1) := by decide +kernel
theorem dX10_withBit_0 : decode cX10_withBit 0 = .ok (.iload_n 2, 1) := by decide +kernel
theorem dX10_withBit_1 : decode cX10_withBit 1 = .ok (.ifCond .eq 11, 3) := by decide +kernel
theorem dX10_withBit_4 : decode cX10_withBit 4 = .ok (.iload_n 0, 1) := by decide +kernel
theorem dX10_withBit_5 : decode cX10_withBit 5 = .ok (.iconst 1, 1) := by decide +kernel
theorem dX10_withBit_6 : decode cX10_withBit 6 = .ok (.iload_n 1, 1) := by decide +kernel
theorem dX10_withBit_7 : decode cX10_withBit 7 = .ok (.ishl, 1) := by decide +kernel
theorem dX10_withBit_8 : decode cX10_withBit 8 = .ok (.ior, 1) := by decide +kernel
theorem dX10_withBit_9 : decode cX10_withBit 9 = .ok (.goto 10, 3) := by decide +kernel
theorem dX10_withBit_12 : decode cX10_withBit 12 = .ok (.iload_n 0, 1) := by decide +kernel
theorem dX10_withBit_13 : decode cX10_withBit 13 = .ok (.iconst 1, 1) := by decide +kernel
theorem dX10_withBit_14 : decode cX10_withBit 14 = .ok (.iload_n 1, 1) := by decide +kernel
theorem dX10_withBit_15 : decode cX10_withBit 15 = .ok (.ishl, 1) := by decide +kernel
theorem dX10_withBit_16 : decode cX10_withBit 16 = .ok (.iconst (-1), 1) := by decide +kernel
theorem dX10_withBit_17 : decode cX10_withBit 17 = .ok (.ixor, 1) := by decide +kernel
theorem dX10_withBit_18 : decode cX10_withBit 18 = .ok (.iand, 1) := by decide +kernel
theorem dX10_withBit_19 : decode cX10_withBit 19 = .ok (.ireturn, 1) := by decide +kernel
theorem dX11_thrown_0 : decode cX11_thrown 0 = .ok (.aload_n 0, 1) := by decide +kernel
theorem dX11_thrown_1 : decode cX11_thrown 1 = .ok (.getfield 3, 3) := by decide +kernel
theorem dX11_thrown_4 : decode cX11_thrown 4 = .ok (.ireturn, 1) := by decide +kernel
theorem dX11_in_0 : decode cX11_in 0 = .ok (.lload_n 0, 1) := by decide +kernel
theorem dX11_in_1 : decode cX11_in 1 = .ok (.lload_n 2, 1) := by decide +kernel
theorem dX11_in_2 : decode cX11_in 2 = .ok (.lcmp, 1) := by decide +kernel
theorem dX11_in_3 : decode cX11_in 3 = .ok (.ifCond .lt 14, 3) := by decide +kernel
theorem dX11_in_6 : decode cX11_in 6 = .ok (.lload_n 0, 1) := by decide +kernel
theorem dX11_in_7 : decode cX11_in 7 = .ok (.lload 4, 2) := by decide +kernel
theorem dX11_in_9 : decode cX11_in 9 = .ok (.lcmp, 1) := by decide +kernel
theorem dX11_in_10 : decode cX11_in 10 = .ok (.ifCond .gt 7, 3) := by decide +kernel
theorem dX11_in_13 : decode cX11_in 13 = .ok (.iconst 1, 1) := by decide +kernel
theorem dX11_in_14 : decode cX11_in 14 = .ok (.goto 4, 3) := by decide +kernel
theorem dX11_in_17 : decode cX11_in 17 = .ok (.iconst 0, 1) := by decide +kernel
theorem dX11_in_18 : decode cX11_in 18 = .ok (.ireturn, 1) := by decide +kernel
theorem dX11_has_0 : decode cX11_has 0 = .ok (.iload_n 0, 1) := by decide +kernel
theorem dX11_has_1 : decode cX11_has 1 = .ok (.iload_n 1, 1) := by decide +kernel
theorem dX11_has_2 : decode cX11_has 2 = .ok (.ishr, 1) := by decide +kernel
theorem dX11_has_3 : decode cX11_has 3 = .ok (.iconst 1, 1) := by decide +kernel
theorem dX11_has_4 : decode cX11_has 4 = .ok (.iand, 1) := by decide +kernel
theorem dX11_has_5 : decode cX11_has 5 = .ok (.iconst 1, 1) := by decide +kernel
theorem dX11_has_6 : decode cX11_has 6 = .ok (.if_icmp .ne 7, 3) := by decide +kernel
theorem dX11_has_9 : decode cX11_has 9 = .ok (.iconst 1, 1) := by decide +kernel
theorem dX11_has_10 : decode cX11_has 10 = .ok (.goto 4, 3) := by decide +kernel
theorem dX11_has_13 : decode cX11_has 13 = .ok (.iconst 0, 1) := by decide +kernel
theorem dX11_has_14 : decode cX11_has 14 = .ok (.ireturn, 1) := by decide +kernel
theorem dX11_bits_0 : decode cX11_bits 0 = .ok (.iconst 0, 1) := by decide +kernel
theorem dX11_bits_1 : decode cX11_bits 1 = .ok (.istore_n 1, 1) := by decide +kernel
theorem dX11_bits_2 : decode cX11_bits 2 = .ok (.iconst 0, 1) := by decide +kernel
theorem dX11_bits_3 : decode cX11_bits 3 = .ok (.istore_n 2, 1) := by decide +kernel
theorem dX11_bits_4 : decode cX11_bits 4 = .ok (.iload_n 2, 1) := by decide +kernel
theorem dX11_bits_5 : decode cX11_bits 5 = .ok (.bipush 12, 2) := by decide +kernel
theorem dX11_bits_7 : decode cX11_bits 7 = .ok (.if_icmp .ge 17, 3) := by decide +kernel
theorem dX11_bits_10 : decode cX11_bits 10 = .ok (.iload_n 1, 1) := by decide +kernel
theorem dX11_bits_11 : decode cX11_bits 11 = .ok (.iload_n 0, 1) := by decide +kernel
theorem dX11_bits_12 : decode cX11_bits 12 = .ok (.iload_n 2, 1) := by decide +kernel
theorem dX11_bits_13 : decode cX11_bits 13 = .ok (.ishr, 1) := by decide +kernel
theorem dX11_bits_14 : decode cX11_bits 14 = .ok (.iconst 1, 1) := by decide +kernel
theorem dX11_bits_15 : decode cX11_bits 15 = .ok (.iand, 1) := by decide +kernel
theorem dX11_bits_16 : decode cX11_bits 16 = .ok (.iadd, 1) := by decide +kernel
theorem dX11_bits_17 : decode cX11_bits 17 = .ok (.istore_n 1, 1) := by decide +kernel
theorem dX11_bits_18 : decode cX11_bits 18 = .ok (.iinc 2 1, 3) := by decide +kernel
theorem dX11_bits_21 : decode cX11_bits 21 = .ok (.goto (-17), 3) := by decide +kernel
theorem dX11_bits_24 : decode cX11_bits 24 = .ok (.iload_n 1, 1) := by decide +kernel
theorem dX11_bits_25 : decode cX11_bits 25 = .ok (.ireturn, 1) := by decide +kernel
theorem dX11_passes2_0 : decode cX11_passes2 0 = .ok (.aload_n 0, 1) := by decide +kernel
theorem dX11_passes2_1 : decode cX11_passes2 1 = .ok (.iload_n 1, 1) := by decide +kernel
theorem dX11_passes2_2 : decode cX11_passes2 2 = .ok (.ifCond .ne 7, 3) := by decide +kernel
theorem dX11_passes2_5 : decode cX11_passes2 5 = .ok (.iconst 1, 1) := by decide +kernel
theorem dX11_passes2_6 : decode cX11_passes2 6 = .ok (.goto 12, 3) := by decide +kernel
theorem dX11_passes2_9 : decode cX11_passes2 9 = .ok (.iload_n 2, 1) := by decide +kernel
theorem dX11_passes2_10 : decode cX11_passes2 10 = .ok (.ifCond .ne 7, 3) := by decide +kernel
theorem dX11_passes2_13 : decode cX11_passes2 13 = .ok (.iconst 2, 1) := by decide +kernel
theorem dX11_passes2_14 : decode cX11_passes2 14 = .ok (.goto 4, 3) := by decide +kernel
theorem dX11_passes2_17 : decode cX11_passes2 17 = .ok (.iconst 0, 1) := by decide +kernel
theorem dX11_passes2_18 : decode cX11_passes2 18 = .ok (.putfield 3, 3) := by decide +kernel
theorem dX11_passes2_21 : decode cX11_passes2 21 = .ok (.aload_n 0, 1) := by decide +kernel
theorem dX11_passes2_22 : decode cX11_passes2 22 = .ok (.getfield 3, 3) := by decide +kernel
theorem dX11_passes2_25 : decode cX11_passes2 25 = .ok (.ifCond .ne 7, 3) := by decide +kernel
theorem dX11_passes2_28 : decode cX11_passes2 28 = .ok (.iconst 1, 1) := by decide +kernel
theorem dX11_passes2_29 : decode cX11_passes2 29 = .ok (.goto 4, 3) := by decide +kernel
theorem dX11_passes2_32 : decode cX11_passes2 32 = .ok (.iconst 0, 1) := by decide +kernel
theorem dX11_passes2_33 : decode cX11_passes2 33 = .ok (.ireturn, 1) := by decide +kernel
theorem dX11_passes_0 : decode cX11_passes 0 = .ok (.aload_n 0, 1) := by decide +kernel
theorem dX11_passes_1 : decode cX11_passes 1 = .ok (.iload_n 1, 1) := by decide +kernel
theorem dX11_passes_2 : decode cX11_passes 2 = .ok (.iconst 1, 1) := by decide +kernel
theorem dX11_passes_3 : decode cX11_passes 3 = .ok (.invokevirtual 7, 3) := by decide +kernel
theorem dX11_passes_6 : decode cX11_passes 6 = .ok (.ireturn, 1) := by decide +kernel
theorem dX11_init_0 : decode cX11_init 0 = .ok (.aload_n 0, 1) := by decide +kernel
theorem dX11_init_1 : decode cX11_init 1 = .ok (.invokespecial 11, 3) := by decide +kernel
theorem dX11_init_4 : decode cX11_init 4 = .ok (.aload_n 0, 1) := by decide +kernel
theorem dX11_init_5 : decode cX11_init 5 = .ok (.bipush 66, 2) := by decide +kernel
theorem dX11_init_7 : decode cX11_init 7 = .ok (.newarray .int, 2) := by decide +kernel
theorem dX11_init_9 : decode cX11_init 9 = .ok (.putfield 17, 3) := by decide +kernel
theorem dX11_init_12 : decode cX11_init 12 = .ok (.aload_n 0, 1) := by decide +kernel
theorem dX11_init_13 : decode cX11_init 13 = .ok (.bipush 66, 2) := by decide +kernel
theorem dX11_init_15 : decode cX11_init 15 = .ok (.newarray .int, 2) := by decide +kernel
theorem dX11_init_17 : decode cX11_init 17 = .ok (.putfield 21, 3) := by decide +kernel
theorem dX11_init_20 : decode cX11_init 20 = .ok (.aload_n 0, 1) := by decide +kernel
theorem dX11_init_21 : decode cX11_init 21 = .ok (.aload_n 0, 1) := by decide +kernel
theorem dX11_init_22 : decode cX11_init 22 = .ok (.getfield 17, 3) := by decide +kernel
theorem dX11_init_25 : decode cX11_init 25 = .ok (.putfield 24, 3) := by decide +kernel
theorem dX11_init_28 : decode cX11_init 28 = .ok (.aload_n 0, 1) := by decide +kernel
theorem dX11_init_29 : decode cX11_init 29 = .ok (.sipush 1189, 3) := by decide +kernel
theorem dX11_init_32 : decode cX11_init 32 = .ok (.newarray .int, 2) := by decide +kernel
theorem dX11_init_34 : decode cX11_init 34 = .ok (.putfield 27, 3) := by decide +kernel
theorem dX11_init_37 : decode cX11_init 37 = .ok (.aload_n 0, 1) := by decide +kernel
theorem dX11_init_38 : decode cX11_init 38 = .ok (.sipush 1189, 3) := by decide +kernel
theorem dX11_init_41 : decode cX11_init 41 = .ok (.newarray .int, 2) := by decide +kernel
theorem dX11_init_43 : decode cX11_init 43 = .ok (.putfield 30, 3) := by decide +kernel
theorem dX11_init_46 : decode cX11_init 46 = .ok (.aload_n 0, 1) := by decide +kernel
theorem dX11_init_47 : decode cX11_init 47 = .ok (.sipush 1189, 3) := by decide +kernel
theorem dX11_init_50 : decode cX11_init 50 = .ok (.newarray .int, 2) := by decide +kernel
theorem dX11_init_52 : decode cX11_init 52 = .ok (.putfield 33, 3) := by decide +kernel
theorem dX11_init_55 : decode cX11_init 55 = .ok (.aload_n 0, 1) := by decide +kernel
theorem dX11_init_56 : decode cX11_init 56 = .ok (.sipush 1189, 3) := by decide +kernel
theorem dX11_init_59 : decode cX11_init 59 = .ok (.newarray .int, 2) := by decide +kernel
theorem dX11_init_61 : decode cX11_init 61 = .ok (.putfield 36, 3) := by decide +kernel
theorem dX11_init_64 : decode cX11_init 64 = .ok (.aload_n 0, 1) := by decide +kernel
theorem dX11_init_65 : decode cX11_init 65 = .ok (.sipush 1189, 3) := by decide +kernel
theorem dX11_init_68 : decode cX11_init 68 = .ok (.newarray .int, 2) := by decide +kernel
theorem dX11_init_70 : decode cX11_init 70 = .ok (.putfield 39, 3) := by decide +kernel
theorem dX11_init_73 : decode cX11_init 73 = .ok (.aload_n 0, 1) := by decide +kernel
theorem dX11_init_74 : decode cX11_init 74 = .ok (.sipush 1189, 3) := by decide +kernel
theorem dX11_init_77 : decode cX11_init 77 = .ok (.newarray .int, 2) := by decide +kernel
theorem dX11_init_79 : decode cX11_init 79 = .ok (.putfield 42, 3) := by decide +kernel
theorem dX11_init_82 : decode cX11_init 82 = .ok (.aload_n 0, 1) := by decide +kernel
theorem dX11_init_83 : decode cX11_init 83 = .ok (.sipush 1189, 3) := by decide +kernel
theorem dX11_init_86 : decode cX11_init 86 = .ok (.newarray .int, 2) := by decide +kernel
theorem dX11_init_88 : decode cX11_init 88 = .ok (.putfield 45, 3) := by decide +kernel
theorem dX11_init_91 : decode cX11_init 91 = .ok (.aload_n 0, 1) := by decide +kernel
theorem dX11_init_92 : decode cX11_init 92 = .ok (.sipush 1189, 3) := by decide +kernel
theorem dX11_init_95 : decode cX11_init 95 = .ok (.newarray .int, 2) := by decide +kernel
theorem dX11_init_97 : decode cX11_init 97 = .ok (.putfield 48, 3) := by decide +kernel
theorem dX11_init_100 : decode cX11_init 100 = .ok (.aload_n 0, 1) := by decide +kernel
theorem dX11_init_101 : decode cX11_init 101 = .ok (.sipush 7134, 3) := by decide +kernel
theorem dX11_init_104 : decode cX11_init 104 = .ok (.newarray .int, 2) := by decide +kernel
theorem dX11_init_106 : decode cX11_init 106 = .ok (.putfield 51, 3) := by decide +kernel
theorem dX11_init_109 : decode cX11_init 109 = .ok (.aload_n 0, 1) := by decide +kernel
theorem dX11_init_110 : decode cX11_init 110 = .ok (.sipush 4096, 3) := by decide +kernel
theorem dX11_init_113 : decode cX11_init 113 = .ok (.newarray .int, 2) := by decide +kernel
theorem dX11_init_115 : decode cX11_init 115 = .ok (.putfield 54, 3) := by decide +kernel
theorem dX11_init_118 : decode cX11_init 118 = .ok (.aload_n 0, 1) := by decide +kernel
theorem dX11_init_119 : decode cX11_init 119 = .ok (.sipush 4096, 3) := by decide +kernel
theorem dX11_init_122 : decode cX11_init 122 = .ok (.newarray .int, 2) := by decide +kernel
theorem dX11_init_124 : decode cX11_init 124 = .ok (.putfield 57, 3) := by decide +kernel
theorem dX11_init_127 : decode cX11_init 127 = .ok (.aload_n 0, 1) := by decide +kernel
theorem dX11_init_128 : decode cX11_init 128 = .ok (.sipush 4096, 3) := by decide +kernel
theorem dX11_init_131 : decode cX11_init 131 = .ok (.newarray .int, 2) := by decide +kernel
theorem dX11_init_133 : decode cX11_init 133 = .ok (.putfield 60, 3) := by decide +kernel
theorem dX11_init_136 : decode cX11_init 136 = .ok (.aload_n 0, 1) := by decide +kernel
theorem dX11_init_137 : decode cX11_init 137 = .ok (.sipush 600, 3) := by decide +kernel
theorem dX11_init_140 : decode cX11_init 140 = .ok (.newarray .byte, 2) := by decide +kernel
theorem dX11_init_142 : decode cX11_init 142 = .ok (.putfield 63, 3) := by decide +kernel
theorem dX11_init_145 : decode cX11_init 145 = .ok (.aload_n 0, 1) := by decide +kernel
theorem dX11_init_146 : decode cX11_init 146 = .ok (.iconst (-1), 1) := by decide +kernel
theorem dX11_init_147 : decode cX11_init 147 = .ok (.putfield 67, 3) := by decide +kernel
theorem dX11_init_150 : decode cX11_init 150 = .ok (.aload_n 0, 1) := by decide +kernel
theorem dX11_init_151 : decode cX11_init 151 = .ok (.sipush 132, 3) := by decide +kernel
theorem dX11_init_154 : decode cX11_init 154 = .ok (.newarray .int, 2) := by decide +kernel
theorem dX11_init_156 : decode cX11_init 156 = .ok (.putfield 70, 3) := by decide +kernel
theorem dX11_init_159 : decode cX11_init 159 = .ok (.aload_n 0, 1) := by decide +kernel
theorem dX11_init_160 : decode cX11_init 160 = .ok (.iconst 2, 1) := by decide +kernel
theorem dX11_init_161 : decode cX11_init 161 = .ok (.newarray .boolean, 2) := by decide +kernel
theorem dX11_init_163 : decode cX11_init 163 = .ok (.putfield 73, 3) := by decide +kernel
theorem dX11_init_166 : decode cX11_init 166 = .ok (.aload_n 0, 1) := by decide +kernel
theorem dX11_init_167 : decode cX11_init 167 = .ok (.sipush 528, 3) := by decide +kernel
theorem dX11_init_170 : decode cX11_init 170 = .ok (.newarray .int, 2) := by decide +kernel
theorem dX11_init_172 : decode cX11_init 172 = .ok (.putfield 77, 3) := by decide +kernel
theorem dX11_init_175 : decode cX11_init 175 = .ok (.aload_n 0, 1) := by decide +kernel
theorem dX11_init_176 : decode cX11_init 176 = .ok (.sipush 16000, 3) := by decide +kernel
theorem dX11_init_179 : decode cX11_init 179 = .ok (.newarray .byte, 2) := by decide +kernel
theorem dX11_init_181 : decode cX11_init 181 = .ok (.putfield 80, 3) := by decide +kernel
theorem dX11_init_184 : decode cX11_init 184 = .ok (.aload_n 0, 1) := by decide +kernel
theorem dX11_init_185 : decode cX11_init 185 = .ok (.getfield 17, 3) := by decide +kernel
theorem dX11_init_188 : decode cX11_init 188 = .ok (.iconst 1, 1) := by decide +kernel
theorem dX11_init_189 : decode cX11_init 189 = .ok (.bipush 20, 2) := by decide +kernel
theorem dX11_init_191 : decode cX11_init 191 = .ok (.iastore, 1) := by decide +kernel
theorem dX11_init_192 : decode cX11_init 192 = .ok (.aload_n 0, 1) := by decide +kernel
theorem dX11_init_193 : decode cX11_init 193 = .ok (.getfield 17, 3) := by decide +kernel
theorem dX11_init_196 : decode cX11_init 196 = .ok (.iconst 2, 1) := by decide +kernel
theorem dX11_init_197 : decode cX11_init 197 = .ok (.bipush 12, 2) := by decide +kernel
theorem dX11_init_199 : decode cX11_init 199 = .ok (.iastore, 1) := by decide +kernel
theorem dX11_init_200 : decode cX11_init 200 = .ok (.return_, 1) := by decide +kernel
theorem dX11_many_0 : decode cX11_many 0 = .ok (.aload_n 0, 1) := by decide +kernel
theorem dX11_many_1 : decode cX11_many 1 = .ok (.getfield 24, 3) := by decide +kernel
theorem dX11_many_4 : decode cX11_many 4 = .ok (.iconst 0, 1) := by decide +kernel
theorem dX11_many_5 : decode cX11_many 5 = .ok (.iaload, 1) := by decide +kernel
theorem dX11_many_6 : decode cX11_many 6 = .ok (.ireturn, 1) := by decide +kernel
theorem dX11_ofItem_0 : decode cX11_ofItem 0 = .ok (.aload_n 0, 1) := by decide +kernel
theorem dX11_ofItem_1 : decode cX11_ofItem 1 = .ok (.getfield 24, 3) := by decide +kernel
theorem dX11_ofItem_4 : decode cX11_ofItem 4 = .ok (.bipush 6, 2) := by decide +kernel
theorem dX11_ofItem_6 : decode cX11_ofItem 6 = .ok (.iconst 5, 1) := by decide +kernel
theorem dX11_ofItem_7 : decode cX11_ofItem 7 = .ok (.iload_n 1, 1) := by decide +kernel
theorem dX11_ofItem_8 : decode cX11_ofItem 8 = .ok (.imul, 1) := by decide +kernel
theorem dX11_ofItem_9 : decode cX11_ofItem 9 = .ok (.iadd, 1) := by decide +kernel
theorem dX11_ofItem_10 : decode cX11_ofItem 10 = .ok (.iload_n 2, 1) := by decide +kernel
theorem dX11_ofItem_11 : decode cX11_ofItem 11 = .ok (.iadd, 1) := by decide +kernel
theorem dX11_ofItem_12 : decode cX11_ofItem 12 = .ok (.iaload, 1) := by decide +kernel
theorem dX11_ofItem_13 : decode cX11_ofItem 13 = .ok (.ireturn, 1) := by decide +kernel
theorem dX11_put_0 : decode cX11_put 0 = .ok (.aload_n 0, 1) := by decide +kernel
theorem dX11_put_1 : decode cX11_put 1 = .ok (.getfield 24, 3) := by decide +kernel
theorem dX11_put_4 : decode cX11_put 4 = .ok (.bipush 6, 2) := by decide +kernel
theorem dX11_put_6 : decode cX11_put 6 = .ok (.iconst 5, 1) := by decide +kernel
theorem dX11_put_7 : decode cX11_put 7 = .ok (.iload_n 1, 1) := by decide +kernel
theorem dX11_put_8 : decode cX11_put 8 = .ok (.imul, 1) := by decide +kernel
theorem dX11_put_9 : decode cX11_put 9 = .ok (.iadd, 1) := by decide +kernel
theorem dX11_put_10 : decode cX11_put 10 = .ok (.iload_n 2, 1) := by decide +kernel
theorem dX11_put_11 : decode cX11_put 11 = .ok (.iadd, 1) := by decide +kernel
theorem dX11_put_12 : decode cX11_put 12 = .ok (.iload_n 3, 1) := by decide +kernel
theorem dX11_put_13 : decode cX11_put 13 = .ok (.iastore, 1) := by decide +kernel
theorem dX11_put_14 : decode cX11_put 14 = .ok (.return_, 1) := by decide +kernel
theorem dX11_isItem_0 : decode cX11_isItem 0 = .ok (.iload_n 1, 1) := by decide +kernel
theorem dX11_isItem_1 : decode cX11_isItem 1 = .ok (.i2l, 1) := by decide +kernel
theorem dX11_isItem_2 : decode cX11_isItem 2 = .ok (.lconst 0, 1) := by decide +kernel
theorem dX11_isItem_3 : decode cX11_isItem 3 = .ok (.aload_n 0, 1) := by decide +kernel
theorem dX11_isItem_4 : decode cX11_isItem 4 = .ok (.invokevirtual 83, 3) := by decide +kernel
theorem dX11_isItem_7 : decode cX11_isItem 7 = .ok (.iconst 1, 1) := by decide +kernel
theorem dX11_isItem_8 : decode cX11_isItem 8 = .ok (.isub, 1) := by decide +kernel
theorem dX11_isItem_9 : decode cX11_isItem 9 = .ok (.i2l, 1) := by decide +kernel
theorem dX11_isItem_10 : decode cX11_isItem 10 = .ok (.invokestatic 87, 3) := by decide +kernel
theorem dX11_isItem_13 : decode cX11_isItem 13 = .ok (.ireturn, 1) := by decide +kernel
theorem dX11_allSets_0 : decode cX11_allSets 0 = .ok (.iconst 1, 1) := by decide +kernel
theorem dX11_allSets_1 : decode cX11_allSets 1 = .ok (.aload_n 0, 1) := by decide +kernel
theorem dX11_allSets_2 : decode cX11_allSets 2 = .ok (.invokevirtual 83, 3) := by decide +kernel
theorem dX11_allSets_5 : decode cX11_allSets 5 = .ok (.ishl, 1) := by decide +kernel
theorem dX11_allSets_6 : decode cX11_allSets 6 = .ok (.ireturn, 1) := by decide +kernel
theorem dX11_isSet_0 : decode cX11_isSet 0 = .ok (.iload_n 1, 1) := by decide +kernel
theorem dX11_isSet_1 : decode cX11_isSet 1 = .ok (.i2l, 1) := by decide +kernel
theorem dX11_isSet_2 : decode cX11_isSet 2 = .ok (.lconst 0, 1) := by decide +kernel
theorem dX11_isSet_3 : decode cX11_isSet 3 = .ok (.aload_n 0, 1) := by decide +kernel
theorem dX11_isSet_4 : decode cX11_isSet 4 = .ok (.invokevirtual 91, 3) := by decide +kernel
theorem dX11_isSet_7 : decode cX11_isSet 7 = .ok (.iconst 1, 1) := by decide +kernel
theorem dX11_isSet_8 : decode cX11_isSet 8 = .ok (.isub, 1) := by decide +kernel
theorem dX11_isSet_9 : decode cX11_isSet 9 = .ok (.i2l, 1) := by decide +kernel
theorem dX11_isSet_10 : decode cX11_isSet 10 = .ok (.invokestatic 87, 3) := by decide +kernel
theorem dX11_isSet_13 : decode cX11_isSet 13 = .ok (.ireturn, 1) := by decide +kernel
theorem dX11_sumOf_0 : decode cX11_sumOf 0 = .ok (.iconst 0, 1) := by decide +kernel
theorem dX11_sumOf_1 : decode cX11_sumOf 1 = .ok (.istore_n 3, 1) := by decide +kernel
theorem dX11_sumOf_2 : decode cX11_sumOf 2 = .ok (.iconst 0, 1) := by decide +kernel
theorem dX11_sumOf_3 : decode cX11_sumOf 3 = .ok (.istore 4, 2) := by decide +kernel
theorem dX11_sumOf_5 : decode cX11_sumOf 5 = .ok (.iload 4, 2) := by decide +kernel
theorem dX11_sumOf_7 : decode cX11_sumOf 7 = .ok (.aload_n 0, 1) := by decide +kernel
theorem dX11_sumOf_8 : decode cX11_sumOf 8 = .ok (.invokevirtual 83, 3) := by decide +kernel
theorem dX11_sumOf_11 : decode cX11_sumOf 11 = .ok (.if_icmp .ge 32, 3) := by decide +kernel
theorem dX11_sumOf_14 : decode cX11_sumOf 14 = .ok (.iload_n 3, 1) := by decide +kernel
theorem dX11_sumOf_15 : decode cX11_sumOf 15 = .ok (.iload_n 1, 1) := by decide +kernel
theorem dX11_sumOf_16 : decode cX11_sumOf 16 = .ok (.iload 4, 2) := by decide +kernel
theorem dX11_sumOf_18 : decode cX11_sumOf 18 = .ok (.invokestatic 94, 3) := by decide +kernel
theorem dX11_sumOf_21 : decode cX11_sumOf 21 = .ok (.ifCond .eq 13, 3) := by decide +kernel
theorem dX11_sumOf_24 : decode cX11_sumOf 24 = .ok (.aload_n 0, 1) := by decide +kernel
theorem dX11_sumOf_25 : decode cX11_sumOf 25 = .ok (.iload 4, 2) := by decide +kernel
theorem dX11_sumOf_27 : decode cX11_sumOf 27 = .ok (.iload_n 2, 1) := by decide +kernel
theorem dX11_sumOf_28 : decode cX11_sumOf 28 = .ok (.invokevirtual 98, 3) := by decide +kernel
theorem dX11_sumOf_31 : decode cX11_sumOf 31 = .ok (.goto 4, 3) := by decide +kernel
theorem dX11_sumOf_34 : decode cX11_sumOf 34 = .ok (.iconst 0, 1) := by decide +kernel
theorem dX11_sumOf_35 : decode cX11_sumOf 35 = .ok (.iadd, 1) := by decide +kernel
theorem dX11_sumOf_36 : decode cX11_sumOf 36 = .ok (.istore_n 3, 1) := by decide +kernel
theorem dX11_sumOf_37 : decode cX11_sumOf 37 = .ok (.iinc 4 1, 3) := by decide +kernel
theorem dX11_sumOf_40 : decode cX11_sumOf 40 = .ok (.goto (-35), 3) := by decide +kernel
theorem dX11_sumOf_43 : decode cX11_sumOf 43 = .ok (.iload_n 3, 1) := by decide +kernel
theorem dX11_sumOf_44 : decode cX11_sumOf 44 = .ok (.ireturn, 1) := by decide +kernel
theorem dX11_isBarred_0 : decode cX11_isBarred 0 = .ok (.iconst 0, 1) := by decide +kernel
theorem dX11_isBarred_1 : decode cX11_isBarred 1 = .ok (.istore_n 2, 1) := by decide +kernel
theorem dX11_isBarred_2 : decode cX11_isBarred 2 = .ok (.iload_n 2, 1) := by decide +kernel
theorem dX11_isBarred_3 : decode cX11_isBarred 3 = .ok (.aload_n 0, 1) := by decide +kernel
theorem dX11_isBarred_4 : decode cX11_isBarred 4 = .ok (.invokevirtual 83, 3) := by decide +kernel
theorem dX11_isBarred_7 : decode cX11_isBarred 7 = .ok (.if_icmp .ge 30, 3) := by decide +kernel
theorem dX11_isBarred_10 : decode cX11_isBarred 10 = .ok (.iload_n 1, 1) := by decide +kernel
theorem dX11_isBarred_11 : decode cX11_isBarred 11 = .ok (.iload_n 2, 1) := by decide +kernel
theorem dX11_isBarred_12 : decode cX11_isBarred 12 = .ok (.invokestatic 94, 3) := by decide +kernel
theorem dX11_isBarred_15 : decode cX11_isBarred 15 = .ok (.ifCond .eq 16, 3) := by decide +kernel
theorem dX11_isBarred_18 : decode cX11_isBarred 18 = .ok (.aload_n 0, 1) := by decide +kernel
theorem dX11_isBarred_19 : decode cX11_isBarred 19 = .ok (.iload_n 2, 1) := by decide +kernel
theorem dX11_isBarred_20 : decode cX11_isBarred 20 = .ok (.iconst 3, 1) := by decide +kernel
theorem dX11_isBarred_21 : decode cX11_isBarred 21 = .ok (.invokevirtual 98, 3) := by decide +kernel
theorem dX11_isBarred_24 : decode cX11_isBarred 24 = .ok (.iload_n 1, 1) := by decide +kernel
theorem dX11_isBarred_25 : decode cX11_isBarred 25 = .ok (.iand, 1) := by decide +kernel
theorem dX11_isBarred_26 : decode cX11_isBarred 26 = .ok (.ifCond .eq 5, 3) := by decide +kernel
theorem dX11_isBarred_29 : decode cX11_isBarred 29 = .ok (.iconst 1, 1) := by decide +kernel
theorem dX11_isBarred_30 : decode cX11_isBarred 30 = .ok (.ireturn, 1) := by decide +kernel
theorem dX11_isBarred_31 : decode cX11_isBarred 31 = .ok (.iinc 2 1, 3) := by decide +kernel
theorem dX11_isBarred_34 : decode cX11_isBarred 34 = .ok (.goto (-32), 3) := by decide +kernel
theorem dX11_isBarred_37 : decode cX11_isBarred 37 = .ok (.iconst 0, 1) := by decide +kernel
theorem dX11_isBarred_38 : decode cX11_isBarred 38 = .ok (.ireturn, 1) := by decide +kernel
theorem dX11_doesLack_0 : decode cX11_doesLack 0 = .ok (.iconst 0, 1) := by decide +kernel
theorem dX11_doesLack_1 : decode cX11_doesLack 1 = .ok (.istore_n 2, 1) := by decide +kernel
theorem dX11_doesLack_2 : decode cX11_doesLack 2 = .ok (.iload_n 2, 1) := by decide +kernel
theorem dX11_doesLack_3 : decode cX11_doesLack 3 = .ok (.aload_n 0, 1) := by decide +kernel
theorem dX11_doesLack_4 : decode cX11_doesLack 4 = .ok (.invokevirtual 83, 3) := by decide +kernel
theorem dX11_doesLack_7 : decode cX11_doesLack 7 = .ok (.if_icmp .ge 32, 3) := by decide +kernel
theorem dX11_doesLack_10 : decode cX11_doesLack 10 = .ok (.iload_n 1, 1) := by decide +kernel
theorem dX11_doesLack_11 : decode cX11_doesLack 11 = .ok (.iload_n 2, 1) := by decide +kernel
theorem dX11_doesLack_12 : decode cX11_doesLack 12 = .ok (.invokestatic 94, 3) := by decide +kernel
theorem dX11_doesLack_15 : decode cX11_doesLack 15 = .ok (.ifCond .eq 18, 3) := by decide +kernel
theorem dX11_doesLack_18 : decode cX11_doesLack 18 = .ok (.aload_n 0, 1) := by decide +kernel
theorem dX11_doesLack_19 : decode cX11_doesLack 19 = .ok (.iload_n 2, 1) := by decide +kernel
theorem dX11_doesLack_20 : decode cX11_doesLack 20 = .ok (.iconst 4, 1) := by decide +kernel
theorem dX11_doesLack_21 : decode cX11_doesLack 21 = .ok (.invokevirtual 98, 3) := by decide +kernel
theorem dX11_doesLack_24 : decode cX11_doesLack 24 = .ok (.iload_n 1, 1) := by decide +kernel
theorem dX11_doesLack_25 : decode cX11_doesLack 25 = .ok (.iconst (-1), 1) := by decide +kernel
theorem dX11_doesLack_26 : decode cX11_doesLack 26 = .ok (.ixor, 1) := by decide +kernel
theorem dX11_doesLack_27 : decode cX11_doesLack 27 = .ok (.iand, 1) := by decide +kernel
theorem dX11_doesLack_28 : decode cX11_doesLack 28 = .ok (.ifCond .eq 5, 3) := by decide +kernel
theorem dX11_doesLack_31 : decode cX11_doesLack 31 = .ok (.iconst 1, 1) := by decide +kernel
theorem dX11_doesLack_32 : decode cX11_doesLack 32 = .ok (.ireturn, 1) := by decide +kernel
theorem dX11_doesLack_33 : decode cX11_doesLack 33 = .ok (.iinc 2 1, 3) := by decide +kernel
theorem dX11_doesLack_36 : decode cX11_doesLack 36 = .ok (.goto (-34), 3) := by decide +kernel
theorem dX11_doesLack_39 : decode cX11_doesLack 39 = .ok (.iconst 0, 1) := by decide +kernel
theorem dX11_doesLack_40 : decode cX11_doesLack 40 = .ok (.ireturn, 1) := by decide +kernel
theorem dX11_refusalOf_0 : decode cX11_refusalOf 0 = .ok (.aload_n 0, 1) := by decide +kernel
theorem dX11_refusalOf_1 : decode cX11_refusalOf 1 = .ok (.iload_n 1, 1) := by decide +kernel
theorem dX11_refusalOf_2 : decode cX11_refusalOf 2 = .ok (.iconst 0, 1) := by decide +kernel
theorem dX11_refusalOf_3 : decode cX11_refusalOf 3 = .ok (.invokevirtual 102, 3) := by decide +kernel
theorem dX11_refusalOf_6 : decode cX11_refusalOf 6 = .ok (.aload_n 0, 1) := by decide +kernel
theorem dX11_refusalOf_7 : decode cX11_refusalOf 7 = .ok (.getfield 24, 3) := by decide +kernel
theorem dX11_refusalOf_10 : decode cX11_refusalOf 10 = .ok (.iconst 1, 1) := by decide +kernel
theorem dX11_refusalOf_11 : decode cX11_refusalOf 11 = .ok (.iaload, 1) := by decide +kernel
theorem dX11_refusalOf_12 : decode cX11_refusalOf 12 = .ok (.if_icmp .le 5, 3) := by decide +kernel
theorem dX11_refusalOf_15 : decode cX11_refusalOf 15 = .ok (.iconst 1, 1) := by decide +kernel
theorem dX11_refusalOf_16 : decode cX11_refusalOf 16 = .ok (.ireturn, 1) := by decide +kernel
theorem dX11_refusalOf_17 : decode cX11_refusalOf 17 = .ok (.iload_n 1, 1) := by decide +kernel
theorem dX11_refusalOf_18 : decode cX11_refusalOf 18 = .ok (.invokestatic 105, 3) := by decide +kernel
theorem dX11_refusalOf_21 : decode cX11_refusalOf 21 = .ok (.aload_n 0, 1) := by decide +kernel
theorem dX11_refusalOf_22 : decode cX11_refusalOf 22 = .ok (.getfield 24, 3) := by decide +kernel
theorem dX11_refusalOf_25 : decode cX11_refusalOf 25 = .ok (.iconst 2, 1) := by decide +kernel
theorem dX11_refusalOf_26 : decode cX11_refusalOf 26 = .ok (.iaload, 1) := by decide +kernel
theorem dX11_refusalOf_27 : decode cX11_refusalOf 27 = .ok (.if_icmp .le 5, 3) := by decide +kernel
theorem dX11_refusalOf_30 : decode cX11_refusalOf 30 = .ok (.iconst 2, 1) := by decide +kernel
theorem dX11_refusalOf_31 : decode cX11_refusalOf 31 = .ok (.ireturn, 1) := by decide +kernel
theorem dX11_refusalOf_32 : decode cX11_refusalOf 32 = .ok (.aload_n 0, 1) := by decide +kernel
theorem dX11_refusalOf_33 : decode cX11_refusalOf 33 = .ok (.iload_n 1, 1) := by decide +kernel
theorem dX11_refusalOf_34 : decode cX11_refusalOf 34 = .ok (.invokevirtual 109, 3) := by decide +kernel
theorem dX11_refusalOf_37 : decode cX11_refusalOf 37 = .ok (.ifCond .eq 5, 3) := by decide +kernel
theorem dX11_refusalOf_40 : decode cX11_refusalOf 40 = .ok (.iconst 3, 1) := by decide +kernel
theorem dX11_refusalOf_41 : decode cX11_refusalOf 41 = .ok (.ireturn, 1) := by decide +kernel
theorem dX11_refusalOf_42 : decode cX11_refusalOf 42 = .ok (.aload_n 0, 1) := by decide +kernel
theorem dX11_refusalOf_43 : decode cX11_refusalOf 43 = .ok (.iload_n 1, 1) := by decide +kernel
theorem dX11_refusalOf_44 : decode cX11_refusalOf 44 = .ok (.invokevirtual 113, 3) := by decide +kernel
theorem dX11_refusalOf_47 : decode cX11_refusalOf 47 = .ok (.ifCond .eq 5, 3) := by decide +kernel
theorem dX11_refusalOf_50 : decode cX11_refusalOf 50 = .ok (.iconst 4, 1) := by decide +kernel
theorem dX11_refusalOf_51 : decode cX11_refusalOf 51 = .ok (.ireturn, 1) := by decide +kernel
theorem dX11_refusalOf_52 : decode cX11_refusalOf 52 = .ok (.aload_n 0, 1) := by decide +kernel
theorem dX11_refusalOf_53 : decode cX11_refusalOf 53 = .ok (.getfield 24, 3) := by decide +kernel
theorem dX11_refusalOf_56 : decode cX11_refusalOf 56 = .ok (.iconst 3, 1) := by decide +kernel
theorem dX11_refusalOf_57 : decode cX11_refusalOf 57 = .ok (.iaload, 1) := by decide +kernel
theorem dX11_refusalOf_58 : decode cX11_refusalOf 58 = .ok (.iload_n 1, 1) := by decide +kernel
theorem dX11_refusalOf_59 : decode cX11_refusalOf 59 = .ok (.iconst (-1), 1) := by decide +kernel
theorem dX11_refusalOf_60 : decode cX11_refusalOf 60 = .ok (.ixor, 1) := by decide +kernel
theorem dX11_refusalOf_61 : decode cX11_refusalOf 61 = .ok (.iand, 1) := by decide +kernel
theorem dX11_refusalOf_62 : decode cX11_refusalOf 62 = .ok (.ifCond .eq 5, 3) := by decide +kernel
theorem dX11_refusalOf_65 : decode cX11_refusalOf 65 = .ok (.iconst 5, 1) := by decide +kernel
theorem dX11_refusalOf_66 : decode cX11_refusalOf 66 = .ok (.ireturn, 1) := by decide +kernel
theorem dX11_refusalOf_67 : decode cX11_refusalOf 67 = .ok (.aload_n 0, 1) := by decide +kernel
theorem dX11_refusalOf_68 : decode cX11_refusalOf 68 = .ok (.getfield 24, 3) := by decide +kernel
theorem dX11_refusalOf_71 : decode cX11_refusalOf 71 = .ok (.iconst 4, 1) := by decide +kernel
theorem dX11_refusalOf_72 : decode cX11_refusalOf 72 = .ok (.iaload, 1) := by decide +kernel
theorem dX11_refusalOf_73 : decode cX11_refusalOf 73 = .ok (.iload_n 1, 1) := by decide +kernel
theorem dX11_refusalOf_74 : decode cX11_refusalOf 74 = .ok (.iand, 1) := by decide +kernel
theorem dX11_refusalOf_75 : decode cX11_refusalOf 75 = .ok (.ifCond .eq 8, 3) := by decide +kernel
theorem dX11_refusalOf_78 : decode cX11_refusalOf 78 = .ok (.bipush 6, 2) := by decide +kernel
theorem dX11_refusalOf_80 : decode cX11_refusalOf 80 = .ok (.goto 4, 3) := by decide +kernel
theorem dX11_refusalOf_83 : decode cX11_refusalOf 83 = .ok (.iconst 0, 1) := by decide +kernel
theorem dX11_refusalOf_84 : decode cX11_refusalOf 84 = .ok (.ireturn, 1) := by decide +kernel
theorem dX11_isAllowed_0 : decode cX11_isAllowed 0 = .ok (.aload_n 0, 1) := by decide +kernel
theorem dX11_isAllowed_1 : decode cX11_isAllowed 1 = .ok (.iload_n 1, 1) := by decide +kernel
theorem dX11_isAllowed_2 : decode cX11_isAllowed 2 = .ok (.invokevirtual 116, 3) := by decide +kernel
theorem dX11_isAllowed_5 : decode cX11_isAllowed 5 = .ok (.ifCond .ne 7, 3) := by decide +kernel
theorem dX11_isAllowed_8 : decode cX11_isAllowed 8 = .ok (.iconst 1, 1) := by decide +kernel
theorem dX11_isAllowed_9 : decode cX11_isAllowed 9 = .ok (.goto 4, 3) := by decide +kernel
theorem dX11_isAllowed_12 : decode cX11_isAllowed 12 = .ok (.iconst 0, 1) := by decide +kernel
theorem dX11_isAllowed_13 : decode cX11_isAllowed 13 = .ok (.ireturn, 1) := by decide +kernel
theorem dX11_layJoys_0 : decode cX11_layJoys 0 = .ok (.aload_n 0, 1) := by decide +kernel
theorem dX11_layJoys_1 : decode cX11_layJoys 1 = .ok (.iconst 0, 1) := by decide +kernel
theorem dX11_layJoys_2 : decode cX11_layJoys 2 = .ok (.putfield 119, 3) := by decide +kernel
theorem dX11_layJoys_5 : decode cX11_layJoys 5 = .ok (.iconst 0, 1) := by decide +kernel
theorem dX11_layJoys_6 : decode cX11_layJoys 6 = .ok (.istore_n 1, 1) := by decide +kernel
theorem dX11_layJoys_7 : decode cX11_layJoys 7 = .ok (.iload_n 1, 1) := by decide +kernel
theorem dX11_layJoys_8 : decode cX11_layJoys 8 = .ok (.sipush 1189, 3) := by decide +kernel
theorem dX11_layJoys_11 : decode cX11_layJoys 11 = .ok (.if_icmp .ge 16, 3) := by decide +kernel
theorem dX11_layJoys_14 : decode cX11_layJoys 14 = .ok (.aload_n 0, 1) := by decide +kernel
theorem dX11_layJoys_15 : decode cX11_layJoys 15 = .ok (.getfield 27, 3) := by decide +kernel
theorem dX11_layJoys_18 : decode cX11_layJoys 18 = .ok (.iload_n 1, 1) := by decide +kernel
theorem dX11_layJoys_19 : decode cX11_layJoys 19 = .ok (.iconst (-1), 1) := by decide +kernel
theorem dX11_layJoys_20 : decode cX11_layJoys 20 = .ok (.iastore, 1) := by decide +kernel
theorem dX11_layJoys_21 : decode cX11_layJoys 21 = .ok (.iinc 1 1, 3) := by decide +kernel
theorem dX11_layJoys_24 : decode cX11_layJoys 24 = .ok (.goto (-17), 3) := by decide +kernel
theorem dX11_layJoys_27 : decode cX11_layJoys 27 = .ok (.iconst 0, 1) := by decide +kernel
theorem dX11_layJoys_28 : decode cX11_layJoys 28 = .ok (.istore_n 1, 1) := by decide +kernel
theorem dX11_layJoys_29 : decode cX11_layJoys 29 = .ok (.iload_n 1, 1) := by decide +kernel
theorem dX11_layJoys_30 : decode cX11_layJoys 30 = .ok (.aload_n 0, 1) := by decide +kernel
theorem dX11_layJoys_31 : decode cX11_layJoys 31 = .ok (.invokevirtual 91, 3) := by decide +kernel
theorem dX11_layJoys_34 : decode cX11_layJoys 34 = .ok (.if_icmp .ge 58, 3) := by decide +kernel
theorem dX11_layJoys_37 : decode cX11_layJoys 37 = .ok (.aload_n 0, 1) := by decide +kernel
theorem dX11_layJoys_38 : decode cX11_layJoys 38 = .ok (.iload_n 1, 1) := by decide +kernel
theorem dX11_layJoys_39 : decode cX11_layJoys 39 = .ok (.invokevirtual 122, 3) := by decide +kernel
theorem dX11_layJoys_42 : decode cX11_layJoys 42 = .ok (.ifCond .ne 6, 3) := by decide +kernel
theorem dX11_layJoys_45 : decode cX11_layJoys 45 = .ok (.goto 41, 3) := by decide +kernel
theorem dX11_layJoys_48 : decode cX11_layJoys 48 = .ok (.aload_n 0, 1) := by decide +kernel
theorem dX11_layJoys_49 : decode cX11_layJoys 49 = .ok (.dup, 1) := by decide +kernel
theorem dX11_layJoys_50 : decode cX11_layJoys 50 = .ok (.getfield 119, 3) := by decide +kernel
theorem dX11_layJoys_53 : decode cX11_layJoys 53 = .ok (.iconst 1, 1) := by decide +kernel
theorem dX11_layJoys_54 : decode cX11_layJoys 54 = .ok (.iadd, 1) := by decide +kernel
theorem dX11_layJoys_55 : decode cX11_layJoys 55 = .ok (.putfield 119, 3) := by decide +kernel
theorem dX11_layJoys_58 : decode cX11_layJoys 58 = .ok (.aload_n 0, 1) := by decide +kernel
theorem dX11_layJoys_59 : decode cX11_layJoys 59 = .ok (.iload_n 1, 1) := by decide +kernel
theorem dX11_layJoys_60 : decode cX11_layJoys 60 = .ok (.iconst 1, 1) := by decide +kernel
theorem dX11_layJoys_61 : decode cX11_layJoys 61 = .ok (.invokevirtual 102, 3) := by decide +kernel
theorem dX11_layJoys_64 : decode cX11_layJoys 64 = .ok (.istore_n 2, 1) := by decide +kernel
theorem dX11_layJoys_65 : decode cX11_layJoys 65 = .ok (.aload_n 0, 1) := by decide +kernel
theorem dX11_layJoys_66 : decode cX11_layJoys 66 = .ok (.getfield 27, 3) := by decide +kernel
theorem dX11_layJoys_69 : decode cX11_layJoys 69 = .ok (.iload_n 2, 1) := by decide +kernel
theorem dX11_layJoys_70 : decode cX11_layJoys 70 = .ok (.aload_n 0, 1) := by decide +kernel
theorem dX11_layJoys_71 : decode cX11_layJoys 71 = .ok (.getfield 27, 3) := by decide +kernel
theorem dX11_layJoys_74 : decode cX11_layJoys 74 = .ok (.iload_n 2, 1) := by decide +kernel
theorem dX11_layJoys_75 : decode cX11_layJoys 75 = .ok (.iaload, 1) := by decide +kernel
theorem dX11_layJoys_76 : decode cX11_layJoys 76 = .ok (.aload_n 0, 1) := by decide +kernel
theorem dX11_layJoys_77 : decode cX11_layJoys 77 = .ok (.iload_n 1, 1) := by decide +kernel
theorem dX11_layJoys_78 : decode cX11_layJoys 78 = .ok (.iconst 2, 1) := by decide +kernel
theorem dX11_layJoys_79 : decode cX11_layJoys 79 = .ok (.invokevirtual 102, 3) := by decide +kernel
theorem dX11_layJoys_82 : decode cX11_layJoys 82 = .ok (.invokestatic 125, 3) := by decide +kernel
theorem dX11_layJoys_85 : decode cX11_layJoys 85 = .ok (.iastore, 1) := by decide +kernel
theorem dX11_layJoys_86 : decode cX11_layJoys 86 = .ok (.iinc 1 1, 3) := by decide +kernel
theorem dX11_layJoys_89 : decode cX11_layJoys 89 = .ok (.goto (-60), 3) := by decide +kernel
theorem dX11_layJoys_92 : decode cX11_layJoys 92 = .ok (.return_, 1) := by decide +kernel
theorem dX11_layGains_0 : decode cX11_layGains 0 = .ok (.iconst (-1), 1) := by decide +kernel
theorem dX11_layGains_1 : decode cX11_layGains 1 = .ok (.istore_n 1, 1) := by decide +kernel
theorem dX11_layGains_2 : decode cX11_layGains 2 = .ok (.aload_n 0, 1) := by decide +kernel
theorem dX11_layGains_3 : decode cX11_layGains 3 = .ok (.iconst 0, 1) := by decide +kernel
theorem dX11_layGains_4 : decode cX11_layGains 4 = .ok (.putfield 130, 3) := by decide +kernel
theorem dX11_layGains_7 : decode cX11_layGains 7 = .ok (.sipush 1188, 3) := by decide +kernel
theorem dX11_layGains_10 : decode cX11_layGains 10 = .ok (.istore_n 2, 1) := by decide +kernel
theorem dX11_layGains_11 : decode cX11_layGains 11 = .ok (.iload_n 2, 1) := by decide +kernel
theorem dX11_layGains_12 : decode cX11_layGains 12 = .ok (.ifCond .lt 74, 3) := by decide +kernel
theorem dX11_layGains_15 : decode cX11_layGains 15 = .ok (.aload_n 0, 1) := by decide +kernel
theorem dX11_layGains_16 : decode cX11_layGains 16 = .ok (.getfield 27, 3) := by decide +kernel
theorem dX11_layGains_19 : decode cX11_layGains 19 = .ok (.iload_n 2, 1) := by decide +kernel
theorem dX11_layGains_20 : decode cX11_layGains 20 = .ok (.iaload, 1) := by decide +kernel
theorem dX11_layGains_21 : decode cX11_layGains 21 = .ok (.iload_n 1, 1) := by decide +kernel
theorem dX11_layGains_22 : decode cX11_layGains 22 = .ok (.if_icmp .le 7, 3) := by decide +kernel
theorem dX11_layGains_25 : decode cX11_layGains 25 = .ok (.iconst 1, 1) := by decide +kernel
theorem dX11_layGains_26 : decode cX11_layGains 26 = .ok (.goto 4, 3) := by decide +kernel
theorem dX11_layGains_29 : decode cX11_layGains 29 = .ok (.iconst 0, 1) := by decide +kernel
theorem dX11_layGains_30 : decode cX11_layGains 30 = .ok (.istore_n 3, 1) := by decide +kernel
theorem dX11_layGains_31 : decode cX11_layGains 31 = .ok (.iload_n 1, 1) := by decide +kernel
theorem dX11_layGains_32 : decode cX11_layGains 32 = .ok (.aload_n 0, 1) := by decide +kernel
theorem dX11_layGains_33 : decode cX11_layGains 33 = .ok (.getfield 27, 3) := by decide +kernel
theorem dX11_layGains_36 : decode cX11_layGains 36 = .ok (.iload_n 2, 1) := by decide +kernel
theorem dX11_layGains_37 : decode cX11_layGains 37 = .ok (.iaload, 1) := by decide +kernel
theorem dX11_layGains_38 : decode cX11_layGains 38 = .ok (.invokestatic 125, 3) := by decide +kernel
theorem dX11_layGains_41 : decode cX11_layGains 41 = .ok (.istore_n 1, 1) := by decide +kernel
theorem dX11_layGains_42 : decode cX11_layGains 42 = .ok (.aload_n 0, 1) := by decide +kernel
theorem dX11_layGains_43 : decode cX11_layGains 43 = .ok (.getfield 27, 3) := by decide +kernel
theorem dX11_layGains_46 : decode cX11_layGains 46 = .ok (.iload_n 2, 1) := by decide +kernel
theorem dX11_layGains_47 : decode cX11_layGains 47 = .ok (.iload_n 3, 1) := by decide +kernel
theorem dX11_layGains_48 : decode cX11_layGains 48 = .ok (.ifCond .eq 12, 3) := by decide +kernel
theorem dX11_layGains_51 : decode cX11_layGains 51 = .ok (.aload_n 0, 1) := by decide +kernel
theorem dX11_layGains_52 : decode cX11_layGains 52 = .ok (.getfield 27, 3) := by decide +kernel
theorem dX11_layGains_55 : decode cX11_layGains 55 = .ok (.iload_n 2, 1) := by decide +kernel
theorem dX11_layGains_56 : decode cX11_layGains 56 = .ok (.iaload, 1) := by decide +kernel
theorem dX11_layGains_57 : decode cX11_layGains 57 = .ok (.goto 4, 3) := by decide +kernel
theorem dX11_layGains_60 : decode cX11_layGains 60 = .ok (.iconst (-1), 1) := by decide +kernel
theorem dX11_layGains_61 : decode cX11_layGains 61 = .ok (.iastore, 1) := by decide +kernel
theorem dX11_layGains_62 : decode cX11_layGains 62 = .ok (.aload_n 0, 1) := by decide +kernel
theorem dX11_layGains_63 : decode cX11_layGains 63 = .ok (.dup, 1) := by decide +kernel
theorem dX11_layGains_64 : decode cX11_layGains 64 = .ok (.getfield 130, 3) := by decide +kernel
theorem dX11_layGains_67 : decode cX11_layGains 67 = .ok (.iload_n 3, 1) := by decide +kernel
theorem dX11_layGains_68 : decode cX11_layGains 68 = .ok (.ifCond .eq 7, 3) := by decide +kernel
theorem dX11_layGains_71 : decode cX11_layGains 71 = .ok (.iconst 1, 1) := by decide +kernel
theorem dX11_layGains_72 : decode cX11_layGains 72 = .ok (.goto 4, 3) := by decide +kernel
theorem dX11_layGains_75 : decode cX11_layGains 75 = .ok (.iconst 0, 1) := by decide +kernel
theorem dX11_layGains_76 : decode cX11_layGains 76 = .ok (.iadd, 1) := by decide +kernel
theorem dX11_layGains_77 : decode cX11_layGains 77 = .ok (.putfield 130, 3) := by decide +kernel
theorem dX11_layGains_80 : decode cX11_layGains 80 = .ok (.iinc 2 (-1), 3) := by decide +kernel
theorem dX11_layGains_83 : decode cX11_layGains 83 = .ok (.goto (-72), 3) := by decide +kernel
theorem dX11_layGains_86 : decode cX11_layGains 86 = .ok (.return_, 1) := by decide +kernel
theorem dX11_layPoints_0 : decode cX11_layPoints 0 = .ok (.aload_n 0, 1) := by decide +kernel
theorem dX11_layPoints_1 : decode cX11_layPoints 1 = .ok (.invokevirtual 133, 3) := by decide +kernel
theorem dX11_layPoints_4 : decode cX11_layPoints 4 = .ok (.aload_n 0, 1) := by decide +kernel
theorem dX11_layPoints_5 : decode cX11_layPoints 5 = .ok (.invokevirtual 136, 3) := by decide +kernel
theorem dX11_layPoints_8 : decode cX11_layPoints 8 = .ok (.iconst 0, 1) := by decide +kernel
theorem dX11_layPoints_9 : decode cX11_layPoints 9 = .ok (.istore_n 1, 1) := by decide +kernel
theorem dX11_layPoints_10 : decode cX11_layPoints 10 = .ok (.iconst 0, 1) := by decide +kernel
theorem dX11_layPoints_11 : decode cX11_layPoints 11 = .ok (.istore_n 2, 1) := by decide +kernel
theorem dX11_layPoints_12 : decode cX11_layPoints 12 = .ok (.iload_n 2, 1) := by decide +kernel
theorem dX11_layPoints_13 : decode cX11_layPoints 13 = .ok (.sipush 1189, 3) := by decide +kernel
