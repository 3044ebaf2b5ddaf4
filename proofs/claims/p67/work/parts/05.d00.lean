theorem dX0_init_0 : decode cX0_init 0 = .ok (.aload_n 0, 1) := by decide +kernel
theorem dX0_init_1 : decode cX0_init 1 = .ok (.invokespecial 3, 3) := by decide +kernel
theorem dX0_init_4 : decode cX0_init 4 = .ok (.aload_n 0, 1) := by decide +kernel
theorem dX0_init_5 : decode cX0_init 5 = .ok (.sipush 4096, 3) := by decide +kernel
theorem dX0_init_8 : decode cX0_init 8 = .ok (.newarray .int, 2) := by decide +kernel
theorem dX0_init_10 : decode cX0_init 10 = .ok (.putfield 9, 3) := by decide +kernel
theorem dX0_init_13 : decode cX0_init 13 = .ok (.aload_n 0, 1) := by decide +kernel
theorem dX0_init_14 : decode cX0_init 14 = .ok (.sipush 4096, 3) := by decide +kernel
theorem dX0_init_17 : decode cX0_init 17 = .ok (.newarray .int, 2) := by decide +kernel
theorem dX0_init_19 : decode cX0_init 19 = .ok (.putfield 15, 3) := by decide +kernel
theorem dX0_init_22 : decode cX0_init 22 = .ok (.aload_n 0, 1) := by decide +kernel
theorem dX0_init_23 : decode cX0_init 23 = .ok (.sipush 4096, 3) := by decide +kernel
theorem dX0_init_26 : decode cX0_init 26 = .ok (.newarray .int, 2) := by decide +kernel
theorem dX0_init_28 : decode cX0_init 28 = .ok (.putfield 18, 3) := by decide +kernel
theorem dX0_init_31 : decode cX0_init 31 = .ok (.aload_n 0, 1) := by decide +kernel
theorem dX0_init_32 : decode cX0_init 32 = .ok (.sipush 4096, 3) := by decide +kernel
theorem dX0_init_35 : decode cX0_init 35 = .ok (.newarray .int, 2) := by decide +kernel
theorem dX0_init_37 : decode cX0_init 37 = .ok (.putfield 21, 3) := by decide +kernel
theorem dX0_init_40 : decode cX0_init 40 = .ok (.aload_n 0, 1) := by decide +kernel
theorem dX0_init_41 : decode cX0_init 41 = .ok (.sipush 4096, 3) := by decide +kernel
theorem dX0_init_44 : decode cX0_init 44 = .ok (.newarray .int, 2) := by decide +kernel
theorem dX0_init_46 : decode cX0_init 46 = .ok (.putfield 24, 3) := by decide +kernel
theorem dX0_init_49 : decode cX0_init 49 = .ok (.return_, 1) := by decide +kernel
theorem dX0_build_0 : decode cX0_build 0 = .ok (.aload_n 0, 1) := by decide +kernel
theorem dX0_build_1 : decode cX0_build 1 = .ok (.aload_n 1, 1) := by decide +kernel
theorem dX0_build_2 : decode cX0_build 2 = .ok (.getfield 27, 3) := by decide +kernel
theorem dX0_build_5 : decode cX0_build 5 = .ok (.putfield 33, 3) := by decide +kernel
theorem dX0_build_8 : decode cX0_build 8 = .ok (.aload_n 0, 1) := by decide +kernel
theorem dX0_build_9 : decode cX0_build 9 = .ok (.aload_n 1, 1) := by decide +kernel
theorem dX0_build_10 : decode cX0_build 10 = .ok (.getfield 34, 3) := by decide +kernel
theorem dX0_build_13 : decode cX0_build 13 = .ok (.putfield 37, 3) := by decide +kernel
theorem dX0_build_16 : decode cX0_build 16 = .ok (.aload_n 0, 1) := by decide +kernel
theorem dX0_build_17 : decode cX0_build 17 = .ok (.aload_n 1, 1) := by decide +kernel
theorem dX0_build_18 : decode cX0_build 18 = .ok (.getfield 38, 3) := by decide +kernel
theorem dX0_build_21 : decode cX0_build 21 = .ok (.putfield 41, 3) := by decide +kernel
theorem dX0_build_24 : decode cX0_build 24 = .ok (.aload_n 0, 1) := by decide +kernel
theorem dX0_build_25 : decode cX0_build 25 = .ok (.iconst 1, 1) := by decide +kernel
theorem dX0_build_26 : decode cX0_build 26 = .ok (.putfield 42, 3) := by decide +kernel
theorem dX0_build_29 : decode cX0_build 29 = .ok (.iconst 0, 1) := by decide +kernel
theorem dX0_build_30 : decode cX0_build 30 = .ok (.istore_n 2, 1) := by decide +kernel
theorem dX0_build_31 : decode cX0_build 31 = .ok (.iload_n 2, 1) := by decide +kernel
theorem dX0_build_32 : decode cX0_build 32 = .ok (.aload_n 1, 1) := by decide +kernel
theorem dX0_build_33 : decode cX0_build 33 = .ok (.getfield 45, 3) := by decide +kernel
theorem dX0_build_36 : decode cX0_build 36 = .ok (.if_icmp .ge 156, 3) := by decide +kernel
theorem dX0_build_39 : decode cX0_build 39 = .ok (.iload_n 2, 1) := by decide +kernel
theorem dX0_build_40 : decode cX0_build 40 = .ok (.bipush 12, 2) := by decide +kernel
theorem dX0_build_42 : decode cX0_build 42 = .ok (.if_icmp .ge 150, 3) := by decide +kernel
theorem dX0_build_45 : decode cX0_build 45 = .ok (.iconst 1, 1) := by decide +kernel
theorem dX0_build_46 : decode cX0_build 46 = .ok (.iload_n 2, 1) := by decide +kernel
theorem dX0_build_47 : decode cX0_build 47 = .ok (.ishl, 1) := by decide +kernel
theorem dX0_build_48 : decode cX0_build 48 = .ok (.istore_n 3, 1) := by decide +kernel
theorem dX0_build_49 : decode cX0_build 49 = .ok (.iconst 0, 1) := by decide +kernel
theorem dX0_build_50 : decode cX0_build 50 = .ok (.istore 4, 2) := by decide +kernel
theorem dX0_build_52 : decode cX0_build 52 = .ok (.iload 4, 2) := by decide +kernel
theorem dX0_build_54 : decode cX0_build 54 = .ok (.iload_n 3, 1) := by decide +kernel
theorem dX0_build_55 : decode cX0_build 55 = .ok (.if_icmp .ge 124, 3) := by decide +kernel
theorem dX0_build_58 : decode cX0_build 58 = .ok (.aload_n 0, 1) := by decide +kernel
theorem dX0_build_59 : decode cX0_build 59 = .ok (.getfield 9, 3) := by decide +kernel
theorem dX0_build_62 : decode cX0_build 62 = .ok (.iload_n 3, 1) := by decide +kernel
theorem dX0_build_63 : decode cX0_build 63 = .ok (.iload 4, 2) := by decide +kernel
theorem dX0_build_65 : decode cX0_build 65 = .ok (.iadd, 1) := by decide +kernel
theorem dX0_build_66 : decode cX0_build 66 = .ok (.aload_n 0, 1) := by decide +kernel
theorem dX0_build_67 : decode cX0_build 67 = .ok (.getfield 9, 3) := by decide +kernel
theorem dX0_build_70 : decode cX0_build 70 = .ok (.iload 4, 2) := by decide +kernel
theorem dX0_build_72 : decode cX0_build 72 = .ok (.iaload, 1) := by decide +kernel
theorem dX0_build_73 : decode cX0_build 73 = .ok (.aload_n 1, 1) := by decide +kernel
theorem dX0_build_74 : decode cX0_build 74 = .ok (.getfield 48, 3) := by decide +kernel
theorem dX0_build_77 : decode cX0_build 77 = .ok (.iload_n 2, 1) := by decide +kernel
theorem dX0_build_78 : decode cX0_build 78 = .ok (.iaload, 1) := by decide +kernel
theorem dX0_build_79 : decode cX0_build 79 = .ok (.iadd, 1) := by decide +kernel
theorem dX0_build_80 : decode cX0_build 80 = .ok (.iastore, 1) := by decide +kernel
theorem dX0_build_81 : decode cX0_build 81 = .ok (.aload_n 0, 1) := by decide +kernel
theorem dX0_build_82 : decode cX0_build 82 = .ok (.getfield 15, 3) := by decide +kernel
theorem dX0_build_85 : decode cX0_build 85 = .ok (.iload_n 3, 1) := by decide +kernel
theorem dX0_build_86 : decode cX0_build 86 = .ok (.iload 4, 2) := by decide +kernel
theorem dX0_build_88 : decode cX0_build 88 = .ok (.iadd, 1) := by decide +kernel
theorem dX0_build_89 : decode cX0_build 89 = .ok (.aload_n 0, 1) := by decide +kernel
theorem dX0_build_90 : decode cX0_build 90 = .ok (.getfield 15, 3) := by decide +kernel
theorem dX0_build_93 : decode cX0_build 93 = .ok (.iload 4, 2) := by decide +kernel
theorem dX0_build_95 : decode cX0_build 95 = .ok (.iaload, 1) := by decide +kernel
theorem dX0_build_96 : decode cX0_build 96 = .ok (.aload_n 1, 1) := by decide +kernel
theorem dX0_build_97 : decode cX0_build 97 = .ok (.getfield 49, 3) := by decide +kernel
theorem dX0_build_100 : decode cX0_build 100 = .ok (.iload_n 2, 1) := by decide +kernel
theorem dX0_build_101 : decode cX0_build 101 = .ok (.iaload, 1) := by decide +kernel
theorem dX0_build_102 : decode cX0_build 102 = .ok (.iadd, 1) := by decide +kernel
theorem dX0_build_103 : decode cX0_build 103 = .ok (.iastore, 1) := by decide +kernel
theorem dX0_build_104 : decode cX0_build 104 = .ok (.aload_n 0, 1) := by decide +kernel
theorem dX0_build_105 : decode cX0_build 105 = .ok (.getfield 18, 3) := by decide +kernel
theorem dX0_build_108 : decode cX0_build 108 = .ok (.iload_n 3, 1) := by decide +kernel
theorem dX0_build_109 : decode cX0_build 109 = .ok (.iload 4, 2) := by decide +kernel
theorem dX0_build_111 : decode cX0_build 111 = .ok (.iadd, 1) := by decide +kernel
theorem dX0_build_112 : decode cX0_build 112 = .ok (.aload_n 0, 1) := by decide +kernel
theorem dX0_build_113 : decode cX0_build 113 = .ok (.getfield 18, 3) := by decide +kernel
theorem dX0_build_116 : decode cX0_build 116 = .ok (.iload 4, 2) := by decide +kernel
theorem dX0_build_118 : decode cX0_build 118 = .ok (.iaload, 1) := by decide +kernel
theorem dX0_build_119 : decode cX0_build 119 = .ok (.aload_n 1, 1) := by decide +kernel
theorem dX0_build_120 : decode cX0_build 120 = .ok (.getfield 50, 3) := by decide +kernel
theorem dX0_build_123 : decode cX0_build 123 = .ok (.iload_n 2, 1) := by decide +kernel
theorem dX0_build_124 : decode cX0_build 124 = .ok (.iaload, 1) := by decide +kernel
theorem dX0_build_125 : decode cX0_build 125 = .ok (.iadd, 1) := by decide +kernel
theorem dX0_build_126 : decode cX0_build 126 = .ok (.iastore, 1) := by decide +kernel
theorem dX0_build_127 : decode cX0_build 127 = .ok (.aload_n 0, 1) := by decide +kernel
theorem dX0_build_128 : decode cX0_build 128 = .ok (.getfield 21, 3) := by decide +kernel
theorem dX0_build_131 : decode cX0_build 131 = .ok (.iload_n 3, 1) := by decide +kernel
theorem dX0_build_132 : decode cX0_build 132 = .ok (.iload 4, 2) := by decide +kernel
theorem dX0_build_134 : decode cX0_build 134 = .ok (.iadd, 1) := by decide +kernel
theorem dX0_build_135 : decode cX0_build 135 = .ok (.aload_n 0, 1) := by decide +kernel
theorem dX0_build_136 : decode cX0_build 136 = .ok (.getfield 21, 3) := by decide +kernel
theorem dX0_build_139 : decode cX0_build 139 = .ok (.iload 4, 2) := by decide +kernel
theorem dX0_build_141 : decode cX0_build 141 = .ok (.iaload, 1) := by decide +kernel
theorem dX0_build_142 : decode cX0_build 142 = .ok (.aload_n 1, 1) := by decide +kernel
theorem dX0_build_143 : decode cX0_build 143 = .ok (.getfield 51, 3) := by decide +kernel
theorem dX0_build_146 : decode cX0_build 146 = .ok (.iload_n 2, 1) := by decide +kernel
theorem dX0_build_147 : decode cX0_build 147 = .ok (.iaload, 1) := by decide +kernel
theorem dX0_build_148 : decode cX0_build 148 = .ok (.ior, 1) := by decide +kernel
theorem dX0_build_149 : decode cX0_build 149 = .ok (.iastore, 1) := by decide +kernel
theorem dX0_build_150 : decode cX0_build 150 = .ok (.aload_n 0, 1) := by decide +kernel
theorem dX0_build_151 : decode cX0_build 151 = .ok (.getfield 24, 3) := by decide +kernel
theorem dX0_build_154 : decode cX0_build 154 = .ok (.iload_n 3, 1) := by decide +kernel
theorem dX0_build_155 : decode cX0_build 155 = .ok (.iload 4, 2) := by decide +kernel
theorem dX0_build_157 : decode cX0_build 157 = .ok (.iadd, 1) := by decide +kernel
theorem dX0_build_158 : decode cX0_build 158 = .ok (.aload_n 0, 1) := by decide +kernel
theorem dX0_build_159 : decode cX0_build 159 = .ok (.getfield 24, 3) := by decide +kernel
theorem dX0_build_162 : decode cX0_build 162 = .ok (.iload 4, 2) := by decide +kernel
theorem dX0_build_164 : decode cX0_build 164 = .ok (.iaload, 1) := by decide +kernel
theorem dX0_build_165 : decode cX0_build 165 = .ok (.aload_n 1, 1) := by decide +kernel
theorem dX0_build_166 : decode cX0_build 166 = .ok (.getfield 54, 3) := by decide +kernel
theorem dX0_build_169 : decode cX0_build 169 = .ok (.iload_n 2, 1) := by decide +kernel
theorem dX0_build_170 : decode cX0_build 170 = .ok (.iaload, 1) := by decide +kernel
theorem dX0_build_171 : decode cX0_build 171 = .ok (.ior, 1) := by decide +kernel
theorem dX0_build_172 : decode cX0_build 172 = .ok (.iastore, 1) := by decide +kernel
theorem dX0_build_173 : decode cX0_build 173 = .ok (.iinc 4 1, 3) := by decide +kernel
theorem dX0_build_176 : decode cX0_build 176 = .ok (.goto (-124), 3) := by decide +kernel
theorem dX0_build_179 : decode cX0_build 179 = .ok (.aload_n 0, 1) := by decide +kernel
theorem dX0_build_180 : decode cX0_build 180 = .ok (.iconst 2, 1) := by decide +kernel
theorem dX0_build_181 : decode cX0_build 181 = .ok (.iload_n 3, 1) := by decide +kernel
theorem dX0_build_182 : decode cX0_build 182 = .ok (.imul, 1) := by decide +kernel
theorem dX0_build_183 : decode cX0_build 183 = .ok (.putfield 42, 3) := by decide +kernel
theorem dX0_build_186 : decode cX0_build 186 = .ok (.iinc 2 1, 3) := by decide +kernel
theorem dX0_build_189 : decode cX0_build 189 = .ok (.goto (-158), 3) := by decide +kernel
theorem dX0_build_192 : decode cX0_build 192 = .ok (.return_, 1) := by decide +kernel
theorem dX0_reason_0 : decode cX0_reason 0 = .ok (.aload_n 0, 1) := by decide +kernel
theorem dX0_reason_1 : decode cX0_reason 1 = .ok (.getfield 9, 3) := by decide +kernel
theorem dX0_reason_4 : decode cX0_reason 4 = .ok (.iload_n 1, 1) := by decide +kernel
theorem dX0_reason_5 : decode cX0_reason 5 = .ok (.iaload, 1) := by decide +kernel
theorem dX0_reason_6 : decode cX0_reason 6 = .ok (.iload_n 2, 1) := by decide +kernel
theorem dX0_reason_7 : decode cX0_reason 7 = .ok (.if_icmp .le 7, 3) := by decide +kernel
theorem dX0_reason_10 : decode cX0_reason 10 = .ok (.iconst 1, 1) := by decide +kernel
theorem dX0_reason_11 : decode cX0_reason 11 = .ok (.goto 8, 3) := by decide +kernel
theorem dX0_reason_14 : decode cX0_reason 14 = .ok (.aload_n 0, 1) := by decide +kernel
theorem dX0_reason_15 : decode cX0_reason 15 = .ok (.iload_n 1, 1) := by decide +kernel
theorem dX0_reason_16 : decode cX0_reason 16 = .ok (.invokevirtual 57, 3) := by decide +kernel
theorem dX0_reason_19 : decode cX0_reason 19 = .ok (.ireturn, 1) := by decide +kernel
theorem dX0_reasonBesideWeight_0 : decode cX0_reasonBesideWeight 0 = .ok (.iload_n 1, 1) := by decide +kernel
theorem dX0_reasonBesideWeight_1 : decode cX0_reasonBesideWeight 1 = .ok (.invokestatic 61, 3) := by decide +kernel
theorem dX0_reasonBesideWeight_4 : decode cX0_reasonBesideWeight 4 = .ok (.aload_n 0, 1) := by decide +kernel
theorem dX0_reasonBesideWeight_5 : decode cX0_reasonBesideWeight 5 = .ok (.getfield 33, 3) := by decide +kernel
theorem dX0_reasonBesideWeight_8 : decode cX0_reasonBesideWeight 8 = .ok (.if_icmp .le 5, 3) := by decide +kernel
theorem dX0_reasonBesideWeight_11 : decode cX0_reasonBesideWeight 11 = .ok (.iconst 2, 1) := by decide +kernel
theorem dX0_reasonBesideWeight_12 : decode cX0_reasonBesideWeight 12 = .ok (.ireturn, 1) := by decide +kernel
theorem dX0_reasonBesideWeight_13 : decode cX0_reasonBesideWeight 13 = .ok (.aload_n 0, 1) := by decide +kernel
theorem dX0_reasonBesideWeight_14 : decode cX0_reasonBesideWeight 14 = .ok (.getfield 21, 3) := by decide +kernel
theorem dX0_reasonBesideWeight_17 : decode cX0_reasonBesideWeight 17 = .ok (.iload_n 1, 1) := by decide +kernel
theorem dX0_reasonBesideWeight_18 : decode cX0_reasonBesideWeight 18 = .ok (.iaload, 1) := by decide +kernel
theorem dX0_reasonBesideWeight_19 : decode cX0_reasonBesideWeight 19 = .ok (.iload_n 1, 1) := by decide +kernel
theorem dX0_reasonBesideWeight_20 : decode cX0_reasonBesideWeight 20 = .ok (.iand, 1) := by decide +kernel
theorem dX0_reasonBesideWeight_21 : decode cX0_reasonBesideWeight 21 = .ok (.ifCond .eq 5, 3) := by decide +kernel
theorem dX0_reasonBesideWeight_24 : decode cX0_reasonBesideWeight 24 = .ok (.iconst 3, 1) := by decide +kernel
theorem dX0_reasonBesideWeight_25 : decode cX0_reasonBesideWeight 25 = .ok (.ireturn, 1) := by decide +kernel
theorem dX0_reasonBesideWeight_26 : decode cX0_reasonBesideWeight 26 = .ok (.aload_n 0, 1) := by decide +kernel
theorem dX0_reasonBesideWeight_27 : decode cX0_reasonBesideWeight 27 = .ok (.getfield 24, 3) := by decide +kernel
theorem dX0_reasonBesideWeight_30 : decode cX0_reasonBesideWeight 30 = .ok (.iload_n 1, 1) := by decide +kernel
theorem dX0_reasonBesideWeight_31 : decode cX0_reasonBesideWeight 31 = .ok (.iaload, 1) := by decide +kernel
theorem dX0_reasonBesideWeight_32 : decode cX0_reasonBesideWeight 32 = .ok (.iload_n 1, 1) := by decide +kernel
theorem dX0_reasonBesideWeight_33 : decode cX0_reasonBesideWeight 33 = .ok (.iconst (-1), 1) := by decide +kernel
theorem dX0_reasonBesideWeight_34 : decode cX0_reasonBesideWeight 34 = .ok (.ixor, 1) := by decide +kernel
theorem dX0_reasonBesideWeight_35 : decode cX0_reasonBesideWeight 35 = .ok (.iand, 1) := by decide +kernel
theorem dX0_reasonBesideWeight_36 : decode cX0_reasonBesideWeight 36 = .ok (.ifCond .eq 5, 3) := by decide +kernel
theorem dX0_reasonBesideWeight_39 : decode cX0_reasonBesideWeight 39 = .ok (.iconst 4, 1) := by decide +kernel
theorem dX0_reasonBesideWeight_40 : decode cX0_reasonBesideWeight 40 = .ok (.ireturn, 1) := by decide +kernel
theorem dX0_reasonBesideWeight_41 : decode cX0_reasonBesideWeight 41 = .ok (.aload_n 0, 1) := by decide +kernel
theorem dX0_reasonBesideWeight_42 : decode cX0_reasonBesideWeight 42 = .ok (.getfield 37, 3) := by decide +kernel
theorem dX0_reasonBesideWeight_45 : decode cX0_reasonBesideWeight 45 = .ok (.iload_n 1, 1) := by decide +kernel
theorem dX0_reasonBesideWeight_46 : decode cX0_reasonBesideWeight 46 = .ok (.iconst (-1), 1) := by decide +kernel
theorem dX0_reasonBesideWeight_47 : decode cX0_reasonBesideWeight 47 = .ok (.ixor, 1) := by decide +kernel
theorem dX0_reasonBesideWeight_48 : decode cX0_reasonBesideWeight 48 = .ok (.iand, 1) := by decide +kernel
theorem dX0_reasonBesideWeight_49 : decode cX0_reasonBesideWeight 49 = .ok (.ifCond .eq 5, 3) := by decide +kernel
theorem dX0_reasonBesideWeight_52 : decode cX0_reasonBesideWeight 52 = .ok (.iconst 5, 1) := by decide +kernel
theorem dX0_reasonBesideWeight_53 : decode cX0_reasonBesideWeight 53 = .ok (.ireturn, 1) := by decide +kernel
theorem dX0_reasonBesideWeight_54 : decode cX0_reasonBesideWeight 54 = .ok (.aload_n 0, 1) := by decide +kernel
theorem dX0_reasonBesideWeight_55 : decode cX0_reasonBesideWeight 55 = .ok (.getfield 41, 3) := by decide +kernel
theorem dX0_reasonBesideWeight_58 : decode cX0_reasonBesideWeight 58 = .ok (.iload_n 1, 1) := by decide +kernel
theorem dX0_reasonBesideWeight_59 : decode cX0_reasonBesideWeight 59 = .ok (.iand, 1) := by decide +kernel
theorem dX0_reasonBesideWeight_60 : decode cX0_reasonBesideWeight 60 = .ok (.ifCond .eq 8, 3) := by decide +kernel
theorem dX0_reasonBesideWeight_63 : decode cX0_reasonBesideWeight 63 = .ok (.bipush 6, 2) := by decide +kernel
theorem dX0_reasonBesideWeight_65 : decode cX0_reasonBesideWeight 65 = .ok (.goto 4, 3) := by decide +kernel
theorem dX0_reasonBesideWeight_68 : decode cX0_reasonBesideWeight 68 = .ok (.iconst 0, 1) := by decide +kernel
theorem dX0_reasonBesideWeight_69 : decode cX0_reasonBesideWeight 69 = .ok (.ireturn, 1) := by decide +kernel
theorem dX1_init_0 : decode cX1_init 0 = .ok (.aload_n 0, 1) := by decide +kernel
theorem dX1_init_1 : decode cX1_init 1 = .ok (.invokespecial 3, 3) := by decide +kernel
theorem dX1_init_4 : decode cX1_init 4 = .ok (.return_, 1) := by decide +kernel
theorem dX2_init_0 : decode cX2_init 0 = .ok (.aload_n 0, 1) := by decide +kernel
theorem dX2_init_1 : decode cX2_init 1 = .ok (.invokespecial 3, 3) := by decide +kernel
theorem dX2_init_4 : decode cX2_init 4 = .ok (.aload_n 0, 1) := by decide +kernel
theorem dX2_init_5 : decode cX2_init 5 = .ok (.sipush 1189, 3) := by decide +kernel
theorem dX2_init_8 : decode cX2_init 8 = .ok (.newarray .int, 2) := by decide +kernel
theorem dX2_init_10 : decode cX2_init 10 = .ok (.putfield 9, 3) := by decide +kernel
theorem dX2_init_13 : decode cX2_init 13 = .ok (.aload_n 0, 1) := by decide +kernel
theorem dX2_init_14 : decode cX2_init 14 = .ok (.sipush 1189, 3) := by decide +kernel
theorem dX2_init_17 : decode cX2_init 17 = .ok (.newarray .int, 2) := by decide +kernel
theorem dX2_init_19 : decode cX2_init 19 = .ok (.putfield 15, 3) := by decide +kernel
theorem dX2_init_22 : decode cX2_init 22 = .ok (.aload_n 0, 1) := by decide +kernel
theorem dX2_init_23 : decode cX2_init 23 = .ok (.sipush 1189, 3) := by decide +kernel
theorem dX2_init_26 : decode cX2_init 26 = .ok (.newarray .int, 2) := by decide +kernel
theorem dX2_init_28 : decode cX2_init 28 = .ok (.putfield 18, 3) := by decide +kernel
theorem dX2_init_31 : decode cX2_init 31 = .ok (.aload_n 0, 1) := by decide +kernel
theorem dX2_init_32 : decode cX2_init 32 = .ok (.sipush 1189, 3) := by decide +kernel
theorem dX2_init_35 : decode cX2_init 35 = .ok (.newarray .int, 2) := by decide +kernel
theorem dX2_init_37 : decode cX2_init 37 = .ok (.putfield 21, 3) := by decide +kernel
theorem dX2_init_40 : decode cX2_init 40 = .ok (.aload_n 0, 1) := by decide +kernel
theorem dX2_init_41 : decode cX2_init 41 = .ok (.sipush 1189, 3) := by decide +kernel
theorem dX2_init_44 : decode cX2_init 44 = .ok (.newarray .int, 2) := by decide +kernel
theorem dX2_init_46 : decode cX2_init 46 = .ok (.putfield 24, 3) := by decide +kernel
theorem dX2_init_49 : decode cX2_init 49 = .ok (.aload_n 0, 1) := by decide +kernel
theorem dX2_init_50 : decode cX2_init 50 = .ok (.sipush 1189, 3) := by decide +kernel
theorem dX2_init_53 : decode cX2_init 53 = .ok (.newarray .int, 2) := by decide +kernel
theorem dX2_init_55 : decode cX2_init 55 = .ok (.putfield 27, 3) := by decide +kernel
theorem dX2_init_58 : decode cX2_init 58 = .ok (.aload_n 0, 1) := by decide +kernel
theorem dX2_init_59 : decode cX2_init 59 = .ok (.sipush 1189, 3) := by decide +kernel
theorem dX2_init_62 : decode cX2_init 62 = .ok (.newarray .int, 2) := by decide +kernel
theorem dX2_init_64 : decode cX2_init 64 = .ok (.putfield 30, 3) := by decide +kernel
theorem dX2_init_67 : decode cX2_init 67 = .ok (.aload_n 0, 1) := by decide +kernel
theorem dX2_init_68 : decode cX2_init 68 = .ok (.sipush 1189, 3) := by decide +kernel
theorem dX2_init_71 : decode cX2_init 71 = .ok (.newarray .int, 2) := by decide +kernel
theorem dX2_init_73 : decode cX2_init 73 = .ok (.putfield 33, 3) := by decide +kernel
theorem dX2_init_76 : decode cX2_init 76 = .ok (.aload_n 0, 1) := by decide +kernel
theorem dX2_init_77 : decode cX2_init 77 = .ok (.sipush 1189, 3) := by decide +kernel
theorem dX2_init_80 : decode cX2_init 80 = .ok (.newarray .boolean, 2) := by decide +kernel
theorem dX2_init_82 : decode cX2_init 82 = .ok (.putfield 36, 3) := by decide +kernel
theorem dX2_init_85 : decode cX2_init 85 = .ok (.return_, 1) := by decide +kernel
theorem dX2_build_0 : decode cX2_build 0 = .ok (.aload_n 0, 1) := by decide +kernel
theorem dX2_build_1 : decode cX2_build 1 = .ok (.aload_n 3, 1) := by decide +kernel
theorem dX2_build_2 : decode cX2_build 2 = .ok (.getfield 40, 3) := by decide +kernel
theorem dX2_build_5 : decode cX2_build 5 = .ok (.putfield 46, 3) := by decide +kernel
theorem dX2_build_8 : decode cX2_build 8 = .ok (.aload_n 0, 1) := by decide +kernel
theorem dX2_build_9 : decode cX2_build 9 = .ok (.aload_n 3, 1) := by decide +kernel
theorem dX2_build_10 : decode cX2_build 10 = .ok (.invokevirtual 47, 3) := by decide +kernel
theorem dX2_build_13 : decode cX2_build 13 = .ok (.putfield 51, 3) := by decide +kernel
theorem dX2_build_16 : decode cX2_build 16 = .ok (.aload_n 0, 1) := by decide +kernel
theorem dX2_build_17 : decode cX2_build 17 = .ok (.aload_n 3, 1) := by decide +kernel
theorem dX2_build_18 : decode cX2_build 18 = .ok (.invokevirtual 53, 3) := by decide +kernel
theorem dX2_build_21 : decode cX2_build 21 = .ok (.aload_n 0, 1) := by decide +kernel
theorem dX2_build_22 : decode cX2_build 22 = .ok (.aload_n 1, 1) := by decide +kernel
theorem dX2_build_23 : decode cX2_build 23 = .ok (.iload_n 2, 1) := by decide +kernel
theorem dX2_build_24 : decode cX2_build 24 = .ok (.invokevirtual 57, 3) := by decide +kernel
theorem dX2_build_27 : decode cX2_build 27 = .ok (.aload_n 0, 1) := by decide +kernel
theorem dX2_build_28 : decode cX2_build 28 = .ok (.invokevirtual 61, 3) := by decide +kernel
theorem dX2_build_31 : decode cX2_build 31 = .ok (.aload_n 0, 1) := by decide +kernel
theorem dX2_build_32 : decode cX2_build 32 = .ok (.invokevirtual 64, 3) := by decide +kernel
theorem dX2_build_35 : decode cX2_build 35 = .ok (.return_, 1) := by decide +kernel
theorem dX2_readPoints_0 : decode cX2_readPoints 0 = .ok (.aload_n 0, 1) := by decide +kernel
theorem dX2_readPoints_1 : decode cX2_readPoints 1 = .ok (.iconst 0, 1) := by decide +kernel
theorem dX2_readPoints_2 : decode cX2_readPoints 2 = .ok (.putfield 67, 3) := by decide +kernel
theorem dX2_readPoints_5 : decode cX2_readPoints 5 = .ok (.iconst 0, 1) := by decide +kernel
theorem dX2_readPoints_6 : decode cX2_readPoints 6 = .ok (.istore_n 2, 1) := by decide +kernel
theorem dX2_readPoints_7 : decode cX2_readPoints 7 = .ok (.iload_n 2, 1) := by decide +kernel
theorem dX2_readPoints_8 : decode cX2_readPoints 8 = .ok (.sipush 1189, 3) := by decide +kernel
theorem dX2_readPoints_11 : decode cX2_readPoints 11 = .ok (.if_icmp .ge 111, 3) := by decide +kernel
theorem dX2_readPoints_14 : decode cX2_readPoints 14 = .ok (.aload_n 0, 1) := by decide +kernel
theorem dX2_readPoints_15 : decode cX2_readPoints 15 = .ok (.getfield 33, 3) := by decide +kernel
theorem dX2_readPoints_18 : decode cX2_readPoints 18 = .ok (.iload_n 2, 1) := by decide +kernel
theorem dX2_readPoints_19 : decode cX2_readPoints 19 = .ok (.iconst (-1), 1) := by decide +kernel
theorem dX2_readPoints_20 : decode cX2_readPoints 20 = .ok (.iastore, 1) := by decide +kernel
theorem dX2_readPoints_21 : decode cX2_readPoints 21 = .ok (.aload_n 1, 1) := by decide +kernel
theorem dX2_readPoints_22 : decode cX2_readPoints 22 = .ok (.getfield 70, 3) := by decide +kernel
theorem dX2_readPoints_25 : decode cX2_readPoints 25 = .ok (.iload_n 2, 1) := by decide +kernel
theorem dX2_readPoints_26 : decode cX2_readPoints 26 = .ok (.iaload, 1) := by decide +kernel
theorem dX2_readPoints_27 : decode cX2_readPoints 27 = .ok (.iconst (-1), 1) := by decide +kernel
theorem dX2_readPoints_28 : decode cX2_readPoints 28 = .ok (.if_icmp .eq 88, 3) := by decide +kernel
theorem dX2_readPoints_31 : decode cX2_readPoints 31 = .ok (.aload_n 0, 1) := by decide +kernel
theorem dX2_readPoints_32 : decode cX2_readPoints 32 = .ok (.getfield 9, 3) := by decide +kernel
theorem dX2_readPoints_35 : decode cX2_readPoints 35 = .ok (.aload_n 0, 1) := by decide +kernel
theorem dX2_readPoints_36 : decode cX2_readPoints 36 = .ok (.getfield 67, 3) := by decide +kernel
theorem dX2_readPoints_39 : decode cX2_readPoints 39 = .ok (.iload_n 2, 1) := by decide +kernel
theorem dX2_readPoints_40 : decode cX2_readPoints 40 = .ok (.iastore, 1) := by decide +kernel
theorem dX2_readPoints_41 : decode cX2_readPoints 41 = .ok (.aload_n 0, 1) := by decide +kernel
theorem dX2_readPoints_42 : decode cX2_readPoints 42 = .ok (.getfield 15, 3) := by decide +kernel
theorem dX2_readPoints_45 : decode cX2_readPoints 45 = .ok (.aload_n 0, 1) := by decide +kernel
theorem dX2_readPoints_46 : decode cX2_readPoints 46 = .ok (.getfield 67, 3) := by decide +kernel
theorem dX2_readPoints_49 : decode cX2_readPoints 49 = .ok (.aload_n 1, 1) := by decide +kernel
theorem dX2_readPoints_50 : decode cX2_readPoints 50 = .ok (.getfield 70, 3) := by decide +kernel
theorem dX2_readPoints_53 : decode cX2_readPoints 53 = .ok (.iload_n 2, 1) := by decide +kernel
theorem dX2_readPoints_54 : decode cX2_readPoints 54 = .ok (.iaload, 1) := by decide +kernel
theorem dX2_readPoints_55 : decode cX2_readPoints 55 = .ok (.iastore, 1) := by decide +kernel
theorem dX2_readPoints_56 : decode cX2_readPoints 56 = .ok (.aload_n 0, 1) := by decide +kernel
theorem dX2_readPoints_57 : decode cX2_readPoints 57 = .ok (.getfield 18, 3) := by decide +kernel
theorem dX2_readPoints_60 : decode cX2_readPoints 60 = .ok (.aload_n 0, 1) := by decide +kernel
theorem dX2_readPoints_61 : decode cX2_readPoints 61 = .ok (.getfield 67, 3) := by decide +kernel
theorem dX2_readPoints_64 : decode cX2_readPoints 64 = .ok (.iconst 0, 1) := by decide +kernel
theorem dX2_readPoints_65 : decode cX2_readPoints 65 = .ok (.iastore, 1) := by decide +kernel
theorem dX2_readPoints_66 : decode cX2_readPoints 66 = .ok (.aload_n 0, 1) := by decide +kernel
theorem dX2_readPoints_67 : decode cX2_readPoints 67 = .ok (.getfield 21, 3) := by decide +kernel
theorem dX2_readPoints_70 : decode cX2_readPoints 70 = .ok (.aload_n 0, 1) := by decide +kernel
theorem dX2_readPoints_71 : decode cX2_readPoints 71 = .ok (.getfield 67, 3) := by decide +kernel
theorem dX2_readPoints_74 : decode cX2_readPoints 74 = .ok (.iconst 0, 1) := by decide +kernel
theorem dX2_readPoints_75 : decode cX2_readPoints 75 = .ok (.iastore, 1) := by decide +kernel
theorem dX2_readPoints_76 : decode cX2_readPoints 76 = .ok (.aload_n 0, 1) := by decide +kernel
theorem dX2_readPoints_77 : decode cX2_readPoints 77 = .ok (.getfield 24, 3) := by decide +kernel
theorem dX2_readPoints_80 : decode cX2_readPoints 80 = .ok (.aload_n 0, 1) := by decide +kernel
theorem dX2_readPoints_81 : decode cX2_readPoints 81 = .ok (.getfield 67, 3) := by decide +kernel
theorem dX2_readPoints_84 : decode cX2_readPoints 84 = .ok (.iconst 0, 1) := by decide +kernel
theorem dX2_readPoints_85 : decode cX2_readPoints 85 = .ok (.iastore, 1) := by decide +kernel
theorem dX2_readPoints_86 : decode cX2_readPoints 86 = .ok (.aload_n 0, 1) := by decide +kernel
theorem dX2_readPoints_87 : decode cX2_readPoints 87 = .ok (.getfield 27, 3) := by decide +kernel
theorem dX2_readPoints_90 : decode cX2_readPoints 90 = .ok (.aload_n 0, 1) := by decide +kernel
theorem dX2_readPoints_91 : decode cX2_readPoints 91 = .ok (.getfield 67, 3) := by decide +kernel
theorem dX2_readPoints_94 : decode cX2_readPoints 94 = .ok (.iconst 0, 1) := by decide +kernel
theorem dX2_readPoints_95 : decode cX2_readPoints 95 = .ok (.iastore, 1) := by decide +kernel
theorem dX2_readPoints_96 : decode cX2_readPoints 96 = .ok (.aload_n 0, 1) := by decide +kernel
theorem dX2_readPoints_97 : decode cX2_readPoints 97 = .ok (.getfield 33, 3) := by decide +kernel
theorem dX2_readPoints_100 : decode cX2_readPoints 100 = .ok (.iload_n 2, 1) := by decide +kernel
theorem dX2_readPoints_101 : decode cX2_readPoints 101 = .ok (.aload_n 0, 1) := by decide +kernel
theorem dX2_readPoints_102 : decode cX2_readPoints 102 = .ok (.getfield 67, 3) := by decide +kernel
theorem dX2_readPoints_105 : decode cX2_readPoints 105 = .ok (.iastore, 1) := by decide +kernel
theorem dX2_readPoints_106 : decode cX2_readPoints 106 = .ok (.aload_n 0, 1) := by decide +kernel
theorem dX2_readPoints_107 : decode cX2_readPoints 107 = .ok (.dup, 1) := by decide +kernel
theorem dX2_readPoints_108 : decode cX2_readPoints 108 = .ok (.getfield 67, 3) := by decide +kernel
theorem dX2_readPoints_111 : decode cX2_readPoints 111 = .ok (.iconst 1, 1) := by decide +kernel
theorem dX2_readPoints_112 : decode cX2_readPoints 112 = .ok (.iadd, 1) := by decide +kernel
theorem dX2_readPoints_113 : decode cX2_readPoints 113 = .ok (.putfield 67, 3) := by decide +kernel
theorem dX2_readPoints_116 : decode cX2_readPoints 116 = .ok (.iinc 2 1, 3) := by decide +kernel
theorem dX2_readPoints_119 : decode cX2_readPoints 119 = .ok (.goto (-112), 3) := by decide +kernel
theorem dX2_readPoints_122 : decode cX2_readPoints 122 = .ok (.return_, 1) := by decide +kernel
theorem dX2_readChoices_0 : decode cX2_readChoices 0 = .ok (.iconst 0, 1) := by decide +kernel
theorem dX2_readChoices_1 : decode cX2_readChoices 1 = .ok (.istore_n 3, 1) := by decide +kernel
theorem dX2_readChoices_2 : decode cX2_readChoices 2 = .ok (.iload_n 3, 1) := by decide +kernel
theorem dX2_readChoices_3 : decode cX2_readChoices 3 = .ok (.aload_n 1, 1) := by decide +kernel
theorem dX2_readChoices_4 : decode cX2_readChoices 4 = .ok (.getfield 73, 3) := by decide +kernel
theorem dX2_readChoices_7 : decode cX2_readChoices 7 = .ok (.if_icmp .ge 118, 3) := by decide +kernel
theorem dX2_readChoices_10 : decode cX2_readChoices 10 = .ok (.iload_n 3, 1) := by decide +kernel
theorem dX2_readChoices_11 : decode cX2_readChoices 11 = .ok (.sipush 4096, 3) := by decide +kernel
theorem dX2_readChoices_14 : decode cX2_readChoices 14 = .ok (.if_icmp .ge 111, 3) := by decide +kernel
theorem dX2_readChoices_17 : decode cX2_readChoices 17 = .ok (.aload_n 0, 1) := by decide +kernel
theorem dX2_readChoices_18 : decode cX2_readChoices 18 = .ok (.aload_n 1, 1) := by decide +kernel
theorem dX2_readChoices_19 : decode cX2_readChoices 19 = .ok (.getfield 78, 3) := by decide +kernel
theorem dX2_readChoices_22 : decode cX2_readChoices 22 = .ok (.iload_n 3, 1) := by decide +kernel
theorem dX2_readChoices_23 : decode cX2_readChoices 23 = .ok (.iaload, 1) := by decide +kernel
theorem dX2_readChoices_24 : decode cX2_readChoices 24 = .ok (.aload_n 1, 1) := by decide +kernel
theorem dX2_readChoices_25 : decode cX2_readChoices 25 = .ok (.getfield 79, 3) := by decide +kernel
theorem dX2_readChoices_28 : decode cX2_readChoices 28 = .ok (.iload_n 3, 1) := by decide +kernel
theorem dX2_readChoices_29 : decode cX2_readChoices 29 = .ok (.iaload, 1) := by decide +kernel
theorem dX2_readChoices_30 : decode cX2_readChoices 30 = .ok (.invokevirtual 80, 3) := by decide +kernel
theorem dX2_readChoices_33 : decode cX2_readChoices 33 = .ok (.istore 4, 2) := by decide +kernel
theorem dX2_readChoices_35 : decode cX2_readChoices 35 = .ok (.iload 4, 2) := by decide +kernel
theorem dX2_readChoices_37 : decode cX2_readChoices 37 = .ok (.iconst (-1), 1) := by decide +kernel
theorem dX2_readChoices_38 : decode cX2_readChoices 38 = .ok (.if_icmp .eq 81, 3) := by decide +kernel
theorem dX2_readChoices_41 : decode cX2_readChoices 41 = .ok (.aload_n 1, 1) := by decide +kernel
theorem dX2_readChoices_42 : decode cX2_readChoices 42 = .ok (.iload_n 3, 1) := by decide +kernel
theorem dX2_readChoices_43 : decode cX2_readChoices 43 = .ok (.iload_n 2, 1) := by decide +kernel
theorem dX2_readChoices_44 : decode cX2_readChoices 44 = .ok (.invokevirtual 84, 3) := by decide +kernel
theorem dX2_readChoices_47 : decode cX2_readChoices 47 = .ok (.ifCond .ne 72, 3) := by decide +kernel
theorem dX2_readChoices_50 : decode cX2_readChoices 50 = .ok (.aload_n 0, 1) := by decide +kernel
theorem dX2_readChoices_51 : decode cX2_readChoices 51 = .ok (.getfield 21, 3) := by decide +kernel
theorem dX2_readChoices_54 : decode cX2_readChoices 54 = .ok (.iload 4, 2) := by decide +kernel
theorem dX2_readChoices_56 : decode cX2_readChoices 56 = .ok (.iaload, 1) := by decide +kernel
theorem dX2_readChoices_57 : decode cX2_readChoices 57 = .ok (.ifCond .ne 22, 3) := by decide +kernel
theorem dX2_readChoices_60 : decode cX2_readChoices 60 = .ok (.aload_n 0, 1) := by decide +kernel
theorem dX2_readChoices_61 : decode cX2_readChoices 61 = .ok (.getfield 18, 3) := by decide +kernel
theorem dX2_readChoices_64 : decode cX2_readChoices 64 = .ok (.iload 4, 2) := by decide +kernel
theorem dX2_readChoices_66 : decode cX2_readChoices 66 = .ok (.iload_n 3, 1) := by decide +kernel
theorem dX2_readChoices_67 : decode cX2_readChoices 67 = .ok (.iastore, 1) := by decide +kernel
theorem dX2_readChoices_68 : decode cX2_readChoices 68 = .ok (.aload_n 0, 1) := by decide +kernel
theorem dX2_readChoices_69 : decode cX2_readChoices 69 = .ok (.getfield 24, 3) := by decide +kernel
theorem dX2_readChoices_72 : decode cX2_readChoices 72 = .ok (.iload 4, 2) := by decide +kernel
theorem dX2_readChoices_74 : decode cX2_readChoices 74 = .ok (.iload_n 3, 1) := by decide +kernel
theorem dX2_readChoices_75 : decode cX2_readChoices 75 = .ok (.iastore, 1) := by decide +kernel
theorem dX2_readChoices_76 : decode cX2_readChoices 76 = .ok (.goto 32, 3) := by decide +kernel
theorem dX2_readChoices_79 : decode cX2_readChoices 79 = .ok (.aload_n 1, 1) := by decide +kernel
theorem dX2_readChoices_80 : decode cX2_readChoices 80 = .ok (.getfield 87, 3) := by decide +kernel
theorem dX2_readChoices_83 : decode cX2_readChoices 83 = .ok (.iload_n 3, 1) := by decide +kernel
theorem dX2_readChoices_84 : decode cX2_readChoices 84 = .ok (.iaload, 1) := by decide +kernel
theorem dX2_readChoices_85 : decode cX2_readChoices 85 = .ok (.aload_n 1, 1) := by decide +kernel
theorem dX2_readChoices_86 : decode cX2_readChoices 86 = .ok (.getfield 87, 3) := by decide +kernel
theorem dX2_readChoices_89 : decode cX2_readChoices 89 = .ok (.aload_n 0, 1) := by decide +kernel
theorem dX2_readChoices_90 : decode cX2_readChoices 90 = .ok (.getfield 24, 3) := by decide +kernel
theorem dX2_readChoices_93 : decode cX2_readChoices 93 = .ok (.iload 4, 2) := by decide +kernel
theorem dX2_readChoices_95 : decode cX2_readChoices 95 = .ok (.iaload, 1) := by decide +kernel
theorem dX2_readChoices_96 : decode cX2_readChoices 96 = .ok (.iaload, 1) := by decide +kernel
theorem dX2_readChoices_97 : decode cX2_readChoices 97 = .ok (.if_icmp .ge 11, 3) := by decide +kernel
theorem dX2_readChoices_100 : decode cX2_readChoices 100 = .ok (.aload_n 0, 1) := by decide +kernel
theorem dX2_readChoices_101 : decode cX2_readChoices 101 = .ok (.getfield 24, 3) := by decide +kernel
theorem dX2_readChoices_104 : decode cX2_readChoices 104 = .ok (.iload 4, 2) := by decide +kernel
theorem dX2_readChoices_106 : decode cX2_readChoices 106 = .ok (.iload_n 3, 1) := by decide +kernel
theorem dX2_readChoices_107 : decode cX2_readChoices 107 = .ok (.iastore, 1) := by decide +kernel
theorem dX2_readChoices_108 : decode cX2_readChoices 108 = .ok (.aload_n 0, 1) := by decide +kernel
theorem dX2_readChoices_109 : decode cX2_readChoices 109 = .ok (.getfield 21, 3) := by decide +kernel
theorem dX2_readChoices_112 : decode cX2_readChoices 112 = .ok (.iload 4, 2) := by decide +kernel
theorem dX2_readChoices_114 : decode cX2_readChoices 114 = .ok (.dup2, 1) := by decide +kernel
theorem dX2_readChoices_115 : decode cX2_readChoices 115 = .ok (.iaload, 1) := by decide +kernel
theorem dX2_readChoices_116 : decode cX2_readChoices 116 = .ok (.iconst 1, 1) := by decide +kernel
theorem dX2_readChoices_117 : decode cX2_readChoices 117 = .ok (.iadd, 1) := by decide +kernel
theorem dX2_readChoices_118 : decode cX2_readChoices 118 = .ok (.iastore, 1) := by decide +kernel
theorem dX2_readChoices_119 : decode cX2_readChoices 119 = .ok (.iinc 3 1, 3) := by decide +kernel
theorem dX2_readChoices_122 : decode cX2_readChoices 122 = .ok (.goto (-120), 3) := by decide +kernel
theorem dX2_readChoices_125 : decode cX2_readChoices 125 = .ok (.return_, 1) := by decide +kernel
theorem dX2_findVertices_0 : decode cX2_findVertices 0 = .ok (.aload_n 0, 1) := by decide +kernel
theorem dX2_findVertices_1 : decode cX2_findVertices 1 = .ok (.iconst 0, 1) := by decide +kernel
theorem dX2_findVertices_2 : decode cX2_findVertices 2 = .ok (.putfield 90, 3) := by decide +kernel
theorem dX2_findVertices_5 : decode cX2_findVertices 5 = .ok (.iconst 0, 1) := by decide +kernel
theorem dX2_findVertices_6 : decode cX2_findVertices 6 = .ok (.istore_n 1, 1) := by decide +kernel
theorem dX2_findVertices_7 : decode cX2_findVertices 7 = .ok (.iload_n 1, 1) := by decide +kernel
theorem dX2_findVertices_8 : decode cX2_findVertices 8 = .ok (.aload_n 0, 1) := by decide +kernel
theorem dX2_findVertices_9 : decode cX2_findVertices 9 = .ok (.getfield 67, 3) := by decide +kernel
theorem dX2_findVertices_12 : decode cX2_findVertices 12 = .ok (.if_icmp .ge 80, 3) := by decide +kernel
theorem dX2_findVertices_15 : decode cX2_findVertices 15 = .ok (.aload_n 0, 1) := by decide +kernel
theorem dX2_findVertices_16 : decode cX2_findVertices 16 = .ok (.getfield 90, 3) := by decide +kernel
theorem dX2_findVertices_19 : decode cX2_findVertices 19 = .ok (.iconst 2, 1) := by decide +kernel
theorem dX2_findVertices_20 : decode cX2_findVertices 20 = .ok (.if_icmp .lt 46, 3) := by decide +kernel
theorem dX2_findVertices_23 : decode cX2_findVertices 23 = .ok (.aload_n 0, 1) := by decide +kernel
theorem dX2_findVertices_24 : decode cX2_findVertices 24 = .ok (.aload_n 0, 1) := by decide +kernel
theorem dX2_findVertices_25 : decode cX2_findVertices 25 = .ok (.getfield 30, 3) := by decide +kernel
theorem dX2_findVertices_28 : decode cX2_findVertices 28 = .ok (.aload_n 0, 1) := by decide +kernel
theorem dX2_findVertices_29 : decode cX2_findVertices 29 = .ok (.getfield 90, 3) := by decide +kernel
theorem dX2_findVertices_32 : decode cX2_findVertices 32 = .ok (.iconst 2, 1) := by decide +kernel
theorem dX2_findVertices_33 : decode cX2_findVertices 33 = .ok (.isub, 1) := by decide +kernel
theorem dX2_findVertices_34 : decode cX2_findVertices 34 = .ok (.iaload, 1) := by decide +kernel
theorem dX2_findVertices_35 : decode cX2_findVertices 35 = .ok (.iload_n 1, 1) := by decide +kernel
theorem dX2_findVertices_36 : decode cX2_findVertices 36 = .ok (.aload_n 0, 1) := by decide +kernel
theorem dX2_findVertices_37 : decode cX2_findVertices 37 = .ok (.getfield 30, 3) := by decide +kernel
theorem dX2_findVertices_40 : decode cX2_findVertices 40 = .ok (.aload_n 0, 1) := by decide +kernel
theorem dX2_findVertices_41 : decode cX2_findVertices 41 = .ok (.getfield 90, 3) := by decide +kernel
theorem dX2_findVertices_44 : decode cX2_findVertices 44 = .ok (.iconst 1, 1) := by decide +kernel
theorem dX2_findVertices_45 : decode cX2_findVertices 45 = .ok (.isub, 1) := by decide +kernel
theorem dX2_findVertices_46 : decode cX2_findVertices 46 = .ok (.iaload, 1) := by decide +kernel
theorem dX2_findVertices_47 : decode cX2_findVertices 47 = .ok (.invokevirtual 93, 3) := by decide +kernel
theorem dX2_findVertices_50 : decode cX2_findVertices 50 = .ok (.ifCond .gt 16, 3) := by decide +kernel
theorem dX2_findVertices_53 : decode cX2_findVertices 53 = .ok (.aload_n 0, 1) := by decide +kernel
theorem dX2_findVertices_54 : decode cX2_findVertices 54 = .ok (.dup, 1) := by decide +kernel
theorem dX2_findVertices_55 : decode cX2_findVertices 55 = .ok (.getfield 90, 3) := by decide +kernel
theorem dX2_findVertices_58 : decode cX2_findVertices 58 = .ok (.iconst 1, 1) := by decide +kernel
theorem dX2_findVertices_59 : decode cX2_findVertices 59 = .ok (.isub, 1) := by decide +kernel
theorem dX2_findVertices_60 : decode cX2_findVertices 60 = .ok (.putfield 90, 3) := by decide +kernel
theorem dX2_findVertices_63 : decode cX2_findVertices 63 = .ok (.goto (-48), 3) := by decide +kernel
theorem dX2_findVertices_66 : decode cX2_findVertices 66 = .ok (.aload_n 0, 1) := by decide +kernel
theorem dX2_findVertices_67 : decode cX2_findVertices 67 = .ok (.getfield 30, 3) := by decide +kernel
theorem dX2_findVertices_70 : decode cX2_findVertices 70 = .ok (.aload_n 0, 1) := by decide +kernel
theorem dX2_findVertices_71 : decode cX2_findVertices 71 = .ok (.getfield 90, 3) := by decide +kernel
theorem dX2_findVertices_74 : decode cX2_findVertices 74 = .ok (.iload_n 1, 1) := by decide +kernel
theorem dX2_findVertices_75 : decode cX2_findVertices 75 = .ok (.iastore, 1) := by decide +kernel
theorem dX2_findVertices_76 : decode cX2_findVertices 76 = .ok (.aload_n 0, 1) := by decide +kernel
theorem dX2_findVertices_77 : decode cX2_findVertices 77 = .ok (.dup, 1) := by decide +kernel
theorem dX2_findVertices_78 : decode cX2_findVertices 78 = .ok (.getfield 90, 3) := by decide +kernel
theorem dX2_findVertices_81 : decode cX2_findVertices 81 = .ok (.iconst 1, 1) := by decide +kernel
theorem dX2_findVertices_82 : decode cX2_findVertices 82 = .ok (.iadd, 1) := by decide +kernel
theorem dX2_findVertices_83 : decode cX2_findVertices 83 = .ok (.putfield 90, 3) := by decide +kernel
theorem dX2_findVertices_86 : decode cX2_findVertices 86 = .ok (.iinc 1 1, 3) := by decide +kernel
theorem dX2_findVertices_89 : decode cX2_findVertices 89 = .ok (.goto (-82), 3) := by decide +kernel
theorem dX2_findVertices_92 : decode cX2_findVertices 92 = .ok (.return_, 1) := by decide +kernel
theorem dX2_heightOver_0 : decode cX2_heightOver 0 = .ok (.aload_n 0, 1) := by decide +kernel
theorem dX2_heightOver_1 : decode cX2_heightOver 1 = .ok (.iload_n 1, 1) := by decide +kernel
theorem dX2_heightOver_2 : decode cX2_heightOver 2 = .ok (.iload_n 3, 1) := by decide +kernel
theorem dX2_heightOver_3 : decode cX2_heightOver 3 = .ok (.invokevirtual 97, 3) := by decide +kernel
theorem dX2_heightOver_6 : decode cX2_heightOver 6 = .ok (.aload_n 0, 1) := by decide +kernel
theorem dX2_heightOver_7 : decode cX2_heightOver 7 = .ok (.iload_n 1, 1) := by decide +kernel
theorem dX2_heightOver_8 : decode cX2_heightOver 8 = .ok (.iload_n 2, 1) := by decide +kernel
theorem dX2_heightOver_9 : decode cX2_heightOver 9 = .ok (.invokevirtual 100, 3) := by decide +kernel
theorem dX2_heightOver_12 : decode cX2_heightOver 12 = .ok (.imul, 1) := by decide +kernel
theorem dX2_heightOver_13 : decode cX2_heightOver 13 = .ok (.aload_n 0, 1) := by decide +kernel
theorem dX2_heightOver_14 : decode cX2_heightOver 14 = .ok (.iload_n 1, 1) := by decide +kernel
theorem dX2_heightOver_15 : decode cX2_heightOver 15 = .ok (.iload_n 3, 1) := by decide +kernel
theorem dX2_heightOver_16 : decode cX2_heightOver 16 = .ok (.invokevirtual 100, 3) := by decide +kernel
theorem dX2_heightOver_19 : decode cX2_heightOver 19 = .ok (.aload_n 0, 1) := by decide +kernel
theorem dX2_heightOver_20 : decode cX2_heightOver 20 = .ok (.iload_n 1, 1) := by decide +kernel
theorem dX2_heightOver_21 : decode cX2_heightOver 21 = .ok (.iload_n 2, 1) := by decide +kernel
theorem dX2_heightOver_22 : decode cX2_heightOver 22 = .ok (.invokevirtual 97, 3) := by decide +kernel
theorem dX2_heightOver_25 : decode cX2_heightOver 25 = .ok (.imul, 1) := by decide +kernel
theorem dX2_heightOver_26 : decode cX2_heightOver 26 = .ok (.isub, 1) := by decide +kernel
theorem dX2_heightOver_27 : decode cX2_heightOver 27 = .ok (.ireturn, 1) := by decide +kernel
theorem dX2_markSupported_0 : decode cX2_markSupported 0 = .ok (.iconst 0, 1) := by decide +kernel
theorem dX2_markSupported_1 : decode cX2_markSupported 1 = .ok (.istore_n 1, 1) := by decide +kernel
theorem dX2_markSupported_2 : decode cX2_markSupported 2 = .ok (.iload_n 1, 1) := by decide +kernel
theorem dX2_markSupported_3 : decode cX2_markSupported 3 = .ok (.aload_n 0, 1) := by decide +kernel
theorem dX2_markSupported_4 : decode cX2_markSupported 4 = .ok (.getfield 90, 3) := by decide +kernel
theorem dX2_markSupported_7 : decode cX2_markSupported 7 = .ok (.if_icmp .ge 21, 3) := by decide +kernel
theorem dX2_markSupported_10 : decode cX2_markSupported 10 = .ok (.aload_n 0, 1) := by decide +kernel
theorem dX2_markSupported_11 : decode cX2_markSupported 11 = .ok (.getfield 27, 3) := by decide +kernel
theorem dX2_markSupported_14 : decode cX2_markSupported 14 = .ok (.aload_n 0, 1) := by decide +kernel
theorem dX2_markSupported_15 : decode cX2_markSupported 15 = .ok (.getfield 30, 3) := by decide +kernel
theorem dX2_markSupported_18 : decode cX2_markSupported 18 = .ok (.iload_n 1, 1) := by decide +kernel
theorem dX2_markSupported_19 : decode cX2_markSupported 19 = .ok (.iaload, 1) := by decide +kernel
theorem dX2_markSupported_20 : decode cX2_markSupported 20 = .ok (.iconst 2, 1) := by decide +kernel
theorem dX2_markSupported_21 : decode cX2_markSupported 21 = .ok (.iastore, 1) := by decide +kernel
theorem dX2_markSupported_22 : decode cX2_markSupported 22 = .ok (.iinc 1 1, 3) := by decide +kernel
theorem dX2_markSupported_25 : decode cX2_markSupported 25 = .ok (.goto (-23), 3) := by decide +kernel
theorem dX2_markSupported_28 : decode cX2_markSupported 28 = .ok (.iconst 0, 1) := by decide +kernel
theorem dX2_markSupported_29 : decode cX2_markSupported 29 = .ok (.istore_n 1, 1) := by decide +kernel
theorem dX2_markSupported_30 : decode cX2_markSupported 30 = .ok (.iload_n 1, 1) := by decide +kernel
theorem dX2_markSupported_31 : decode cX2_markSupported 31 = .ok (.iconst 1, 1) := by decide +kernel
theorem dX2_markSupported_32 : decode cX2_markSupported 32 = .ok (.iadd, 1) := by decide +kernel
theorem dX2_markSupported_33 : decode cX2_markSupported 33 = .ok (.aload_n 0, 1) := by decide +kernel
theorem dX2_markSupported_34 : decode cX2_markSupported 34 = .ok (.getfield 90, 3) := by decide +kernel
theorem dX2_markSupported_37 : decode cX2_markSupported 37 = .ok (.if_icmp .ge 65, 3) := by decide +kernel
theorem dX2_markSupported_40 : decode cX2_markSupported 40 = .ok (.aload_n 0, 1) := by decide +kernel
theorem dX2_markSupported_41 : decode cX2_markSupported 41 = .ok (.getfield 30, 3) := by decide +kernel
theorem dX2_markSupported_44 : decode cX2_markSupported 44 = .ok (.iload_n 1, 1) := by decide +kernel
theorem dX2_markSupported_45 : decode cX2_markSupported 45 = .ok (.iaload, 1) := by decide +kernel
theorem dX2_markSupported_46 : decode cX2_markSupported 46 = .ok (.istore_n 2, 1) := by decide +kernel
theorem dX2_markSupported_47 : decode cX2_markSupported 47 = .ok (.aload_n 0, 1) := by decide +kernel
theorem dX2_markSupported_48 : decode cX2_markSupported 48 = .ok (.getfield 30, 3) := by decide +kernel
theorem dX2_markSupported_51 : decode cX2_markSupported 51 = .ok (.iload_n 1, 1) := by decide +kernel
theorem dX2_markSupported_52 : decode cX2_markSupported 52 = .ok (.iconst 1, 1) := by decide +kernel
theorem dX2_markSupported_53 : decode cX2_markSupported 53 = .ok (.iadd, 1) := by decide +kernel
theorem dX2_markSupported_54 : decode cX2_markSupported 54 = .ok (.iaload, 1) := by decide +kernel
theorem dX2_markSupported_55 : decode cX2_markSupported 55 = .ok (.istore_n 3, 1) := by decide +kernel
theorem dX2_markSupported_56 : decode cX2_markSupported 56 = .ok (.iload_n 2, 1) := by decide +kernel
theorem dX2_markSupported_57 : decode cX2_markSupported 57 = .ok (.iconst 1, 1) := by decide +kernel
theorem dX2_markSupported_58 : decode cX2_markSupported 58 = .ok (.iadd, 1) := by decide +kernel
theorem dX2_markSupported_59 : decode cX2_markSupported 59 = .ok (.istore 4, 2) := by decide +kernel
theorem dX2_markSupported_61 : decode cX2_markSupported 61 = .ok (.iload 4, 2) := by decide +kernel
theorem dX2_markSupported_63 : decode cX2_markSupported 63 = .ok (.iload_n 3, 1) := by decide +kernel
theorem dX2_markSupported_64 : decode cX2_markSupported 64 = .ok (.if_icmp .ge 32, 3) := by decide +kernel
theorem dX2_markSupported_67 : decode cX2_markSupported 67 = .ok (.aload_n 0, 1) := by decide +kernel
theorem dX2_markSupported_68 : decode cX2_markSupported 68 = .ok (.getfield 27, 3) := by decide +kernel
theorem dX2_markSupported_71 : decode cX2_markSupported 71 = .ok (.iload 4, 2) := by decide +kernel
theorem dX2_markSupported_73 : decode cX2_markSupported 73 = .ok (.aload_n 0, 1) := by decide +kernel
theorem dX2_markSupported_74 : decode cX2_markSupported 74 = .ok (.iload_n 2, 1) := by decide +kernel
theorem dX2_markSupported_75 : decode cX2_markSupported 75 = .ok (.iload_n 3, 1) := by decide +kernel
theorem dX2_markSupported_76 : decode cX2_markSupported 76 = .ok (.iload 4, 2) := by decide +kernel
theorem dX2_markSupported_78 : decode cX2_markSupported 78 = .ok (.invokevirtual 93, 3) := by decide +kernel
theorem dX2_markSupported_81 : decode cX2_markSupported 81 = .ok (.ifCond .ne 7, 3) := by decide +kernel
theorem dX2_markSupported_84 : decode cX2_markSupported 84 = .ok (.iconst 1, 1) := by decide +kernel
theorem dX2_markSupported_85 : decode cX2_markSupported 85 = .ok (.goto 4, 3) := by decide +kernel
theorem dX2_markSupported_88 : decode cX2_markSupported 88 = .ok (.iconst 0, 1) := by decide +kernel
theorem dX2_markSupported_89 : decode cX2_markSupported 89 = .ok (.iastore, 1) := by decide +kernel
theorem dX2_markSupported_90 : decode cX2_markSupported 90 = .ok (.iinc 4 1, 3) := by decide +kernel
theorem dX2_markSupported_93 : decode cX2_markSupported 93 = .ok (.goto (-32), 3) := by decide +kernel
theorem dX2_markSupported_96 : decode cX2_markSupported 96 = .ok (.iinc 1 1, 3) := by decide +kernel
theorem dX2_markSupported_99 : decode cX2_markSupported 99 = .ok (.goto (-69), 3) := by decide +kernel
theorem dX2_markSupported_102 : decode cX2_markSupported 102 = .ok (.return_, 1) := by decide +kernel
theorem dX2_gainWon_0 : decode cX2_gainWon 0 = .ok (.aload_n 0, 1) := by decide +kernel
theorem dX2_gainWon_1 : decode cX2_gainWon 1 = .ok (.getfield 9, 3) := by decide +kernel
theorem dX2_gainWon_4 : decode cX2_gainWon 4 = .ok (.iload_n 2, 1) := by decide +kernel
theorem dX2_gainWon_5 : decode cX2_gainWon 5 = .ok (.iaload, 1) := by decide +kernel
theorem dX2_gainWon_6 : decode cX2_gainWon 6 = .ok (.aload_n 0, 1) := by decide +kernel
theorem dX2_gainWon_7 : decode cX2_gainWon 7 = .ok (.getfield 9, 3) := by decide +kernel
theorem dX2_gainWon_10 : decode cX2_gainWon 10 = .ok (.iload_n 1, 1) := by decide +kernel
theorem dX2_gainWon_11 : decode cX2_gainWon 11 = .ok (.iaload, 1) := by decide +kernel
theorem dX2_gainWon_12 : decode cX2_gainWon 12 = .ok (.isub, 1) := by decide +kernel
theorem dX2_gainWon_13 : decode cX2_gainWon 13 = .ok (.ireturn, 1) := by decide +kernel
theorem dX2_joyLost_0 : decode cX2_joyLost 0 = .ok (.aload_n 0, 1) := by decide +kernel
theorem dX2_joyLost_1 : decode cX2_joyLost 1 = .ok (.getfield 15, 3) := by decide +kernel
theorem dX2_joyLost_4 : decode cX2_joyLost 4 = .ok (.iload_n 1, 1) := by decide +kernel
theorem dX2_joyLost_5 : decode cX2_joyLost 5 = .ok (.iaload, 1) := by decide +kernel
theorem dX2_joyLost_6 : decode cX2_joyLost 6 = .ok (.aload_n 0, 1) := by decide +kernel
theorem dX2_joyLost_7 : decode cX2_joyLost 7 = .ok (.getfield 15, 3) := by decide +kernel
theorem dX2_joyLost_10 : decode cX2_joyLost 10 = .ok (.iload_n 2, 1) := by decide +kernel
theorem dX2_joyLost_11 : decode cX2_joyLost 11 = .ok (.iaload, 1) := by decide +kernel
theorem dX2_joyLost_12 : decode cX2_joyLost 12 = .ok (.isub, 1) := by decide +kernel
theorem dX2_joyLost_13 : decode cX2_joyLost 13 = .ok (.ireturn, 1) := by decide +kernel
theorem dX2_pointWithPair_0 : decode cX2_pointWithPair 0 = .ok (.iload_n 1, 1) := by decide +kernel
theorem dX2_pointWithPair_1 : decode cX2_pointWithPair 1 = .ok (.ifCond .lt 10, 3) := by decide +kernel
theorem dX2_pointWithPair_4 : decode cX2_pointWithPair 4 = .ok (.iload_n 1, 1) := by decide +kernel
theorem dX2_pointWithPair_5 : decode cX2_pointWithPair 5 = .ok (.sipush 1189, 3) := by decide +kernel
theorem dX2_pointWithPair_8 : decode cX2_pointWithPair 8 = .ok (.if_icmp .lt 5, 3) := by decide +kernel
theorem dX2_pointWithPair_11 : decode cX2_pointWithPair 11 = .ok (.iconst (-1), 1) := by decide +kernel
theorem dX2_pointWithPair_12 : decode cX2_pointWithPair 12 = .ok (.ireturn, 1) := by decide +kernel
theorem dX2_pointWithPair_13 : decode cX2_pointWithPair 13 = .ok (.aload_n 0, 1) := by decide +kernel
theorem dX2_pointWithPair_14 : decode cX2_pointWithPair 14 = .ok (.getfield 33, 3) := by decide +kernel
theorem dX2_pointWithPair_17 : decode cX2_pointWithPair 17 = .ok (.iload_n 1, 1) := by decide +kernel
theorem dX2_pointWithPair_18 : decode cX2_pointWithPair 18 = .ok (.iaload, 1) := by decide +kernel
theorem dX2_pointWithPair_19 : decode cX2_pointWithPair 19 = .ok (.istore_n 3, 1) := by decide +kernel
theorem dX2_pointWithPair_20 : decode cX2_pointWithPair 20 = .ok (.iload_n 3, 1) := by decide +kernel
theorem dX2_pointWithPair_21 : decode cX2_pointWithPair 21 = .ok (.iconst (-1), 1) := by decide +kernel
theorem dX2_pointWithPair_22 : decode cX2_pointWithPair 22 = .ok (.if_icmp .eq 17, 3) := by decide +kernel
theorem dX2_pointWithPair_25 : decode cX2_pointWithPair 25 = .ok (.aload_n 0, 1) := by decide +kernel
theorem dX2_pointWithPair_26 : decode cX2_pointWithPair 26 = .ok (.getfield 15, 3) := by decide +kernel
theorem dX2_pointWithPair_29 : decode cX2_pointWithPair 29 = .ok (.iload_n 3, 1) := by decide +kernel
theorem dX2_pointWithPair_30 : decode cX2_pointWithPair 30 = .ok (.iaload, 1) := by decide +kernel
theorem dX2_pointWithPair_31 : decode cX2_pointWithPair 31 = .ok (.iload_n 2, 1) := by decide +kernel
theorem dX2_pointWithPair_32 : decode cX2_pointWithPair 32 = .ok (.if_icmp .ne 7, 3) := by decide +kernel
theorem dX2_pointWithPair_35 : decode cX2_pointWithPair 35 = .ok (.iload_n 3, 1) := by decide +kernel
theorem dX2_pointWithPair_36 : decode cX2_pointWithPair 36 = .ok (.goto 4, 3) := by decide +kernel
theorem dX2_pointWithPair_39 : decode cX2_pointWithPair 39 = .ok (.iconst (-1), 1) := by decide +kernel
theorem dX2_pointWithPair_40 : decode cX2_pointWithPair 40 = .ok (.ireturn, 1) := by decide +kernel
theorem dX2_beats_0 : decode cX2_beats 0 = .ok (.aload_n 0, 1) := by decide +kernel
theorem dX2_beats_1 : decode cX2_beats 1 = .ok (.getfield 9, 3) := by decide +kernel
theorem dX2_beats_4 : decode cX2_beats 4 = .ok (.iload_n 1, 1) := by decide +kernel
theorem dX2_beats_5 : decode cX2_beats 5 = .ok (.iaload, 1) := by decide +kernel
theorem dX2_beats_6 : decode cX2_beats 6 = .ok (.iload_n 2, 1) := by decide +kernel
theorem dX2_beats_7 : decode cX2_beats 7 = .ok (.if_icmp .lt 37, 3) := by decide +kernel
theorem dX2_beats_10 : decode cX2_beats 10 = .ok (.aload_n 0, 1) := by decide +kernel
theorem dX2_beats_11 : decode cX2_beats 11 = .ok (.getfield 15, 3) := by decide +kernel
theorem dX2_beats_14 : decode cX2_beats 14 = .ok (.iload_n 1, 1) := by decide +kernel
theorem dX2_beats_15 : decode cX2_beats 15 = .ok (.iaload, 1) := by decide +kernel
theorem dX2_beats_16 : decode cX2_beats 16 = .ok (.iload_n 3, 1) := by decide +kernel
theorem dX2_beats_17 : decode cX2_beats 17 = .ok (.if_icmp .lt 27, 3) := by decide +kernel
theorem dX2_beats_20 : decode cX2_beats 20 = .ok (.aload_n 0, 1) := by decide +kernel
theorem dX2_beats_21 : decode cX2_beats 21 = .ok (.getfield 9, 3) := by decide +kernel
theorem dX2_beats_24 : decode cX2_beats 24 = .ok (.iload_n 1, 1) := by decide +kernel
theorem dX2_beats_25 : decode cX2_beats 25 = .ok (.iaload, 1) := by decide +kernel
theorem dX2_beats_26 : decode cX2_beats 26 = .ok (.iload_n 2, 1) := by decide +kernel
theorem dX2_beats_27 : decode cX2_beats 27 = .ok (.if_icmp .gt 13, 3) := by decide +kernel
theorem dX2_beats_30 : decode cX2_beats 30 = .ok (.aload_n 0, 1) := by decide +kernel
theorem dX2_beats_31 : decode cX2_beats 31 = .ok (.getfield 15, 3) := by decide +kernel
theorem dX2_beats_34 : decode cX2_beats 34 = .ok (.iload_n 1, 1) := by decide +kernel
theorem dX2_beats_35 : decode cX2_beats 35 = .ok (.iaload, 1) := by decide +kernel
theorem dX2_beats_36 : decode cX2_beats 36 = .ok (.iload_n 3, 1) := by decide +kernel
theorem dX2_beats_37 : decode cX2_beats 37 = .ok (.if_icmp .le 7, 3) := by decide +kernel
theorem dX2_beats_40 : decode cX2_beats 40 = .ok (.iconst 1, 1) := by decide +kernel
theorem dX2_beats_41 : decode cX2_beats 41 = .ok (.goto 4, 3) := by decide +kernel
theorem dX2_beats_44 : decode cX2_beats 44 = .ok (.iconst 0, 1) := by decide +kernel
theorem dX2_beats_45 : decode cX2_beats 45 = .ok (.ireturn, 1) := by decide +kernel
theorem dX3_init_0 : decode cX3_init 0 = .ok (.aload_n 0, 1) := by decide +kernel
theorem dX3_init_1 : decode cX3_init 1 = .ok (.invokespecial 3, 3) := by decide +kernel
theorem dX3_init_4 : decode cX3_init 4 = .ok (.aload_n 0, 1) := by decide +kernel
theorem dX3_init_5 : decode cX3_init 5 = .ok (.sipush 4096, 3) := by decide +kernel
theorem dX3_init_8 : decode cX3_init 8 = .ok (.newarray .int, 2) := by decide +kernel
theorem dX3_init_10 : decode cX3_init 10 = .ok (.putfield 9, 3) := by decide +kernel
theorem dX3_init_13 : decode cX3_init 13 = .ok (.aload_n 0, 1) := by decide +kernel
theorem dX3_init_14 : decode cX3_init 14 = .ok (.sipush 2378, 3) := by decide +kernel
theorem dX3_init_17 : decode cX3_init 17 = .ok (.newarray .int, 2) := by decide +kernel
theorem dX3_init_19 : decode cX3_init 19 = .ok (.putfield 15, 3) := by decide +kernel
theorem dX3_init_22 : decode cX3_init 22 = .ok (.aload_n 0, 1) := by decide +kernel
theorem dX3_init_23 : decode cX3_init 23 = .ok (.sipush 2378, 3) := by decide +kernel
theorem dX3_init_26 : decode cX3_init 26 = .ok (.newarray .int, 2) := by decide +kernel
theorem dX3_init_28 : decode cX3_init 28 = .ok (.putfield 18, 3) := by decide +kernel
theorem dX3_init_31 : decode cX3_init 31 = .ok (.aload_n 0, 1) := by decide +kernel
theorem dX3_init_32 : decode cX3_init 32 = .ok (.sipush 1189, 3) := by decide +kernel
theorem dX3_init_35 : decode cX3_init 35 = .ok (.newarray .int, 2) := by decide +kernel
theorem dX3_init_37 : decode cX3_init 37 = .ok (.putfield 21, 3) := by decide +kernel
theorem dX3_init_40 : decode cX3_init 40 = .ok (.aload_n 0, 1) := by decide +kernel
theorem dX3_init_41 : decode cX3_init 41 = .ok (.sipush 4096, 3) := by decide +kernel
theorem dX3_init_44 : decode cX3_init 44 = .ok (.newarray .int, 2) := by decide +kernel
theorem dX3_init_46 : decode cX3_init 46 = .ok (.putfield 24, 3) := by decide +kernel
theorem dX3_init_49 : decode cX3_init 49 = .ok (.aload_n 0, 1) := by decide +kernel
theorem dX3_init_50 : decode cX3_init 50 = .ok (.sipush 1189, 3) := by decide +kernel
theorem dX3_init_53 : decode cX3_init 53 = .ok (.newarray .int, 2) := by decide +kernel
theorem dX3_init_55 : decode cX3_init 55 = .ok (.putfield 27, 3) := by decide +kernel
theorem dX3_init_58 : decode cX3_init 58 = .ok (.aload_n 0, 1) := by decide +kernel
theorem dX3_init_59 : decode cX3_init 59 = .ok (.sipush 4096, 3) := by decide +kernel
theorem dX3_init_62 : decode cX3_init 62 = .ok (.newarray .int, 2) := by decide +kernel
theorem dX3_init_64 : decode cX3_init 64 = .ok (.putfield 30, 3) := by decide +kernel
theorem dX3_init_67 : decode cX3_init 67 = .ok (.return_, 1) := by decide +kernel
theorem dX3_build_0 : decode cX3_build 0 = .ok (.aload_n 0, 1) := by decide +kernel
theorem dX3_build_1 : decode cX3_build 1 = .ok (.iconst 0, 1) := by decide +kernel
theorem dX3_build_2 : decode cX3_build 2 = .ok (.putfield 33, 3) := by decide +kernel
theorem dX3_build_5 : decode cX3_build 5 = .ok (.aload_n 0, 1) := by decide +kernel
theorem dX3_build_6 : decode cX3_build 6 = .ok (.aload_n 1, 1) := by decide +kernel
theorem dX3_build_7 : decode cX3_build 7 = .ok (.iload_n 2, 1) := by decide +kernel
theorem dX3_build_8 : decode cX3_build 8 = .ok (.invokevirtual 37, 3) := by decide +kernel
theorem dX3_build_11 : decode cX3_build 11 = .ok (.aload_n 0, 1) := by decide +kernel
theorem dX3_build_12 : decode cX3_build 12 = .ok (.aload_n 1, 1) := by decide +kernel
theorem dX3_build_13 : decode cX3_build 13 = .ok (.invokevirtual 41, 3) := by decide +kernel
theorem dX3_build_16 : decode cX3_build 16 = .ok (.sipush 1188, 3) := by decide +kernel
theorem dX3_build_19 : decode cX3_build 19 = .ok (.istore_n 3, 1) := by decide +kernel
theorem dX3_build_20 : decode cX3_build 20 = .ok (.iload_n 3, 1) := by decide +kernel
theorem dX3_build_21 : decode cX3_build 21 = .ok (.ifCond .lt 15, 3) := by decide +kernel
theorem dX3_build_24 : decode cX3_build 24 = .ok (.aload_n 0, 1) := by decide +kernel
theorem dX3_build_25 : decode cX3_build 25 = .ok (.aload_n 1, 1) := by decide +kernel
theorem dX3_build_26 : decode cX3_build 26 = .ok (.iload_n 3, 1) := by decide +kernel
theorem dX3_build_27 : decode cX3_build 27 = .ok (.invokevirtual 45, 3) := by decide +kernel
theorem dX3_build_30 : decode cX3_build 30 = .ok (.iinc 3 (-1), 3) := by decide +kernel
theorem dX3_build_33 : decode cX3_build 33 = .ok (.goto (-13), 3) := by decide +kernel
theorem dX3_build_36 : decode cX3_build 36 = .ok (.return_, 1) := by decide +kernel
theorem dX3_sortByJoy_0 : decode cX3_sortByJoy 0 = .ok (.aload_n 0, 1) := by decide +kernel
theorem dX3_sortByJoy_1 : decode cX3_sortByJoy 1 = .ok (.getfield 21, 3) := by decide +kernel
theorem dX3_sortByJoy_4 : decode cX3_sortByJoy 4 = .ok (.iconst (-1), 1) := by decide +kernel
theorem dX3_sortByJoy_5 : decode cX3_sortByJoy 5 = .ok (.invokestatic 48, 3) := by decide +kernel
theorem dX3_sortByJoy_8 : decode cX3_sortByJoy 8 = .ok (.iconst 0, 1) := by decide +kernel
theorem dX3_sortByJoy_9 : decode cX3_sortByJoy 9 = .ok (.istore_n 3, 1) := by decide +kernel
theorem dX3_sortByJoy_10 : decode cX3_sortByJoy 10 = .ok (.iload_n 3, 1) := by decide +kernel
theorem dX3_sortByJoy_11 : decode cX3_sortByJoy 11 = .ok (.aload_n 1, 1) := by decide +kernel
theorem dX3_sortByJoy_12 : decode cX3_sortByJoy 12 = .ok (.getfield 54, 3) := by decide +kernel
theorem dX3_sortByJoy_15 : decode cX3_sortByJoy 15 = .ok (.if_icmp .ge 50, 3) := by decide +kernel
theorem dX3_sortByJoy_18 : decode cX3_sortByJoy 18 = .ok (.iload_n 3, 1) := by decide +kernel
theorem dX3_sortByJoy_19 : decode cX3_sortByJoy 19 = .ok (.sipush 4096, 3) := by decide +kernel
theorem dX3_sortByJoy_22 : decode cX3_sortByJoy 22 = .ok (.if_icmp .ge 43, 3) := by decide +kernel
theorem dX3_sortByJoy_25 : decode cX3_sortByJoy 25 = .ok (.aload_n 0, 1) := by decide +kernel
theorem dX3_sortByJoy_26 : decode cX3_sortByJoy 26 = .ok (.getfield 9, 3) := by decide +kernel
theorem dX3_sortByJoy_29 : decode cX3_sortByJoy 29 = .ok (.iload_n 3, 1) := by decide +kernel
theorem dX3_sortByJoy_30 : decode cX3_sortByJoy 30 = .ok (.iconst (-1), 1) := by decide +kernel
theorem dX3_sortByJoy_31 : decode cX3_sortByJoy 31 = .ok (.iastore, 1) := by decide +kernel
theorem dX3_sortByJoy_32 : decode cX3_sortByJoy 32 = .ok (.aload_n 1, 1) := by decide +kernel
theorem dX3_sortByJoy_33 : decode cX3_sortByJoy 33 = .ok (.iload_n 3, 1) := by decide +kernel
theorem dX3_sortByJoy_34 : decode cX3_sortByJoy 34 = .ok (.iload_n 2, 1) := by decide +kernel
theorem dX3_sortByJoy_35 : decode cX3_sortByJoy 35 = .ok (.invokevirtual 59, 3) := by decide +kernel
theorem dX3_sortByJoy_38 : decode cX3_sortByJoy 38 = .ok (.ifCond .ne 21, 3) := by decide +kernel
theorem dX3_sortByJoy_41 : decode cX3_sortByJoy 41 = .ok (.iload_n 3, 1) := by decide +kernel
theorem dX3_sortByJoy_42 : decode cX3_sortByJoy 42 = .ok (.aload_n 1, 1) := by decide +kernel
theorem dX3_sortByJoy_43 : decode cX3_sortByJoy 43 = .ok (.getfield 63, 3) := by decide +kernel
theorem dX3_sortByJoy_46 : decode cX3_sortByJoy 46 = .ok (.iload_n 3, 1) := by decide +kernel
theorem dX3_sortByJoy_47 : decode cX3_sortByJoy 47 = .ok (.iaload, 1) := by decide +kernel
theorem dX3_sortByJoy_48 : decode cX3_sortByJoy 48 = .ok (.aload_n 0, 1) := by decide +kernel
theorem dX3_sortByJoy_49 : decode cX3_sortByJoy 49 = .ok (.getfield 21, 3) := by decide +kernel
theorem dX3_sortByJoy_52 : decode cX3_sortByJoy 52 = .ok (.aload_n 0, 1) := by decide +kernel
theorem dX3_sortByJoy_53 : decode cX3_sortByJoy 53 = .ok (.getfield 24, 3) := by decide +kernel
theorem dX3_sortByJoy_56 : decode cX3_sortByJoy 56 = .ok (.invokestatic 66, 3) := by decide +kernel
theorem dX3_sortByJoy_59 : decode cX3_sortByJoy 59 = .ok (.iinc 3 1, 3) := by decide +kernel
theorem dX3_sortByJoy_62 : decode cX3_sortByJoy 62 = .ok (.goto (-52), 3) := by decide +kernel
theorem dX3_sortByJoy_65 : decode cX3_sortByJoy 65 = .ok (.return_, 1) := by decide +kernel
theorem dX3_sortByGain_0 : decode cX3_sortByGain 0 = .ok (.aload_n 0, 1) := by decide +kernel
theorem dX3_sortByGain_1 : decode cX3_sortByGain 1 = .ok (.getfield 27, 3) := by decide +kernel
theorem dX3_sortByGain_4 : decode cX3_sortByGain 4 = .ok (.iconst (-1), 1) := by decide +kernel
theorem dX3_sortByGain_5 : decode cX3_sortByGain 5 = .ok (.invokestatic 48, 3) := by decide +kernel
theorem dX3_sortByGain_8 : decode cX3_sortByGain 8 = .ok (.iconst 0, 1) := by decide +kernel
theorem dX3_sortByGain_9 : decode cX3_sortByGain 9 = .ok (.istore_n 2, 1) := by decide +kernel
theorem dX3_sortByGain_10 : decode cX3_sortByGain 10 = .ok (.iload_n 2, 1) := by decide +kernel
theorem dX3_sortByGain_11 : decode cX3_sortByGain 11 = .ok (.sipush 1189, 3) := by decide +kernel
theorem dX3_sortByGain_14 : decode cX3_sortByGain 14 = .ok (.if_icmp .ge 63, 3) := by decide +kernel
theorem dX3_sortByGain_17 : decode cX3_sortByGain 17 = .ok (.aload_n 0, 1) := by decide +kernel
theorem dX3_sortByGain_18 : decode cX3_sortByGain 18 = .ok (.getfield 21, 3) := by decide +kernel
theorem dX3_sortByGain_21 : decode cX3_sortByGain 21 = .ok (.iload_n 2, 1) := by decide +kernel
theorem dX3_sortByGain_22 : decode cX3_sortByGain 22 = .ok (.iaload, 1) := by decide +kernel
theorem dX3_sortByGain_23 : decode cX3_sortByGain 23 = .ok (.istore_n 3, 1) := by decide +kernel
theorem dX3_sortByGain_24 : decode cX3_sortByGain 24 = .ok (.iconst 0, 1) := by decide +kernel
theorem dX3_sortByGain_25 : decode cX3_sortByGain 25 = .ok (.istore 4, 2) := by decide +kernel
theorem dX3_sortByGain_27 : decode cX3_sortByGain 27 = .ok (.iload 4, 2) := by decide +kernel
theorem dX3_sortByGain_29 : decode cX3_sortByGain 29 = .ok (.sipush 4096, 3) := by decide +kernel
theorem dX3_sortByGain_32 : decode cX3_sortByGain 32 = .ok (.if_icmp .ge 39, 3) := by decide +kernel
theorem dX3_sortByGain_35 : decode cX3_sortByGain 35 = .ok (.iload_n 3, 1) := by decide +kernel
theorem dX3_sortByGain_36 : decode cX3_sortByGain 36 = .ok (.iconst (-1), 1) := by decide +kernel
theorem dX3_sortByGain_37 : decode cX3_sortByGain 37 = .ok (.if_icmp .eq 34, 3) := by decide +kernel
theorem dX3_sortByGain_40 : decode cX3_sortByGain 40 = .ok (.iload_n 3, 1) := by decide +kernel
theorem dX3_sortByGain_41 : decode cX3_sortByGain 41 = .ok (.aload_n 1, 1) := by decide +kernel
theorem dX3_sortByGain_42 : decode cX3_sortByGain 42 = .ok (.getfield 70, 3) := by decide +kernel
theorem dX3_sortByGain_45 : decode cX3_sortByGain 45 = .ok (.iload_n 3, 1) := by decide +kernel
theorem dX3_sortByGain_46 : decode cX3_sortByGain 46 = .ok (.iaload, 1) := by decide +kernel
theorem dX3_sortByGain_47 : decode cX3_sortByGain 47 = .ok (.aload_n 0, 1) := by decide +kernel
theorem dX3_sortByGain_48 : decode cX3_sortByGain 48 = .ok (.getfield 27, 3) := by decide +kernel
theorem dX3_sortByGain_51 : decode cX3_sortByGain 51 = .ok (.aload_n 0, 1) := by decide +kernel
theorem dX3_sortByGain_52 : decode cX3_sortByGain 52 = .ok (.getfield 30, 3) := by decide +kernel
theorem dX3_sortByGain_55 : decode cX3_sortByGain 55 = .ok (.invokestatic 66, 3) := by decide +kernel
theorem dX3_sortByGain_58 : decode cX3_sortByGain 58 = .ok (.aload_n 0, 1) := by decide +kernel
theorem dX3_sortByGain_59 : decode cX3_sortByGain 59 = .ok (.getfield 24, 3) := by decide +kernel
theorem dX3_sortByGain_62 : decode cX3_sortByGain 62 = .ok (.iload_n 3, 1) := by decide +kernel
theorem dX3_sortByGain_63 : decode cX3_sortByGain 63 = .ok (.iaload, 1) := by decide +kernel
theorem dX3_sortByGain_64 : decode cX3_sortByGain 64 = .ok (.istore_n 3, 1) := by decide +kernel
theorem dX3_sortByGain_65 : decode cX3_sortByGain 65 = .ok (.iinc 4 1, 3) := by decide +kernel
theorem dX3_sortByGain_68 : decode cX3_sortByGain 68 = .ok (.goto (-41), 3) := by decide +kernel
theorem dX3_sortByGain_71 : decode cX3_sortByGain 71 = .ok (.iinc 2 1, 3) := by decide +kernel
theorem dX3_sortByGain_74 : decode cX3_sortByGain 74 = .ok (.goto (-64), 3) := by decide +kernel
theorem dX3_sortByGain_77 : decode cX3_sortByGain 77 = .ok (.return_, 1) := by decide +kernel
theorem dX3_putAhead_0 : decode cX3_putAhead 0 = .ok (.iload_n 1, 1) := by decide +kernel
theorem dX3_putAhead_1 : decode cX3_putAhead 1 = .ok (.ifCond .lt 20, 3) := by decide +kernel
theorem dX3_putAhead_4 : decode cX3_putAhead 4 = .ok (.iload_n 1, 1) := by decide +kernel
theorem dX3_putAhead_5 : decode cX3_putAhead 5 = .ok (.sipush 1189, 3) := by decide +kernel
theorem dX3_putAhead_8 : decode cX3_putAhead 8 = .ok (.if_icmp .ge 13, 3) := by decide +kernel
theorem dX3_putAhead_11 : decode cX3_putAhead 11 = .ok (.aload_n 3, 1) := by decide +kernel
theorem dX3_putAhead_12 : decode cX3_putAhead 12 = .ok (.iload_n 0, 1) := by decide +kernel
theorem dX3_putAhead_13 : decode cX3_putAhead 13 = .ok (.aload_n 2, 1) := by decide +kernel
theorem dX3_putAhead_14 : decode cX3_putAhead 14 = .ok (.iload_n 1, 1) := by decide +kernel
theorem dX3_putAhead_15 : decode cX3_putAhead 15 = .ok (.iaload, 1) := by decide +kernel
theorem dX3_putAhead_16 : decode cX3_putAhead 16 = .ok (.iastore, 1) := by decide +kernel
theorem dX3_putAhead_17 : decode cX3_putAhead 17 = .ok (.aload_n 2, 1) := by decide +kernel
theorem dX3_putAhead_18 : decode cX3_putAhead 18 = .ok (.iload_n 1, 1) := by decide +kernel
theorem dX3_putAhead_19 : decode cX3_putAhead 19 = .ok (.iload_n 0, 1) := by decide +kernel
theorem dX3_putAhead_20 : decode cX3_putAhead 20 = .ok (.iastore, 1) := by decide +kernel
theorem dX3_putAhead_21 : decode cX3_putAhead 21 = .ok (.return_, 1) := by decide +kernel
theorem dX3_placeGain_0 : decode cX3_placeGain 0 = .ok (.aload_n 0, 1) := by decide +kernel
theorem dX3_placeGain_1 : decode cX3_placeGain 1 = .ok (.getfield 27, 3) := by decide +kernel
theorem dX3_placeGain_4 : decode cX3_placeGain 4 = .ok (.iload_n 2, 1) := by decide +kernel
theorem dX3_placeGain_5 : decode cX3_placeGain 5 = .ok (.iaload, 1) := by decide +kernel
theorem dX3_placeGain_6 : decode cX3_placeGain 6 = .ok (.istore_n 3, 1) := by decide +kernel
theorem dX3_placeGain_7 : decode cX3_placeGain 7 = .ok (.iconst (-1), 1) := by decide +kernel
theorem dX3_placeGain_8 : decode cX3_placeGain 8 = .ok (.istore 4, 2) := by decide +kernel
theorem dX3_placeGain_10 : decode cX3_placeGain 10 = .ok (.iconst (-1), 1) := by decide +kernel
theorem dX3_placeGain_11 : decode cX3_placeGain 11 = .ok (.istore 5, 2) := by decide +kernel
theorem dX3_placeGain_13 : decode cX3_placeGain 13 = .ok (.iconst 0, 1) := by decide +kernel
theorem dX3_placeGain_14 : decode cX3_placeGain 14 = .ok (.istore 6, 2) := by decide +kernel
theorem dX3_placeGain_16 : decode cX3_placeGain 16 = .ok (.iload 6, 2) := by decide +kernel
theorem dX3_placeGain_18 : decode cX3_placeGain 18 = .ok (.sipush 4096, 3) := by decide +kernel
theorem dX3_placeGain_21 : decode cX3_placeGain 21 = .ok (.if_icmp .ge 56, 3) := by decide +kernel
theorem dX3_placeGain_24 : decode cX3_placeGain 24 = .ok (.iload_n 3, 1) := by decide +kernel
theorem dX3_placeGain_25 : decode cX3_placeGain 25 = .ok (.iconst (-1), 1) := by decide +kernel
theorem dX3_placeGain_26 : decode cX3_placeGain 26 = .ok (.if_icmp .eq 51, 3) := by decide +kernel
theorem dX3_placeGain_29 : decode cX3_placeGain 29 = .ok (.aload_n 1, 1) := by decide +kernel
theorem dX3_placeGain_30 : decode cX3_placeGain 30 = .ok (.getfield 63, 3) := by decide +kernel
theorem dX3_placeGain_33 : decode cX3_placeGain 33 = .ok (.iload_n 3, 1) := by decide +kernel
theorem dX3_placeGain_34 : decode cX3_placeGain 34 = .ok (.iaload, 1) := by decide +kernel
theorem dX3_placeGain_35 : decode cX3_placeGain 35 = .ok (.iload 4, 2) := by decide +kernel
theorem dX3_placeGain_37 : decode cX3_placeGain 37 = .ok (.if_icmp .eq 19, 3) := by decide +kernel
theorem dX3_placeGain_40 : decode cX3_placeGain 40 = .ok (.aload_n 1, 1) := by decide +kernel
theorem dX3_placeGain_41 : decode cX3_placeGain 41 = .ok (.getfield 63, 3) := by decide +kernel
theorem dX3_placeGain_44 : decode cX3_placeGain 44 = .ok (.iload_n 3, 1) := by decide +kernel
theorem dX3_placeGain_45 : decode cX3_placeGain 45 = .ok (.iaload, 1) := by decide +kernel
theorem dX3_placeGain_46 : decode cX3_placeGain 46 = .ok (.istore 4, 2) := by decide +kernel
theorem dX3_placeGain_48 : decode cX3_placeGain 48 = .ok (.aload_n 0, 1) := by decide +kernel
theorem dX3_placeGain_49 : decode cX3_placeGain 49 = .ok (.iload 4, 2) := by decide +kernel
theorem dX3_placeGain_51 : decode cX3_placeGain 51 = .ok (.invokevirtual 73, 3) := by decide +kernel
theorem dX3_placeGain_54 : decode cX3_placeGain 54 = .ok (.istore 5, 2) := by decide +kernel
theorem dX3_placeGain_56 : decode cX3_placeGain 56 = .ok (.aload_n 0, 1) := by decide +kernel
theorem dX3_placeGain_57 : decode cX3_placeGain 57 = .ok (.getfield 9, 3) := by decide +kernel
theorem dX3_placeGain_60 : decode cX3_placeGain 60 = .ok (.iload_n 3, 1) := by decide +kernel
theorem dX3_placeGain_61 : decode cX3_placeGain 61 = .ok (.iload 5, 2) := by decide +kernel
theorem dX3_placeGain_63 : decode cX3_placeGain 63 = .ok (.iastore, 1) := by decide +kernel
theorem dX3_placeGain_64 : decode cX3_placeGain 64 = .ok (.aload_n 0, 1) := by decide +kernel
theorem dX3_placeGain_65 : decode cX3_placeGain 65 = .ok (.getfield 30, 3) := by decide +kernel
theorem dX3_placeGain_68 : decode cX3_placeGain 68 = .ok (.iload_n 3, 1) := by decide +kernel
theorem dX3_placeGain_69 : decode cX3_placeGain 69 = .ok (.iaload, 1) := by decide +kernel
theorem dX3_placeGain_70 : decode cX3_placeGain 70 = .ok (.istore_n 3, 1) := by decide +kernel
theorem dX3_placeGain_71 : decode cX3_placeGain 71 = .ok (.iinc 6 1, 3) := by decide +kernel
theorem dX3_placeGain_74 : decode cX3_placeGain 74 = .ok (.goto (-58), 3) := by decide +kernel
theorem dX3_placeGain_77 : decode cX3_placeGain 77 = .ok (.return_, 1) := by decide +kernel
theorem dX3_placePair_0 : decode cX3_placePair 0 = .ok (.aload_n 0, 1) := by decide +kernel
theorem dX3_placePair_1 : decode cX3_placePair 1 = .ok (.iload_n 1, 1) := by decide +kernel
theorem dX3_placePair_2 : decode cX3_placePair 2 = .ok (.invokevirtual 77, 3) := by decide +kernel
theorem dX3_placePair_5 : decode cX3_placePair 5 = .ok (.istore_n 2, 1) := by decide +kernel
theorem dX3_placePair_6 : decode cX3_placePair 6 = .ok (.iload_n 2, 1) := by decide +kernel
theorem dX3_placePair_7 : decode cX3_placePair 7 = .ok (.sipush 2378, 3) := by decide +kernel
theorem dX3_placePair_10 : decode cX3_placePair 10 = .ok (.if_icmp .lt 5, 3) := by decide +kernel
theorem dX3_placePair_13 : decode cX3_placePair 13 = .ok (.iconst (-1), 1) := by decide +kernel
theorem dX3_placePair_14 : decode cX3_placePair 14 = .ok (.ireturn, 1) := by decide +kernel
theorem dX3_placePair_15 : decode cX3_placePair 15 = .ok (.iload_n 2, 1) := by decide +kernel
theorem dX3_placePair_16 : decode cX3_placePair 16 = .ok (.aload_n 0, 1) := by decide +kernel
theorem dX3_placePair_17 : decode cX3_placePair 17 = .ok (.getfield 33, 3) := by decide +kernel
theorem dX3_placePair_20 : decode cX3_placePair 20 = .ok (.if_icmp .ne 20, 3) := by decide +kernel
theorem dX3_placePair_23 : decode cX3_placePair 23 = .ok (.aload_n 0, 1) := by decide +kernel
theorem dX3_placePair_24 : decode cX3_placePair 24 = .ok (.getfield 15, 3) := by decide +kernel
theorem dX3_placePair_27 : decode cX3_placePair 27 = .ok (.iload_n 2, 1) := by decide +kernel
theorem dX3_placePair_28 : decode cX3_placePair 28 = .ok (.iconst 0, 1) := by decide +kernel
theorem dX3_placePair_29 : decode cX3_placePair 29 = .ok (.iastore, 1) := by decide +kernel
theorem dX3_placePair_30 : decode cX3_placePair 30 = .ok (.aload_n 0, 1) := by decide +kernel
theorem dX3_placePair_31 : decode cX3_placePair 31 = .ok (.dup, 1) := by decide +kernel
theorem dX3_placePair_32 : decode cX3_placePair 32 = .ok (.getfield 33, 3) := by decide +kernel
theorem dX3_placePair_35 : decode cX3_placePair 35 = .ok (.iconst 1, 1) := by decide +kernel
theorem dX3_placePair_36 : decode cX3_placePair 36 = .ok (.iadd, 1) := by decide +kernel
theorem dX3_placePair_37 : decode cX3_placePair 37 = .ok (.putfield 33, 3) := by decide +kernel
theorem dX3_placePair_40 : decode cX3_placePair 40 = .ok (.aload_n 0, 1) := by decide +kernel
theorem dX3_placePair_41 : decode cX3_placePair 41 = .ok (.getfield 18, 3) := by decide +kernel
theorem dX3_placePair_44 : decode cX3_placePair 44 = .ok (.iload_n 2, 1) := by decide +kernel
theorem dX3_placePair_45 : decode cX3_placePair 45 = .ok (.iload_n 1, 1) := by decide +kernel
theorem dX3_placePair_46 : decode cX3_placePair 46 = .ok (.iastore, 1) := by decide +kernel
theorem dX3_placePair_47 : decode cX3_placePair 47 = .ok (.aload_n 0, 1) := by decide +kernel
theorem dX3_placePair_48 : decode cX3_placePair 48 = .ok (.getfield 15, 3) := by decide +kernel
theorem dX3_placePair_51 : decode cX3_placePair 51 = .ok (.iload_n 2, 1) := by decide +kernel
theorem dX3_placePair_52 : decode cX3_placePair 52 = .ok (.dup2, 1) := by decide +kernel
theorem dX3_placePair_53 : decode cX3_placePair 53 = .ok (.iaload, 1) := by decide +kernel
theorem dX3_placePair_54 : decode cX3_placePair 54 = .ok (.iconst 1, 1) := by decide +kernel
theorem dX3_placePair_55 : decode cX3_placePair 55 = .ok (.iadd, 1) := by decide +kernel
theorem dX3_placePair_56 : decode cX3_placePair 56 = .ok (.iastore, 1) := by decide +kernel
theorem dX3_placePair_57 : decode cX3_placePair 57 = .ok (.iload_n 2, 1) := by decide +kernel
theorem dX3_placePair_58 : decode cX3_placePair 58 = .ok (.ireturn, 1) := by decide +kernel
theorem dX3_firstLayerBelow_0 : decode cX3_firstLayerBelow 0 = .ok (.iconst 0, 1) := by decide +kernel
theorem dX3_firstLayerBelow_1 : decode cX3_firstLayerBelow 1 = .ok (.istore_n 2, 1) := by decide +kernel
theorem dX3_firstLayerBelow_2 : decode cX3_firstLayerBelow 2 = .ok (.aload_n 0, 1) := by decide +kernel
theorem dX3_firstLayerBelow_3 : decode cX3_firstLayerBelow 3 = .ok (.getfield 33, 3) := by decide +kernel
theorem dX3_firstLayerBelow_6 : decode cX3_firstLayerBelow 6 = .ok (.istore_n 3, 1) := by decide +kernel
theorem dX3_firstLayerBelow_7 : decode cX3_firstLayerBelow 7 = .ok (.iconst 0, 1) := by decide +kernel
theorem dX3_firstLayerBelow_8 : decode cX3_firstLayerBelow 8 = .ok (.istore 4, 2) := by decide +kernel
theorem dX3_firstLayerBelow_10 : decode cX3_firstLayerBelow 10 = .ok (.iload 4, 2) := by decide +kernel
theorem dX3_firstLayerBelow_12 : decode cX3_firstLayerBelow 12 = .ok (.sipush 2378, 3) := by decide +kernel
theorem dX3_firstLayerBelow_15 : decode cX3_firstLayerBelow 15 = .ok (.if_icmp .ge 45, 3) := by decide +kernel
theorem dX3_firstLayerBelow_18 : decode cX3_firstLayerBelow 18 = .ok (.iload_n 2, 1) := by decide +kernel
theorem dX3_firstLayerBelow_19 : decode cX3_firstLayerBelow 19 = .ok (.iload_n 3, 1) := by decide +kernel
theorem dX3_firstLayerBelow_20 : decode cX3_firstLayerBelow 20 = .ok (.if_icmp .ge 40, 3) := by decide +kernel
theorem dX3_firstLayerBelow_23 : decode cX3_firstLayerBelow 23 = .ok (.iload_n 2, 1) := by decide +kernel
theorem dX3_firstLayerBelow_24 : decode cX3_firstLayerBelow 24 = .ok (.iload_n 3, 1) := by decide +kernel
theorem dX3_firstLayerBelow_25 : decode cX3_firstLayerBelow 25 = .ok (.iload_n 2, 1) := by decide +kernel
theorem dX3_firstLayerBelow_26 : decode cX3_firstLayerBelow 26 = .ok (.isub, 1) := by decide +kernel
theorem dX3_firstLayerBelow_27 : decode cX3_firstLayerBelow 27 = .ok (.iconst 2, 1) := by decide +kernel
theorem dX3_firstLayerBelow_28 : decode cX3_firstLayerBelow 28 = .ok (.idiv, 1) := by decide +kernel
theorem dX3_firstLayerBelow_29 : decode cX3_firstLayerBelow 29 = .ok (.iadd, 1) := by decide +kernel
theorem dX3_firstLayerBelow_30 : decode cX3_firstLayerBelow 30 = .ok (.istore 5, 2) := by decide +kernel
theorem dX3_firstLayerBelow_32 : decode cX3_firstLayerBelow 32 = .ok (.aload_n 0, 1) := by decide +kernel
theorem dX3_firstLayerBelow_33 : decode cX3_firstLayerBelow 33 = .ok (.getfield 18, 3) := by decide +kernel
theorem dX3_firstLayerBelow_36 : decode cX3_firstLayerBelow 36 = .ok (.iload 5, 2) := by decide +kernel
theorem dX3_firstLayerBelow_38 : decode cX3_firstLayerBelow 38 = .ok (.iaload, 1) := by decide +kernel
theorem dX3_firstLayerBelow_39 : decode cX3_firstLayerBelow 39 = .ok (.iload_n 1, 1) := by decide +kernel
theorem dX3_firstLayerBelow_40 : decode cX3_firstLayerBelow 40 = .ok (.if_icmp .lt 11, 3) := by decide +kernel
theorem dX3_firstLayerBelow_43 : decode cX3_firstLayerBelow 43 = .ok (.iload 5, 2) := by decide +kernel
theorem dX3_firstLayerBelow_45 : decode cX3_firstLayerBelow 45 = .ok (.iconst 1, 1) := by decide +kernel
theorem dX3_firstLayerBelow_46 : decode cX3_firstLayerBelow 46 = .ok (.iadd, 1) := by decide +kernel
theorem dX3_firstLayerBelow_47 : decode cX3_firstLayerBelow 47 = .ok (.istore_n 2, 1) := by decide +kernel
theorem dX3_firstLayerBelow_48 : decode cX3_firstLayerBelow 48 = .ok (.goto 6, 3) := by decide +kernel
theorem dX3_firstLayerBelow_51 : decode cX3_firstLayerBelow 51 = .ok (.iload 5, 2) := by decide +kernel
theorem dX3_firstLayerBelow_53 : decode cX3_firstLayerBelow 53 = .ok (.istore_n 3, 1) := by decide +kernel
theorem dX3_firstLayerBelow_54 : decode cX3_firstLayerBelow 54 = .ok (.iinc 4 1, 3) := by decide +kernel
theorem dX3_firstLayerBelow_57 : decode cX3_firstLayerBelow 57 = .ok (.goto (-47), 3) := by decide +kernel
theorem dX3_firstLayerBelow_60 : decode cX3_firstLayerBelow 60 = .ok (.iload_n 2, 1) := by decide +kernel
theorem dX3_firstLayerBelow_61 : decode cX3_firstLayerBelow 61 = .ok (.ireturn, 1) := by decide +kernel
theorem dX4_init_0 : decode cX4_init 0 = .ok (.aload_n 0, 1) := by decide +kernel
theorem dX4_init_1 : decode cX4_init 1 = .ok (.invokespecial 3, 3) := by decide +kernel
theorem dX4_init_4 : decode cX4_init 4 = .ok (.aload_n 0, 1) := by decide +kernel
theorem dX4_init_5 : decode cX4_init 5 = .ok (.sipush 15457, 3) := by decide +kernel
theorem dX4_init_8 : decode cX4_init 8 = .ok (.newarray .byte, 2) := by decide +kernel
theorem dX4_init_10 : decode cX4_init 10 = .ok (.putfield 9, 3) := by decide +kernel
theorem dX4_init_13 : decode cX4_init 13 = .ok (.return_, 1) := by decide +kernel
theorem dX5_init_0 : decode cX5_init 0 = .ok (.aload_n 0, 1) := by decide +kernel
theorem dX5_init_1 : decode cX5_init 1 = .ok (.invokespecial 3, 3) := by decide +kernel
theorem dX5_init_4 : decode cX5_init 4 = .ok (.aload_n 0, 1) := by decide +kernel
theorem dX5_init_5 : decode cX5_init 5 = .ok (.new 9, 3) := by decide +kernel
theorem dX5_init_8 : decode cX5_init 8 = .ok (.dup, 1) := by decide +kernel
theorem dX5_init_9 : decode cX5_init 9 = .ok (.invokespecial 11, 3) := by decide +kernel
theorem dX5_init_12 : decode cX5_init 12 = .ok (.putfield 12, 3) := by decide +kernel
theorem dX5_init_15 : decode cX5_init 15 = .ok (.aload_n 0, 1) := by decide +kernel
theorem dX5_init_16 : decode cX5_init 16 = .ok (.iconst (-1), 1) := by decide +kernel
theorem dX5_init_17 : decode cX5_init 17 = .ok (.putfield 18, 3) := by decide +kernel
theorem dX5_init_20 : decode cX5_init 20 = .ok (.aload_n 0, 1) := by decide +kernel
theorem dX5_init_21 : decode cX5_init 21 = .ok (.sipush 600, 3) := by decide +kernel
theorem dX5_init_24 : decode cX5_init 24 = .ok (.newarray .byte, 2) := by decide +kernel
theorem dX5_init_26 : decode cX5_init 26 = .ok (.putfield 22, 3) := by decide +kernel
theorem dX5_init_29 : decode cX5_init 29 = .ok (.return_, 1) := by decide +kernel
theorem dX5_parse_0 : decode cX5_parse 0 = .ok (.aload_n 1, 1) := by decide +kernel
theorem dX5_parse_1 : decode cX5_parse 1 = .ok (.iconst 0, 1) := by decide +kernel
theorem dX5_parse_2 : decode cX5_parse 2 = .ok (.aload_n 0, 1) := by decide +kernel
theorem dX5_parse_3 : decode cX5_parse 3 = .ok (.getfield 22, 3) := by decide +kernel
theorem dX5_parse_6 : decode cX5_parse 6 = .ok (.iconst 0, 1) := by decide +kernel
theorem dX5_parse_7 : decode cX5_parse 7 = .ok (.sipush 600, 3) := by decide +kernel
theorem dX5_parse_10 : decode cX5_parse 10 = .ok (.invokestatic 26, 3) := by decide +kernel
theorem dX5_parse_13 : decode cX5_parse 13 = .ok (.aload_n 0, 1) := by decide +kernel
theorem dX5_parse_14 : decode cX5_parse 14 = .ok (.iload_n 2, 1) := by decide +kernel
theorem dX5_parse_15 : decode cX5_parse 15 = .ok (.putfield 32, 3) := by decide +kernel
theorem dX5_parse_18 : decode cX5_parse 18 = .ok (.aload_n 0, 1) := by decide +kernel
theorem dX5_parse_19 : decode cX5_parse 19 = .ok (.iconst 0, 1) := by decide +kernel
theorem dX5_parse_20 : decode cX5_parse 20 = .ok (.putfield 35, 3) := by decide +kernel
theorem dX5_parse_23 : decode cX5_parse 23 = .ok (.aload_n 0, 1) := by decide +kernel
theorem dX5_parse_24 : decode cX5_parse 24 = .ok (.iconst 0, 1) := by decide +kernel
theorem dX5_parse_25 : decode cX5_parse 25 = .ok (.putfield 38, 3) := by decide +kernel
theorem dX5_parse_28 : decode cX5_parse 28 = .ok (.aload_n 0, 1) := by decide +kernel
theorem dX5_parse_29 : decode cX5_parse 29 = .ok (.iconst (-1), 1) := by decide +kernel
theorem dX5_parse_30 : decode cX5_parse 30 = .ok (.putfield 18, 3) := by decide +kernel
theorem dX5_parse_33 : decode cX5_parse 33 = .ok (.aload_n 0, 1) := by decide +kernel
theorem dX5_parse_34 : decode cX5_parse 34 = .ok (.getfield 12, 3) := by decide +kernel
theorem dX5_parse_37 : decode cX5_parse 37 = .ok (.invokevirtual 41, 3) := by decide +kernel
theorem dX5_parse_40 : decode cX5_parse 40 = .ok (.aload_n 0, 1) := by decide +kernel
theorem dX5_parse_41 : decode cX5_parse 41 = .ok (.invokevirtual 44, 3) := by decide +kernel
theorem dX5_parse_44 : decode cX5_parse 44 = .ok (.aload_n 0, 1) := by decide +kernel
theorem dX5_parse_45 : decode cX5_parse 45 = .ok (.invokevirtual 47, 3) := by decide +kernel
theorem dX5_parse_48 : decode cX5_parse 48 = .ok (.istore_n 3, 1) := by decide +kernel
theorem dX5_parse_49 : decode cX5_parse 49 = .ok (.iconst 0, 1) := by decide +kernel
theorem dX5_parse_50 : decode cX5_parse 50 = .ok (.istore 4, 2) := by decide +kernel
theorem dX5_parse_52 : decode cX5_parse 52 = .ok (.iload 4, 2) := by decide +kernel
theorem dX5_parse_54 : decode cX5_parse 54 = .ok (.sipush 600, 3) := by decide +kernel
theorem dX5_parse_57 : decode cX5_parse 57 = .ok (.if_icmp .ge 25, 3) := by decide +kernel
theorem dX5_parse_60 : decode cX5_parse 60 = .ok (.iload_n 3, 1) := by decide +kernel
theorem dX5_parse_61 : decode cX5_parse 61 = .ok (.ifCond .eq 21, 3) := by decide +kernel
theorem dX5_parse_64 : decode cX5_parse 64 = .ok (.aload_n 0, 1) := by decide +kernel
theorem dX5_parse_65 : decode cX5_parse 65 = .ok (.getfield 51, 3) := by decide +kernel
theorem dX5_parse_68 : decode cX5_parse 68 = .ok (.ifCond .eq 14, 3) := by decide +kernel
theorem dX5_parse_71 : decode cX5_parse 71 = .ok (.aload_n 0, 1) := by decide +kernel
theorem dX5_parse_72 : decode cX5_parse 72 = .ok (.invokevirtual 54, 3) := by decide +kernel
theorem dX5_parse_75 : decode cX5_parse 75 = .ok (.istore_n 3, 1) := by decide +kernel
theorem dX5_parse_76 : decode cX5_parse 76 = .ok (.iinc 4 1, 3) := by decide +kernel
theorem dX5_parse_79 : decode cX5_parse 79 = .ok (.goto (-27), 3) := by decide +kernel
theorem dX5_parse_82 : decode cX5_parse 82 = .ok (.iload_n 3, 1) := by decide +kernel
theorem dX5_parse_83 : decode cX5_parse 83 = .ok (.ireturn, 1) := by decide +kernel
theorem dX5_fail_0 : decode cX5_fail 0 = .ok (.aload_n 0, 1) := by decide +kernel
theorem dX5_fail_1 : decode cX5_fail 1 = .ok (.iload_n 1, 1) := by decide +kernel
theorem dX5_fail_2 : decode cX5_fail 2 = .ok (.putfield 38, 3) := by decide +kernel
theorem dX5_fail_5 : decode cX5_fail 5 = .ok (.aload_n 0, 1) := by decide +kernel
theorem dX5_fail_6 : decode cX5_fail 6 = .ok (.aload_n 0, 1) := by decide +kernel
theorem dX5_fail_7 : decode cX5_fail 7 = .ok (.getfield 57, 3) := by decide +kernel
theorem dX5_fail_10 : decode cX5_fail 10 = .ok (.putfield 18, 3) := by decide +kernel
theorem dX5_fail_13 : decode cX5_fail 13 = .ok (.iconst 0, 1) := by decide +kernel
theorem dX5_fail_14 : decode cX5_fail 14 = .ok (.ireturn, 1) := by decide +kernel
theorem dX5_advance_0 : decode cX5_advance 0 = .ok (.aload_n 0, 1) := by decide +kernel
theorem dX5_advance_1 : decode cX5_advance 1 = .ok (.getfield 35, 3) := by decide +kernel
theorem dX5_advance_4 : decode cX5_advance 4 = .ok (.aload_n 0, 1) := by decide +kernel
theorem dX5_advance_5 : decode cX5_advance 5 = .ok (.getfield 32, 3) := by decide +kernel
theorem dX5_advance_8 : decode cX5_advance 8 = .ok (.if_icmp .ge 44, 3) := by decide +kernel
theorem dX5_advance_11 : decode cX5_advance 11 = .ok (.aload_n 0, 1) := by decide +kernel
theorem dX5_advance_12 : decode cX5_advance 12 = .ok (.getfield 22, 3) := by decide +kernel
theorem dX5_advance_15 : decode cX5_advance 15 = .ok (.aload_n 0, 1) := by decide +kernel
theorem dX5_advance_16 : decode cX5_advance 16 = .ok (.getfield 35, 3) := by decide +kernel
theorem dX5_advance_19 : decode cX5_advance 19 = .ok (.baload, 1) := by decide +kernel
theorem dX5_advance_20 : decode cX5_advance 20 = .ok (.bipush 32, 2) := by decide +kernel
theorem dX5_advance_22 : decode cX5_advance 22 = .ok (.if_icmp .eq 17, 3) := by decide +kernel
theorem dX5_advance_25 : decode cX5_advance 25 = .ok (.aload_n 0, 1) := by decide +kernel
theorem dX5_advance_26 : decode cX5_advance 26 = .ok (.getfield 22, 3) := by decide +kernel
theorem dX5_advance_29 : decode cX5_advance 29 = .ok (.aload_n 0, 1) := by decide +kernel
theorem dX5_advance_30 : decode cX5_advance 30 = .ok (.getfield 35, 3) := by decide +kernel
theorem dX5_advance_33 : decode cX5_advance 33 = .ok (.baload, 1) := by decide +kernel
theorem dX5_advance_34 : decode cX5_advance 34 = .ok (.bipush 10, 2) := by decide +kernel
theorem dX5_advance_36 : decode cX5_advance 36 = .ok (.if_icmp .ne 16, 3) := by decide +kernel
theorem dX5_advance_39 : decode cX5_advance 39 = .ok (.aload_n 0, 1) := by decide +kernel
theorem dX5_advance_40 : decode cX5_advance 40 = .ok (.dup, 1) := by decide +kernel
theorem dX5_advance_41 : decode cX5_advance 41 = .ok (.getfield 35, 3) := by decide +kernel
theorem dX5_advance_44 : decode cX5_advance 44 = .ok (.iconst 1, 1) := by decide +kernel
theorem dX5_advance_45 : decode cX5_advance 45 = .ok (.iadd, 1) := by decide +kernel
theorem dX5_advance_46 : decode cX5_advance 46 = .ok (.putfield 35, 3) := by decide +kernel
theorem dX5_advance_49 : decode cX5_advance 49 = .ok (.goto (-49), 3) := by decide +kernel
theorem dX5_advance_52 : decode cX5_advance 52 = .ok (.aload_n 0, 1) := by decide +kernel
theorem dX5_advance_53 : decode cX5_advance 53 = .ok (.aload_n 0, 1) := by decide +kernel
theorem dX5_advance_54 : decode cX5_advance 54 = .ok (.getfield 35, 3) := by decide +kernel
theorem dX5_advance_57 : decode cX5_advance 57 = .ok (.putfield 57, 3) := by decide +kernel
theorem dX5_advance_60 : decode cX5_advance 60 = .ok (.aload_n 0, 1) := by decide +kernel
theorem dX5_advance_61 : decode cX5_advance 61 = .ok (.iconst 0, 1) := by decide +kernel
theorem dX5_advance_62 : decode cX5_advance 62 = .ok (.putfield 60, 3) := by decide +kernel
theorem dX5_advance_65 : decode cX5_advance 65 = .ok (.aload_n 0, 1) := by decide +kernel
theorem dX5_advance_66 : decode cX5_advance 66 = .ok (.getfield 35, 3) := by decide +kernel
theorem dX5_advance_69 : decode cX5_advance 69 = .ok (.aload_n 0, 1) := by decide +kernel
theorem dX5_advance_70 : decode cX5_advance 70 = .ok (.getfield 32, 3) := by decide +kernel
theorem dX5_advance_73 : decode cX5_advance 73 = .ok (.if_icmp .lt 11, 3) := by decide +kernel
theorem dX5_advance_76 : decode cX5_advance 76 = .ok (.aload_n 0, 1) := by decide +kernel
theorem dX5_advance_77 : decode cX5_advance 77 = .ok (.iconst 0, 1) := by decide +kernel
theorem dX5_advance_78 : decode cX5_advance 78 = .ok (.putfield 51, 3) := by decide +kernel
theorem dX5_advance_81 : decode cX5_advance 81 = .ok (.goto 165, 3) := by decide +kernel
theorem dX5_advance_84 : decode cX5_advance 84 = .ok (.aload_n 0, 1) := by decide +kernel
theorem dX5_advance_85 : decode cX5_advance 85 = .ok (.getfield 22, 3) := by decide +kernel
theorem dX5_advance_88 : decode cX5_advance 88 = .ok (.aload_n 0, 1) := by decide +kernel
theorem dX5_advance_89 : decode cX5_advance 89 = .ok (.getfield 35, 3) := by decide +kernel
theorem dX5_advance_92 : decode cX5_advance 92 = .ok (.baload, 1) := by decide +kernel
theorem dX5_advance_93 : decode cX5_advance 93 = .ok (.invokestatic 63, 3) := by decide +kernel
theorem dX5_advance_96 : decode cX5_advance 96 = .ok (.ifCond .eq 47, 3) := by decide +kernel
theorem dX5_advance_99 : decode cX5_advance 99 = .ok (.aload_n 0, 1) := by decide +kernel
theorem dX5_advance_100 : decode cX5_advance 100 = .ok (.iconst 1, 1) := by decide +kernel
theorem dX5_advance_101 : decode cX5_advance 101 = .ok (.putfield 51, 3) := by decide +kernel
theorem dX5_advance_104 : decode cX5_advance 104 = .ok (.aload_n 0, 1) := by decide +kernel
theorem dX5_advance_105 : decode cX5_advance 105 = .ok (.getfield 35, 3) := by decide +kernel
theorem dX5_advance_108 : decode cX5_advance 108 = .ok (.aload_n 0, 1) := by decide +kernel
theorem dX5_advance_109 : decode cX5_advance 109 = .ok (.getfield 32, 3) := by decide +kernel
theorem dX5_advance_112 : decode cX5_advance 112 = .ok (.if_icmp .ge 134, 3) := by decide +kernel
theorem dX5_advance_115 : decode cX5_advance 115 = .ok (.aload_n 0, 1) := by decide +kernel
theorem dX5_advance_116 : decode cX5_advance 116 = .ok (.getfield 22, 3) := by decide +kernel
theorem dX5_advance_119 : decode cX5_advance 119 = .ok (.aload_n 0, 1) := by decide +kernel
theorem dX5_advance_120 : decode cX5_advance 120 = .ok (.getfield 35, 3) := by decide +kernel
theorem dX5_advance_123 : decode cX5_advance 123 = .ok (.baload, 1) := by decide +kernel
theorem dX5_advance_124 : decode cX5_advance 124 = .ok (.invokestatic 63, 3) := by decide +kernel
theorem dX5_advance_127 : decode cX5_advance 127 = .ok (.ifCond .eq 119, 3) := by decide +kernel
theorem dX5_advance_130 : decode cX5_advance 130 = .ok (.aload_n 0, 1) := by decide +kernel
theorem dX5_advance_131 : decode cX5_advance 131 = .ok (.dup, 1) := by decide +kernel
theorem dX5_advance_132 : decode cX5_advance 132 = .ok (.getfield 35, 3) := by decide +kernel
theorem dX5_advance_135 : decode cX5_advance 135 = .ok (.iconst 1, 1) := by decide +kernel
theorem dX5_advance_136 : decode cX5_advance 136 = .ok (.iadd, 1) := by decide +kernel
theorem dX5_advance_137 : decode cX5_advance 137 = .ok (.putfield 35, 3) := by decide +kernel
theorem dX5_advance_140 : decode cX5_advance 140 = .ok (.goto (-36), 3) := by decide +kernel
theorem dX5_advance_143 : decode cX5_advance 143 = .ok (.aload_n 0, 1) := by decide +kernel
theorem dX5_advance_144 : decode cX5_advance 144 = .ok (.getfield 22, 3) := by decide +kernel
theorem dX5_advance_147 : decode cX5_advance 147 = .ok (.aload_n 0, 1) := by decide +kernel
theorem dX5_advance_148 : decode cX5_advance 148 = .ok (.getfield 35, 3) := by decide +kernel
theorem dX5_advance_151 : decode cX5_advance 151 = .ok (.baload, 1) := by decide +kernel
theorem dX5_advance_152 : decode cX5_advance 152 = .ok (.invokestatic 67, 3) := by decide +kernel
theorem dX5_advance_155 : decode cX5_advance 155 = .ok (.ifCond .eq 76, 3) := by decide +kernel
theorem dX5_advance_158 : decode cX5_advance 158 = .ok (.aload_n 0, 1) := by decide +kernel
theorem dX5_advance_159 : decode cX5_advance 159 = .ok (.iconst 2, 1) := by decide +kernel
theorem dX5_advance_160 : decode cX5_advance 160 = .ok (.putfield 51, 3) := by decide +kernel
theorem dX5_advance_163 : decode cX5_advance 163 = .ok (.aload_n 0, 1) := by decide +kernel
theorem dX5_advance_164 : decode cX5_advance 164 = .ok (.getfield 35, 3) := by decide +kernel
theorem dX5_advance_167 : decode cX5_advance 167 = .ok (.aload_n 0, 1) := by decide +kernel
theorem dX5_advance_168 : decode cX5_advance 168 = .ok (.getfield 32, 3) := by decide +kernel
theorem dX5_advance_171 : decode cX5_advance 171 = .ok (.if_icmp .ge 75, 3) := by decide +kernel
theorem dX5_advance_174 : decode cX5_advance 174 = .ok (.aload_n 0, 1) := by decide +kernel
theorem dX5_advance_175 : decode cX5_advance 175 = .ok (.getfield 22, 3) := by decide +kernel
theorem dX5_advance_178 : decode cX5_advance 178 = .ok (.aload_n 0, 1) := by decide +kernel
theorem dX5_advance_179 : decode cX5_advance 179 = .ok (.getfield 35, 3) := by decide +kernel
theorem dX5_advance_182 : decode cX5_advance 182 = .ok (.baload, 1) := by decide +kernel
theorem dX5_advance_183 : decode cX5_advance 183 = .ok (.invokestatic 67, 3) := by decide +kernel
theorem dX5_advance_186 : decode cX5_advance 186 = .ok (.ifCond .eq 60, 3) := by decide +kernel
theorem dX5_advance_189 : decode cX5_advance 189 = .ok (.aload_n 0, 1) := by decide +kernel
theorem dX5_advance_190 : decode cX5_advance 190 = .ok (.ldc 70, 2) := by decide +kernel
theorem dX5_advance_192 : decode cX5_advance 192 = .ok (.aload_n 0, 1) := by decide +kernel
theorem dX5_advance_193 : decode cX5_advance 193 = .ok (.getfield 60, 3) := by decide +kernel
theorem dX5_advance_196 : decode cX5_advance 196 = .ok (.bipush 10, 2) := by decide +kernel
theorem dX5_advance_198 : decode cX5_advance 198 = .ok (.imul, 1) := by decide +kernel
theorem dX5_advance_199 : decode cX5_advance 199 = .ok (.aload_n 0, 1) := by decide +kernel
theorem dX5_advance_200 : decode cX5_advance 200 = .ok (.getfield 22, 3) := by decide +kernel
theorem dX5_advance_203 : decode cX5_advance 203 = .ok (.aload_n 0, 1) := by decide +kernel
theorem dX5_advance_204 : decode cX5_advance 204 = .ok (.getfield 35, 3) := by decide +kernel
theorem dX5_advance_207 : decode cX5_advance 207 = .ok (.baload, 1) := by decide +kernel
theorem dX5_advance_208 : decode cX5_advance 208 = .ok (.iadd, 1) := by decide +kernel
theorem dX5_advance_209 : decode cX5_advance 209 = .ok (.bipush 48, 2) := by decide +kernel
theorem dX5_advance_211 : decode cX5_advance 211 = .ok (.isub, 1) := by decide +kernel
theorem dX5_advance_212 : decode cX5_advance 212 = .ok (.invokestatic 71, 3) := by decide +kernel
theorem dX5_advance_215 : decode cX5_advance 215 = .ok (.putfield 60, 3) := by decide +kernel
theorem dX5_advance_218 : decode cX5_advance 218 = .ok (.aload_n 0, 1) := by decide +kernel
theorem dX5_advance_219 : decode cX5_advance 219 = .ok (.dup, 1) := by decide +kernel
theorem dX5_advance_220 : decode cX5_advance 220 = .ok (.getfield 35, 3) := by decide +kernel
theorem dX5_advance_223 : decode cX5_advance 223 = .ok (.iconst 1, 1) := by decide +kernel
theorem dX5_advance_224 : decode cX5_advance 224 = .ok (.iadd, 1) := by decide +kernel
theorem dX5_advance_225 : decode cX5_advance 225 = .ok (.putfield 35, 3) := by decide +kernel
theorem dX5_advance_228 : decode cX5_advance 228 = .ok (.goto (-65), 3) := by decide +kernel
theorem dX5_advance_231 : decode cX5_advance 231 = .ok (.aload_n 0, 1) := by decide +kernel
theorem dX5_advance_232 : decode cX5_advance 232 = .ok (.iconst 3, 1) := by decide +kernel
theorem dX5_advance_233 : decode cX5_advance 233 = .ok (.putfield 51, 3) := by decide +kernel
theorem dX5_advance_236 : decode cX5_advance 236 = .ok (.aload_n 0, 1) := by decide +kernel
theorem dX5_advance_237 : decode cX5_advance 237 = .ok (.dup, 1) := by decide +kernel
theorem dX5_advance_238 : decode cX5_advance 238 = .ok (.getfield 35, 3) := by decide +kernel
theorem dX5_advance_241 : decode cX5_advance 241 = .ok (.iconst 1, 1) := by decide +kernel
theorem dX5_advance_242 : decode cX5_advance 242 = .ok (.iadd, 1) := by decide +kernel
theorem dX5_advance_243 : decode cX5_advance 243 = .ok (.putfield 35, 3) := by decide +kernel
theorem dX5_advance_246 : decode cX5_advance 246 = .ok (.return_, 1) := by decide +kernel
theorem dX5_isLetter_0 : decode cX5_isLetter 0 = .ok (.iload_n 0, 1) := by decide +kernel
theorem dX5_isLetter_1 : decode cX5_isLetter 1 = .ok (.bipush 97, 2) := by decide +kernel
theorem dX5_isLetter_3 : decode cX5_isLetter 3 = .ok (.if_icmp .lt 13, 3) := by decide +kernel
theorem dX5_isLetter_6 : decode cX5_isLetter 6 = .ok (.iload_n 0, 1) := by decide +kernel
theorem dX5_isLetter_7 : decode cX5_isLetter 7 = .ok (.bipush 122, 2) := by decide +kernel
theorem dX5_isLetter_9 : decode cX5_isLetter 9 = .ok (.if_icmp .gt 7, 3) := by decide +kernel
theorem dX5_isLetter_12 : decode cX5_isLetter 12 = .ok (.iconst 1, 1) := by decide +kernel
theorem dX5_isLetter_13 : decode cX5_isLetter 13 = .ok (.goto 4, 3) := by decide +kernel
theorem dX5_isLetter_16 : decode cX5_isLetter 16 = .ok (.iconst 0, 1) := by decide +kernel
theorem dX5_isLetter_17 : decode cX5_isLetter 17 = .ok (.ireturn, 1) := by decide +kernel
theorem dX5_isDigit_0 : decode cX5_isDigit 0 = .ok (.iload_n 0, 1) := by decide +kernel
theorem dX5_isDigit_1 : decode cX5_isDigit 1 = .ok (.bipush 48, 2) := by decide +kernel
theorem dX5_isDigit_3 : decode cX5_isDigit 3 = .ok (.if_icmp .lt 13, 3) := by decide +kernel
theorem dX5_isDigit_6 : decode cX5_isDigit 6 = .ok (.iload_n 0, 1) := by decide +kernel
theorem dX5_isDigit_7 : decode cX5_isDigit 7 = .ok (.bipush 57, 2) := by decide +kernel
theorem dX5_isDigit_9 : decode cX5_isDigit 9 = .ok (.if_icmp .gt 7, 3) := by decide +kernel
theorem dX5_isDigit_12 : decode cX5_isDigit 12 = .ok (.iconst 1, 1) := by decide +kernel
theorem dX5_isDigit_13 : decode cX5_isDigit 13 = .ok (.goto 4, 3) := by decide +kernel
theorem dX5_isDigit_16 : decode cX5_isDigit 16 = .ok (.iconst 0, 1) := by decide +kernel
theorem dX5_isDigit_17 : decode cX5_isDigit 17 = .ok (.ireturn, 1) := by decide +kernel
theorem dX5_isWord_0 : decode cX5_isWord 0 = .ok (.aload_n 0, 1) := by decide +kernel
theorem dX5_isWord_1 : decode cX5_isWord 1 = .ok (.getfield 51, 3) := by decide +kernel
theorem dX5_isWord_4 : decode cX5_isWord 4 = .ok (.iconst 1, 1) := by decide +kernel
theorem dX5_isWord_5 : decode cX5_isWord 5 = .ok (.if_icmp .ne 19, 3) := by decide +kernel
theorem dX5_isWord_8 : decode cX5_isWord 8 = .ok (.aload_n 0, 1) := by decide +kernel
theorem dX5_isWord_9 : decode cX5_isWord 9 = .ok (.getfield 35, 3) := by decide +kernel
theorem dX5_isWord_12 : decode cX5_isWord 12 = .ok (.aload_n 0, 1) := by decide +kernel
theorem dX5_isWord_13 : decode cX5_isWord 13 = .ok (.getfield 57, 3) := by decide +kernel
theorem dX5_isWord_16 : decode cX5_isWord 16 = .ok (.isub, 1) := by decide +kernel
theorem dX5_isWord_17 : decode cX5_isWord 17 = .ok (.aload_n 1, 1) := by decide +kernel
theorem dX5_isWord_18 : decode cX5_isWord 18 = .ok (.invokevirtual 77, 3) := by decide +kernel
theorem dX5_isWord_21 : decode cX5_isWord 21 = .ok (.if_icmp .eq 5, 3) := by decide +kernel
theorem dX5_isWord_24 : decode cX5_isWord 24 = .ok (.iconst 0, 1) := by decide +kernel
theorem dX5_isWord_25 : decode cX5_isWord 25 = .ok (.ireturn, 1) := by decide +kernel
theorem dX5_isWord_26 : decode cX5_isWord 26 = .ok (.iconst 0, 1) := by decide +kernel
theorem dX5_isWord_27 : decode cX5_isWord 27 = .ok (.istore_n 2, 1) := by decide +kernel
theorem dX5_isWord_28 : decode cX5_isWord 28 = .ok (.iload_n 2, 1) := by decide +kernel
theorem dX5_isWord_29 : decode cX5_isWord 29 = .ok (.aload_n 1, 1) := by decide +kernel
theorem dX5_isWord_30 : decode cX5_isWord 30 = .ok (.invokevirtual 77, 3) := by decide +kernel
theorem dX5_isWord_33 : decode cX5_isWord 33 = .ok (.if_icmp .ge 43, 3) := by decide +kernel
theorem dX5_isWord_36 : decode cX5_isWord 36 = .ok (.aload_n 0, 1) := by decide +kernel
theorem dX5_isWord_37 : decode cX5_isWord 37 = .ok (.getfield 57, 3) := by decide +kernel
theorem dX5_isWord_40 : decode cX5_isWord 40 = .ok (.iload_n 2, 1) := by decide +kernel
theorem dX5_isWord_41 : decode cX5_isWord 41 = .ok (.iadd, 1) := by decide +kernel
theorem dX5_isWord_42 : decode cX5_isWord 42 = .ok (.aload_n 0, 1) := by decide +kernel
theorem dX5_isWord_43 : decode cX5_isWord 43 = .ok (.getfield 32, 3) := by decide +kernel
theorem dX5_isWord_46 : decode cX5_isWord 46 = .ok (.if_icmp .ge 30, 3) := by decide +kernel
theorem dX5_isWord_49 : decode cX5_isWord 49 = .ok (.aload_n 0, 1) := by decide +kernel
theorem dX5_isWord_50 : decode cX5_isWord 50 = .ok (.getfield 22, 3) := by decide +kernel
theorem dX5_isWord_53 : decode cX5_isWord 53 = .ok (.aload_n 0, 1) := by decide +kernel
theorem dX5_isWord_54 : decode cX5_isWord 54 = .ok (.getfield 57, 3) := by decide +kernel
theorem dX5_isWord_57 : decode cX5_isWord 57 = .ok (.iload_n 2, 1) := by decide +kernel
theorem dX5_isWord_58 : decode cX5_isWord 58 = .ok (.iadd, 1) := by decide +kernel
theorem dX5_isWord_59 : decode cX5_isWord 59 = .ok (.baload, 1) := by decide +kernel
theorem dX5_isWord_60 : decode cX5_isWord 60 = .ok (.aload_n 1, 1) := by decide +kernel
theorem dX5_isWord_61 : decode cX5_isWord 61 = .ok (.iload_n 2, 1) := by decide +kernel
theorem dX5_isWord_62 : decode cX5_isWord 62 = .ok (.invokevirtual 82, 3) := by decide +kernel
theorem dX5_isWord_65 : decode cX5_isWord 65 = .ok (.if_icmp .eq 5, 3) := by decide +kernel
theorem dX5_isWord_68 : decode cX5_isWord 68 = .ok (.iconst 0, 1) := by decide +kernel
theorem dX5_isWord_69 : decode cX5_isWord 69 = .ok (.ireturn, 1) := by decide +kernel
theorem dX5_isWord_70 : decode cX5_isWord 70 = .ok (.iinc 2 1, 3) := by decide +kernel
theorem dX5_isWord_73 : decode cX5_isWord 73 = .ok (.goto (-45), 3) := by decide +kernel
theorem dX5_isWord_76 : decode cX5_isWord 76 = .ok (.iconst 1, 1) := by decide +kernel
theorem dX5_isWord_77 : decode cX5_isWord 77 = .ok (.ireturn, 1) := by decide +kernel
theorem dX5_passWord_0 : decode cX5_passWord 0 = .ok (.aload_n 0, 1) := by decide +kernel
theorem dX5_passWord_1 : decode cX5_passWord 1 = .ok (.aload_n 1, 1) := by decide +kernel
theorem dX5_passWord_2 : decode cX5_passWord 2 = .ok (.invokevirtual 86, 3) := by decide +kernel
theorem dX5_passWord_5 : decode cX5_passWord 5 = .ok (.ifCond .ne 9, 3) := by decide +kernel
theorem dX5_passWord_8 : decode cX5_passWord 8 = .ok (.aload_n 0, 1) := by decide +kernel
theorem dX5_passWord_9 : decode cX5_passWord 9 = .ok (.iconst 1, 1) := by decide +kernel
theorem dX5_passWord_10 : decode cX5_passWord 10 = .ok (.invokevirtual 90, 3) := by decide +kernel
theorem dX5_passWord_13 : decode cX5_passWord 13 = .ok (.ireturn, 1) := by decide +kernel
theorem dX5_passWord_14 : decode cX5_passWord 14 = .ok (.aload_n 0, 1) := by decide +kernel
theorem dX5_passWord_15 : decode cX5_passWord 15 = .ok (.invokevirtual 44, 3) := by decide +kernel
theorem dX5_passWord_18 : decode cX5_passWord 18 = .ok (.iconst 1, 1) := by decide +kernel
theorem dX5_passWord_19 : decode cX5_passWord 19 = .ok (.ireturn, 1) := by decide +kernel
theorem dX5_passEnd_0 : decode cX5_passEnd 0 = .ok (.aload_n 0, 1) := by decide +kernel
theorem dX5_passEnd_1 : decode cX5_passEnd 1 = .ok (.getfield 51, 3) := by decide +kernel
theorem dX5_passEnd_4 : decode cX5_passEnd 4 = .ok (.iconst 3, 1) := by decide +kernel
theorem dX5_passEnd_5 : decode cX5_passEnd 5 = .ok (.if_icmp .ne 28, 3) := by decide +kernel
theorem dX5_passEnd_8 : decode cX5_passEnd 8 = .ok (.aload_n 0, 1) := by decide +kernel
theorem dX5_passEnd_9 : decode cX5_passEnd 9 = .ok (.getfield 57, 3) := by decide +kernel
theorem dX5_passEnd_12 : decode cX5_passEnd 12 = .ok (.aload_n 0, 1) := by decide +kernel
theorem dX5_passEnd_13 : decode cX5_passEnd 13 = .ok (.getfield 32, 3) := by decide +kernel
theorem dX5_passEnd_16 : decode cX5_passEnd 16 = .ok (.if_icmp .ge 17, 3) := by decide +kernel
theorem dX5_passEnd_19 : decode cX5_passEnd 19 = .ok (.aload_n 0, 1) := by decide +kernel
theorem dX5_passEnd_20 : decode cX5_passEnd 20 = .ok (.getfield 22, 3) := by decide +kernel
theorem dX5_passEnd_23 : decode cX5_passEnd 23 = .ok (.aload_n 0, 1) := by decide +kernel
theorem dX5_passEnd_24 : decode cX5_passEnd 24 = .ok (.getfield 57, 3) := by decide +kernel
theorem dX5_passEnd_27 : decode cX5_passEnd 27 = .ok (.baload, 1) := by decide +kernel
theorem dX5_passEnd_28 : decode cX5_passEnd 28 = .ok (.bipush 59, 2) := by decide +kernel
theorem dX5_passEnd_30 : decode cX5_passEnd 30 = .ok (.if_icmp .eq 9, 3) := by decide +kernel
theorem dX5_passEnd_33 : decode cX5_passEnd 33 = .ok (.aload_n 0, 1) := by decide +kernel
theorem dX5_passEnd_34 : decode cX5_passEnd 34 = .ok (.iconst 1, 1) := by decide +kernel
theorem dX5_passEnd_35 : decode cX5_passEnd 35 = .ok (.invokevirtual 90, 3) := by decide +kernel
theorem dX5_passEnd_38 : decode cX5_passEnd 38 = .ok (.ireturn, 1) := by decide +kernel
theorem dX5_passEnd_39 : decode cX5_passEnd 39 = .ok (.aload_n 0, 1) := by decide +kernel
theorem dX5_passEnd_40 : decode cX5_passEnd 40 = .ok (.invokevirtual 44, 3) := by decide +kernel
theorem dX5_passEnd_43 : decode cX5_passEnd 43 = .ok (.iconst 1, 1) := by decide +kernel
theorem dX5_passEnd_44 : decode cX5_passEnd 44 = .ok (.ireturn, 1) := by decide +kernel
theorem dX5_checkNumber_0 : decode cX5_checkNumber 0 = .ok (.aload_n 0, 1) := by decide +kernel
theorem dX5_checkNumber_1 : decode cX5_checkNumber 1 = .ok (.getfield 51, 3) := by decide +kernel
theorem dX5_checkNumber_4 : decode cX5_checkNumber 4 = .ok (.iconst 2, 1) := by decide +kernel
theorem dX5_checkNumber_5 : decode cX5_checkNumber 5 = .ok (.if_icmp .eq 9, 3) := by decide +kernel
theorem dX5_checkNumber_8 : decode cX5_checkNumber 8 = .ok (.aload_n 0, 1) := by decide +kernel
theorem dX5_checkNumber_9 : decode cX5_checkNumber 9 = .ok (.iconst 1, 1) := by decide +kernel
theorem dX5_checkNumber_10 : decode cX5_checkNumber 10 = .ok (.invokevirtual 90, 3) := by decide +kernel
theorem dX5_checkNumber_13 : decode cX5_checkNumber 13 = .ok (.ireturn, 1) := by decide +kernel
theorem dX5_checkNumber_14 : decode cX5_checkNumber 14 = .ok (.aload_n 0, 1) := by decide +kernel
theorem dX5_checkNumber_15 : decode cX5_checkNumber 15 = .ok (.getfield 60, 3) := by decide +kernel
theorem dX5_checkNumber_18 : decode cX5_checkNumber 18 = .ok (.iload_n 1, 1) := by decide +kernel
theorem dX5_checkNumber_19 : decode cX5_checkNumber 19 = .ok (.if_icmp .le 11, 3) := by decide +kernel
theorem dX5_checkNumber_22 : decode cX5_checkNumber 22 = .ok (.aload_n 0, 1) := by decide +kernel
theorem dX5_checkNumber_23 : decode cX5_checkNumber 23 = .ok (.iconst 2, 1) := by decide +kernel
theorem dX5_checkNumber_24 : decode cX5_checkNumber 24 = .ok (.invokevirtual 90, 3) := by decide +kernel
theorem dX5_checkNumber_27 : decode cX5_checkNumber 27 = .ok (.ifCond .eq 7, 3) := by decide +kernel
theorem dX5_checkNumber_30 : decode cX5_checkNumber 30 = .ok (.iconst 1, 1) := by decide +kernel
theorem dX5_checkNumber_31 : decode cX5_checkNumber 31 = .ok (.goto 4, 3) := by decide +kernel
theorem dX5_checkNumber_34 : decode cX5_checkNumber 34 = .ok (.iconst 0, 1) := by decide +kernel
theorem dX5_checkNumber_35 : decode cX5_checkNumber 35 = .ok (.ireturn, 1) := by decide +kernel
theorem dX5_passNumber_0 : decode cX5_passNumber 0 = .ok (.aload_n 0, 1) := by decide +kernel
theorem dX5_passNumber_1 : decode cX5_passNumber 1 = .ok (.iload_n 1, 1) := by decide +kernel
theorem dX5_passNumber_2 : decode cX5_passNumber 2 = .ok (.invokevirtual 94, 3) := by decide +kernel
theorem dX5_passNumber_5 : decode cX5_passNumber 5 = .ok (.ifCond .ne 5, 3) := by decide +kernel
theorem dX5_passNumber_8 : decode cX5_passNumber 8 = .ok (.iconst (-1), 1) := by decide +kernel
theorem dX5_passNumber_9 : decode cX5_passNumber 9 = .ok (.ireturn, 1) := by decide +kernel
theorem dX5_passNumber_10 : decode cX5_passNumber 10 = .ok (.aload_n 0, 1) := by decide +kernel
theorem dX5_passNumber_11 : decode cX5_passNumber 11 = .ok (.getfield 60, 3) := by decide +kernel
theorem dX5_passNumber_14 : decode cX5_passNumber 14 = .ok (.istore_n 2, 1) := by decide +kernel
theorem dX5_passNumber_15 : decode cX5_passNumber 15 = .ok (.aload_n 0, 1) := by decide +kernel
theorem dX5_passNumber_16 : decode cX5_passNumber 16 = .ok (.invokevirtual 44, 3) := by decide +kernel
theorem dX5_passNumber_19 : decode cX5_passNumber 19 = .ok (.iload_n 2, 1) := by decide +kernel
theorem dX5_passNumber_20 : decode cX5_passNumber 20 = .ok (.ireturn, 1) := by decide +kernel
theorem dX5_readFrame_0 : decode cX5_readFrame 0 = .ok (.aload_n 0, 1) := by decide +kernel
theorem dX5_readFrame_1 : decode cX5_readFrame 1 = .ok (.getfield 12, 3) := by decide +kernel
theorem dX5_readFrame_4 : decode cX5_readFrame 4 = .ok (.aload_n 0, 1) := by decide +kernel
theorem dX5_readFrame_5 : decode cX5_readFrame 5 = .ok (.ldc 97, 2) := by decide +kernel
theorem dX5_readFrame_7 : decode cX5_readFrame 7 = .ok (.invokevirtual 99, 3) := by decide +kernel
theorem dX5_readFrame_10 : decode cX5_readFrame 10 = .ok (.ifCond .eq 13, 3) := by decide +kernel
theorem dX5_readFrame_13 : decode cX5_readFrame 13 = .ok (.aload_n 0, 1) := by decide +kernel
theorem dX5_readFrame_14 : decode cX5_readFrame 14 = .ok (.sipush 999, 3) := by decide +kernel
theorem dX5_readFrame_17 : decode cX5_readFrame 17 = .ok (.invokevirtual 102, 3) := by decide +kernel
theorem dX5_readFrame_20 : decode cX5_readFrame 20 = .ok (.goto 4, 3) := by decide +kernel
theorem dX5_readFrame_23 : decode cX5_readFrame 23 = .ok (.iconst (-1), 1) := by decide +kernel
theorem dX5_readFrame_24 : decode cX5_readFrame 24 = .ok (.putfield 106, 3) := by decide +kernel
theorem dX5_readFrame_27 : decode cX5_readFrame 27 = .ok (.aload_n 0, 1) := by decide +kernel
theorem dX5_readFrame_28 : decode cX5_readFrame 28 = .ok (.getfield 12, 3) := by decide +kernel
theorem dX5_readFrame_31 : decode cX5_readFrame 31 = .ok (.getfield 106, 3) := by decide +kernel
theorem dX5_readFrame_34 : decode cX5_readFrame 34 = .ok (.iconst (-1), 1) := by decide +kernel
theorem dX5_readFrame_35 : decode cX5_readFrame 35 = .ok (.if_icmp .ne 5, 3) := by decide +kernel
theorem dX5_readFrame_38 : decode cX5_readFrame 38 = .ok (.iconst 0, 1) := by decide +kernel
theorem dX5_readFrame_39 : decode cX5_readFrame 39 = .ok (.ireturn, 1) := by decide +kernel
theorem dX5_readFrame_40 : decode cX5_readFrame 40 = .ok (.aload_n 0, 1) := by decide +kernel
theorem dX5_readFrame_41 : decode cX5_readFrame 41 = .ok (.getfield 12, 3) := by decide +kernel
theorem dX5_readFrame_44 : decode cX5_readFrame 44 = .ok (.aload_n 0, 1) := by decide +kernel
theorem dX5_readFrame_45 : decode cX5_readFrame 45 = .ok (.ldc 108, 2) := by decide +kernel
theorem dX5_readFrame_47 : decode cX5_readFrame 47 = .ok (.invokevirtual 99, 3) := by decide +kernel
theorem dX5_readFrame_50 : decode cX5_readFrame 50 = .ok (.ifCond .eq 12, 3) := by decide +kernel
theorem dX5_readFrame_53 : decode cX5_readFrame 53 = .ok (.aload_n 0, 1) := by decide +kernel
theorem dX5_readFrame_54 : decode cX5_readFrame 54 = .ok (.bipush 12, 2) := by decide +kernel
theorem dX5_readFrame_56 : decode cX5_readFrame 56 = .ok (.invokevirtual 102, 3) := by decide +kernel
theorem dX5_readFrame_59 : decode cX5_readFrame 59 = .ok (.goto 4, 3) := by decide +kernel
theorem dX5_readFrame_62 : decode cX5_readFrame 62 = .ok (.iconst (-1), 1) := by decide +kernel
theorem dX5_readFrame_63 : decode cX5_readFrame 63 = .ok (.putfield 110, 3) := by decide +kernel
theorem dX5_readFrame_66 : decode cX5_readFrame 66 = .ok (.aload_n 0, 1) := by decide +kernel
theorem dX5_readFrame_67 : decode cX5_readFrame 67 = .ok (.getfield 12, 3) := by decide +kernel
theorem dX5_readFrame_70 : decode cX5_readFrame 70 = .ok (.getfield 110, 3) := by decide +kernel
theorem dX5_readFrame_73 : decode cX5_readFrame 73 = .ok (.iconst (-1), 1) := by decide +kernel
theorem dX5_readFrame_74 : decode cX5_readFrame 74 = .ok (.if_icmp .eq 14, 3) := by decide +kernel
theorem dX5_readFrame_77 : decode cX5_readFrame 77 = .ok (.aload_n 0, 1) := by decide +kernel
theorem dX5_readFrame_78 : decode cX5_readFrame 78 = .ok (.invokevirtual 112, 3) := by decide +kernel
theorem dX5_readFrame_81 : decode cX5_readFrame 81 = .ok (.ifCond .eq 7, 3) := by decide +kernel
theorem dX5_readFrame_84 : decode cX5_readFrame 84 = .ok (.iconst 1, 1) := by decide +kernel
theorem dX5_readFrame_85 : decode cX5_readFrame 85 = .ok (.goto 4, 3) := by decide +kernel
theorem dX5_readFrame_88 : decode cX5_readFrame 88 = .ok (.iconst 0, 1) := by decide +kernel
theorem dX5_readFrame_89 : decode cX5_readFrame 89 = .ok (.ireturn, 1) := by decide +kernel
theorem dX5_readStatement_0 : decode cX5_readStatement 0 = .ok (.aload_n 0, 1) := by decide +kernel
theorem dX5_readStatement_1 : decode cX5_readStatement 1 = .ok (.ldc 115, 2) := by decide +kernel
theorem dX5_readStatement_3 : decode cX5_readStatement 3 = .ok (.invokevirtual 86, 3) := by decide +kernel
theorem dX5_readStatement_6 : decode cX5_readStatement 6 = .ok (.ifCond .eq 8, 3) := by decide +kernel
theorem dX5_readStatement_9 : decode cX5_readStatement 9 = .ok (.aload_n 0, 1) := by decide +kernel
theorem dX5_readStatement_10 : decode cX5_readStatement 10 = .ok (.invokevirtual 117, 3) := by decide +kernel
theorem dX5_readStatement_13 : decode cX5_readStatement 13 = .ok (.ireturn, 1) := by decide +kernel
theorem dX5_readStatement_14 : decode cX5_readStatement 14 = .ok (.aload_n 0, 1) := by decide +kernel
theorem dX5_readStatement_15 : decode cX5_readStatement 15 = .ok (.ldc 120, 2) := by decide +kernel
theorem dX5_readStatement_17 : decode cX5_readStatement 17 = .ok (.invokevirtual 86, 3) := by decide +kernel
theorem dX5_readStatement_20 : decode cX5_readStatement 20 = .ok (.ifCond .ne 12, 3) := by decide +kernel
theorem dX5_readStatement_23 : decode cX5_readStatement 23 = .ok (.aload_n 0, 1) := by decide +kernel
theorem dX5_readStatement_24 : decode cX5_readStatement 24 = .ok (.ldc 122, 2) := by decide +kernel
theorem dX5_readStatement_26 : decode cX5_readStatement 26 = .ok (.invokevirtual 86, 3) := by decide +kernel
theorem dX5_readStatement_29 : decode cX5_readStatement 29 = .ok (.ifCond .eq 14, 3) := by decide +kernel
theorem dX5_readStatement_32 : decode cX5_readStatement 32 = .ok (.aload_n 0, 1) := by decide +kernel
theorem dX5_readStatement_33 : decode cX5_readStatement 33 = .ok (.aload_n 0, 1) := by decide +kernel
theorem dX5_readStatement_34 : decode cX5_readStatement 34 = .ok (.ldc 120, 2) := by decide +kernel
theorem dX5_readStatement_36 : decode cX5_readStatement 36 = .ok (.invokevirtual 86, 3) := by decide +kernel
theorem dX5_readStatement_39 : decode cX5_readStatement 39 = .ok (.invokevirtual 124, 3) := by decide +kernel
theorem dX5_readStatement_42 : decode cX5_readStatement 42 = .ok (.ireturn, 1) := by decide +kernel
theorem dX5_readStatement_43 : decode cX5_readStatement 43 = .ok (.aload_n 0, 1) := by decide +kernel
theorem dX5_readStatement_44 : decode cX5_readStatement 44 = .ok (.ldc 128, 2) := by decide +kernel
theorem dX5_readStatement_46 : decode cX5_readStatement 46 = .ok (.invokevirtual 86, 3) := by decide +kernel
theorem dX5_readStatement_49 : decode cX5_readStatement 49 = .ok (.ifCond .ne 12, 3) := by decide +kernel
theorem dX5_readStatement_52 : decode cX5_readStatement 52 = .ok (.aload_n 0, 1) := by decide +kernel
theorem dX5_readStatement_53 : decode cX5_readStatement 53 = .ok (.ldc 130, 2) := by decide +kernel
theorem dX5_readStatement_55 : decode cX5_readStatement 55 = .ok (.invokevirtual 86, 3) := by decide +kernel
theorem dX5_readStatement_58 : decode cX5_readStatement 58 = .ok (.ifCond .eq 14, 3) := by decide +kernel
theorem dX5_readStatement_61 : decode cX5_readStatement 61 = .ok (.aload_n 0, 1) := by decide +kernel
theorem dX5_readStatement_62 : decode cX5_readStatement 62 = .ok (.aload_n 0, 1) := by decide +kernel
theorem dX5_readStatement_63 : decode cX5_readStatement 63 = .ok (.ldc 128, 2) := by decide +kernel
theorem dX5_readStatement_65 : decode cX5_readStatement 65 = .ok (.invokevirtual 86, 3) := by decide +kernel
theorem dX5_readStatement_68 : decode cX5_readStatement 68 = .ok (.invokevirtual 132, 3) := by decide +kernel
theorem dX5_readStatement_71 : decode cX5_readStatement 71 = .ok (.ireturn, 1) := by decide +kernel
theorem dX5_readStatement_72 : decode cX5_readStatement 72 = .ok (.aload_n 0, 1) := by decide +kernel
theorem dX5_readStatement_73 : decode cX5_readStatement 73 = .ok (.iconst 1, 1) := by decide +kernel
theorem dX5_readStatement_74 : decode cX5_readStatement 74 = .ok (.invokevirtual 90, 3) := by decide +kernel
theorem dX5_readStatement_77 : decode cX5_readStatement 77 = .ok (.ireturn, 1) := by decide +kernel
theorem dX5_readItem_0 : decode cX5_readItem 0 = .ok (.aload_n 0, 1) := by decide +kernel
theorem dX5_readItem_1 : decode cX5_readItem 1 = .ok (.getfield 12, 3) := by decide +kernel
theorem dX5_readItem_4 : decode cX5_readItem 4 = .ok (.getfield 135, 3) := by decide +kernel
theorem dX5_readItem_7 : decode cX5_readItem 7 = .ok (.bipush 12, 2) := by decide +kernel
theorem dX5_readItem_9 : decode cX5_readItem 9 = .ok (.if_icmp .lt 9, 3) := by decide +kernel
theorem dX5_readItem_12 : decode cX5_readItem 12 = .ok (.aload_n 0, 1) := by decide +kernel
theorem dX5_readItem_13 : decode cX5_readItem 13 = .ok (.iconst 4, 1) := by decide +kernel
theorem dX5_readItem_14 : decode cX5_readItem 14 = .ok (.invokevirtual 90, 3) := by decide +kernel
theorem dX5_readItem_17 : decode cX5_readItem 17 = .ok (.ireturn, 1) := by decide +kernel
theorem dX5_readItem_18 : decode cX5_readItem 18 = .ok (.aload_n 0, 1) := by decide +kernel
theorem dX5_readItem_19 : decode cX5_readItem 19 = .ok (.invokevirtual 44, 3) := by decide +kernel
theorem dX5_readItem_22 : decode cX5_readItem 22 = .ok (.aload_n 0, 1) := by decide +kernel
theorem dX5_readItem_23 : decode cX5_readItem 23 = .ok (.ldc 138, 2) := by decide +kernel
theorem dX5_readItem_25 : decode cX5_readItem 25 = .ok (.invokevirtual 99, 3) := by decide +kernel
theorem dX5_readItem_28 : decode cX5_readItem 28 = .ok (.ifCond .eq 12, 3) := by decide +kernel
theorem dX5_readItem_31 : decode cX5_readItem 31 = .ok (.aload_n 0, 1) := by decide +kernel
theorem dX5_readItem_32 : decode cX5_readItem 32 = .ok (.bipush 99, 2) := by decide +kernel
theorem dX5_readItem_34 : decode cX5_readItem 34 = .ok (.invokevirtual 102, 3) := by decide +kernel
theorem dX5_readItem_37 : decode cX5_readItem 37 = .ok (.goto 4, 3) := by decide +kernel
theorem dX5_readItem_40 : decode cX5_readItem 40 = .ok (.iconst (-1), 1) := by decide +kernel
theorem dX5_readItem_41 : decode cX5_readItem 41 = .ok (.istore_n 1, 1) := by decide +kernel
theorem dX5_readItem_42 : decode cX5_readItem 42 = .ok (.iload_n 1, 1) := by decide +kernel
theorem dX5_readItem_43 : decode cX5_readItem 43 = .ok (.iconst (-1), 1) := by decide +kernel
theorem dX5_readItem_44 : decode cX5_readItem 44 = .ok (.if_icmp .ne 5, 3) := by decide +kernel
theorem dX5_readItem_47 : decode cX5_readItem 47 = .ok (.iconst 0, 1) := by decide +kernel
theorem dX5_readItem_48 : decode cX5_readItem 48 = .ok (.ireturn, 1) := by decide +kernel
theorem dX5_readItem_49 : decode cX5_readItem 49 = .ok (.aload_n 0, 1) := by decide +kernel
theorem dX5_readItem_50 : decode cX5_readItem 50 = .ok (.ldc 140, 2) := by decide +kernel
theorem dX5_readItem_52 : decode cX5_readItem 52 = .ok (.invokevirtual 99, 3) := by decide +kernel
theorem dX5_readItem_55 : decode cX5_readItem 55 = .ok (.ifCond .eq 12, 3) := by decide +kernel
theorem dX5_readItem_58 : decode cX5_readItem 58 = .ok (.aload_n 0, 1) := by decide +kernel
theorem dX5_readItem_59 : decode cX5_readItem 59 = .ok (.bipush 99, 2) := by decide +kernel
theorem dX5_readItem_61 : decode cX5_readItem 61 = .ok (.invokevirtual 102, 3) := by decide +kernel
theorem dX5_readItem_64 : decode cX5_readItem 64 = .ok (.goto 4, 3) := by decide +kernel
theorem dX5_readItem_67 : decode cX5_readItem 67 = .ok (.iconst (-1), 1) := by decide +kernel
theorem dX5_readItem_68 : decode cX5_readItem 68 = .ok (.istore_n 2, 1) := by decide +kernel
theorem dX5_readItem_69 : decode cX5_readItem 69 = .ok (.iload_n 2, 1) := by decide +kernel
theorem dX5_readItem_70 : decode cX5_readItem 70 = .ok (.iconst (-1), 1) := by decide +kernel
theorem dX5_readItem_71 : decode cX5_readItem 71 = .ok (.if_icmp .ne 5, 3) := by decide +kernel
theorem dX5_readItem_74 : decode cX5_readItem 74 = .ok (.iconst 0, 1) := by decide +kernel
theorem dX5_readItem_75 : decode cX5_readItem 75 = .ok (.ireturn, 1) := by decide +kernel
theorem dX5_readItem_76 : decode cX5_readItem 76 = .ok (.aload_n 0, 1) := by decide +kernel
theorem dX5_readItem_77 : decode cX5_readItem 77 = .ok (.ldc 142, 2) := by decide +kernel
theorem dX5_readItem_79 : decode cX5_readItem 79 = .ok (.invokevirtual 99, 3) := by decide +kernel
theorem dX5_readItem_82 : decode cX5_readItem 82 = .ok (.ifCond .eq 12, 3) := by decide +kernel
theorem dX5_readItem_85 : decode cX5_readItem 85 = .ok (.aload_n 0, 1) := by decide +kernel
theorem dX5_readItem_86 : decode cX5_readItem 86 = .ok (.bipush 99, 2) := by decide +kernel
theorem dX5_readItem_88 : decode cX5_readItem 88 = .ok (.invokevirtual 102, 3) := by decide +kernel
theorem dX5_readItem_91 : decode cX5_readItem 91 = .ok (.goto 4, 3) := by decide +kernel
theorem dX5_readItem_94 : decode cX5_readItem 94 = .ok (.iconst (-1), 1) := by decide +kernel
theorem dX5_readItem_95 : decode cX5_readItem 95 = .ok (.istore_n 3, 1) := by decide +kernel
theorem dX5_readItem_96 : decode cX5_readItem 96 = .ok (.iload_n 3, 1) := by decide +kernel
theorem dX5_readItem_97 : decode cX5_readItem 97 = .ok (.iconst (-1), 1) := by decide +kernel
theorem dX5_readItem_98 : decode cX5_readItem 98 = .ok (.if_icmp .ne 5, 3) := by decide +kernel
theorem dX5_readItem_101 : decode cX5_readItem 101 = .ok (.iconst 0, 1) := by decide +kernel
theorem dX5_readItem_102 : decode cX5_readItem 102 = .ok (.ireturn, 1) := by decide +kernel
theorem dX5_readItem_103 : decode cX5_readItem 103 = .ok (.aload_n 0, 1) := by decide +kernel
theorem dX5_readItem_104 : decode cX5_readItem 104 = .ok (.getfield 12, 3) := by decide +kernel
theorem dX5_readItem_107 : decode cX5_readItem 107 = .ok (.iload_n 1, 1) := by decide +kernel
theorem dX5_readItem_108 : decode cX5_readItem 108 = .ok (.iload_n 2, 1) := by decide +kernel
theorem dX5_readItem_109 : decode cX5_readItem 109 = .ok (.iload_n 3, 1) := by decide +kernel
theorem dX5_readItem_110 : decode cX5_readItem 110 = .ok (.invokevirtual 144, 3) := by decide +kernel
theorem dX5_readItem_113 : decode cX5_readItem 113 = .ok (.aload_n 0, 1) := by decide +kernel
theorem dX5_readItem_114 : decode cX5_readItem 114 = .ok (.invokevirtual 112, 3) := by decide +kernel
theorem dX5_readItem_117 : decode cX5_readItem 117 = .ok (.ireturn, 1) := by decide +kernel
theorem dX5_readPair_0 : decode cX5_readPair 0 = .ok (.aload_n 0, 1) := by decide +kernel
theorem dX5_readPair_1 : decode cX5_readPair 1 = .ok (.invokevirtual 44, 3) := by decide +kernel
theorem dX5_readPair_4 : decode cX5_readPair 4 = .ok (.aload_n 0, 1) := by decide +kernel
theorem dX5_readPair_5 : decode cX5_readPair 5 = .ok (.aload_n 0, 1) := by decide +kernel
theorem dX5_readPair_6 : decode cX5_readPair 6 = .ok (.getfield 12, 3) := by decide +kernel
theorem dX5_readPair_9 : decode cX5_readPair 9 = .ok (.getfield 135, 3) := by decide +kernel
theorem dX5_readPair_12 : decode cX5_readPair 12 = .ok (.iconst 1, 1) := by decide +kernel
theorem dX5_readPair_13 : decode cX5_readPair 13 = .ok (.isub, 1) := by decide +kernel
theorem dX5_readPair_14 : decode cX5_readPair 14 = .ok (.invokevirtual 102, 3) := by decide +kernel
theorem dX5_readPair_17 : decode cX5_readPair 17 = .ok (.istore_n 2, 1) := by decide +kernel
theorem dX5_readPair_18 : decode cX5_readPair 18 = .ok (.iload_n 2, 1) := by decide +kernel
theorem dX5_readPair_19 : decode cX5_readPair 19 = .ok (.iconst (-1), 1) := by decide +kernel
theorem dX5_readPair_20 : decode cX5_readPair 20 = .ok (.if_icmp .eq 19, 3) := by decide +kernel
theorem dX5_readPair_23 : decode cX5_readPair 23 = .ok (.aload_n 0, 1) := by decide +kernel
theorem dX5_readPair_24 : decode cX5_readPair 24 = .ok (.aload_n 0, 1) := by decide +kernel
theorem dX5_readPair_25 : decode cX5_readPair 25 = .ok (.getfield 12, 3) := by decide +kernel
theorem dX5_readPair_28 : decode cX5_readPair 28 = .ok (.getfield 135, 3) := by decide +kernel
theorem dX5_readPair_31 : decode cX5_readPair 31 = .ok (.iconst 1, 1) := by decide +kernel
theorem dX5_readPair_32 : decode cX5_readPair 32 = .ok (.isub, 1) := by decide +kernel
theorem dX5_readPair_33 : decode cX5_readPair 33 = .ok (.invokevirtual 94, 3) := by decide +kernel
theorem dX5_readPair_36 : decode cX5_readPair 36 = .ok (.ifCond .ne 5, 3) := by decide +kernel
theorem dX5_readPair_39 : decode cX5_readPair 39 = .ok (.iconst 0, 1) := by decide +kernel
theorem dX5_readPair_40 : decode cX5_readPair 40 = .ok (.ireturn, 1) := by decide +kernel
theorem dX5_readPair_41 : decode cX5_readPair 41 = .ok (.aload_n 0, 1) := by decide +kernel
theorem dX5_readPair_42 : decode cX5_readPair 42 = .ok (.getfield 60, 3) := by decide +kernel
theorem dX5_readPair_45 : decode cX5_readPair 45 = .ok (.istore_n 3, 1) := by decide +kernel
theorem dX5_readPair_46 : decode cX5_readPair 46 = .ok (.iload_n 1, 1) := by decide +kernel
theorem dX5_readPair_47 : decode cX5_readPair 47 = .ok (.ifCond .eq 13, 3) := by decide +kernel
theorem dX5_readPair_50 : decode cX5_readPair 50 = .ok (.aload_n 0, 1) := by decide +kernel
theorem dX5_readPair_51 : decode cX5_readPair 51 = .ok (.getfield 12, 3) := by decide +kernel
theorem dX5_readPair_54 : decode cX5_readPair 54 = .ok (.getfield 148, 3) := by decide +kernel
theorem dX5_readPair_57 : decode cX5_readPair 57 = .ok (.goto 10, 3) := by decide +kernel
theorem dX5_readPair_60 : decode cX5_readPair 60 = .ok (.aload_n 0, 1) := by decide +kernel
theorem dX5_readPair_61 : decode cX5_readPair 61 = .ok (.getfield 12, 3) := by decide +kernel
theorem dX5_readPair_64 : decode cX5_readPair 64 = .ok (.getfield 152, 3) := by decide +kernel
theorem dX5_readPair_67 : decode cX5_readPair 67 = .ok (.astore 4, 2) := by decide +kernel
theorem dX5_readPair_69 : decode cX5_readPair 69 = .ok (.iload_n 3, 1) := by decide +kernel
theorem dX5_readPair_70 : decode cX5_readPair 70 = .ok (.iload_n 2, 1) := by decide +kernel
theorem dX5_readPair_71 : decode cX5_readPair 71 = .ok (.if_icmp .eq 14, 3) := by decide +kernel
theorem dX5_readPair_74 : decode cX5_readPair 74 = .ok (.aload 4, 2) := by decide +kernel
theorem dX5_readPair_76 : decode cX5_readPair 76 = .ok (.iload_n 2, 1) := by decide +kernel
theorem dX5_readPair_77 : decode cX5_readPair 77 = .ok (.iaload, 1) := by decide +kernel
theorem dX5_readPair_78 : decode cX5_readPair 78 = .ok (.iload_n 3, 1) := by decide +kernel
theorem dX5_readPair_79 : decode cX5_readPair 79 = .ok (.invokestatic 155, 3) := by decide +kernel
theorem dX5_readPair_82 : decode cX5_readPair 82 = .ok (.ifCond .eq 9, 3) := by decide +kernel
theorem dX5_readPair_85 : decode cX5_readPair 85 = .ok (.aload_n 0, 1) := by decide +kernel
theorem dX5_readPair_86 : decode cX5_readPair 86 = .ok (.iconst 3, 1) := by decide +kernel
theorem dX5_readPair_87 : decode cX5_readPair 87 = .ok (.invokevirtual 90, 3) := by decide +kernel
theorem dX5_readPair_90 : decode cX5_readPair 90 = .ok (.ireturn, 1) := by decide +kernel
theorem dX5_readPair_91 : decode cX5_readPair 91 = .ok (.aload 4, 2) := by decide +kernel
theorem dX5_readPair_93 : decode cX5_readPair 93 = .ok (.iload_n 2, 1) := by decide +kernel
theorem dX5_readPair_94 : decode cX5_readPair 94 = .ok (.aload 4, 2) := by decide +kernel
theorem dX5_readPair_96 : decode cX5_readPair 96 = .ok (.iload_n 2, 1) := by decide +kernel
theorem dX5_readPair_97 : decode cX5_readPair 97 = .ok (.iaload, 1) := by decide +kernel
theorem dX5_readPair_98 : decode cX5_readPair 98 = .ok (.iload_n 3, 1) := by decide +kernel
theorem dX5_readPair_99 : decode cX5_readPair 99 = .ok (.iconst 1, 1) := by decide +kernel
theorem dX5_readPair_100 : decode cX5_readPair 100 = .ok (.invokestatic 159, 3) := by decide +kernel
theorem dX5_readPair_103 : decode cX5_readPair 103 = .ok (.iastore, 1) := by decide +kernel
theorem dX5_readPair_104 : decode cX5_readPair 104 = .ok (.iload_n 1, 1) := by decide +kernel
theorem dX5_readPair_105 : decode cX5_readPair 105 = .ok (.ifCond .eq 16, 3) := by decide +kernel
theorem dX5_readPair_108 : decode cX5_readPair 108 = .ok (.aload 4, 2) := by decide +kernel
theorem dX5_readPair_110 : decode cX5_readPair 110 = .ok (.iload_n 3, 1) := by decide +kernel
theorem dX5_readPair_111 : decode cX5_readPair 111 = .ok (.aload 4, 2) := by decide +kernel
theorem dX5_readPair_113 : decode cX5_readPair 113 = .ok (.iload_n 3, 1) := by decide +kernel
theorem dX5_readPair_114 : decode cX5_readPair 114 = .ok (.iaload, 1) := by decide +kernel
theorem dX5_readPair_115 : decode cX5_readPair 115 = .ok (.iload_n 2, 1) := by decide +kernel
theorem dX5_readPair_116 : decode cX5_readPair 116 = .ok (.iconst 1, 1) := by decide +kernel
theorem dX5_readPair_117 : decode cX5_readPair 117 = .ok (.invokestatic 159, 3) := by decide +kernel
theorem dX5_readPair_120 : decode cX5_readPair 120 = .ok (.iastore, 1) := by decide +kernel
theorem dX5_readPair_121 : decode cX5_readPair 121 = .ok (.aload_n 0, 1) := by decide +kernel
theorem dX5_readPair_122 : decode cX5_readPair 122 = .ok (.invokevirtual 44, 3) := by decide +kernel
theorem dX5_readPair_125 : decode cX5_readPair 125 = .ok (.aload_n 0, 1) := by decide +kernel
theorem dX5_readPair_126 : decode cX5_readPair 126 = .ok (.invokevirtual 112, 3) := by decide +kernel
theorem dX5_readPair_129 : decode cX5_readPair 129 = .ok (.ireturn, 1) := by decide +kernel
theorem dX5_readSingle_0 : decode cX5_readSingle 0 = .ok (.aload_n 0, 1) := by decide +kernel
theorem dX5_readSingle_1 : decode cX5_readSingle 1 = .ok (.invokevirtual 44, 3) := by decide +kernel
theorem dX5_readSingle_4 : decode cX5_readSingle 4 = .ok (.aload_n 0, 1) := by decide +kernel
theorem dX5_readSingle_5 : decode cX5_readSingle 5 = .ok (.aload_n 0, 1) := by decide +kernel
theorem dX5_readSingle_6 : decode cX5_readSingle 6 = .ok (.getfield 12, 3) := by decide +kernel
theorem dX5_readSingle_9 : decode cX5_readSingle 9 = .ok (.getfield 135, 3) := by decide +kernel
theorem dX5_readSingle_12 : decode cX5_readSingle 12 = .ok (.iconst 1, 1) := by decide +kernel
theorem dX5_readSingle_13 : decode cX5_readSingle 13 = .ok (.isub, 1) := by decide +kernel
theorem dX5_readSingle_14 : decode cX5_readSingle 14 = .ok (.invokevirtual 94, 3) := by decide +kernel
theorem dX5_readSingle_17 : decode cX5_readSingle 17 = .ok (.ifCond .ne 5, 3) := by decide +kernel
theorem dX5_readSingle_20 : decode cX5_readSingle 20 = .ok (.iconst 0, 1) := by decide +kernel
theorem dX5_readSingle_21 : decode cX5_readSingle 21 = .ok (.ireturn, 1) := by decide +kernel
theorem dX5_readSingle_22 : decode cX5_readSingle 22 = .ok (.iload_n 1, 1) := by decide +kernel
theorem dX5_readSingle_23 : decode cX5_readSingle 23 = .ok (.ifCond .eq 13, 3) := by decide +kernel
theorem dX5_readSingle_26 : decode cX5_readSingle 26 = .ok (.aload_n 0, 1) := by decide +kernel
theorem dX5_readSingle_27 : decode cX5_readSingle 27 = .ok (.getfield 12, 3) := by decide +kernel
theorem dX5_readSingle_30 : decode cX5_readSingle 30 = .ok (.getfield 163, 3) := by decide +kernel
theorem dX5_readSingle_33 : decode cX5_readSingle 33 = .ok (.goto 10, 3) := by decide +kernel
theorem dX5_readSingle_36 : decode cX5_readSingle 36 = .ok (.aload_n 0, 1) := by decide +kernel
theorem dX5_readSingle_37 : decode cX5_readSingle 37 = .ok (.getfield 12, 3) := by decide +kernel
theorem dX5_readSingle_40 : decode cX5_readSingle 40 = .ok (.getfield 166, 3) := by decide +kernel
theorem dX5_readSingle_43 : decode cX5_readSingle 43 = .ok (.istore_n 2, 1) := by decide +kernel
theorem dX5_readSingle_44 : decode cX5_readSingle 44 = .ok (.iload_n 2, 1) := by decide +kernel
theorem dX5_readSingle_45 : decode cX5_readSingle 45 = .ok (.aload_n 0, 1) := by decide +kernel
theorem dX5_readSingle_46 : decode cX5_readSingle 46 = .ok (.getfield 60, 3) := by decide +kernel
theorem dX5_readSingle_49 : decode cX5_readSingle 49 = .ok (.invokestatic 155, 3) := by decide +kernel
theorem dX5_readSingle_52 : decode cX5_readSingle 52 = .ok (.ifCond .eq 9, 3) := by decide +kernel
theorem dX5_readSingle_55 : decode cX5_readSingle 55 = .ok (.aload_n 0, 1) := by decide +kernel
theorem dX5_readSingle_56 : decode cX5_readSingle 56 = .ok (.iconst 3, 1) := by decide +kernel
theorem dX5_readSingle_57 : decode cX5_readSingle 57 = .ok (.invokevirtual 90, 3) := by decide +kernel
theorem dX5_readSingle_60 : decode cX5_readSingle 60 = .ok (.ireturn, 1) := by decide +kernel
theorem dX5_readSingle_61 : decode cX5_readSingle 61 = .ok (.iload_n 1, 1) := by decide +kernel
theorem dX5_readSingle_62 : decode cX5_readSingle 62 = .ok (.ifCond .eq 22, 3) := by decide +kernel
theorem dX5_readSingle_65 : decode cX5_readSingle 65 = .ok (.aload_n 0, 1) := by decide +kernel
theorem dX5_readSingle_66 : decode cX5_readSingle 66 = .ok (.getfield 12, 3) := by decide +kernel
theorem dX5_readSingle_69 : decode cX5_readSingle 69 = .ok (.iload_n 2, 1) := by decide +kernel
theorem dX5_readSingle_70 : decode cX5_readSingle 70 = .ok (.aload_n 0, 1) := by decide +kernel
theorem dX5_readSingle_71 : decode cX5_readSingle 71 = .ok (.getfield 60, 3) := by decide +kernel
theorem dX5_readSingle_74 : decode cX5_readSingle 74 = .ok (.iconst 1, 1) := by decide +kernel
theorem dX5_readSingle_75 : decode cX5_readSingle 75 = .ok (.invokestatic 159, 3) := by decide +kernel
theorem dX5_readSingle_78 : decode cX5_readSingle 78 = .ok (.putfield 163, 3) := by decide +kernel
theorem dX5_readSingle_81 : decode cX5_readSingle 81 = .ok (.goto 19, 3) := by decide +kernel
theorem dX5_readSingle_84 : decode cX5_readSingle 84 = .ok (.aload_n 0, 1) := by decide +kernel
theorem dX5_readSingle_85 : decode cX5_readSingle 85 = .ok (.getfield 12, 3) := by decide +kernel
theorem dX5_readSingle_88 : decode cX5_readSingle 88 = .ok (.iload_n 2, 1) := by decide +kernel
theorem dX5_readSingle_89 : decode cX5_readSingle 89 = .ok (.aload_n 0, 1) := by decide +kernel
theorem dX5_readSingle_90 : decode cX5_readSingle 90 = .ok (.getfield 60, 3) := by decide +kernel
theorem dX5_readSingle_93 : decode cX5_readSingle 93 = .ok (.iconst 1, 1) := by decide +kernel
theorem dX5_readSingle_94 : decode cX5_readSingle 94 = .ok (.invokestatic 159, 3) := by decide +kernel
theorem dX5_readSingle_97 : decode cX5_readSingle 97 = .ok (.putfield 166, 3) := by decide +kernel
theorem dX5_readSingle_100 : decode cX5_readSingle 100 = .ok (.aload_n 0, 1) := by decide +kernel
theorem dX5_readSingle_101 : decode cX5_readSingle 101 = .ok (.invokevirtual 44, 3) := by decide +kernel
theorem dX5_readSingle_104 : decode cX5_readSingle 104 = .ok (.aload_n 0, 1) := by decide +kernel
theorem dX5_readSingle_105 : decode cX5_readSingle 105 = .ok (.invokevirtual 112, 3) := by decide +kernel
theorem dX5_readSingle_108 : decode cX5_readSingle 108 = .ok (.ireturn, 1) := by decide +kernel
theorem dX6_init_0 : decode cX6_init 0 = .ok (.aload_n 0, 1) := by decide +kernel
theorem dX6_init_1 : decode cX6_init 1 = .ok (.invokespecial 3, 3) := by decide +kernel
theorem dX6_init_4 : decode cX6_init 4 = .ok (.aload_n 0, 1) := by decide +kernel
theorem dX6_init_5 : decode cX6_init 5 = .ok (.bipush 8, 2) := by decide +kernel
theorem dX6_init_7 : decode cX6_init 7 = .ok (.anewarray 9, 3) := by decide +kernel
theorem dX6_init_10 : decode cX6_init 10 = .ok (.putfield 11, 3) := by decide +kernel
theorem dX6_init_13 : decode cX6_init 13 = .ok (.iconst 0, 1) := by decide +kernel
theorem dX6_init_14 : decode cX6_init 14 = .ok (.istore_n 1, 1) := by decide +kernel
theorem dX6_init_15 : decode cX6_init 15 = .ok (.iload_n 1, 1) := by decide +kernel
theorem dX6_init_16 : decode cX6_init 16 = .ok (.bipush 8, 2) := by decide +kernel
theorem dX6_init_18 : decode cX6_init 18 = .ok (.if_icmp .ge 22, 3) := by decide +kernel
theorem dX6_init_21 : decode cX6_init 21 = .ok (.aload_n 0, 1) := by decide +kernel
theorem dX6_init_22 : decode cX6_init 22 = .ok (.getfield 11, 3) := by decide +kernel
theorem dX6_init_25 : decode cX6_init 25 = .ok (.iload_n 1, 1) := by decide +kernel
theorem dX6_init_26 : decode cX6_init 26 = .ok (.new 9, 3) := by decide +kernel
theorem dX6_init_29 : decode cX6_init 29 = .ok (.dup, 1) := by decide +kernel
theorem dX6_init_30 : decode cX6_init 30 = .ok (.invokespecial 17, 3) := by decide +kernel
theorem dX6_init_33 : decode cX6_init 33 = .ok (.aastore, 1) := by decide +kernel
theorem dX6_init_34 : decode cX6_init 34 = .ok (.iinc 1 1, 3) := by decide +kernel
theorem dX6_init_37 : decode cX6_init 37 = .ok (.goto (-22), 3) := by decide +kernel
theorem dX6_init_40 : decode cX6_init 40 = .ok (.return_, 1) := by decide +kernel
theorem dX6_push_0 : decode cX6_push 0 = .ok (.aload_n 0, 1) := by decide +kernel
theorem dX6_push_1 : decode cX6_push 1 = .ok (.getfield 18, 3) := by decide +kernel
theorem dX6_push_4 : decode cX6_push 4 = .ok (.bipush 8, 2) := by decide +kernel
theorem dX6_push_6 : decode cX6_push 6 = .ok (.if_icmp .lt 7, 3) := by decide +kernel
theorem dX6_push_9 : decode cX6_push 9 = .ok (.aload_n 0, 1) := by decide +kernel
theorem dX6_push_10 : decode cX6_push 10 = .ok (.invokevirtual 22, 3) := by decide +kernel
theorem dX6_push_13 : decode cX6_push 13 = .ok (.aload_n 0, 1) := by decide +kernel
theorem dX6_push_14 : decode cX6_push 14 = .ok (.getfield 11, 3) := by decide +kernel
theorem dX6_push_17 : decode cX6_push 17 = .ok (.aload_n 0, 1) := by decide +kernel
theorem dX6_push_18 : decode cX6_push 18 = .ok (.getfield 18, 3) := by decide +kernel
theorem dX6_push_21 : decode cX6_push 21 = .ok (.aaload, 1) := by decide +kernel
theorem dX6_push_22 : decode cX6_push 22 = .ok (.aload_n 1, 1) := by decide +kernel
theorem dX6_push_23 : decode cX6_push 23 = .ok (.invokevirtual 25, 3) := by decide +kernel
theorem dX6_push_26 : decode cX6_push 26 = .ok (.aload_n 0, 1) := by decide +kernel
theorem dX6_push_27 : decode cX6_push 27 = .ok (.dup, 1) := by decide +kernel
theorem dX6_push_28 : decode cX6_push 28 = .ok (.getfield 18, 3) := by decide +kernel
theorem dX6_push_31 : decode cX6_push 31 = .ok (.iconst 1, 1) := by decide +kernel
theorem dX6_push_32 : decode cX6_push 32 = .ok (.iadd, 1) := by decide +kernel
theorem dX6_push_33 : decode cX6_push 33 = .ok (.putfield 18, 3) := by decide +kernel
theorem dX6_push_36 : decode cX6_push 36 = .ok (.return_, 1) := by decide +kernel
theorem dX6_forgetOldest_0 : decode cX6_forgetOldest 0 = .ok (.aload_n 0, 1) := by decide +kernel
theorem dX6_forgetOldest_1 : decode cX6_forgetOldest 1 = .ok (.getfield 11, 3) := by decide +kernel
theorem dX6_forgetOldest_4 : decode cX6_forgetOldest 4 = .ok (.iconst 0, 1) := by decide +kernel
theorem dX6_forgetOldest_5 : decode cX6_forgetOldest 5 = .ok (.aaload, 1) := by decide +kernel
theorem dX6_forgetOldest_6 : decode cX6_forgetOldest 6 = .ok (.astore_n 1, 1) := by decide +kernel
theorem dX6_forgetOldest_7 : decode cX6_forgetOldest 7 = .ok (.iconst 1, 1) := by decide +kernel
theorem dX6_forgetOldest_8 : decode cX6_forgetOldest 8 = .ok (.istore_n 2, 1) := by decide +kernel
theorem dX6_forgetOldest_9 : decode cX6_forgetOldest 9 = .ok (.iload_n 2, 1) := by decide +kernel
theorem dX6_forgetOldest_10 : decode cX6_forgetOldest 10 = .ok (.bipush 8, 2) := by decide +kernel
theorem dX6_forgetOldest_12 : decode cX6_forgetOldest 12 = .ok (.if_icmp .ge 23, 3) := by decide +kernel
theorem dX6_forgetOldest_15 : decode cX6_forgetOldest 15 = .ok (.aload_n 0, 1) := by decide +kernel
theorem dX6_forgetOldest_16 : decode cX6_forgetOldest 16 = .ok (.getfield 11, 3) := by decide +kernel
theorem dX6_forgetOldest_19 : decode cX6_forgetOldest 19 = .ok (.iload_n 2, 1) := by decide +kernel
theorem dX6_forgetOldest_20 : decode cX6_forgetOldest 20 = .ok (.iconst 1, 1) := by decide +kernel
theorem dX6_forgetOldest_21 : decode cX6_forgetOldest 21 = .ok (.isub, 1) := by decide +kernel
theorem dX6_forgetOldest_22 : decode cX6_forgetOldest 22 = .ok (.aload_n 0, 1) := by decide +kernel
theorem dX6_forgetOldest_23 : decode cX6_forgetOldest 23 = .ok (.getfield 11, 3) := by decide +kernel
theorem dX6_forgetOldest_26 : decode cX6_forgetOldest 26 = .ok (.iload_n 2, 1) := by decide +kernel
theorem dX6_forgetOldest_27 : decode cX6_forgetOldest 27 = .ok (.aaload, 1) := by decide +kernel
theorem dX6_forgetOldest_28 : decode cX6_forgetOldest 28 = .ok (.aastore, 1) := by decide +kernel
theorem dX6_forgetOldest_29 : decode cX6_forgetOldest 29 = .ok (.iinc 2 1, 3) := by decide +kernel
theorem dX6_forgetOldest_32 : decode cX6_forgetOldest 32 = .ok (.goto (-23), 3) := by decide +kernel
theorem dX6_forgetOldest_35 : decode cX6_forgetOldest 35 = .ok (.aload_n 0, 1) := by decide +kernel
theorem dX6_forgetOldest_36 : decode cX6_forgetOldest 36 = .ok (.getfield 11, 3) := by decide +kernel
theorem dX6_forgetOldest_39 : decode cX6_forgetOldest 39 = .ok (.bipush 7, 2) := by decide +kernel
theorem dX6_forgetOldest_41 : decode cX6_forgetOldest 41 = .ok (.aload_n 1, 1) := by decide +kernel
theorem dX6_forgetOldest_42 : decode cX6_forgetOldest 42 = .ok (.aastore, 1) := by decide +kernel
theorem dX6_forgetOldest_43 : decode cX6_forgetOldest 43 = .ok (.aload_n 0, 1) := by decide +kernel
theorem dX6_forgetOldest_44 : decode cX6_forgetOldest 44 = .ok (.bipush 7, 2) := by decide +kernel
theorem dX6_forgetOldest_46 : decode cX6_forgetOldest 46 = .ok (.putfield 18, 3) := by decide +kernel
theorem dX6_forgetOldest_49 : decode cX6_forgetOldest 49 = .ok (.return_, 1) := by decide +kernel
theorem dX7_init_0 : decode cX7_init 0 = .ok (.aload_n 0, 1) := by decide +kernel
theorem dX7_init_1 : decode cX7_init 1 = .ok (.invokespecial 3, 3) := by decide +kernel
theorem dX7_init_4 : decode cX7_init 4 = .ok (.aload_n 0, 1) := by decide +kernel
theorem dX7_init_5 : decode cX7_init 5 = .ok (.sipush 2378, 3) := by decide +kernel
theorem dX7_init_8 : decode cX7_init 8 = .ok (.newarray .int, 2) := by decide +kernel
theorem dX7_init_10 : decode cX7_init 10 = .ok (.putfield 9, 3) := by decide +kernel
theorem dX7_init_13 : decode cX7_init 13 = .ok (.aload_n 0, 1) := by decide +kernel
theorem dX7_init_14 : decode cX7_init 14 = .ok (.sipush 2378, 3) := by decide +kernel
theorem dX7_init_17 : decode cX7_init 17 = .ok (.newarray .int, 2) := by decide +kernel
theorem dX7_init_19 : decode cX7_init 19 = .ok (.putfield 15, 3) := by decide +kernel
theorem dX7_init_22 : decode cX7_init 22 = .ok (.aload_n 0, 1) := by decide +kernel
theorem dX7_init_23 : decode cX7_init 23 = .ok (.sipush 2378, 3) := by decide +kernel
theorem dX7_init_26 : decode cX7_init 26 = .ok (.newarray .int, 2) := by decide +kernel
theorem dX7_init_28 : decode cX7_init 28 = .ok (.putfield 18, 3) := by decide +kernel
theorem dX7_init_31 : decode cX7_init 31 = .ok (.return_, 1) := by decide +kernel
theorem dX8_init_0 : decode cX8_init 0 = .ok (.aload_n 0, 1) := by decide +kernel
theorem dX8_init_1 : decode cX8_init 1 = .ok (.invokespecial 3, 3) := by decide +kernel
theorem dX8_init_4 : decode cX8_init 4 = .ok (.aload_n 0, 1) := by decide +kernel
theorem dX8_init_5 : decode cX8_init 5 = .ok (.bipush 20, 2) := by decide +kernel
theorem dX8_init_7 : decode cX8_init 7 = .ok (.putfield 9, 3) := by decide +kernel
theorem dX8_init_10 : decode cX8_init 10 = .ok (.aload_n 0, 1) := by decide +kernel
theorem dX8_init_11 : decode cX8_init 11 = .ok (.bipush 12, 2) := by decide +kernel
theorem dX8_init_13 : decode cX8_init 13 = .ok (.putfield 15, 3) := by decide +kernel
theorem dX8_init_16 : decode cX8_init 16 = .ok (.aload_n 0, 1) := by decide +kernel
theorem dX8_init_17 : decode cX8_init 17 = .ok (.bipush 12, 2) := by decide +kernel
theorem dX8_init_19 : decode cX8_init 19 = .ok (.newarray .int, 2) := by decide +kernel
theorem dX8_init_21 : decode cX8_init 21 = .ok (.putfield 18, 3) := by decide +kernel
theorem dX8_init_24 : decode cX8_init 24 = .ok (.aload_n 0, 1) := by decide +kernel
theorem dX8_init_25 : decode cX8_init 25 = .ok (.bipush 12, 2) := by decide +kernel
theorem dX8_init_27 : decode cX8_init 27 = .ok (.newarray .int, 2) := by decide +kernel
theorem dX8_init_29 : decode cX8_init 29 = .ok (.putfield 22, 3) := by decide +kernel
theorem dX8_init_32 : decode cX8_init 32 = .ok (.aload_n 0, 1) := by decide +kernel
theorem dX8_init_33 : decode cX8_init 33 = .ok (.bipush 12, 2) := by decide +kernel
theorem dX8_init_35 : decode cX8_init 35 = .ok (.newarray .int, 2) := by decide +kernel
theorem dX8_init_37 : decode cX8_init 37 = .ok (.putfield 25, 3) := by decide +kernel
theorem dX8_init_40 : decode cX8_init 40 = .ok (.aload_n 0, 1) := by decide +kernel
theorem dX8_init_41 : decode cX8_init 41 = .ok (.bipush 12, 2) := by decide +kernel
theorem dX8_init_43 : decode cX8_init 43 = .ok (.newarray .int, 2) := by decide +kernel
theorem dX8_init_45 : decode cX8_init 45 = .ok (.putfield 28, 3) := by decide +kernel
theorem dX8_init_48 : decode cX8_init 48 = .ok (.aload_n 0, 1) := by decide +kernel
theorem dX8_init_49 : decode cX8_init 49 = .ok (.bipush 12, 2) := by decide +kernel
theorem dX8_init_51 : decode cX8_init 51 = .ok (.newarray .int, 2) := by decide +kernel
theorem dX8_init_53 : decode cX8_init 53 = .ok (.putfield 31, 3) := by decide +kernel
theorem dX8_init_56 : decode cX8_init 56 = .ok (.return_, 1) := by decide +kernel
theorem dX8_hasItem_0 : decode cX8_hasItem 0 = .ok (.iload_n 1, 1) := by decide +kernel
theorem dX8_hasItem_1 : decode cX8_hasItem 1 = .ok (.ifCond .lt 15, 3) := by decide +kernel
theorem dX8_hasItem_4 : decode cX8_hasItem 4 = .ok (.iload_n 1, 1) := by decide +kernel
theorem dX8_hasItem_5 : decode cX8_hasItem 5 = .ok (.aload_n 0, 1) := by decide +kernel
theorem dX8_hasItem_6 : decode cX8_hasItem 6 = .ok (.getfield 34, 3) := by decide +kernel
theorem dX8_hasItem_9 : decode cX8_hasItem 9 = .ok (.if_icmp .ge 7, 3) := by decide +kernel
theorem dX8_hasItem_12 : decode cX8_hasItem 12 = .ok (.iconst 1, 1) := by decide +kernel
theorem dX8_hasItem_13 : decode cX8_hasItem 13 = .ok (.goto 4, 3) := by decide +kernel
theorem dX8_hasItem_16 : decode cX8_hasItem 16 = .ok (.iconst 0, 1) := by decide +kernel
theorem dX8_hasItem_17 : decode cX8_hasItem 17 = .ok (.ireturn, 1) := by decide +kernel
theorem dX8_everyItem_0 : decode cX8_everyItem 0 = .ok (.iconst 1, 1) := by decide +kernel
theorem dX8_everyItem_1 : decode cX8_everyItem 1 = .ok (.aload_n 0, 1) := by decide +kernel
theorem dX8_everyItem_2 : decode cX8_everyItem 2 = .ok (.getfield 34, 3) := by decide +kernel
theorem dX8_everyItem_5 : decode cX8_everyItem 5 = .ok (.ishl, 1) := by decide +kernel
theorem dX8_everyItem_6 : decode cX8_everyItem 6 = .ok (.iconst 1, 1) := by decide +kernel
theorem dX8_everyItem_7 : decode cX8_everyItem 7 = .ok (.isub, 1) := by decide +kernel
theorem dX8_everyItem_8 : decode cX8_everyItem 8 = .ok (.ireturn, 1) := by decide +kernel
theorem dX8_countBits_0 : decode cX8_countBits 0 = .ok (.iconst 0, 1) := by decide +kernel
theorem dX8_countBits_1 : decode cX8_countBits 1 = .ok (.istore_n 2, 1) := by decide +kernel
theorem dX8_countBits_2 : decode cX8_countBits 2 = .ok (.iconst 0, 1) := by decide +kernel
theorem dX8_countBits_3 : decode cX8_countBits 3 = .ok (.istore_n 3, 1) := by decide +kernel
theorem dX8_countBits_4 : decode cX8_countBits 4 = .ok (.iload_n 3, 1) := by decide +kernel
theorem dX8_countBits_5 : decode cX8_countBits 5 = .ok (.aload_n 0, 1) := by decide +kernel
theorem dX8_countBits_6 : decode cX8_countBits 6 = .ok (.getfield 34, 3) := by decide +kernel
theorem dX8_countBits_9 : decode cX8_countBits 9 = .ok (.if_icmp .ge 18, 3) := by decide +kernel
theorem dX8_countBits_12 : decode cX8_countBits 12 = .ok (.iload_n 2, 1) := by decide +kernel
theorem dX8_countBits_13 : decode cX8_countBits 13 = .ok (.aload_n 1, 1) := by decide +kernel
theorem dX8_countBits_14 : decode cX8_countBits 14 = .ok (.iload_n 3, 1) := by decide +kernel
theorem dX8_countBits_15 : decode cX8_countBits 15 = .ok (.iaload, 1) := by decide +kernel
theorem dX8_countBits_16 : decode cX8_countBits 16 = .ok (.invokestatic 37, 3) := by decide +kernel
theorem dX8_countBits_19 : decode cX8_countBits 19 = .ok (.iadd, 1) := by decide +kernel
theorem dX8_countBits_20 : decode cX8_countBits 20 = .ok (.istore_n 2, 1) := by decide +kernel
theorem dX8_countBits_21 : decode cX8_countBits 21 = .ok (.iinc 3 1, 3) := by decide +kernel
theorem dX8_countBits_24 : decode cX8_countBits 24 = .ok (.goto (-20), 3) := by decide +kernel
theorem dX8_countBits_27 : decode cX8_countBits 27 = .ok (.iload_n 2, 1) := by decide +kernel
theorem dX8_countBits_28 : decode cX8_countBits 28 = .ok (.ireturn, 1) := by decide +kernel
theorem dX8_copyFrom_0 : decode cX8_copyFrom 0 = .ok (.aload_n 0, 1) := by decide +kernel
theorem dX8_copyFrom_1 : decode cX8_copyFrom 1 = .ok (.aload_n 1, 1) := by decide +kernel
theorem dX8_copyFrom_2 : decode cX8_copyFrom 2 = .ok (.getfield 34, 3) := by decide +kernel
theorem dX8_copyFrom_5 : decode cX8_copyFrom 5 = .ok (.putfield 34, 3) := by decide +kernel
theorem dX8_copyFrom_8 : decode cX8_copyFrom 8 = .ok (.aload_n 0, 1) := by decide +kernel
theorem dX8_copyFrom_9 : decode cX8_copyFrom 9 = .ok (.aload_n 1, 1) := by decide +kernel
theorem dX8_copyFrom_10 : decode cX8_copyFrom 10 = .ok (.getfield 9, 3) := by decide +kernel
theorem dX8_copyFrom_13 : decode cX8_copyFrom 13 = .ok (.putfield 9, 3) := by decide +kernel
theorem dX8_copyFrom_16 : decode cX8_copyFrom 16 = .ok (.aload_n 0, 1) := by decide +kernel
theorem dX8_copyFrom_17 : decode cX8_copyFrom 17 = .ok (.aload_n 1, 1) := by decide +kernel
theorem dX8_copyFrom_18 : decode cX8_copyFrom 18 = .ok (.getfield 15, 3) := by decide +kernel
theorem dX8_copyFrom_21 : decode cX8_copyFrom 21 = .ok (.putfield 15, 3) := by decide +kernel
theorem dX8_copyFrom_24 : decode cX8_copyFrom 24 = .ok (.aload_n 0, 1) := by decide +kernel
theorem dX8_copyFrom_25 : decode cX8_copyFrom 25 = .ok (.aload_n 1, 1) := by decide +kernel
theorem dX8_copyFrom_26 : decode cX8_copyFrom 26 = .ok (.getfield 43, 3) := by decide +kernel
theorem dX8_copyFrom_29 : decode cX8_copyFrom 29 = .ok (.putfield 43, 3) := by decide +kernel
theorem dX8_copyFrom_32 : decode cX8_copyFrom 32 = .ok (.aload_n 0, 1) := by decide +kernel
theorem dX8_copyFrom_33 : decode cX8_copyFrom 33 = .ok (.aload_n 1, 1) := by decide +kernel
theorem dX8_copyFrom_34 : decode cX8_copyFrom 34 = .ok (.getfield 46, 3) := by decide +kernel
theorem dX8_copyFrom_37 : decode cX8_copyFrom 37 = .ok (.putfield 46, 3) := by decide +kernel
theorem dX8_copyFrom_40 : decode cX8_copyFrom 40 = .ok (.aload_n 0, 1) := by decide +kernel
theorem dX8_copyFrom_41 : decode cX8_copyFrom 41 = .ok (.aload_n 1, 1) := by decide +kernel
theorem dX8_copyFrom_42 : decode cX8_copyFrom 42 = .ok (.getfield 49, 3) := by decide +kernel
theorem dX8_copyFrom_45 : decode cX8_copyFrom 45 = .ok (.putfield 49, 3) := by decide +kernel
theorem dX8_copyFrom_48 : decode cX8_copyFrom 48 = .ok (.aload_n 1, 1) := by decide +kernel
theorem dX8_copyFrom_49 : decode cX8_copyFrom 49 = .ok (.getfield 18, 3) := by decide +kernel
theorem dX8_copyFrom_52 : decode cX8_copyFrom 52 = .ok (.iconst 0, 1) := by decide +kernel
theorem dX8_copyFrom_53 : decode cX8_copyFrom 53 = .ok (.aload_n 0, 1) := by decide +kernel
theorem dX8_copyFrom_54 : decode cX8_copyFrom 54 = .ok (.getfield 18, 3) := by decide +kernel
theorem dX8_copyFrom_57 : decode cX8_copyFrom 57 = .ok (.iconst 0, 1) := by decide +kernel
theorem dX8_copyFrom_58 : decode cX8_copyFrom 58 = .ok (.bipush 12, 2) := by decide +kernel
theorem dX8_copyFrom_60 : decode cX8_copyFrom 60 = .ok (.invokestatic 52, 3) := by decide +kernel
theorem dX8_copyFrom_63 : decode cX8_copyFrom 63 = .ok (.aload_n 1, 1) := by decide +kernel
theorem dX8_copyFrom_64 : decode cX8_copyFrom 64 = .ok (.getfield 22, 3) := by decide +kernel
theorem dX8_copyFrom_67 : decode cX8_copyFrom 67 = .ok (.iconst 0, 1) := by decide +kernel
theorem dX8_copyFrom_68 : decode cX8_copyFrom 68 = .ok (.aload_n 0, 1) := by decide +kernel
theorem dX8_copyFrom_69 : decode cX8_copyFrom 69 = .ok (.getfield 22, 3) := by decide +kernel
theorem dX8_copyFrom_72 : decode cX8_copyFrom 72 = .ok (.iconst 0, 1) := by decide +kernel
theorem dX8_copyFrom_73 : decode cX8_copyFrom 73 = .ok (.bipush 12, 2) := by decide +kernel
theorem dX8_copyFrom_75 : decode cX8_copyFrom 75 = .ok (.invokestatic 52, 3) := by decide +kernel
theorem dX8_copyFrom_78 : decode cX8_copyFrom 78 = .ok (.aload_n 1, 1) := by decide +kernel
theorem dX8_copyFrom_79 : decode cX8_copyFrom 79 = .ok (.getfield 25, 3) := by decide +kernel
theorem dX8_copyFrom_82 : decode cX8_copyFrom 82 = .ok (.iconst 0, 1) := by decide +kernel
theorem dX8_copyFrom_83 : decode cX8_copyFrom 83 = .ok (.aload_n 0, 1) := by decide +kernel
theorem dX8_copyFrom_84 : decode cX8_copyFrom 84 = .ok (.getfield 25, 3) := by decide +kernel
theorem dX8_copyFrom_87 : decode cX8_copyFrom 87 = .ok (.iconst 0, 1) := by decide +kernel
theorem dX8_copyFrom_88 : decode cX8_copyFrom 88 = .ok (.bipush 12, 2) := by decide +kernel
theorem dX8_copyFrom_90 : decode cX8_copyFrom 90 = .ok (.invokestatic 52, 3) := by decide +kernel
theorem dX8_copyFrom_93 : decode cX8_copyFrom 93 = .ok (.aload_n 1, 1) := by decide +kernel
theorem dX8_copyFrom_94 : decode cX8_copyFrom 94 = .ok (.getfield 28, 3) := by decide +kernel
theorem dX8_copyFrom_97 : decode cX8_copyFrom 97 = .ok (.iconst 0, 1) := by decide +kernel
theorem dX8_copyFrom_98 : decode cX8_copyFrom 98 = .ok (.aload_n 0, 1) := by decide +kernel
theorem dX8_copyFrom_99 : decode cX8_copyFrom 99 = .ok (.getfield 28, 3) := by decide +kernel
theorem dX8_copyFrom_102 : decode cX8_copyFrom 102 = .ok (.iconst 0, 1) := by decide +kernel
theorem dX8_copyFrom_103 : decode cX8_copyFrom 103 = .ok (.bipush 12, 2) := by decide +kernel
theorem dX8_copyFrom_105 : decode cX8_copyFrom 105 = .ok (.invokestatic 52, 3) := by decide +kernel
theorem dX8_copyFrom_108 : decode cX8_copyFrom 108 = .ok (.aload_n 1, 1) := by decide +kernel
theorem dX8_copyFrom_109 : decode cX8_copyFrom 109 = .ok (.getfield 31, 3) := by decide +kernel
theorem dX8_copyFrom_112 : decode cX8_copyFrom 112 = .ok (.iconst 0, 1) := by decide +kernel
theorem dX8_copyFrom_113 : decode cX8_copyFrom 113 = .ok (.aload_n 0, 1) := by decide +kernel
theorem dX8_copyFrom_114 : decode cX8_copyFrom 114 = .ok (.getfield 31, 3) := by decide +kernel
theorem dX8_copyFrom_117 : decode cX8_copyFrom 117 = .ok (.iconst 0, 1) := by decide +kernel
theorem dX8_copyFrom_118 : decode cX8_copyFrom 118 = .ok (.bipush 12, 2) := by decide +kernel
theorem dX8_copyFrom_120 : decode cX8_copyFrom 120 = .ok (.invokestatic 52, 3) := by decide +kernel
theorem dX8_copyFrom_123 : decode cX8_copyFrom 123 = .ok (.return_, 1) := by decide +kernel
theorem dX8_clear_0 : decode cX8_clear 0 = .ok (.aload_n 0, 1) := by decide +kernel
theorem dX8_clear_1 : decode cX8_clear 1 = .ok (.iconst 0, 1) := by decide +kernel
theorem dX8_clear_2 : decode cX8_clear 2 = .ok (.putfield 34, 3) := by decide +kernel
theorem dX8_clear_5 : decode cX8_clear 5 = .ok (.aload_n 0, 1) := by decide +kernel
theorem dX8_clear_6 : decode cX8_clear 6 = .ok (.iconst 0, 1) := by decide +kernel
theorem dX8_clear_7 : decode cX8_clear 7 = .ok (.putfield 43, 3) := by decide +kernel
theorem dX8_clear_10 : decode cX8_clear 10 = .ok (.aload_n 0, 1) := by decide +kernel
theorem dX8_clear_11 : decode cX8_clear 11 = .ok (.iconst 0, 1) := by decide +kernel
theorem dX8_clear_12 : decode cX8_clear 12 = .ok (.putfield 46, 3) := by decide +kernel
theorem dX8_clear_15 : decode cX8_clear 15 = .ok (.aload_n 0, 1) := by decide +kernel
theorem dX8_clear_16 : decode cX8_clear 16 = .ok (.iconst 0, 1) := by decide +kernel
theorem dX8_clear_17 : decode cX8_clear 17 = .ok (.putfield 49, 3) := by decide +kernel
theorem dX8_clear_20 : decode cX8_clear 20 = .ok (.return_, 1) := by decide +kernel
theorem dX8_addLast_0 : decode cX8_addLast 0 = .ok (.aload_n 0, 1) := by decide +kernel
theorem dX8_addLast_1 : decode cX8_addLast 1 = .ok (.getfield 34, 3) := by decide +kernel
theorem dX8_addLast_4 : decode cX8_addLast 4 = .ok (.bipush 12, 2) := by decide +kernel
theorem dX8_addLast_6 : decode cX8_addLast 6 = .ok (.if_icmp .ge 63, 3) := by decide +kernel
theorem dX8_addLast_9 : decode cX8_addLast 9 = .ok (.aload_n 0, 1) := by decide +kernel
theorem dX8_addLast_10 : decode cX8_addLast 10 = .ok (.getfield 18, 3) := by decide +kernel
theorem dX8_addLast_13 : decode cX8_addLast 13 = .ok (.aload_n 0, 1) := by decide +kernel
theorem dX8_addLast_14 : decode cX8_addLast 14 = .ok (.getfield 34, 3) := by decide +kernel
theorem dX8_addLast_17 : decode cX8_addLast 17 = .ok (.iload_n 1, 1) := by decide +kernel
theorem dX8_addLast_18 : decode cX8_addLast 18 = .ok (.iastore, 1) := by decide +kernel
theorem dX8_addLast_19 : decode cX8_addLast 19 = .ok (.aload_n 0, 1) := by decide +kernel
theorem dX8_addLast_20 : decode cX8_addLast 20 = .ok (.getfield 22, 3) := by decide +kernel
theorem dX8_addLast_23 : decode cX8_addLast 23 = .ok (.aload_n 0, 1) := by decide +kernel
theorem dX8_addLast_24 : decode cX8_addLast 24 = .ok (.getfield 34, 3) := by decide +kernel
theorem dX8_addLast_27 : decode cX8_addLast 27 = .ok (.iload_n 2, 1) := by decide +kernel
theorem dX8_addLast_28 : decode cX8_addLast 28 = .ok (.iastore, 1) := by decide +kernel
theorem dX8_addLast_29 : decode cX8_addLast 29 = .ok (.aload_n 0, 1) := by decide +kernel
theorem dX8_addLast_30 : decode cX8_addLast 30 = .ok (.getfield 25, 3) := by decide +kernel
theorem dX8_addLast_33 : decode cX8_addLast 33 = .ok (.aload_n 0, 1) := by decide +kernel
theorem dX8_addLast_34 : decode cX8_addLast 34 = .ok (.getfield 34, 3) := by decide +kernel
theorem dX8_addLast_37 : decode cX8_addLast 37 = .ok (.iload_n 3, 1) := by decide +kernel
theorem dX8_addLast_38 : decode cX8_addLast 38 = .ok (.iastore, 1) := by decide +kernel
theorem dX8_addLast_39 : decode cX8_addLast 39 = .ok (.aload_n 0, 1) := by decide +kernel
theorem dX8_addLast_40 : decode cX8_addLast 40 = .ok (.getfield 28, 3) := by decide +kernel
theorem dX8_addLast_43 : decode cX8_addLast 43 = .ok (.aload_n 0, 1) := by decide +kernel
theorem dX8_addLast_44 : decode cX8_addLast 44 = .ok (.getfield 34, 3) := by decide +kernel
theorem dX8_addLast_47 : decode cX8_addLast 47 = .ok (.iconst 0, 1) := by decide +kernel
theorem dX8_addLast_48 : decode cX8_addLast 48 = .ok (.iastore, 1) := by decide +kernel
theorem dX8_addLast_49 : decode cX8_addLast 49 = .ok (.aload_n 0, 1) := by decide +kernel
theorem dX8_addLast_50 : decode cX8_addLast 50 = .ok (.getfield 31, 3) := by decide +kernel
theorem dX8_addLast_53 : decode cX8_addLast 53 = .ok (.aload_n 0, 1) := by decide +kernel
theorem dX8_addLast_54 : decode cX8_addLast 54 = .ok (.getfield 34, 3) := by decide +kernel
theorem dX8_addLast_57 : decode cX8_addLast 57 = .ok (.iconst 0, 1) := by decide +kernel
theorem dX8_addLast_58 : decode cX8_addLast 58 = .ok (.iastore, 1) := by decide +kernel
theorem dX8_addLast_59 : decode cX8_addLast 59 = .ok (.aload_n 0, 1) := by decide +kernel
theorem dX8_addLast_60 : decode cX8_addLast 60 = .ok (.dup, 1) := by decide +kernel
theorem dX8_addLast_61 : decode cX8_addLast 61 = .ok (.getfield 34, 3) := by decide +kernel
theorem dX8_addLast_64 : decode cX8_addLast 64 = .ok (.iconst 1, 1) := by decide +kernel
theorem dX8_addLast_65 : decode cX8_addLast 65 = .ok (.iadd, 1) := by decide +kernel
theorem dX8_addLast_66 : decode cX8_addLast 66 = .ok (.putfield 34, 3) := by decide +kernel
theorem dX8_addLast_69 : decode cX8_addLast 69 = .ok (.return_, 1) := by decide +kernel
theorem dX9_init_0 : decode cX9_init 0 = .ok (.aload_n 0, 1) := by decide +kernel
theorem dX9_init_1 : decode cX9_init 1 = .ok (.invokespecial 3, 3) := by decide +kernel
theorem dX9_init_4 : decode cX9_init 4 = .ok (.aload_n 0, 1) := by decide +kernel
theorem dX9_init_5 : decode cX9_init 5 = .ok (.sipush 1189, 3) := by decide +kernel
theorem dX9_init_8 : decode cX9_init 8 = .ok (.newarray .int, 2) := by decide +kernel
theorem dX9_init_10 : decode cX9_init 10 = .ok (.putfield 9, 3) := by decide +kernel
theorem dX9_init_13 : decode cX9_init 13 = .ok (.return_, 1) := by decide +kernel
theorem dX9_build_0 : decode cX9_build 0 = .ok (.aload_n 0, 1) := by decide +kernel
theorem dX9_build_1 : decode cX9_build 1 = .ok (.getfield 9, 3) := by decide +kernel
theorem dX9_build_4 : decode cX9_build 4 = .ok (.iconst (-1), 1) := by decide +kernel
theorem dX9_build_5 : decode cX9_build 5 = .ok (.invokestatic 15, 3) := by decide +kernel
theorem dX9_build_8 : decode cX9_build 8 = .ok (.aload_n 0, 1) := by decide +kernel
theorem dX9_build_9 : decode cX9_build 9 = .ok (.iconst 0, 1) := by decide +kernel
theorem dX9_build_10 : decode cX9_build 10 = .ok (.putfield 21, 3) := by decide +kernel
theorem dX9_build_13 : decode cX9_build 13 = .ok (.iconst 0, 1) := by decide +kernel
theorem dX9_build_14 : decode cX9_build 14 = .ok (.istore 4, 2) := by decide +kernel
theorem dX9_build_16 : decode cX9_build 16 = .ok (.iload 4, 2) := by decide +kernel
theorem dX9_build_18 : decode cX9_build 18 = .ok (.aload_n 1, 1) := by decide +kernel
theorem dX9_build_19 : decode cX9_build 19 = .ok (.getfield 25, 3) := by decide +kernel
theorem dX9_build_22 : decode cX9_build 22 = .ok (.if_icmp .ge 62, 3) := by decide +kernel
theorem dX9_build_25 : decode cX9_build 25 = .ok (.iload 4, 2) := by decide +kernel
theorem dX9_build_27 : decode cX9_build 27 = .ok (.sipush 4096, 3) := by decide +kernel
theorem dX9_build_30 : decode cX9_build 30 = .ok (.if_icmp .ge 54, 3) := by decide +kernel
theorem dX9_build_33 : decode cX9_build 33 = .ok (.iload 4, 2) := by decide +kernel
theorem dX9_build_35 : decode cX9_build 35 = .ok (.iload_n 3, 1) := by decide +kernel
theorem dX9_build_36 : decode cX9_build 36 = .ok (.iand, 1) := by decide +kernel
theorem dX9_build_37 : decode cX9_build 37 = .ok (.ifCond .ne 41, 3) := by decide +kernel
theorem dX9_build_40 : decode cX9_build 40 = .ok (.aload_n 1, 1) := by decide +kernel
theorem dX9_build_41 : decode cX9_build 41 = .ok (.iload 4, 2) := by decide +kernel
theorem dX9_build_43 : decode cX9_build 43 = .ok (.iload_n 2, 1) := by decide +kernel
theorem dX9_build_44 : decode cX9_build 44 = .ok (.invokevirtual 30, 3) := by decide +kernel
theorem dX9_build_47 : decode cX9_build 47 = .ok (.ifCond .ne 31, 3) := by decide +kernel
theorem dX9_build_50 : decode cX9_build 50 = .ok (.aload_n 0, 1) := by decide +kernel
theorem dX9_build_51 : decode cX9_build 51 = .ok (.dup, 1) := by decide +kernel
theorem dX9_build_52 : decode cX9_build 52 = .ok (.getfield 21, 3) := by decide +kernel
theorem dX9_build_55 : decode cX9_build 55 = .ok (.iconst 1, 1) := by decide +kernel
theorem dX9_build_56 : decode cX9_build 56 = .ok (.iadd, 1) := by decide +kernel
theorem dX9_build_57 : decode cX9_build 57 = .ok (.putfield 21, 3) := by decide +kernel
theorem dX9_build_60 : decode cX9_build 60 = .ok (.aload_n 0, 1) := by decide +kernel
theorem dX9_build_61 : decode cX9_build 61 = .ok (.aload_n 1, 1) := by decide +kernel
theorem dX9_build_62 : decode cX9_build 62 = .ok (.getfield 34, 3) := by decide +kernel
theorem dX9_build_65 : decode cX9_build 65 = .ok (.iload 4, 2) := by decide +kernel
theorem dX9_build_67 : decode cX9_build 67 = .ok (.iaload, 1) := by decide +kernel
theorem dX9_build_68 : decode cX9_build 68 = .ok (.aload_n 1, 1) := by decide +kernel
theorem dX9_build_69 : decode cX9_build 69 = .ok (.getfield 37, 3) := by decide +kernel
theorem dX9_build_72 : decode cX9_build 72 = .ok (.iload 4, 2) := by decide +kernel
theorem dX9_build_74 : decode cX9_build 74 = .ok (.iaload, 1) := by decide +kernel
theorem dX9_build_75 : decode cX9_build 75 = .ok (.invokevirtual 40, 3) := by decide +kernel
theorem dX9_build_78 : decode cX9_build 78 = .ok (.iinc 4 1, 3) := by decide +kernel
theorem dX9_build_81 : decode cX9_build 81 = .ok (.goto (-65), 3) := by decide +kernel
theorem dX9_build_84 : decode cX9_build 84 = .ok (.aload_n 0, 1) := by decide +kernel
theorem dX9_build_85 : decode cX9_build 85 = .ok (.invokevirtual 44, 3) := by decide +kernel
theorem dX9_build_88 : decode cX9_build 88 = .ok (.return_, 1) := by decide +kernel
theorem dX9_keepGreatest_0 : decode cX9_keepGreatest 0 = .ok (.iload_n 1, 1) := by decide +kernel
theorem dX9_keepGreatest_1 : decode cX9_keepGreatest 1 = .ok (.ifCond .lt 27, 3) := by decide +kernel
theorem dX9_keepGreatest_4 : decode cX9_keepGreatest 4 = .ok (.iload_n 1, 1) := by decide +kernel
theorem dX9_keepGreatest_5 : decode cX9_keepGreatest 5 = .ok (.sipush 1189, 3) := by decide +kernel
theorem dX9_keepGreatest_8 : decode cX9_keepGreatest 8 = .ok (.if_icmp .ge 20, 3) := by decide +kernel
theorem dX9_keepGreatest_11 : decode cX9_keepGreatest 11 = .ok (.iload_n 2, 1) := by decide +kernel
theorem dX9_keepGreatest_12 : decode cX9_keepGreatest 12 = .ok (.aload_n 0, 1) := by decide +kernel
theorem dX9_keepGreatest_13 : decode cX9_keepGreatest 13 = .ok (.getfield 9, 3) := by decide +kernel
theorem dX9_keepGreatest_16 : decode cX9_keepGreatest 16 = .ok (.iload_n 1, 1) := by decide +kernel
theorem dX9_keepGreatest_17 : decode cX9_keepGreatest 17 = .ok (.iaload, 1) := by decide +kernel
theorem dX9_keepGreatest_18 : decode cX9_keepGreatest 18 = .ok (.if_icmp .le 10, 3) := by decide +kernel
theorem dX9_keepGreatest_21 : decode cX9_keepGreatest 21 = .ok (.aload_n 0, 1) := by decide +kernel
theorem dX9_keepGreatest_22 : decode cX9_keepGreatest 22 = .ok (.getfield 9, 3) := by decide +kernel
theorem dX9_keepGreatest_25 : decode cX9_keepGreatest 25 = .ok (.iload_n 1, 1) := by decide +kernel
theorem dX9_keepGreatest_26 : decode cX9_keepGreatest 26 = .ok (.iload_n 2, 1) := by decide +kernel
theorem dX9_keepGreatest_27 : decode cX9_keepGreatest 27 = .ok (.iastore, 1) := by decide +kernel
theorem dX9_keepGreatest_28 : decode cX9_keepGreatest 28 = .ok (.return_, 1) := by decide +kernel
theorem dX9_dropBeaten_0 : decode cX9_dropBeaten 0 = .ok (.iconst (-1), 1) := by decide +kernel
theorem dX9_dropBeaten_1 : decode cX9_dropBeaten 1 = .ok (.istore_n 1, 1) := by decide +kernel
theorem dX9_dropBeaten_2 : decode cX9_dropBeaten 2 = .ok (.sipush 1188, 3) := by decide +kernel
theorem dX9_dropBeaten_5 : decode cX9_dropBeaten 5 = .ok (.istore_n 2, 1) := by decide +kernel
theorem dX9_dropBeaten_6 : decode cX9_dropBeaten 6 = .ok (.iload_n 2, 1) := by decide +kernel
theorem dX9_dropBeaten_7 : decode cX9_dropBeaten 7 = .ok (.ifCond .lt 36, 3) := by decide +kernel
theorem dX9_dropBeaten_10 : decode cX9_dropBeaten 10 = .ok (.aload_n 0, 1) := by decide +kernel
theorem dX9_dropBeaten_11 : decode cX9_dropBeaten 11 = .ok (.getfield 9, 3) := by decide +kernel
theorem dX9_dropBeaten_14 : decode cX9_dropBeaten 14 = .ok (.iload_n 2, 1) := by decide +kernel
theorem dX9_dropBeaten_15 : decode cX9_dropBeaten 15 = .ok (.iaload, 1) := by decide +kernel
theorem dX9_dropBeaten_16 : decode cX9_dropBeaten 16 = .ok (.iload_n 1, 1) := by decide +kernel
theorem dX9_dropBeaten_17 : decode cX9_dropBeaten 17 = .ok (.if_icmp .le 13, 3) := by decide +kernel
theorem dX9_dropBeaten_20 : decode cX9_dropBeaten 20 = .ok (.aload_n 0, 1) := by decide +kernel
theorem dX9_dropBeaten_21 : decode cX9_dropBeaten 21 = .ok (.getfield 9, 3) := by decide +kernel
theorem dX9_dropBeaten_24 : decode cX9_dropBeaten 24 = .ok (.iload_n 2, 1) := by decide +kernel
theorem dX9_dropBeaten_25 : decode cX9_dropBeaten 25 = .ok (.iaload, 1) := by decide +kernel
theorem dX9_dropBeaten_26 : decode cX9_dropBeaten 26 = .ok (.istore_n 1, 1) := by decide +kernel
theorem dX9_dropBeaten_27 : decode cX9_dropBeaten 27 = .ok (.goto 10, 3) := by decide +kernel
theorem dX9_dropBeaten_30 : decode cX9_dropBeaten 30 = .ok (.aload_n 0, 1) := by decide +kernel
theorem dX9_dropBeaten_31 : decode cX9_dropBeaten 31 = .ok (.getfield 9, 3) := by decide +kernel
theorem dX9_dropBeaten_34 : decode cX9_dropBeaten 34 = .ok (.iload_n 2, 1) := by decide +kernel
theorem dX9_dropBeaten_35 : decode cX9_dropBeaten 35 = .ok (.iconst (-1), 1) := by decide +kernel
theorem dX9_dropBeaten_36 : decode cX9_dropBeaten 36 = .ok (.iastore, 1) := by decide +kernel
theorem dX9_dropBeaten_37 : decode cX9_dropBeaten 37 = .ok (.iinc 2 (-1), 3) := by decide +kernel
theorem dX9_dropBeaten_40 : decode cX9_dropBeaten 40 = .ok (.goto (-34), 3) := by decide +kernel
theorem dX9_dropBeaten_43 : decode cX9_dropBeaten 43 = .ok (.return_, 1) := by decide +kernel
theorem dX9_areaBelow_0 : decode cX9_areaBelow 0 = .ok (.iconst 0, 1) := by decide +kernel
theorem dX9_areaBelow_1 : decode cX9_areaBelow 1 = .ok (.istore_n 1, 1) := by decide +kernel
theorem dX9_areaBelow_2 : decode cX9_areaBelow 2 = .ok (.iconst 0, 1) := by decide +kernel
theorem dX9_areaBelow_3 : decode cX9_areaBelow 3 = .ok (.istore_n 2, 1) := by decide +kernel
theorem dX9_areaBelow_4 : decode cX9_areaBelow 4 = .ok (.iconst 0, 1) := by decide +kernel
theorem dX9_areaBelow_5 : decode cX9_areaBelow 5 = .ok (.istore_n 3, 1) := by decide +kernel
theorem dX9_areaBelow_6 : decode cX9_areaBelow 6 = .ok (.iload_n 3, 1) := by decide +kernel
theorem dX9_areaBelow_7 : decode cX9_areaBelow 7 = .ok (.sipush 1189, 3) := by decide +kernel
theorem dX9_areaBelow_10 : decode cX9_areaBelow 10 = .ok (.if_icmp .ge 34, 3) := by decide +kernel
theorem dX9_areaBelow_13 : decode cX9_areaBelow 13 = .ok (.aload_n 0, 1) := by decide +kernel
theorem dX9_areaBelow_14 : decode cX9_areaBelow 14 = .ok (.getfield 9, 3) := by decide +kernel
theorem dX9_areaBelow_17 : decode cX9_areaBelow 17 = .ok (.iload_n 3, 1) := by decide +kernel
theorem dX9_areaBelow_18 : decode cX9_areaBelow 18 = .ok (.iaload, 1) := by decide +kernel
theorem dX9_areaBelow_19 : decode cX9_areaBelow 19 = .ok (.iconst (-1), 1) := by decide +kernel
theorem dX9_areaBelow_20 : decode cX9_areaBelow 20 = .ok (.if_icmp .eq 18, 3) := by decide +kernel
theorem dX9_areaBelow_23 : decode cX9_areaBelow 23 = .ok (.iload_n 1, 1) := by decide +kernel
theorem dX9_areaBelow_24 : decode cX9_areaBelow 24 = .ok (.iload_n 3, 1) := by decide +kernel
theorem dX9_areaBelow_25 : decode cX9_areaBelow 25 = .ok (.iload_n 2, 1) := by decide +kernel
theorem dX9_areaBelow_26 : decode cX9_areaBelow 26 = .ok (.isub, 1) := by decide +kernel
theorem dX9_areaBelow_27 : decode cX9_areaBelow 27 = .ok (.aload_n 0, 1) := by decide +kernel
theorem dX9_areaBelow_28 : decode cX9_areaBelow 28 = .ok (.getfield 9, 3) := by decide +kernel
theorem dX9_areaBelow_31 : decode cX9_areaBelow 31 = .ok (.iload_n 3, 1) := by decide +kernel
theorem dX9_areaBelow_32 : decode cX9_areaBelow 32 = .ok (.iaload, 1) := by decide +kernel
theorem dX9_areaBelow_33 : decode cX9_areaBelow 33 = .ok (.imul, 1) := by decide +kernel
theorem dX9_areaBelow_34 : decode cX9_areaBelow 34 = .ok (.iadd, 1) := by decide +kernel
theorem dX9_areaBelow_35 : decode cX9_areaBelow 35 = .ok (.istore_n 1, 1) := by decide +kernel
theorem dX9_areaBelow_36 : decode cX9_areaBelow 36 = .ok (.iload_n 3, 1) := by decide +kernel
theorem dX9_areaBelow_37 : decode cX9_areaBelow 37 = .ok (.istore_n 2, 1) := by decide +kernel
theorem dX9_areaBelow_38 : decode cX9_areaBelow 38 = .ok (.iinc 3 1, 3) := by decide +kernel
theorem dX9_areaBelow_41 : decode cX9_areaBelow 41 = .ok (.goto (-35), 3) := by decide +kernel
theorem dX9_areaBelow_44 : decode cX9_areaBelow 44 = .ok (.iload_n 1, 1) := by decide +kernel
theorem dX9_areaBelow_45 : decode cX9_areaBelow 45 = .ok (.ireturn, 1) := by decide +kernel
theorem dX10_init_0 : decode cX10_init 0 = .ok (.aload_n 0, 1) := by decide +kernel
theorem dX10_init_1 : decode cX10_init 1 = .ok (.invokespecial 3, 3) := by decide +kernel
theorem dX10_init_4 : decode cX10_init 4 = .ok (.aload_n 0, 1) := by decide +kernel
theorem dX10_init_5 : decode cX10_init 5 = .ok (.sipush 600, 3) := by decide +kernel
theorem dX10_init_8 : decode cX10_init 8 = .ok (.newarray .byte, 2) := by decide +kernel
theorem dX10_init_10 : decode cX10_init 10 = .ok (.putfield 9, 3) := by decide +kernel
theorem dX10_init_13 : decode cX10_init 13 = .ok (.aload_n 0, 1) := by decide +kernel
theorem dX10_init_14 : decode cX10_init 14 = .ok (.new 13, 3) := by decide +kernel
theorem dX10_init_17 : decode cX10_init 17 = .ok (.dup, 1) := by decide +kernel
theorem dX10_init_18 : decode cX10_init 18 = .ok (.invokespecial 15, 3) := by decide +kernel
theorem dX10_init_21 : decode cX10_init 21 = .ok (.putfield 16, 3) := by decide +kernel
theorem dX10_init_24 : decode cX10_init 24 = .ok (.aload_n 0, 1) := by decide +kernel
theorem dX10_init_25 : decode cX10_init 25 = .ok (.iconst (-1), 1) := by decide +kernel
theorem dX10_init_26 : decode cX10_init 26 = .ok (.putfield 20, 3) := by decide +kernel
theorem dX10_init_29 : decode cX10_init 29 = .ok (.aload_n 0, 1) := by decide +kernel
theorem dX10_init_30 : decode cX10_init 30 = .ok (.new 24, 3) := by decide +kernel
theorem dX10_init_33 : decode cX10_init 33 = .ok (.dup, 1) := by decide +kernel
theorem dX10_init_34 : decode cX10_init 34 = .ok (.invokespecial 26, 3) := by decide +kernel
theorem dX10_init_37 : decode cX10_init 37 = .ok (.putfield 27, 3) := by decide +kernel
theorem dX10_init_40 : decode cX10_init 40 = .ok (.aload_n 0, 1) := by decide +kernel
theorem dX10_init_41 : decode cX10_init 41 = .ok (.new 31, 3) := by decide +kernel
theorem dX10_init_44 : decode cX10_init 44 = .ok (.dup, 1) := by decide +kernel
theorem dX10_init_45 : decode cX10_init 45 = .ok (.invokespecial 33, 3) := by decide +kernel
theorem dX10_init_48 : decode cX10_init 48 = .ok (.putfield 34, 3) := by decide +kernel
theorem dX10_init_51 : decode cX10_init 51 = .ok (.aload_n 0, 1) := by decide +kernel
theorem dX10_init_52 : decode cX10_init 52 = .ok (.iconst 2, 1) := by decide +kernel
theorem dX10_init_53 : decode cX10_init 53 = .ok (.anewarray 24, 3) := by decide +kernel
theorem dX10_init_56 : decode cX10_init 56 = .ok (.putfield 38, 3) := by decide +kernel
theorem dX10_init_59 : decode cX10_init 59 = .ok (.aload_n 0, 1) := by decide +kernel
theorem dX10_init_60 : decode cX10_init 60 = .ok (.iconst 2, 1) := by decide +kernel
theorem dX10_init_61 : decode cX10_init 61 = .ok (.newarray .boolean, 2) := by decide +kernel
theorem dX10_init_63 : decode cX10_init 63 = .ok (.putfield 42, 3) := by decide +kernel
theorem dX10_init_66 : decode cX10_init 66 = .ok (.aload_n 0, 1) := by decide +kernel
theorem dX10_init_67 : decode cX10_init 67 = .ok (.new 46, 3) := by decide +kernel
theorem dX10_init_70 : decode cX10_init 70 = .ok (.dup, 1) := by decide +kernel
theorem dX10_init_71 : decode cX10_init 71 = .ok (.invokespecial 48, 3) := by decide +kernel
theorem dX10_init_74 : decode cX10_init 74 = .ok (.putfield 49, 3) := by decide +kernel
theorem dX10_init_77 : decode cX10_init 77 = .ok (.aload_n 0, 1) := by decide +kernel
theorem dX10_init_78 : decode cX10_init 78 = .ok (.new 53, 3) := by decide +kernel
theorem dX10_init_81 : decode cX10_init 81 = .ok (.dup, 1) := by decide +kernel
theorem dX10_init_82 : decode cX10_init 82 = .ok (.invokespecial 55, 3) := by decide +kernel
theorem dX10_init_85 : decode cX10_init 85 = .ok (.putfield 56, 3) := by decide +kernel
theorem dX10_init_88 : decode cX10_init 88 = .ok (.aload_n 0, 1) := by decide +kernel
theorem dX10_init_89 : decode cX10_init 89 = .ok (.new 60, 3) := by decide +kernel
theorem dX10_init_92 : decode cX10_init 92 = .ok (.dup, 1) := by decide +kernel
theorem dX10_init_93 : decode cX10_init 93 = .ok (.invokespecial 62, 3) := by decide +kernel
theorem dX10_init_96 : decode cX10_init 96 = .ok (.putfield 63, 3) := by decide +kernel
theorem dX10_init_99 : decode cX10_init 99 = .ok (.aload_n 0, 1) := by decide +kernel
theorem dX10_init_100 : decode cX10_init 100 = .ok (.new 67, 3) := by decide +kernel
theorem dX10_init_103 : decode cX10_init 103 = .ok (.dup, 1) := by decide +kernel
theorem dX10_init_104 : decode cX10_init 104 = .ok (.invokespecial 69, 3) := by decide +kernel
theorem dX10_init_107 : decode cX10_init 107 = .ok (.putfield 70, 3) := by decide +kernel
theorem dX10_init_110 : decode cX10_init 110 = .ok (.aload_n 0, 1) := by decide +kernel
theorem dX10_init_111 : decode cX10_init 111 = .ok (.new 74, 3) := by decide +kernel
theorem dX10_init_114 : decode cX10_init 114 = .ok (.dup, 1) := by decide +kernel
theorem dX10_init_115 : decode cX10_init 115 = .ok (.invokespecial 76, 3) := by decide +kernel
theorem dX10_init_118 : decode cX10_init 118 = .ok (.putfield 77, 3) := by decide +kernel
theorem dX10_init_121 : decode cX10_init 121 = .ok (.aload_n 0, 1) := by decide +kernel
theorem dX10_init_122 : decode cX10_init 122 = .ok (.new 81, 3) := by decide +kernel
theorem dX10_init_125 : decode cX10_init 125 = .ok (.dup, 1) := by decide +kernel
theorem dX10_init_126 : decode cX10_init 126 = .ok (.invokespecial 83, 3) := by decide +kernel
theorem dX10_init_129 : decode cX10_init 129 = .ok (.putfield 84, 3) := by decide +kernel
theorem dX10_init_132 : decode cX10_init 132 = .ok (.aload_n 0, 1) := by decide +kernel
theorem dX10_init_133 : decode cX10_init 133 = .ok (.new 88, 3) := by decide +kernel
theorem dX10_init_136 : decode cX10_init 136 = .ok (.dup, 1) := by decide +kernel
theorem dX10_init_137 : decode cX10_init 137 = .ok (.invokespecial 90, 3) := by decide +kernel
theorem dX10_init_140 : decode cX10_init 140 = .ok (.putfield 91, 3) := by decide +kernel
theorem dX10_init_143 : decode cX10_init 143 = .ok (.iconst 0, 1) := by decide +kernel
theorem dX10_init_144 : decode cX10_init 144 = .ok (.istore_n 1, 1) := by decide +kernel
theorem dX10_init_145 : decode cX10_init 145 = .ok (.iload_n 1, 1) := by decide +kernel
theorem dX10_init_146 : decode cX10_init 146 = .ok (.iconst 2, 1) := by decide +kernel
theorem dX10_init_147 : decode cX10_init 147 = .ok (.if_icmp .ge 22, 3) := by decide +kernel
theorem dX10_init_150 : decode cX10_init 150 = .ok (.aload_n 0, 1) := by decide +kernel
theorem dX10_init_151 : decode cX10_init 151 = .ok (.getfield 38, 3) := by decide +kernel
theorem dX10_init_154 : decode cX10_init 154 = .ok (.iload_n 1, 1) := by decide +kernel
theorem dX10_init_155 : decode cX10_init 155 = .ok (.new 24, 3) := by decide +kernel
theorem dX10_init_158 : decode cX10_init 158 = .ok (.dup, 1) := by decide +kernel
theorem dX10_init_159 : decode cX10_init 159 = .ok (.invokespecial 26, 3) := by decide +kernel
theorem dX10_init_162 : decode cX10_init 162 = .ok (.aastore, 1) := by decide +kernel
theorem dX10_init_163 : decode cX10_init 163 = .ok (.iinc 1 1, 3) := by decide +kernel
theorem dX10_init_166 : decode cX10_init 166 = .ok (.goto (-21), 3) := by decide +kernel
theorem dX10_init_169 : decode cX10_init 169 = .ok (.return_, 1) := by decide +kernel
theorem dX10_append_0 : decode cX10_append 0 = .ok (.aload_n 0, 1) := by decide +kernel
theorem dX10_append_1 : decode cX10_append 1 = .ok (.getfield 95, 3) := by decide +kernel
theorem dX10_append_4 : decode cX10_append 4 = .ok (.sipush 580, 3) := by decide +kernel
theorem dX10_append_7 : decode cX10_append 7 = .ok (.if_icmp .le 13, 3) := by decide +kernel
theorem dX10_append_10 : decode cX10_append 10 = .ok (.new 98, 3) := by decide +kernel
theorem dX10_append_13 : decode cX10_append 13 = .ok (.dup, 1) := by decide +kernel
theorem dX10_append_14 : decode cX10_append 14 = .ok (.ldc 100, 2) := by decide +kernel
theorem dX10_append_16 : decode cX10_append 16 = .ok (.invokespecial 102, 3) := by decide +kernel
theorem dX10_append_19 : decode cX10_append 19 = .ok (.athrow, 1) := by decide +kernel
theorem dX10_append_20 : decode cX10_append 20 = .ok (.aload_n 0, 1) := by decide +kernel
theorem dX10_append_21 : decode cX10_append 21 = .ok (.iload_n 1, 1) := by decide +kernel
theorem dX10_append_22 : decode cX10_append 22 = .ok (.invokevirtual 105, 3) := by decide +kernel
theorem dX10_append_25 : decode cX10_append 25 = .ok (.aload_n 0, 1) := by decide +kernel
theorem dX10_append_26 : decode cX10_append 26 = .ok (.iload_n 2, 1) := by decide +kernel
theorem dX10_append_27 : decode cX10_append 27 = .ok (.invokevirtual 105, 3) := by decide +kernel
theorem dX10_append_30 : decode cX10_append 30 = .ok (.aload_n 0, 1) := by decide +kernel
theorem dX10_append_31 : decode cX10_append 31 = .ok (.iload_n 3, 1) := by decide +kernel
theorem dX10_append_32 : decode cX10_append 32 = .ok (.invokevirtual 105, 3) := by decide +kernel
theorem dX10_append_35 : decode cX10_append 35 = .ok (.aload_n 0, 1) := by decide +kernel
theorem dX10_append_36 : decode cX10_append 36 = .ok (.iload 4, 2) := by decide +kernel
theorem dX10_append_38 : decode cX10_append 38 = .ok (.invokevirtual 105, 3) := by decide +kernel
theorem dX10_append_41 : decode cX10_append 41 = .ok (.aload_n 0, 1) := by decide +kernel
theorem dX10_append_42 : decode cX10_append 42 = .ok (.iload 5, 2) := by decide +kernel
theorem dX10_append_44 : decode cX10_append 44 = .ok (.invokevirtual 105, 3) := by decide +kernel
theorem dX10_append_47 : decode cX10_append 47 = .ok (.aload_n 0, 1) := by decide +kernel
theorem dX10_append_48 : decode cX10_append 48 = .ok (.getfield 95, 3) := by decide +kernel
theorem dX10_append_51 : decode cX10_append 51 = .ok (.ireturn, 1) := by decide +kernel
theorem dX10_putInput_0 : decode cX10_putInput 0 = .ok (.bipush 24, 2) := by decide +kernel
theorem dX10_putInput_2 : decode cX10_putInput 2 = .ok (.istore_n 2, 1) := by decide +kernel
theorem dX10_putInput_3 : decode cX10_putInput 3 = .ok (.iload_n 2, 1) := by decide +kernel
theorem dX10_putInput_4 : decode cX10_putInput 4 = .ok (.ifCond .lt 42, 3) := by decide +kernel
theorem dX10_putInput_7 : decode cX10_putInput 7 = .ok (.aload_n 0, 1) := by decide +kernel
theorem dX10_putInput_8 : decode cX10_putInput 8 = .ok (.getfield 95, 3) := by decide +kernel
theorem dX10_putInput_11 : decode cX10_putInput 11 = .ok (.sipush 600, 3) := by decide +kernel
theorem dX10_putInput_14 : decode cX10_putInput 14 = .ok (.if_icmp .ge 26, 3) := by decide +kernel
theorem dX10_putInput_17 : decode cX10_putInput 17 = .ok (.aload_n 0, 1) := by decide +kernel
theorem dX10_putInput_18 : decode cX10_putInput 18 = .ok (.getfield 9, 3) := by decide +kernel
theorem dX10_putInput_21 : decode cX10_putInput 21 = .ok (.aload_n 0, 1) := by decide +kernel
theorem dX10_putInput_22 : decode cX10_putInput 22 = .ok (.getfield 95, 3) := by decide +kernel
theorem dX10_putInput_25 : decode cX10_putInput 25 = .ok (.iload_n 1, 1) := by decide +kernel
theorem dX10_putInput_26 : decode cX10_putInput 26 = .ok (.iload_n 2, 1) := by decide +kernel
theorem dX10_putInput_27 : decode cX10_putInput 27 = .ok (.ishr, 1) := by decide +kernel
theorem dX10_putInput_28 : decode cX10_putInput 28 = .ok (.i2b, 1) := by decide +kernel
theorem dX10_putInput_29 : decode cX10_putInput 29 = .ok (.bastore, 1) := by decide +kernel
theorem dX10_putInput_30 : decode cX10_putInput 30 = .ok (.aload_n 0, 1) := by decide +kernel
theorem dX10_putInput_31 : decode cX10_putInput 31 = .ok (.dup, 1) := by decide +kernel
theorem dX10_putInput_32 : decode cX10_putInput 32 = .ok (.getfield 95, 3) := by decide +kernel
theorem dX10_putInput_35 : decode cX10_putInput 35 = .ok (.iconst 1, 1) := by decide +kernel
theorem dX10_putInput_36 : decode cX10_putInput 36 = .ok (.iadd, 1) := by decide +kernel
theorem dX10_putInput_37 : decode cX10_putInput 37 = .ok (.putfield 95, 3) := by decide +kernel
theorem dX10_putInput_40 : decode cX10_putInput 40 = .ok (.iinc 2 (-8), 3) := by decide +kernel
theorem dX10_putInput_43 : decode cX10_putInput 43 = .ok (.goto (-40), 3) := by decide +kernel
theorem dX10_putInput_46 : decode cX10_putInput 46 = .ok (.return_, 1) := by decide +kernel
theorem dX10_truncate_0 : decode cX10_truncate 0 = .ok (.iload_n 1, 1) := by decide +kernel
theorem dX10_truncate_1 : decode cX10_truncate 1 = .ok (.ifCond .lt 11, 3) := by decide +kernel
theorem dX10_truncate_4 : decode cX10_truncate 4 = .ok (.iload_n 1, 1) := by decide +kernel
theorem dX10_truncate_5 : decode cX10_truncate 5 = .ok (.aload_n 0, 1) := by decide +kernel
theorem dX10_truncate_6 : decode cX10_truncate 6 = .ok (.getfield 95, 3) := by decide +kernel
theorem dX10_truncate_9 : decode cX10_truncate 9 = .ok (.if_icmp .le 13, 3) := by decide +kernel
theorem dX10_truncate_12 : decode cX10_truncate 12 = .ok (.new 109, 3) := by decide +kernel
theorem dX10_truncate_15 : decode cX10_truncate 15 = .ok (.dup, 1) := by decide +kernel
theorem dX10_truncate_16 : decode cX10_truncate 16 = .ok (.ldc 111, 2) := by decide +kernel
theorem dX10_truncate_18 : decode cX10_truncate 18 = .ok (.invokespecial 113, 3) := by decide +kernel
theorem dX10_truncate_21 : decode cX10_truncate 21 = .ok (.athrow, 1) := by decide +kernel
theorem dX10_truncate_22 : decode cX10_truncate 22 = .ok (.aload_n 0, 1) := by decide +kernel
theorem dX10_truncate_23 : decode cX10_truncate 23 = .ok (.iload_n 1, 1) := by decide +kernel
theorem dX10_truncate_24 : decode cX10_truncate 24 = .ok (.putfield 95, 3) := by decide +kernel
theorem dX10_truncate_27 : decode cX10_truncate 27 = .ok (.return_, 1) := by decide +kernel
theorem dX10_load_0 : decode cX10_load 0 = .ok (.aload_n 0, 1) := by decide +kernel
theorem dX10_load_1 : decode cX10_load 1 = .ok (.getfield 16, 3) := by decide +kernel
theorem dX10_load_4 : decode cX10_load 4 = .ok (.aload_n 0, 1) := by decide +kernel
theorem dX10_load_5 : decode cX10_load 5 = .ok (.getfield 9, 3) := by decide +kernel
theorem dX10_load_8 : decode cX10_load 8 = .ok (.aload_n 0, 1) := by decide +kernel
theorem dX10_load_9 : decode cX10_load 9 = .ok (.getfield 95, 3) := by decide +kernel
theorem dX10_load_12 : decode cX10_load 12 = .ok (.invokevirtual 114, 3) := by decide +kernel
theorem dX10_load_15 : decode cX10_load 15 = .ok (.istore_n 1, 1) := by decide +kernel
theorem dX10_load_16 : decode cX10_load 16 = .ok (.aload_n 0, 1) := by decide +kernel
theorem dX10_load_17 : decode cX10_load 17 = .ok (.iconst 0, 1) := by decide +kernel
theorem dX10_load_18 : decode cX10_load 18 = .ok (.putfield 95, 3) := by decide +kernel
theorem dX10_load_21 : decode cX10_load 21 = .ok (.aload_n 0, 1) := by decide +kernel
theorem dX10_load_22 : decode cX10_load 22 = .ok (.aload_n 0, 1) := by decide +kernel
theorem dX10_load_23 : decode cX10_load 23 = .ok (.getfield 16, 3) := by decide +kernel
theorem dX10_load_26 : decode cX10_load 26 = .ok (.getfield 118, 3) := by decide +kernel
theorem dX10_load_29 : decode cX10_load 29 = .ok (.putfield 121, 3) := by decide +kernel
theorem dX10_load_32 : decode cX10_load 32 = .ok (.aload_n 0, 1) := by decide +kernel
theorem dX10_load_33 : decode cX10_load 33 = .ok (.aload_n 0, 1) := by decide +kernel
theorem dX10_load_34 : decode cX10_load 34 = .ok (.getfield 16, 3) := by decide +kernel
theorem dX10_load_37 : decode cX10_load 37 = .ok (.getfield 124, 3) := by decide +kernel
theorem dX10_load_40 : decode cX10_load 40 = .ok (.putfield 20, 3) := by decide +kernel
theorem dX10_load_43 : decode cX10_load 43 = .ok (.iload_n 1, 1) := by decide +kernel
theorem dX10_load_44 : decode cX10_load 44 = .ok (.ifCond .ne 6, 3) := by decide +kernel
theorem dX10_load_47 : decode cX10_load 47 = .ok (.bipush (-4), 2) := by decide +kernel
theorem dX10_load_49 : decode cX10_load 49 = .ok (.ireturn, 1) := by decide +kernel
theorem dX10_load_50 : decode cX10_load 50 = .ok (.aload_n 0, 1) := by decide +kernel
theorem dX10_load_51 : decode cX10_load 51 = .ok (.getfield 34, 3) := by decide +kernel
theorem dX10_load_54 : decode cX10_load 54 = .ok (.aload_n 0, 1) := by decide +kernel
theorem dX10_load_55 : decode cX10_load 55 = .ok (.getfield 27, 3) := by decide +kernel
theorem dX10_load_58 : decode cX10_load 58 = .ok (.invokevirtual 127, 3) := by decide +kernel
theorem dX10_load_61 : decode cX10_load 61 = .ok (.aload_n 0, 1) := by decide +kernel
theorem dX10_load_62 : decode cX10_load 62 = .ok (.getfield 27, 3) := by decide +kernel
theorem dX10_load_65 : decode cX10_load 65 = .ok (.aload_n 0, 1) := by decide +kernel
theorem dX10_load_66 : decode cX10_load 66 = .ok (.getfield 16, 3) := by decide +kernel
theorem dX10_load_69 : decode cX10_load 69 = .ok (.getfield 131, 3) := by decide +kernel
theorem dX10_load_72 : decode cX10_load 72 = .ok (.invokevirtual 134, 3) := by decide +kernel
theorem dX10_load_75 : decode cX10_load 75 = .ok (.aload_n 0, 1) := by decide +kernel
theorem dX10_load_76 : decode cX10_load 76 = .ok (.invokevirtual 137, 3) := by decide +kernel
theorem dX10_load_79 : decode cX10_load 79 = .ok (.aload_n 0, 1) := by decide +kernel
theorem dX10_load_80 : decode cX10_load 80 = .ok (.getfield 27, 3) := by decide +kernel
theorem dX10_load_83 : decode cX10_load 83 = .ok (.getfield 140, 3) := by decide +kernel
theorem dX10_load_86 : decode cX10_load 86 = .ok (.ireturn, 1) := by decide +kernel
theorem dX10_errorCode_0 : decode cX10_errorCode 0 = .ok (.aload_n 0, 1) := by decide +kernel
theorem dX10_errorCode_1 : decode cX10_errorCode 1 = .ok (.getfield 121, 3) := by decide +kernel
theorem dX10_errorCode_4 : decode cX10_errorCode 4 = .ok (.ireturn, 1) := by decide +kernel
theorem dX10_errorPosition_0 : decode cX10_errorPosition 0 = .ok (.aload_n 0, 1) := by decide +kernel
theorem dX10_errorPosition_1 : decode cX10_errorPosition 1 = .ok (.getfield 20, 3) := by decide +kernel
theorem dX10_errorPosition_4 : decode cX10_errorPosition 4 = .ok (.ireturn, 1) := by decide +kernel
theorem dX10_property_0 : decode cX10_property 0 = .ok (.iload_n 1, 1) := by decide +kernel
theorem dX10_property_1 : decode cX10_property 1 = .ok (.bipush 7, 2) := by decide +kernel
theorem dX10_property_3 : decode cX10_property 3 = .ok (.invokestatic 143, 3) := by decide +kernel
theorem dX10_property_6 : decode cX10_property 6 = .ok (.iload_n 1, 1) := by decide +kernel
theorem dX10_property_7 : decode cX10_property 7 = .ok (.tableswitch 113 0 6 #[41, 49, 57, 65, 82, 97, 105], 41) := by decide +kernel
theorem dX10_property_48 : decode cX10_property 48 = .ok (.aload_n 0, 1) := by decide +kernel
theorem dX10_property_49 : decode cX10_property 49 = .ok (.getfield 27, 3) := by decide +kernel
theorem dX10_property_52 : decode cX10_property 52 = .ok (.getfield 140, 3) := by decide +kernel
theorem dX10_property_55 : decode cX10_property 55 = .ok (.ireturn, 1) := by decide +kernel
theorem dX10_property_56 : decode cX10_property 56 = .ok (.aload_n 0, 1) := by decide +kernel
theorem dX10_property_57 : decode cX10_property 57 = .ok (.getfield 27, 3) := by decide +kernel
theorem dX10_property_60 : decode cX10_property 60 = .ok (.getfield 147, 3) := by decide +kernel
theorem dX10_property_63 : decode cX10_property 63 = .ok (.ireturn, 1) := by decide +kernel
theorem dX10_property_64 : decode cX10_property 64 = .ok (.aload_n 0, 1) := by decide +kernel
theorem dX10_property_65 : decode cX10_property 65 = .ok (.getfield 27, 3) := by decide +kernel
theorem dX10_property_68 : decode cX10_property 68 = .ok (.getfield 150, 3) := by decide +kernel
theorem dX10_property_71 : decode cX10_property 71 = .ok (.ireturn, 1) := by decide +kernel
theorem dX10_property_72 : decode cX10_property 72 = .ok (.aload_n 0, 1) := by decide +kernel
theorem dX10_property_73 : decode cX10_property 73 = .ok (.getfield 27, 3) := by decide +kernel
theorem dX10_property_76 : decode cX10_property 76 = .ok (.aload_n 0, 1) := by decide +kernel
theorem dX10_property_77 : decode cX10_property 77 = .ok (.getfield 27, 3) := by decide +kernel
theorem dX10_property_80 : decode cX10_property 80 = .ok (.getfield 153, 3) := by decide +kernel
theorem dX10_property_83 : decode cX10_property 83 = .ok (.invokevirtual 157, 3) := by decide +kernel
theorem dX10_property_86 : decode cX10_property 86 = .ok (.iconst 2, 1) := by decide +kernel
theorem dX10_property_87 : decode cX10_property 87 = .ok (.idiv, 1) := by decide +kernel
theorem dX10_property_88 : decode cX10_property 88 = .ok (.ireturn, 1) := by decide +kernel
theorem dX10_property_89 : decode cX10_property 89 = .ok (.aload_n 0, 1) := by decide +kernel
theorem dX10_property_90 : decode cX10_property 90 = .ok (.getfield 27, 3) := by decide +kernel
theorem dX10_property_93 : decode cX10_property 93 = .ok (.aload_n 0, 1) := by decide +kernel
theorem dX10_property_94 : decode cX10_property 94 = .ok (.getfield 27, 3) := by decide +kernel
theorem dX10_property_97 : decode cX10_property 97 = .ok (.getfield 161, 3) := by decide +kernel
theorem dX10_property_100 : decode cX10_property 100 = .ok (.invokevirtual 157, 3) := by decide +kernel
theorem dX10_property_103 : decode cX10_property 103 = .ok (.ireturn, 1) := by decide +kernel
theorem dX10_property_104 : decode cX10_property 104 = .ok (.aload_n 0, 1) := by decide +kernel
theorem dX10_property_105 : decode cX10_property 105 = .ok (.getfield 27, 3) := by decide +kernel
theorem dX10_property_108 : decode cX10_property 108 = .ok (.getfield 164, 3) := by decide +kernel
theorem dX10_property_111 : decode cX10_property 111 = .ok (.ireturn, 1) := by decide +kernel
theorem dX10_property_112 : decode cX10_property 112 = .ok (.aload_n 0, 1) := by decide +kernel
theorem dX10_property_113 : decode cX10_property 113 = .ok (.getfield 27, 3) := by decide +kernel
theorem dX10_property_116 : decode cX10_property 116 = .ok (.getfield 167, 3) := by decide +kernel
theorem dX10_property_119 : decode cX10_property 119 = .ok (.ireturn, 1) := by decide +kernel
theorem dX10_property_120 : decode cX10_property 120 = .ok (.aload_n 0, 1) := by decide +kernel
theorem dX10_property_121 : decode cX10_property 121 = .ok (.getfield 27, 3) := by decide +kernel
theorem dX10_property_124 : decode cX10_property 124 = .ok (.getfield 170, 3) := by decide +kernel
theorem dX10_property_127 : decode cX10_property 127 = .ok (.ireturn, 1) := by decide +kernel
theorem dX10_item_0 : decode cX10_item 0 = .ok (.aload_n 0, 1) := by decide +kernel
theorem dX10_item_1 : decode cX10_item 1 = .ok (.iload_n 1, 1) := by decide +kernel
theorem dX10_item_2 : decode cX10_item 2 = .ok (.invokevirtual 173, 3) := by decide +kernel
theorem dX10_item_5 : decode cX10_item 5 = .ok (.iload_n 2, 1) := by decide +kernel
theorem dX10_item_6 : decode cX10_item 6 = .ok (.iconst 4, 1) := by decide +kernel
theorem dX10_item_7 : decode cX10_item 7 = .ok (.invokestatic 143, 3) := by decide +kernel
theorem dX10_item_10 : decode cX10_item 10 = .ok (.iload_n 2, 1) := by decide +kernel
theorem dX10_item_11 : decode cX10_item 11 = .ok (.tableswitch 69 0 3 #[29, 39, 49, 59], 29) := by decide +kernel
theorem dX10_item_40 : decode cX10_item 40 = .ok (.aload_n 0, 1) := by decide +kernel
theorem dX10_item_41 : decode cX10_item 41 = .ok (.getfield 27, 3) := by decide +kernel
theorem dX10_item_44 : decode cX10_item 44 = .ok (.getfield 176, 3) := by decide +kernel
theorem dX10_item_47 : decode cX10_item 47 = .ok (.iload_n 1, 1) := by decide +kernel
theorem dX10_item_48 : decode cX10_item 48 = .ok (.iaload, 1) := by decide +kernel
theorem dX10_item_49 : decode cX10_item 49 = .ok (.ireturn, 1) := by decide +kernel
theorem dX10_item_50 : decode cX10_item 50 = .ok (.aload_n 0, 1) := by decide +kernel
theorem dX10_item_51 : decode cX10_item 51 = .ok (.getfield 27, 3) := by decide +kernel
theorem dX10_item_54 : decode cX10_item 54 = .ok (.getfield 179, 3) := by decide +kernel
theorem dX10_item_57 : decode cX10_item 57 = .ok (.iload_n 1, 1) := by decide +kernel
theorem dX10_item_58 : decode cX10_item 58 = .ok (.iaload, 1) := by decide +kernel
theorem dX10_item_59 : decode cX10_item 59 = .ok (.ireturn, 1) := by decide +kernel
theorem dX10_item_60 : decode cX10_item 60 = .ok (.aload_n 0, 1) := by decide +kernel
theorem dX10_item_61 : decode cX10_item 61 = .ok (.getfield 27, 3) := by decide +kernel
theorem dX10_item_64 : decode cX10_item 64 = .ok (.getfield 182, 3) := by decide +kernel
theorem dX10_item_67 : decode cX10_item 67 = .ok (.iload_n 1, 1) := by decide +kernel
theorem dX10_item_68 : decode cX10_item 68 = .ok (.iaload, 1) := by decide +kernel
theorem dX10_item_69 : decode cX10_item 69 = .ok (.ireturn, 1) := by decide +kernel
theorem dX10_item_70 : decode cX10_item 70 = .ok (.aload_n 0, 1) := by decide +kernel
theorem dX10_item_71 : decode cX10_item 71 = .ok (.getfield 27, 3) := by decide +kernel
theorem dX10_item_74 : decode cX10_item 74 = .ok (.getfield 153, 3) := by decide +kernel
theorem dX10_item_77 : decode cX10_item 77 = .ok (.iload_n 1, 1) := by decide +kernel
theorem dX10_item_78 : decode cX10_item 78 = .ok (.iaload, 1) := by decide +kernel
theorem dX10_item_79 : decode cX10_item 79 = .ok (.ireturn, 1) := by decide +kernel
theorem dX10_item_80 : decode cX10_item 80 = .ok (.aload_n 0, 1) := by decide +kernel
theorem dX10_item_81 : decode cX10_item 81 = .ok (.getfield 27, 3) := by decide +kernel
theorem dX10_item_84 : decode cX10_item 84 = .ok (.getfield 161, 3) := by decide +kernel
theorem dX10_item_87 : decode cX10_item 87 = .ok (.iload_n 1, 1) := by decide +kernel
theorem dX10_item_88 : decode cX10_item 88 = .ok (.iaload, 1) := by decide +kernel
theorem dX10_item_89 : decode cX10_item 89 = .ok (.ireturn, 1) := by decide +kernel
theorem dX10_refusal_0 : decode cX10_refusal 0 = .ok (.aload_n 0, 1) := by decide +kernel
theorem dX10_refusal_1 : decode cX10_refusal 1 = .ok (.iload_n 1, 1) := by decide +kernel
theorem dX10_refusal_2 : decode cX10_refusal 2 = .ok (.invokevirtual 185, 3) := by decide +kernel
theorem dX10_refusal_5 : decode cX10_refusal 5 = .ok (.aload_n 0, 1) := by decide +kernel
theorem dX10_refusal_6 : decode cX10_refusal 6 = .ok (.invokevirtual 188, 3) := by decide +kernel
theorem dX10_refusal_9 : decode cX10_refusal 9 = .ok (.aload_n 0, 1) := by decide +kernel
theorem dX10_refusal_10 : decode cX10_refusal 10 = .ok (.getfield 56, 3) := by decide +kernel
theorem dX10_refusal_13 : decode cX10_refusal 13 = .ok (.iload_n 1, 1) := by decide +kernel
theorem dX10_refusal_14 : decode cX10_refusal 14 = .ok (.aload_n 0, 1) := by decide +kernel
theorem dX10_refusal_15 : decode cX10_refusal 15 = .ok (.getfield 27, 3) := by decide +kernel
theorem dX10_refusal_18 : decode cX10_refusal 18 = .ok (.getfield 147, 3) := by decide +kernel
theorem dX10_refusal_21 : decode cX10_refusal 21 = .ok (.invokevirtual 191, 3) := by decide +kernel
theorem dX10_refusal_24 : decode cX10_refusal 24 = .ok (.ireturn, 1) := by decide +kernel
theorem dX10_sum_0 : decode cX10_sum 0 = .ok (.aload_n 0, 1) := by decide +kernel
theorem dX10_sum_1 : decode cX10_sum 1 = .ok (.iload_n 1, 1) := by decide +kernel
theorem dX10_sum_2 : decode cX10_sum 2 = .ok (.invokevirtual 185, 3) := by decide +kernel
theorem dX10_sum_5 : decode cX10_sum 5 = .ok (.iload_n 2, 1) := by decide +kernel
theorem dX10_sum_6 : decode cX10_sum 6 = .ok (.iconst 2, 1) := by decide +kernel
theorem dX10_sum_7 : decode cX10_sum 7 = .ok (.invokestatic 143, 3) := by decide +kernel
theorem dX10_sum_10 : decode cX10_sum 10 = .ok (.aload_n 0, 1) := by decide +kernel
theorem dX10_sum_11 : decode cX10_sum 11 = .ok (.invokevirtual 188, 3) := by decide +kernel
theorem dX10_sum_14 : decode cX10_sum 14 = .ok (.iload_n 2, 1) := by decide +kernel
theorem dX10_sum_15 : decode cX10_sum 15 = .ok (.lookupswitch 45 #[(0, 25), (1, 35)], 25) := by decide +kernel
theorem dX10_sum_40 : decode cX10_sum 40 = .ok (.aload_n 0, 1) := by decide +kernel
theorem dX10_sum_41 : decode cX10_sum 41 = .ok (.getfield 56, 3) := by decide +kernel
theorem dX10_sum_44 : decode cX10_sum 44 = .ok (.getfield 195, 3) := by decide +kernel
theorem dX10_sum_47 : decode cX10_sum 47 = .ok (.iload_n 1, 1) := by decide +kernel
theorem dX10_sum_48 : decode cX10_sum 48 = .ok (.iaload, 1) := by decide +kernel
theorem dX10_sum_49 : decode cX10_sum 49 = .ok (.ireturn, 1) := by decide +kernel
theorem dX10_sum_50 : decode cX10_sum 50 = .ok (.aload_n 0, 1) := by decide +kernel
theorem dX10_sum_51 : decode cX10_sum 51 = .ok (.getfield 56, 3) := by decide +kernel
theorem dX10_sum_54 : decode cX10_sum 54 = .ok (.getfield 196, 3) := by decide +kernel
theorem dX10_sum_57 : decode cX10_sum 57 = .ok (.iload_n 1, 1) := by decide +kernel
theorem dX10_sum_58 : decode cX10_sum 58 = .ok (.iaload, 1) := by decide +kernel
theorem dX10_sum_59 : decode cX10_sum 59 = .ok (.ireturn, 1) := by decide +kernel
theorem dX10_sum_60 : decode cX10_sum 60 = .ok (.aload_n 0, 1) := by decide +kernel
theorem dX10_sum_61 : decode cX10_sum 61 = .ok (.getfield 56, 3) := by decide +kernel
theorem dX10_sum_64 : decode cX10_sum 64 = .ok (.getfield 197, 3) := by decide +kernel
theorem dX10_sum_67 : decode cX10_sum 67 = .ok (.iload_n 1, 1) := by decide +kernel
theorem dX10_sum_68 : decode cX10_sum 68 = .ok (.iaload, 1) := by decide +kernel
theorem dX10_sum_69 : decode cX10_sum 69 = .ok (.ireturn, 1) := by decide +kernel
theorem dX10_allowed_0 : decode cX10_allowed 0 = .ok (.aload_n 0, 1) := by decide +kernel
theorem dX10_allowed_1 : decode cX10_allowed 1 = .ok (.invokevirtual 188, 3) := by decide +kernel
theorem dX10_allowed_4 : decode cX10_allowed 4 = .ok (.aload_n 0, 1) := by decide +kernel
theorem dX10_allowed_5 : decode cX10_allowed 5 = .ok (.getfield 70, 3) := by decide +kernel
theorem dX10_allowed_8 : decode cX10_allowed 8 = .ok (.getfield 198, 3) := by decide +kernel
theorem dX10_allowed_11 : decode cX10_allowed 11 = .ok (.ireturn, 1) := by decide +kernel
theorem dX10_points_0 : decode cX10_points 0 = .ok (.aload_n 0, 1) := by decide +kernel
theorem dX10_points_1 : decode cX10_points 1 = .ok (.invokevirtual 188, 3) := by decide +kernel
theorem dX10_points_4 : decode cX10_points 4 = .ok (.aload_n 0, 1) := by decide +kernel
theorem dX10_points_5 : decode cX10_points 5 = .ok (.getfield 70, 3) := by decide +kernel
theorem dX10_points_8 : decode cX10_points 8 = .ok (.getfield 201, 3) := by decide +kernel
theorem dX10_points_11 : decode cX10_points 11 = .ok (.ireturn, 1) := by decide +kernel
theorem dX10_point_0 : decode cX10_point 0 = .ok (.aload_n 0, 1) := by decide +kernel
theorem dX10_point_1 : decode cX10_point 1 = .ok (.iload_n 1, 1) := by decide +kernel
theorem dX10_point_2 : decode cX10_point 2 = .ok (.invokevirtual 204, 3) := by decide +kernel
theorem dX10_point_5 : decode cX10_point 5 = .ok (.iload_n 2, 1) := by decide +kernel
theorem dX10_point_6 : decode cX10_point 6 = .ok (.bipush 6, 2) := by decide +kernel
theorem dX10_point_8 : decode cX10_point 8 = .ok (.invokestatic 143, 3) := by decide +kernel
theorem dX10_point_11 : decode cX10_point 11 = .ok (.iload_n 2, 1) := by decide +kernel
theorem dX10_point_12 : decode cX10_point 12 = .ok (.tableswitch 117 0 5 #[40, 50, 60, 70, 80, 98], 40) := by decide +kernel
theorem dX10_point_52 : decode cX10_point 52 = .ok (.aload_n 0, 1) := by decide +kernel
theorem dX10_point_53 : decode cX10_point 53 = .ok (.getfield 70, 3) := by decide +kernel
theorem dX10_point_56 : decode cX10_point 56 = .ok (.getfield 207, 3) := by decide +kernel
theorem dX10_point_59 : decode cX10_point 59 = .ok (.iload_n 1, 1) := by decide +kernel
theorem dX10_point_60 : decode cX10_point 60 = .ok (.iaload, 1) := by decide +kernel
theorem dX10_point_61 : decode cX10_point 61 = .ok (.ireturn, 1) := by decide +kernel
theorem dX10_point_62 : decode cX10_point 62 = .ok (.aload_n 0, 1) := by decide +kernel
theorem dX10_point_63 : decode cX10_point 63 = .ok (.getfield 70, 3) := by decide +kernel
theorem dX10_point_66 : decode cX10_point 66 = .ok (.getfield 208, 3) := by decide +kernel
theorem dX10_point_69 : decode cX10_point 69 = .ok (.iload_n 1, 1) := by decide +kernel
theorem dX10_point_70 : decode cX10_point 70 = .ok (.iaload, 1) := by decide +kernel
theorem dX10_point_71 : decode cX10_point 71 = .ok (.ireturn, 1) := by decide +kernel
theorem dX10_point_72 : decode cX10_point 72 = .ok (.aload_n 0, 1) := by decide +kernel
theorem dX10_point_73 : decode cX10_point 73 = .ok (.getfield 70, 3) := by decide +kernel
theorem dX10_point_76 : decode cX10_point 76 = .ok (.getfield 209, 3) := by decide +kernel
theorem dX10_point_79 : decode cX10_point 79 = .ok (.iload_n 1, 1) := by decide +kernel
theorem dX10_point_80 : decode cX10_point 80 = .ok (.iaload, 1) := by decide +kernel
theorem dX10_point_81 : decode cX10_point 81 = .ok (.ireturn, 1) := by decide +kernel
theorem dX10_point_82 : decode cX10_point 82 = .ok (.aload_n 0, 1) := by decide +kernel
theorem dX10_point_83 : decode cX10_point 83 = .ok (.getfield 70, 3) := by decide +kernel
theorem dX10_point_86 : decode cX10_point 86 = .ok (.getfield 212, 3) := by decide +kernel
theorem dX10_point_89 : decode cX10_point 89 = .ok (.iload_n 1, 1) := by decide +kernel
theorem dX10_point_90 : decode cX10_point 90 = .ok (.iaload, 1) := by decide +kernel
theorem dX10_point_91 : decode cX10_point 91 = .ok (.ireturn, 1) := by decide +kernel
theorem dX10_point_92 : decode cX10_point 92 = .ok (.aload_n 0, 1) := by decide +kernel
theorem dX10_point_93 : decode cX10_point 93 = .ok (.getfield 56, 3) := by decide +kernel
theorem dX10_point_96 : decode cX10_point 96 = .ok (.getfield 195, 3) := by decide +kernel
theorem dX10_point_99 : decode cX10_point 99 = .ok (.aload_n 0, 1) := by decide +kernel
theorem dX10_point_100 : decode cX10_point 100 = .ok (.getfield 70, 3) := by decide +kernel
theorem dX10_point_103 : decode cX10_point 103 = .ok (.getfield 209, 3) := by decide +kernel
theorem dX10_point_106 : decode cX10_point 106 = .ok (.iload_n 1, 1) := by decide +kernel
theorem dX10_point_107 : decode cX10_point 107 = .ok (.iaload, 1) := by decide +kernel
theorem dX10_point_108 : decode cX10_point 108 = .ok (.iaload, 1) := by decide +kernel
theorem dX10_point_109 : decode cX10_point 109 = .ok (.ireturn, 1) := by decide +kernel
theorem dX10_point_110 : decode cX10_point 110 = .ok (.aload_n 0, 1) := by decide +kernel
theorem dX10_point_111 : decode cX10_point 111 = .ok (.getfield 70, 3) := by decide +kernel
theorem dX10_point_114 : decode cX10_point 114 = .ok (.getfield 215, 3) := by decide +kernel
theorem dX10_point_117 : decode cX10_point 117 = .ok (.iload_n 1, 1) := by decide +kernel
theorem dX10_point_118 : decode cX10_point 118 = .ok (.iaload, 1) := by decide +kernel
theorem dX10_point_119 : decode cX10_point 119 = .ok (.iconst 1, 1) := by decide +kernel
theorem dX10_point_120 : decode cX10_point 120 = .ok (.if_icmp .lt 7, 3) := by decide +kernel
theorem dX10_point_123 : decode cX10_point 123 = .ok (.iconst 1, 1) := by decide +kernel
theorem dX10_point_124 : decode cX10_point 124 = .ok (.goto 4, 3) := by decide +kernel
theorem dX10_point_127 : decode cX10_point 127 = .ok (.iconst 0, 1) := by decide +kernel
theorem dX10_point_128 : decode cX10_point 128 = .ok (.ireturn, 1) := by decide +kernel
theorem dX10_point_129 : decode cX10_point 129 = .ok (.aload_n 0, 1) := by decide +kernel
theorem dX10_point_130 : decode cX10_point 130 = .ok (.getfield 70, 3) := by decide +kernel
theorem dX10_point_133 : decode cX10_point 133 = .ok (.getfield 215, 3) := by decide +kernel
theorem dX10_point_136 : decode cX10_point 136 = .ok (.iload_n 1, 1) := by decide +kernel
theorem dX10_point_137 : decode cX10_point 137 = .ok (.iaload, 1) := by decide +kernel
theorem dX10_point_138 : decode cX10_point 138 = .ok (.iconst 2, 1) := by decide +kernel
theorem dX10_point_139 : decode cX10_point 139 = .ok (.if_icmp .ne 7, 3) := by decide +kernel
theorem dX10_point_142 : decode cX10_point 142 = .ok (.iconst 1, 1) := by decide +kernel
theorem dX10_point_143 : decode cX10_point 143 = .ok (.goto 4, 3) := by decide +kernel
theorem dX10_point_146 : decode cX10_point 146 = .ok (.iconst 0, 1) := by decide +kernel
theorem dX10_point_147 : decode cX10_point 147 = .ok (.ireturn, 1) := by decide +kernel
theorem dX10_lightest_0 : decode cX10_lightest 0 = .ok (.aload_n 0, 1) := by decide +kernel
theorem dX10_lightest_1 : decode cX10_lightest 1 = .ok (.iload_n 1, 1) := by decide +kernel
theorem dX10_lightest_2 : decode cX10_lightest 2 = .ok (.invokevirtual 204, 3) := by decide +kernel
theorem dX10_lightest_5 : decode cX10_lightest 5 = .ok (.aload_n 0, 1) := by decide +kernel
theorem dX10_lightest_6 : decode cX10_lightest 6 = .ok (.getfield 70, 3) := by decide +kernel
theorem dX10_lightest_9 : decode cX10_lightest 9 = .ok (.getfield 218, 3) := by decide +kernel
theorem dX10_lightest_12 : decode cX10_lightest 12 = .ok (.iload_n 1, 1) := by decide +kernel
theorem dX10_lightest_13 : decode cX10_lightest 13 = .ok (.iaload, 1) := by decide +kernel
theorem dX10_lightest_14 : decode cX10_lightest 14 = .ok (.ireturn, 1) := by decide +kernel
theorem dX10_pointOf_0 : decode cX10_pointOf 0 = .ok (.aload_n 0, 1) := by decide +kernel
theorem dX10_pointOf_1 : decode cX10_pointOf 1 = .ok (.iload_n 1, 1) := by decide +kernel
theorem dX10_pointOf_2 : decode cX10_pointOf 2 = .ok (.invokevirtual 185, 3) := by decide +kernel
theorem dX10_pointOf_5 : decode cX10_pointOf 5 = .ok (.aload_n 0, 1) := by decide +kernel
theorem dX10_pointOf_6 : decode cX10_pointOf 6 = .ok (.invokevirtual 188, 3) := by decide +kernel
theorem dX10_pointOf_9 : decode cX10_pointOf 9 = .ok (.aload_n 0, 1) := by decide +kernel
theorem dX10_pointOf_10 : decode cX10_pointOf 10 = .ok (.getfield 70, 3) := by decide +kernel
theorem dX10_pointOf_13 : decode cX10_pointOf 13 = .ok (.aload_n 0, 1) := by decide +kernel
theorem dX10_pointOf_14 : decode cX10_pointOf 14 = .ok (.getfield 56, 3) := by decide +kernel
theorem dX10_pointOf_17 : decode cX10_pointOf 17 = .ok (.getfield 196, 3) := by decide +kernel
theorem dX10_pointOf_20 : decode cX10_pointOf 20 = .ok (.iload_n 1, 1) := by decide +kernel
theorem dX10_pointOf_21 : decode cX10_pointOf 21 = .ok (.iaload, 1) := by decide +kernel
theorem dX10_pointOf_22 : decode cX10_pointOf 22 = .ok (.aload_n 0, 1) := by decide +kernel
theorem dX10_pointOf_23 : decode cX10_pointOf 23 = .ok (.getfield 56, 3) := by decide +kernel
theorem dX10_pointOf_26 : decode cX10_pointOf 26 = .ok (.getfield 197, 3) := by decide +kernel
theorem dX10_pointOf_29 : decode cX10_pointOf 29 = .ok (.iload_n 1, 1) := by decide +kernel
theorem dX10_pointOf_30 : decode cX10_pointOf 30 = .ok (.iaload, 1) := by decide +kernel
theorem dX10_pointOf_31 : decode cX10_pointOf 31 = .ok (.invokevirtual 221, 3) := by decide +kernel
theorem dX10_pointOf_34 : decode cX10_pointOf 34 = .ok (.ireturn, 1) := by decide +kernel
theorem dX10_beatenBy_0 : decode cX10_beatenBy 0 = .ok (.aload_n 0, 1) := by decide +kernel
theorem dX10_beatenBy_1 : decode cX10_beatenBy 1 = .ok (.iload_n 1, 1) := by decide +kernel
theorem dX10_beatenBy_2 : decode cX10_beatenBy 2 = .ok (.invokevirtual 185, 3) := by decide +kernel
theorem dX10_beatenBy_5 : decode cX10_beatenBy 5 = .ok (.aload_n 0, 1) := by decide +kernel
theorem dX10_beatenBy_6 : decode cX10_beatenBy 6 = .ok (.invokevirtual 188, 3) := by decide +kernel
theorem dX10_beatenBy_9 : decode cX10_beatenBy 9 = .ok (.iconst 0, 1) := by decide +kernel
theorem dX10_beatenBy_10 : decode cX10_beatenBy 10 = .ok (.istore_n 2, 1) := by decide +kernel
theorem dX10_beatenBy_11 : decode cX10_beatenBy 11 = .ok (.iload_n 2, 1) := by decide +kernel
theorem dX10_beatenBy_12 : decode cX10_beatenBy 12 = .ok (.aload_n 0, 1) := by decide +kernel
theorem dX10_beatenBy_13 : decode cX10_beatenBy 13 = .ok (.getfield 70, 3) := by decide +kernel
theorem dX10_beatenBy_16 : decode cX10_beatenBy 16 = .ok (.getfield 201, 3) := by decide +kernel
theorem dX10_beatenBy_19 : decode cX10_beatenBy 19 = .ok (.if_icmp .ge 40, 3) := by decide +kernel
theorem dX10_beatenBy_22 : decode cX10_beatenBy 22 = .ok (.aload_n 0, 1) := by decide +kernel
theorem dX10_beatenBy_23 : decode cX10_beatenBy 23 = .ok (.getfield 70, 3) := by decide +kernel
theorem dX10_beatenBy_26 : decode cX10_beatenBy 26 = .ok (.iload_n 2, 1) := by decide +kernel
theorem dX10_beatenBy_27 : decode cX10_beatenBy 27 = .ok (.aload_n 0, 1) := by decide +kernel
theorem dX10_beatenBy_28 : decode cX10_beatenBy 28 = .ok (.getfield 56, 3) := by decide +kernel
theorem dX10_beatenBy_31 : decode cX10_beatenBy 31 = .ok (.getfield 196, 3) := by decide +kernel
theorem dX10_beatenBy_34 : decode cX10_beatenBy 34 = .ok (.iload_n 1, 1) := by decide +kernel
theorem dX10_beatenBy_35 : decode cX10_beatenBy 35 = .ok (.iaload, 1) := by decide +kernel
theorem dX10_beatenBy_36 : decode cX10_beatenBy 36 = .ok (.aload_n 0, 1) := by decide +kernel
theorem dX10_beatenBy_37 : decode cX10_beatenBy 37 = .ok (.getfield 56, 3) := by decide +kernel
theorem dX10_beatenBy_40 : decode cX10_beatenBy 40 = .ok (.getfield 197, 3) := by decide +kernel
theorem dX10_beatenBy_43 : decode cX10_beatenBy 43 = .ok (.iload_n 1, 1) := by decide +kernel
theorem dX10_beatenBy_44 : decode cX10_beatenBy 44 = .ok (.iaload, 1) := by decide +kernel
theorem dX10_beatenBy_45 : decode cX10_beatenBy 45 = .ok (.invokevirtual 224, 3) := by decide +kernel
theorem dX10_beatenBy_48 : decode cX10_beatenBy 48 = .ok (.ifCond .eq 5, 3) := by decide +kernel
theorem dX10_beatenBy_51 : decode cX10_beatenBy 51 = .ok (.iload_n 2, 1) := by decide +kernel
theorem dX10_beatenBy_52 : decode cX10_beatenBy 52 = .ok (.ireturn, 1) := by decide +kernel
theorem dX10_beatenBy_53 : decode cX10_beatenBy 53 = .ok (.iinc 2 1, 3) := by decide +kernel
theorem dX10_beatenBy_56 : decode cX10_beatenBy 56 = .ok (.goto (-45), 3) := by decide +kernel
theorem dX10_beatenBy_59 : decode cX10_beatenBy 59 = .ok (.iconst (-1), 1) := by decide +kernel
theorem dX10_beatenBy_60 : decode cX10_beatenBy 60 = .ok (.ireturn, 1) := by decide +kernel
theorem dX10_beating_0 : decode cX10_beating 0 = .ok (.aload_n 0, 1) := by decide +kernel
theorem dX10_beating_1 : decode cX10_beating 1 = .ok (.invokevirtual 188, 3) := by decide +kernel
theorem dX10_beating_4 : decode cX10_beating 4 = .ok (.iconst 0, 1) := by decide +kernel
theorem dX10_beating_5 : decode cX10_beating 5 = .ok (.istore_n 3, 1) := by decide +kernel
theorem dX10_beating_6 : decode cX10_beating 6 = .ok (.iconst 0, 1) := by decide +kernel
theorem dX10_beating_7 : decode cX10_beating 7 = .ok (.istore 4, 2) := by decide +kernel
theorem dX10_beating_9 : decode cX10_beating 9 = .ok (.iload 4, 2) := by decide +kernel
theorem dX10_beating_11 : decode cX10_beating 11 = .ok (.aload_n 0, 1) := by decide +kernel
theorem dX10_beating_12 : decode cX10_beating 12 = .ok (.getfield 70, 3) := by decide +kernel
theorem dX10_beating_15 : decode cX10_beating 15 = .ok (.getfield 201, 3) := by decide +kernel
theorem dX10_beating_18 : decode cX10_beating 18 = .ok (.if_icmp .ge 26, 3) := by decide +kernel
theorem dX10_beating_21 : decode cX10_beating 21 = .ok (.aload_n 0, 1) := by decide +kernel
theorem dX10_beating_22 : decode cX10_beating 22 = .ok (.getfield 70, 3) := by decide +kernel
theorem dX10_beating_25 : decode cX10_beating 25 = .ok (.iload 4, 2) := by decide +kernel
theorem dX10_beating_27 : decode cX10_beating 27 = .ok (.iload_n 1, 1) := by decide +kernel
theorem dX10_beating_28 : decode cX10_beating 28 = .ok (.iload_n 2, 1) := by decide +kernel
theorem dX10_beating_29 : decode cX10_beating 29 = .ok (.invokevirtual 224, 3) := by decide +kernel
theorem dX10_beating_32 : decode cX10_beating 32 = .ok (.ifCond .eq 6, 3) := by decide +kernel
theorem dX10_beating_35 : decode cX10_beating 35 = .ok (.iinc 3 1, 3) := by decide +kernel
theorem dX10_beating_38 : decode cX10_beating 38 = .ok (.iinc 4 1, 3) := by decide +kernel
theorem dX10_beating_41 : decode cX10_beating 41 = .ok (.goto (-32), 3) := by decide +kernel
theorem dX10_beating_44 : decode cX10_beating 44 = .ok (.iload_n 3, 1) := by decide +kernel
theorem dX10_beating_45 : decode cX10_beating 45 = .ok (.ireturn, 1) := by decide +kernel
theorem dX10_joyFor_0 : decode cX10_joyFor 0 = .ok (.aload_n 0, 1) := by decide +kernel
theorem dX10_joyFor_1 : decode cX10_joyFor 1 = .ok (.invokevirtual 188, 3) := by decide +kernel
theorem dX10_joyFor_4 : decode cX10_joyFor 4 = .ok (.iconst 0, 1) := by decide +kernel
theorem dX10_joyFor_5 : decode cX10_joyFor 5 = .ok (.istore_n 2, 1) := by decide +kernel
theorem dX10_joyFor_6 : decode cX10_joyFor 6 = .ok (.iload_n 2, 1) := by decide +kernel
theorem dX10_joyFor_7 : decode cX10_joyFor 7 = .ok (.aload_n 0, 1) := by decide +kernel
theorem dX10_joyFor_8 : decode cX10_joyFor 8 = .ok (.getfield 70, 3) := by decide +kernel
theorem dX10_joyFor_11 : decode cX10_joyFor 11 = .ok (.getfield 201, 3) := by decide +kernel
theorem dX10_joyFor_14 : decode cX10_joyFor 14 = .ok (.if_icmp .ge 32, 3) := by decide +kernel
theorem dX10_joyFor_17 : decode cX10_joyFor 17 = .ok (.aload_n 0, 1) := by decide +kernel
theorem dX10_joyFor_18 : decode cX10_joyFor 18 = .ok (.getfield 70, 3) := by decide +kernel
theorem dX10_joyFor_21 : decode cX10_joyFor 21 = .ok (.getfield 207, 3) := by decide +kernel
theorem dX10_joyFor_24 : decode cX10_joyFor 24 = .ok (.iload_n 2, 1) := by decide +kernel
theorem dX10_joyFor_25 : decode cX10_joyFor 25 = .ok (.iaload, 1) := by decide +kernel
theorem dX10_joyFor_26 : decode cX10_joyFor 26 = .ok (.iload_n 1, 1) := by decide +kernel
theorem dX10_joyFor_27 : decode cX10_joyFor 27 = .ok (.if_icmp .lt 13, 3) := by decide +kernel
theorem dX10_joyFor_30 : decode cX10_joyFor 30 = .ok (.aload_n 0, 1) := by decide +kernel
theorem dX10_joyFor_31 : decode cX10_joyFor 31 = .ok (.getfield 70, 3) := by decide +kernel
theorem dX10_joyFor_34 : decode cX10_joyFor 34 = .ok (.getfield 208, 3) := by decide +kernel
theorem dX10_joyFor_37 : decode cX10_joyFor 37 = .ok (.iload_n 2, 1) := by decide +kernel
theorem dX10_joyFor_38 : decode cX10_joyFor 38 = .ok (.iaload, 1) := by decide +kernel
theorem dX10_joyFor_39 : decode cX10_joyFor 39 = .ok (.ireturn, 1) := by decide +kernel
theorem dX10_joyFor_40 : decode cX10_joyFor 40 = .ok (.iinc 2 1, 3) := by decide +kernel
theorem dX10_joyFor_43 : decode cX10_joyFor 43 = .ok (.goto (-37), 3) := by decide +kernel
theorem dX10_joyFor_46 : decode cX10_joyFor 46 = .ok (.iconst (-1), 1) := by decide +kernel
theorem dX10_joyFor_47 : decode cX10_joyFor 47 = .ok (.ireturn, 1) := by decide +kernel
theorem dX10_gainFor_0 : decode cX10_gainFor 0 = .ok (.aload_n 0, 1) := by decide +kernel
theorem dX10_gainFor_1 : decode cX10_gainFor 1 = .ok (.invokevirtual 188, 3) := by decide +kernel
theorem dX10_gainFor_4 : decode cX10_gainFor 4 = .ok (.aload_n 0, 1) := by decide +kernel
theorem dX10_gainFor_5 : decode cX10_gainFor 5 = .ok (.getfield 70, 3) := by decide +kernel
theorem dX10_gainFor_8 : decode cX10_gainFor 8 = .ok (.getfield 201, 3) := by decide +kernel
theorem dX10_gainFor_11 : decode cX10_gainFor 11 = .ok (.iconst 1, 1) := by decide +kernel
theorem dX10_gainFor_12 : decode cX10_gainFor 12 = .ok (.isub, 1) := by decide +kernel
theorem dX10_gainFor_13 : decode cX10_gainFor 13 = .ok (.istore_n 2, 1) := by decide +kernel
theorem dX10_gainFor_14 : decode cX10_gainFor 14 = .ok (.iload_n 2, 1) := by decide +kernel
theorem dX10_gainFor_15 : decode cX10_gainFor 15 = .ok (.ifCond .lt 32, 3) := by decide +kernel
theorem dX10_gainFor_18 : decode cX10_gainFor 18 = .ok (.aload_n 0, 1) := by decide +kernel
theorem dX10_gainFor_19 : decode cX10_gainFor 19 = .ok (.getfield 70, 3) := by decide +kernel
theorem dX10_gainFor_22 : decode cX10_gainFor 22 = .ok (.getfield 208, 3) := by decide +kernel
theorem dX10_gainFor_25 : decode cX10_gainFor 25 = .ok (.iload_n 2, 1) := by decide +kernel
theorem dX10_gainFor_26 : decode cX10_gainFor 26 = .ok (.iaload, 1) := by decide +kernel
theorem dX10_gainFor_27 : decode cX10_gainFor 27 = .ok (.iload_n 1, 1) := by decide +kernel
theorem dX10_gainFor_28 : decode cX10_gainFor 28 = .ok (.if_icmp .lt 13, 3) := by decide +kernel
theorem dX10_gainFor_31 : decode cX10_gainFor 31 = .ok (.aload_n 0, 1) := by decide +kernel
theorem dX10_gainFor_32 : decode cX10_gainFor 32 = .ok (.getfield 70, 3) := by decide +kernel
theorem dX10_gainFor_35 : decode cX10_gainFor 35 = .ok (.getfield 207, 3) := by decide +kernel
theorem dX10_gainFor_38 : decode cX10_gainFor 38 = .ok (.iload_n 2, 1) := by decide +kernel
theorem dX10_gainFor_39 : decode cX10_gainFor 39 = .ok (.iaload, 1) := by decide +kernel
theorem dX10_gainFor_40 : decode cX10_gainFor 40 = .ok (.ireturn, 1) := by decide +kernel
theorem dX10_gainFor_41 : decode cX10_gainFor 41 = .ok (.iinc 2 (-1), 3) := by decide +kernel
theorem dX10_gainFor_44 : decode cX10_gainFor 44 = .ok (.goto (-30), 3) := by decide +kernel
theorem dX10_gainFor_47 : decode cX10_gainFor 47 = .ok (.iconst (-1), 1) := by decide +kernel
theorem dX10_gainFor_48 : decode cX10_gainFor 48 = .ok (.ireturn, 1) := by decide +kernel
theorem dX10_area_0 : decode cX10_area 0 = .ok (.aload_n 0, 1) := by decide +kernel
theorem dX10_area_1 : decode cX10_area 1 = .ok (.invokevirtual 188, 3) := by decide +kernel
theorem dX10_area_4 : decode cX10_area 4 = .ok (.aload_n 0, 1) := by decide +kernel
theorem dX10_area_5 : decode cX10_area 5 = .ok (.getfield 70, 3) := by decide +kernel
theorem dX10_area_8 : decode cX10_area 8 = .ok (.getfield 279, 3) := by decide +kernel
theorem dX10_area_11 : decode cX10_area 11 = .ok (.ireturn, 1) := by decide +kernel
theorem dX10_layers_0 : decode cX10_layers 0 = .ok (.aload_n 0, 1) := by decide +kernel
theorem dX10_layers_1 : decode cX10_layers 1 = .ok (.invokevirtual 312, 3) := by decide +kernel
theorem dX10_layers_4 : decode cX10_layers 4 = .ok (.aload_n 0, 1) := by decide +kernel
theorem dX10_layers_5 : decode cX10_layers 5 = .ok (.getfield 84, 3) := by decide +kernel
theorem dX10_layers_8 : decode cX10_layers 8 = .ok (.getfield 315, 3) := by decide +kernel
theorem dX10_layers_11 : decode cX10_layers 11 = .ok (.ireturn, 1) := by decide +kernel
theorem dX10_layerSize_0 : decode cX10_layerSize 0 = .ok (.aload_n 0, 1) := by decide +kernel
theorem dX10_layerSize_1 : decode cX10_layerSize 1 = .ok (.invokevirtual 312, 3) := by decide +kernel
theorem dX10_layerSize_4 : decode cX10_layerSize 4 = .ok (.iload_n 1, 1) := by decide +kernel
theorem dX10_layerSize_5 : decode cX10_layerSize 5 = .ok (.ifCond .lt 14, 3) := by decide +kernel
theorem dX10_layerSize_8 : decode cX10_layerSize 8 = .ok (.iload_n 1, 1) := by decide +kernel
theorem dX10_layerSize_9 : decode cX10_layerSize 9 = .ok (.aload_n 0, 1) := by decide +kernel
theorem dX10_layerSize_10 : decode cX10_layerSize 10 = .ok (.getfield 84, 3) := by decide +kernel
theorem dX10_layerSize_13 : decode cX10_layerSize 13 = .ok (.getfield 315, 3) := by decide +kernel
theorem dX10_layerSize_16 : decode cX10_layerSize 16 = .ok (.if_icmp .lt 14, 3) := by decide +kernel
theorem dX10_layerSize_19 : decode cX10_layerSize 19 = .ok (.new 240, 3) := by decide +kernel
theorem dX10_layerSize_22 : decode cX10_layerSize 22 = .ok (.dup, 1) := by decide +kernel
theorem dX10_layerSize_23 : decode cX10_layerSize 23 = .ok (.ldc_w 316, 3) := by decide +kernel
theorem dX10_layerSize_26 : decode cX10_layerSize 26 = .ok (.invokespecial 244, 3) := by decide +kernel
theorem dX10_layerSize_29 : decode cX10_layerSize 29 = .ok (.athrow, 1) := by decide +kernel
theorem dX10_layerSize_30 : decode cX10_layerSize 30 = .ok (.aload_n 0, 1) := by decide +kernel
theorem dX10_layerSize_31 : decode cX10_layerSize 31 = .ok (.getfield 84, 3) := by decide +kernel
theorem dX10_layerSize_34 : decode cX10_layerSize 34 = .ok (.getfield 318, 3) := by decide +kernel
theorem dX10_layerSize_37 : decode cX10_layerSize 37 = .ok (.iload_n 1, 1) := by decide +kernel
theorem dX10_layerSize_38 : decode cX10_layerSize 38 = .ok (.iaload, 1) := by decide +kernel
theorem dX10_layerSize_39 : decode cX10_layerSize 39 = .ok (.ireturn, 1) := by decide +kernel
theorem dX10_layerOf_0 : decode cX10_layerOf 0 = .ok (.aload_n 0, 1) := by decide +kernel
theorem dX10_layerOf_1 : decode cX10_layerOf 1 = .ok (.iload_n 1, 1) := by decide +kernel
theorem dX10_layerOf_2 : decode cX10_layerOf 2 = .ok (.invokevirtual 185, 3) := by decide +kernel
theorem dX10_layerOf_5 : decode cX10_layerOf 5 = .ok (.aload_n 0, 1) := by decide +kernel
theorem dX10_layerOf_6 : decode cX10_layerOf 6 = .ok (.invokevirtual 312, 3) := by decide +kernel
theorem dX10_layerOf_9 : decode cX10_layerOf 9 = .ok (.aload_n 0, 1) := by decide +kernel
theorem dX10_layerOf_10 : decode cX10_layerOf 10 = .ok (.getfield 84, 3) := by decide +kernel
theorem dX10_layerOf_13 : decode cX10_layerOf 13 = .ok (.getfield 320, 3) := by decide +kernel
theorem dX10_layerOf_16 : decode cX10_layerOf 16 = .ok (.iload_n 1, 1) := by decide +kernel
theorem dX10_layerOf_17 : decode cX10_layerOf 17 = .ok (.iaload, 1) := by decide +kernel
theorem dX10_layerOf_18 : decode cX10_layerOf 18 = .ok (.ireturn, 1) := by decide +kernel
theorem dX10_share_0 : decode cX10_share 0 = .ok (.aload_n 0, 1) := by decide +kernel
theorem dX10_share_1 : decode cX10_share 1 = .ok (.invokevirtual 188, 3) := by decide +kernel
theorem dX10_share_4 : decode cX10_share 4 = .ok (.aload_n 0, 1) := by decide +kernel
theorem dX10_share_5 : decode cX10_share 5 = .ok (.getfield 70, 3) := by decide +kernel
theorem dX10_share_8 : decode cX10_share 8 = .ok (.getfield 198, 3) := by decide +kernel
theorem dX10_share_11 : decode cX10_share 11 = .ok (.ifCond .ne 5, 3) := by decide +kernel
theorem dX10_share_14 : decode cX10_share 14 = .ok (.dconst 0, 1) := by decide +kernel
theorem dX10_share_15 : decode cX10_share 15 = .ok (.dreturn, 1) := by decide +kernel
theorem dX10_share_16 : decode cX10_share 16 = .ok (.aload_n 0, 1) := by decide +kernel
theorem dX10_share_17 : decode cX10_share 17 = .ok (.getfield 70, 3) := by decide +kernel
theorem dX10_share_20 : decode cX10_share 20 = .ok (.getfield 201, 3) := by decide +kernel
theorem dX10_share_23 : decode cX10_share 23 = .ok (.i2d, 1) := by decide +kernel
theorem dX10_share_24 : decode cX10_share 24 = .ok (.aload_n 0, 1) := by decide +kernel
theorem dX10_share_25 : decode cX10_share 25 = .ok (.getfield 70, 3) := by decide +kernel
theorem dX10_share_28 : decode cX10_share 28 = .ok (.getfield 198, 3) := by decide +kernel
theorem dX10_share_31 : decode cX10_share 31 = .ok (.i2d, 1) := by decide +kernel
theorem dX10_share_32 : decode cX10_share 32 = .ok (.ddiv, 1) := by decide +kernel
theorem dX10_share_33 : decode cX10_share 33 = .ok (.dreturn, 1) := by decide +kernel
theorem dX10_setCapacity_0 : decode cX10_setCapacity 0 = .ok (.iload_n 1, 1) := by decide +kernel
theorem dX10_setCapacity_1 : decode cX10_setCapacity 1 = .ok (.invokestatic 297, 3) := by decide +kernel
theorem dX10_setCapacity_4 : decode cX10_setCapacity 4 = .ok (.aload_n 0, 1) := by decide +kernel
theorem dX10_setCapacity_5 : decode cX10_setCapacity 5 = .ok (.getfield 34, 3) := by decide +kernel
theorem dX10_setCapacity_8 : decode cX10_setCapacity 8 = .ok (.aload_n 0, 1) := by decide +kernel
theorem dX10_setCapacity_9 : decode cX10_setCapacity 9 = .ok (.getfield 27, 3) := by decide +kernel
theorem dX10_setCapacity_12 : decode cX10_setCapacity 12 = .ok (.invokevirtual 127, 3) := by decide +kernel
theorem dX10_setCapacity_15 : decode cX10_setCapacity 15 = .ok (.aload_n 0, 1) := by decide +kernel
theorem dX10_setCapacity_16 : decode cX10_setCapacity 16 = .ok (.getfield 27, 3) := by decide +kernel
theorem dX10_setCapacity_19 : decode cX10_setCapacity 19 = .ok (.getfield 147, 3) := by decide +kernel
theorem dX10_setCapacity_22 : decode cX10_setCapacity 22 = .ok (.istore_n 2, 1) := by decide +kernel
theorem dX10_setCapacity_23 : decode cX10_setCapacity 23 = .ok (.aload_n 0, 1) := by decide +kernel
theorem dX10_setCapacity_24 : decode cX10_setCapacity 24 = .ok (.getfield 27, 3) := by decide +kernel
theorem dX10_setCapacity_27 : decode cX10_setCapacity 27 = .ok (.iload_n 1, 1) := by decide +kernel
theorem dX10_setCapacity_28 : decode cX10_setCapacity 28 = .ok (.putfield 147, 3) := by decide +kernel
