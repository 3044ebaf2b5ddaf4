theorem dX11_unused_19 : decode cX11_unused 19 = .ok (.aload_n 0, 1) := by decide +kernel
theorem dX11_unused_20 : decode cX11_unused 20 = .ok (.getfield 130, 3) := by decide +kernel
theorem dX11_unused_23 : decode cX11_unused 23 = .ok (.if_icmp .ge 20, 3) := by decide +kernel
theorem dX11_unused_26 : decode cX11_unused 26 = .ok (.iload_n 1, 1) := by decide +kernel
theorem dX11_unused_27 : decode cX11_unused 27 = .ok (.aload_n 0, 1) := by decide +kernel
theorem dX11_unused_28 : decode cX11_unused 28 = .ok (.getfield 36, 3) := by decide +kernel
theorem dX11_unused_31 : decode cX11_unused 31 = .ok (.iload_n 2, 1) := by decide +kernel
theorem dX11_unused_32 : decode cX11_unused 32 = .ok (.iaload, 1) := by decide +kernel
theorem dX11_unused_33 : decode cX11_unused 33 = .ok (.iconst (-1), 1) := by decide +kernel
theorem dX11_unused_34 : decode cX11_unused 34 = .ok (.ixor, 1) := by decide +kernel
theorem dX11_unused_35 : decode cX11_unused 35 = .ok (.iand, 1) := by decide +kernel
theorem dX11_unused_36 : decode cX11_unused 36 = .ok (.istore_n 1, 1) := by decide +kernel
theorem dX11_unused_37 : decode cX11_unused 37 = .ok (.iinc 2 1, 3) := by decide +kernel
theorem dX11_unused_40 : decode cX11_unused 40 = .ok (.goto (-22), 3) := by decide +kernel
theorem dX11_unused_43 : decode cX11_unused 43 = .ok (.iload_n 1, 1) := by decide +kernel
theorem dX11_unused_44 : decode cX11_unused 44 = .ok (.ireturn, 1) := by decide +kernel
theorem dX11_lostWithout_0 : decode cX11_lostWithout 0 = .ok (.aload_n 0, 1) := by decide +kernel
theorem dX11_lostWithout_1 : decode cX11_lostWithout 1 = .ok (.aload_n 0, 1) := by decide +kernel
theorem dX11_lostWithout_2 : decode cX11_lostWithout 2 = .ok (.iload_n 1, 1) := by decide +kernel
theorem dX11_lostWithout_3 : decode cX11_lostWithout 3 = .ok (.invokevirtual 359, 3) := by decide +kernel
theorem dX11_lostWithout_6 : decode cX11_lostWithout 6 = .ok (.invokevirtual 235, 3) := by decide +kernel
theorem dX11_lostWithout_9 : decode cX11_lostWithout 9 = .ok (.ifCond .ne 5, 3) := by decide +kernel
theorem dX11_lostWithout_12 : decode cX11_lostWithout 12 = .ok (.iconst 0, 1) := by decide +kernel
theorem dX11_lostWithout_13 : decode cX11_lostWithout 13 = .ok (.ireturn, 1) := by decide +kernel
theorem dX11_lostWithout_14 : decode cX11_lostWithout 14 = .ok (.aload_n 0, 1) := by decide +kernel
theorem dX11_lostWithout_15 : decode cX11_lostWithout 15 = .ok (.invokevirtual 144, 3) := by decide +kernel
theorem dX11_lostWithout_18 : decode cX11_lostWithout 18 = .ok (.iconst 0, 1) := by decide +kernel
theorem dX11_lostWithout_19 : decode cX11_lostWithout 19 = .ok (.istore_n 2, 1) := by decide +kernel
theorem dX11_lostWithout_20 : decode cX11_lostWithout 20 = .ok (.iload_n 2, 1) := by decide +kernel
theorem dX11_lostWithout_21 : decode cX11_lostWithout 21 = .ok (.aload_n 0, 1) := by decide +kernel
theorem dX11_lostWithout_22 : decode cX11_lostWithout 22 = .ok (.invokevirtual 91, 3) := by decide +kernel
theorem dX11_lostWithout_25 : decode cX11_lostWithout 25 = .ok (.if_icmp .ge 56, 3) := by decide +kernel
theorem dX11_lostWithout_28 : decode cX11_lostWithout 28 = .ok (.iload_n 2, 1) := by decide +kernel
theorem dX11_lostWithout_29 : decode cX11_lostWithout 29 = .ok (.iload_n 1, 1) := by decide +kernel
theorem dX11_lostWithout_30 : decode cX11_lostWithout 30 = .ok (.invokestatic 94, 3) := by decide +kernel
theorem dX11_lostWithout_33 : decode cX11_lostWithout 33 = .ok (.ifCond .eq 7, 3) := by decide +kernel
theorem dX11_lostWithout_36 : decode cX11_lostWithout 36 = .ok (.iconst (-1), 1) := by decide +kernel
theorem dX11_lostWithout_37 : decode cX11_lostWithout 37 = .ok (.goto 8, 3) := by decide +kernel
theorem dX11_lostWithout_40 : decode cX11_lostWithout 40 = .ok (.aload_n 0, 1) := by decide +kernel
theorem dX11_lostWithout_41 : decode cX11_lostWithout 41 = .ok (.iload_n 2, 1) := by decide +kernel
theorem dX11_lostWithout_42 : decode cX11_lostWithout 42 = .ok (.invokevirtual 147, 3) := by decide +kernel
theorem dX11_lostWithout_45 : decode cX11_lostWithout 45 = .ok (.istore_n 3, 1) := by decide +kernel
theorem dX11_lostWithout_46 : decode cX11_lostWithout 46 = .ok (.iload_n 3, 1) := by decide +kernel
theorem dX11_lostWithout_47 : decode cX11_lostWithout 47 = .ok (.iconst (-1), 1) := by decide +kernel
theorem dX11_lostWithout_48 : decode cX11_lostWithout 48 = .ok (.if_icmp .eq 27, 3) := by decide +kernel
theorem dX11_lostWithout_51 : decode cX11_lostWithout 51 = .ok (.aload_n 0, 1) := by decide +kernel
theorem dX11_lostWithout_52 : decode cX11_lostWithout 52 = .ok (.getfield 39, 3) := by decide +kernel
theorem dX11_lostWithout_55 : decode cX11_lostWithout 55 = .ok (.iload_n 3, 1) := by decide +kernel
theorem dX11_lostWithout_56 : decode cX11_lostWithout 56 = .ok (.iaload, 1) := by decide +kernel
theorem dX11_lostWithout_57 : decode cX11_lostWithout 57 = .ok (.ifCond .ne 18, 3) := by decide +kernel
theorem dX11_lostWithout_60 : decode cX11_lostWithout 60 = .ok (.aload_n 0, 1) := by decide +kernel
theorem dX11_lostWithout_61 : decode cX11_lostWithout 61 = .ok (.iload_n 2, 1) := by decide +kernel
theorem dX11_lostWithout_62 : decode cX11_lostWithout 62 = .ok (.invokevirtual 122, 3) := by decide +kernel
theorem dX11_lostWithout_65 : decode cX11_lostWithout 65 = .ok (.ifCond .eq 10, 3) := by decide +kernel
theorem dX11_lostWithout_68 : decode cX11_lostWithout 68 = .ok (.aload_n 0, 1) := by decide +kernel
theorem dX11_lostWithout_69 : decode cX11_lostWithout 69 = .ok (.getfield 39, 3) := by decide +kernel
theorem dX11_lostWithout_72 : decode cX11_lostWithout 72 = .ok (.iload_n 3, 1) := by decide +kernel
theorem dX11_lostWithout_73 : decode cX11_lostWithout 73 = .ok (.iconst 1, 1) := by decide +kernel
theorem dX11_lostWithout_74 : decode cX11_lostWithout 74 = .ok (.iastore, 1) := by decide +kernel
theorem dX11_lostWithout_75 : decode cX11_lostWithout 75 = .ok (.iinc 2 1, 3) := by decide +kernel
theorem dX11_lostWithout_78 : decode cX11_lostWithout 78 = .ok (.goto (-58), 3) := by decide +kernel
theorem dX11_lostWithout_81 : decode cX11_lostWithout 81 = .ok (.iconst 0, 1) := by decide +kernel
theorem dX11_lostWithout_82 : decode cX11_lostWithout 82 = .ok (.istore_n 2, 1) := by decide +kernel
theorem dX11_lostWithout_83 : decode cX11_lostWithout 83 = .ok (.iconst 0, 1) := by decide +kernel
theorem dX11_lostWithout_84 : decode cX11_lostWithout 84 = .ok (.istore_n 3, 1) := by decide +kernel
theorem dX11_lostWithout_85 : decode cX11_lostWithout 85 = .ok (.iload_n 3, 1) := by decide +kernel
theorem dX11_lostWithout_86 : decode cX11_lostWithout 86 = .ok (.aload_n 0, 1) := by decide +kernel
theorem dX11_lostWithout_87 : decode cX11_lostWithout 87 = .ok (.getfield 130, 3) := by decide +kernel
theorem dX11_lostWithout_90 : decode cX11_lostWithout 90 = .ok (.if_icmp .ge 26, 3) := by decide +kernel
theorem dX11_lostWithout_93 : decode cX11_lostWithout 93 = .ok (.iload_n 2, 1) := by decide +kernel
theorem dX11_lostWithout_94 : decode cX11_lostWithout 94 = .ok (.aload_n 0, 1) := by decide +kernel
theorem dX11_lostWithout_95 : decode cX11_lostWithout 95 = .ok (.getfield 39, 3) := by decide +kernel
theorem dX11_lostWithout_98 : decode cX11_lostWithout 98 = .ok (.iload_n 3, 1) := by decide +kernel
theorem dX11_lostWithout_99 : decode cX11_lostWithout 99 = .ok (.iaload, 1) := by decide +kernel
theorem dX11_lostWithout_100 : decode cX11_lostWithout 100 = .ok (.ifCond .ne 7, 3) := by decide +kernel
theorem dX11_lostWithout_103 : decode cX11_lostWithout 103 = .ok (.iconst 1, 1) := by decide +kernel
theorem dX11_lostWithout_104 : decode cX11_lostWithout 104 = .ok (.goto 4, 3) := by decide +kernel
theorem dX11_lostWithout_107 : decode cX11_lostWithout 107 = .ok (.iconst 0, 1) := by decide +kernel
theorem dX11_lostWithout_108 : decode cX11_lostWithout 108 = .ok (.iadd, 1) := by decide +kernel
theorem dX11_lostWithout_109 : decode cX11_lostWithout 109 = .ok (.istore_n 2, 1) := by decide +kernel
theorem dX11_lostWithout_110 : decode cX11_lostWithout 110 = .ok (.iinc 3 1, 3) := by decide +kernel
theorem dX11_lostWithout_113 : decode cX11_lostWithout 113 = .ok (.goto (-28), 3) := by decide +kernel
theorem dX11_lostWithout_116 : decode cX11_lostWithout 116 = .ok (.iload_n 2, 1) := by decide +kernel
theorem dX11_lostWithout_117 : decode cX11_lostWithout 117 = .ok (.ireturn, 1) := by decide +kernel
theorem dX11_worth_0 : decode cX11_worth 0 = .ok (.aload_n 0, 1) := by decide +kernel
theorem dX11_worth_1 : decode cX11_worth 1 = .ok (.aload_n 0, 1) := by decide +kernel
theorem dX11_worth_2 : decode cX11_worth 2 = .ok (.iload_n 1, 1) := by decide +kernel
theorem dX11_worth_3 : decode cX11_worth 3 = .ok (.invokevirtual 359, 3) := by decide +kernel
theorem dX11_worth_6 : decode cX11_worth 6 = .ok (.invokevirtual 235, 3) := by decide +kernel
theorem dX11_worth_9 : decode cX11_worth 9 = .ok (.ifCond .ne 5, 3) := by decide +kernel
theorem dX11_worth_12 : decode cX11_worth 12 = .ok (.iconst 0, 1) := by decide +kernel
theorem dX11_worth_13 : decode cX11_worth 13 = .ok (.ireturn, 1) := by decide +kernel
theorem dX11_worth_14 : decode cX11_worth 14 = .ok (.aload_n 0, 1) := by decide +kernel
theorem dX11_worth_15 : decode cX11_worth 15 = .ok (.invokevirtual 144, 3) := by decide +kernel
theorem dX11_worth_18 : decode cX11_worth 18 = .ok (.aload_n 0, 1) := by decide +kernel
theorem dX11_worth_19 : decode cX11_worth 19 = .ok (.invokevirtual 398, 3) := by decide +kernel
theorem dX11_worth_22 : decode cX11_worth 22 = .ok (.istore_n 2, 1) := by decide +kernel
theorem dX11_worth_23 : decode cX11_worth 23 = .ok (.aload_n 0, 1) := by decide +kernel
theorem dX11_worth_24 : decode cX11_worth 24 = .ok (.getfield 119, 3) := by decide +kernel
theorem dX11_worth_27 : decode cX11_worth 27 = .ok (.ifCond .le 7, 3) := by decide +kernel
theorem dX11_worth_30 : decode cX11_worth 30 = .ok (.iconst 1, 1) := by decide +kernel
theorem dX11_worth_31 : decode cX11_worth 31 = .ok (.goto 4, 3) := by decide +kernel
theorem dX11_worth_34 : decode cX11_worth 34 = .ok (.iconst 0, 1) := by decide +kernel
theorem dX11_worth_35 : decode cX11_worth 35 = .ok (.istore_n 3, 1) := by decide +kernel
theorem dX11_worth_36 : decode cX11_worth 36 = .ok (.aload_n 0, 1) := by decide +kernel
theorem dX11_worth_37 : decode cX11_worth 37 = .ok (.getfield 17, 3) := by decide +kernel
theorem dX11_worth_40 : decode cX11_worth 40 = .ok (.iconst 4, 1) := by decide +kernel
theorem dX11_worth_41 : decode cX11_worth 41 = .ok (.iaload, 1) := by decide +kernel
theorem dX11_worth_42 : decode cX11_worth 42 = .ok (.istore 4, 2) := by decide +kernel
theorem dX11_worth_44 : decode cX11_worth 44 = .ok (.aload_n 0, 1) := by decide +kernel
theorem dX11_worth_45 : decode cX11_worth 45 = .ok (.getfield 17, 3) := by decide +kernel
theorem dX11_worth_48 : decode cX11_worth 48 = .ok (.iconst 4, 1) := by decide +kernel
theorem dX11_worth_49 : decode cX11_worth 49 = .ok (.dup2, 1) := by decide +kernel
theorem dX11_worth_50 : decode cX11_worth 50 = .ok (.iaload, 1) := by decide +kernel
theorem dX11_worth_51 : decode cX11_worth 51 = .ok (.iconst 1, 1) := by decide +kernel
theorem dX11_worth_52 : decode cX11_worth 52 = .ok (.iload_n 1, 1) := by decide +kernel
theorem dX11_worth_53 : decode cX11_worth 53 = .ok (.ishl, 1) := by decide +kernel
theorem dX11_worth_54 : decode cX11_worth 54 = .ok (.ior, 1) := by decide +kernel
theorem dX11_worth_55 : decode cX11_worth 55 = .ok (.iastore, 1) := by decide +kernel
theorem dX11_worth_56 : decode cX11_worth 56 = .ok (.aload_n 0, 1) := by decide +kernel
theorem dX11_worth_57 : decode cX11_worth 57 = .ok (.invokevirtual 144, 3) := by decide +kernel
theorem dX11_worth_60 : decode cX11_worth 60 = .ok (.aload_n 0, 1) := by decide +kernel
theorem dX11_worth_61 : decode cX11_worth 61 = .ok (.getfield 17, 3) := by decide +kernel
theorem dX11_worth_64 : decode cX11_worth 64 = .ok (.iconst 4, 1) := by decide +kernel
theorem dX11_worth_65 : decode cX11_worth 65 = .ok (.iload 4, 2) := by decide +kernel
theorem dX11_worth_67 : decode cX11_worth 67 = .ok (.iastore, 1) := by decide +kernel
theorem dX11_worth_68 : decode cX11_worth 68 = .ok (.iload_n 3, 1) := by decide +kernel
theorem dX11_worth_69 : decode cX11_worth 69 = .ok (.ifCond .eq 14, 3) := by decide +kernel
theorem dX11_worth_72 : decode cX11_worth 72 = .ok (.aload_n 0, 1) := by decide +kernel
theorem dX11_worth_73 : decode cX11_worth 73 = .ok (.getfield 119, 3) := by decide +kernel
theorem dX11_worth_76 : decode cX11_worth 76 = .ok (.ifCond .ne 7, 3) := by decide +kernel
theorem dX11_worth_79 : decode cX11_worth 79 = .ok (.iconst (-1), 1) := by decide +kernel
theorem dX11_worth_80 : decode cX11_worth 80 = .ok (.goto 9, 3) := by decide +kernel
theorem dX11_worth_83 : decode cX11_worth 83 = .ok (.iload_n 2, 1) := by decide +kernel
theorem dX11_worth_84 : decode cX11_worth 84 = .ok (.aload_n 0, 1) := by decide +kernel
theorem dX11_worth_85 : decode cX11_worth 85 = .ok (.invokevirtual 398, 3) := by decide +kernel
theorem dX11_worth_88 : decode cX11_worth 88 = .ok (.isub, 1) := by decide +kernel
theorem dX11_worth_89 : decode cX11_worth 89 = .ok (.ireturn, 1) := by decide +kernel
theorem dX11_pointsWith_0 : decode cX11_pointsWith 0 = .ok (.aload_n 0, 1) := by decide +kernel
theorem dX11_pointsWith_1 : decode cX11_pointsWith 1 = .ok (.iload_n 1, 1) := by decide +kernel
theorem dX11_pointsWith_2 : decode cX11_pointsWith 2 = .ok (.i2l, 1) := by decide +kernel
theorem dX11_pointsWith_3 : decode cX11_pointsWith 3 = .ok (.lconst 0, 1) := by decide +kernel
theorem dX11_pointsWith_4 : decode cX11_pointsWith 4 = .ok (.ldc2_w 404, 3) := by decide +kernel
theorem dX11_pointsWith_7 : decode cX11_pointsWith 7 = .ok (.invokestatic 87, 3) := by decide +kernel
theorem dX11_pointsWith_10 : decode cX11_pointsWith 10 = .ok (.invokevirtual 235, 3) := by decide +kernel
theorem dX11_pointsWith_13 : decode cX11_pointsWith 13 = .ok (.ifCond .ne 5, 3) := by decide +kernel
theorem dX11_pointsWith_16 : decode cX11_pointsWith 16 = .ok (.iconst 0, 1) := by decide +kernel
theorem dX11_pointsWith_17 : decode cX11_pointsWith 17 = .ok (.ireturn, 1) := by decide +kernel
theorem dX11_pointsWith_18 : decode cX11_pointsWith 18 = .ok (.aload_n 0, 1) := by decide +kernel
theorem dX11_pointsWith_19 : decode cX11_pointsWith 19 = .ok (.getfield 17, 3) := by decide +kernel
theorem dX11_pointsWith_22 : decode cX11_pointsWith 22 = .ok (.iconst 1, 1) := by decide +kernel
theorem dX11_pointsWith_23 : decode cX11_pointsWith 23 = .ok (.iaload, 1) := by decide +kernel
theorem dX11_pointsWith_24 : decode cX11_pointsWith 24 = .ok (.istore_n 2, 1) := by decide +kernel
theorem dX11_pointsWith_25 : decode cX11_pointsWith 25 = .ok (.aload_n 0, 1) := by decide +kernel
theorem dX11_pointsWith_26 : decode cX11_pointsWith 26 = .ok (.getfield 17, 3) := by decide +kernel
theorem dX11_pointsWith_29 : decode cX11_pointsWith 29 = .ok (.iconst 1, 1) := by decide +kernel
theorem dX11_pointsWith_30 : decode cX11_pointsWith 30 = .ok (.iload_n 1, 1) := by decide +kernel
theorem dX11_pointsWith_31 : decode cX11_pointsWith 31 = .ok (.iastore, 1) := by decide +kernel
theorem dX11_pointsWith_32 : decode cX11_pointsWith 32 = .ok (.aload_n 0, 1) := by decide +kernel
theorem dX11_pointsWith_33 : decode cX11_pointsWith 33 = .ok (.invokevirtual 144, 3) := by decide +kernel
theorem dX11_pointsWith_36 : decode cX11_pointsWith 36 = .ok (.aload_n 0, 1) := by decide +kernel
theorem dX11_pointsWith_37 : decode cX11_pointsWith 37 = .ok (.getfield 17, 3) := by decide +kernel
theorem dX11_pointsWith_40 : decode cX11_pointsWith 40 = .ok (.iconst 1, 1) := by decide +kernel
theorem dX11_pointsWith_41 : decode cX11_pointsWith 41 = .ok (.iload_n 2, 1) := by decide +kernel
theorem dX11_pointsWith_42 : decode cX11_pointsWith 42 = .ok (.iastore, 1) := by decide +kernel
theorem dX11_pointsWith_43 : decode cX11_pointsWith 43 = .ok (.aload_n 0, 1) := by decide +kernel
theorem dX11_pointsWith_44 : decode cX11_pointsWith 44 = .ok (.getfield 130, 3) := by decide +kernel
theorem dX11_pointsWith_47 : decode cX11_pointsWith 47 = .ok (.ireturn, 1) := by decide +kernel
theorem dX11_lightestFor_0 : decode cX11_lightestFor 0 = .ok (.sipush 1000, 3) := by decide +kernel
theorem dX11_lightestFor_3 : decode cX11_lightestFor 3 = .ok (.istore_n 3, 1) := by decide +kernel
theorem dX11_lightestFor_4 : decode cX11_lightestFor 4 = .ok (.iconst 0, 1) := by decide +kernel
theorem dX11_lightestFor_5 : decode cX11_lightestFor 5 = .ok (.istore 4, 2) := by decide +kernel
theorem dX11_lightestFor_7 : decode cX11_lightestFor 7 = .ok (.iload 4, 2) := by decide +kernel
theorem dX11_lightestFor_9 : decode cX11_lightestFor 9 = .ok (.aload_n 0, 1) := by decide +kernel
theorem dX11_lightestFor_10 : decode cX11_lightestFor 10 = .ok (.invokevirtual 91, 3) := by decide +kernel
theorem dX11_lightestFor_13 : decode cX11_lightestFor 13 = .ok (.if_icmp .ge 71, 3) := by decide +kernel
theorem dX11_lightestFor_16 : decode cX11_lightestFor 16 = .ok (.aload_n 0, 1) := by decide +kernel
theorem dX11_lightestFor_17 : decode cX11_lightestFor 17 = .ok (.iload 4, 2) := by decide +kernel
theorem dX11_lightestFor_19 : decode cX11_lightestFor 19 = .ok (.iconst 0, 1) := by decide +kernel
theorem dX11_lightestFor_20 : decode cX11_lightestFor 20 = .ok (.invokevirtual 102, 3) := by decide +kernel
theorem dX11_lightestFor_23 : decode cX11_lightestFor 23 = .ok (.iload_n 3, 1) := by decide +kernel
theorem dX11_lightestFor_24 : decode cX11_lightestFor 24 = .ok (.if_icmp .ge 29, 3) := by decide +kernel
theorem dX11_lightestFor_27 : decode cX11_lightestFor 27 = .ok (.aload_n 0, 1) := by decide +kernel
theorem dX11_lightestFor_28 : decode cX11_lightestFor 28 = .ok (.iload 4, 2) := by decide +kernel
theorem dX11_lightestFor_30 : decode cX11_lightestFor 30 = .ok (.iconst 1, 1) := by decide +kernel
theorem dX11_lightestFor_31 : decode cX11_lightestFor 31 = .ok (.invokevirtual 102, 3) := by decide +kernel
theorem dX11_lightestFor_34 : decode cX11_lightestFor 34 = .ok (.iload_n 1, 1) := by decide +kernel
theorem dX11_lightestFor_35 : decode cX11_lightestFor 35 = .ok (.if_icmp .lt 18, 3) := by decide +kernel
theorem dX11_lightestFor_38 : decode cX11_lightestFor 38 = .ok (.aload_n 0, 1) := by decide +kernel
theorem dX11_lightestFor_39 : decode cX11_lightestFor 39 = .ok (.iload 4, 2) := by decide +kernel
theorem dX11_lightestFor_41 : decode cX11_lightestFor 41 = .ok (.iconst 2, 1) := by decide +kernel
theorem dX11_lightestFor_42 : decode cX11_lightestFor 42 = .ok (.invokevirtual 102, 3) := by decide +kernel
theorem dX11_lightestFor_45 : decode cX11_lightestFor 45 = .ok (.iload_n 2, 1) := by decide +kernel
theorem dX11_lightestFor_46 : decode cX11_lightestFor 46 = .ok (.if_icmp .lt 7, 3) := by decide +kernel
theorem dX11_lightestFor_49 : decode cX11_lightestFor 49 = .ok (.iconst 1, 1) := by decide +kernel
theorem dX11_lightestFor_50 : decode cX11_lightestFor 50 = .ok (.goto 4, 3) := by decide +kernel
theorem dX11_lightestFor_53 : decode cX11_lightestFor 53 = .ok (.iconst 0, 1) := by decide +kernel
theorem dX11_lightestFor_54 : decode cX11_lightestFor 54 = .ok (.istore 5, 2) := by decide +kernel
theorem dX11_lightestFor_56 : decode cX11_lightestFor 56 = .ok (.iload 5, 2) := by decide +kernel
theorem dX11_lightestFor_58 : decode cX11_lightestFor 58 = .ok (.ifCond .eq 20, 3) := by decide +kernel
theorem dX11_lightestFor_61 : decode cX11_lightestFor 61 = .ok (.aload_n 0, 1) := by decide +kernel
theorem dX11_lightestFor_62 : decode cX11_lightestFor 62 = .ok (.iload 4, 2) := by decide +kernel
theorem dX11_lightestFor_64 : decode cX11_lightestFor 64 = .ok (.invokevirtual 122, 3) := by decide +kernel
theorem dX11_lightestFor_67 : decode cX11_lightestFor 67 = .ok (.ifCond .eq 11, 3) := by decide +kernel
theorem dX11_lightestFor_70 : decode cX11_lightestFor 70 = .ok (.aload_n 0, 1) := by decide +kernel
theorem dX11_lightestFor_71 : decode cX11_lightestFor 71 = .ok (.iload 4, 2) := by decide +kernel
theorem dX11_lightestFor_73 : decode cX11_lightestFor 73 = .ok (.iconst 0, 1) := by decide +kernel
theorem dX11_lightestFor_74 : decode cX11_lightestFor 74 = .ok (.invokevirtual 102, 3) := by decide +kernel
theorem dX11_lightestFor_77 : decode cX11_lightestFor 77 = .ok (.istore_n 3, 1) := by decide +kernel
theorem dX11_lightestFor_78 : decode cX11_lightestFor 78 = .ok (.iinc 4 1, 3) := by decide +kernel
theorem dX11_lightestFor_81 : decode cX11_lightestFor 81 = .ok (.goto (-74), 3) := by decide +kernel
theorem dX11_lightestFor_84 : decode cX11_lightestFor 84 = .ok (.iload_n 3, 1) := by decide +kernel
theorem dX11_lightestFor_85 : decode cX11_lightestFor 85 = .ok (.ireturn, 1) := by decide +kernel
theorem dX11_capacityFor_0 : decode cX11_capacityFor 0 = .ok (.aload_n 0, 1) := by decide +kernel
theorem dX11_capacityFor_1 : decode cX11_capacityFor 1 = .ok (.iconst 0, 1) := by decide +kernel
theorem dX11_capacityFor_2 : decode cX11_capacityFor 2 = .ok (.putfield 3, 3) := by decide +kernel
theorem dX11_capacityFor_5 : decode cX11_capacityFor 5 = .ok (.aload_n 0, 1) := by decide +kernel
theorem dX11_capacityFor_6 : decode cX11_capacityFor 6 = .ok (.getfield 17, 3) := by decide +kernel
theorem dX11_capacityFor_9 : decode cX11_capacityFor 9 = .ok (.iconst 1, 1) := by decide +kernel
theorem dX11_capacityFor_10 : decode cX11_capacityFor 10 = .ok (.iaload, 1) := by decide +kernel
theorem dX11_capacityFor_11 : decode cX11_capacityFor 11 = .ok (.istore_n 3, 1) := by decide +kernel
theorem dX11_capacityFor_12 : decode cX11_capacityFor 12 = .ok (.aload_n 0, 1) := by decide +kernel
theorem dX11_capacityFor_13 : decode cX11_capacityFor 13 = .ok (.getfield 17, 3) := by decide +kernel
theorem dX11_capacityFor_16 : decode cX11_capacityFor 16 = .ok (.iconst 1, 1) := by decide +kernel
theorem dX11_capacityFor_17 : decode cX11_capacityFor 17 = .ok (.sipush 999, 3) := by decide +kernel
theorem dX11_capacityFor_20 : decode cX11_capacityFor 20 = .ok (.iastore, 1) := by decide +kernel
theorem dX11_capacityFor_21 : decode cX11_capacityFor 21 = .ok (.aload_n 0, 1) := by decide +kernel
theorem dX11_capacityFor_22 : decode cX11_capacityFor 22 = .ok (.iload_n 1, 1) := by decide +kernel
theorem dX11_capacityFor_23 : decode cX11_capacityFor 23 = .ok (.iload_n 2, 1) := by decide +kernel
theorem dX11_capacityFor_24 : decode cX11_capacityFor 24 = .ok (.invokevirtual 406, 3) := by decide +kernel
theorem dX11_capacityFor_27 : decode cX11_capacityFor 27 = .ok (.istore 4, 2) := by decide +kernel
theorem dX11_capacityFor_29 : decode cX11_capacityFor 29 = .ok (.aload_n 0, 1) := by decide +kernel
theorem dX11_capacityFor_30 : decode cX11_capacityFor 30 = .ok (.getfield 17, 3) := by decide +kernel
theorem dX11_capacityFor_33 : decode cX11_capacityFor 33 = .ok (.iconst 1, 1) := by decide +kernel
theorem dX11_capacityFor_34 : decode cX11_capacityFor 34 = .ok (.iload_n 3, 1) := by decide +kernel
theorem dX11_capacityFor_35 : decode cX11_capacityFor 35 = .ok (.iastore, 1) := by decide +kernel
theorem dX11_capacityFor_36 : decode cX11_capacityFor 36 = .ok (.iload 4, 2) := by decide +kernel
theorem dX11_capacityFor_38 : decode cX11_capacityFor 38 = .ok (.sipush 999, 3) := by decide +kernel
theorem dX11_capacityFor_41 : decode cX11_capacityFor 41 = .ok (.if_icmp .le 7, 3) := by decide +kernel
theorem dX11_capacityFor_44 : decode cX11_capacityFor 44 = .ok (.iconst (-1), 1) := by decide +kernel
theorem dX11_capacityFor_45 : decode cX11_capacityFor 45 = .ok (.goto 5, 3) := by decide +kernel
theorem dX11_capacityFor_48 : decode cX11_capacityFor 48 = .ok (.iload 4, 2) := by decide +kernel
theorem dX11_capacityFor_50 : decode cX11_capacityFor 50 = .ok (.ireturn, 1) := by decide +kernel
theorem dX11_nearTo_0 : decode cX11_nearTo 0 = .ok (.aload_n 0, 1) := by decide +kernel
theorem dX11_nearTo_1 : decode cX11_nearTo 1 = .ok (.aload_n 0, 1) := by decide +kernel
theorem dX11_nearTo_2 : decode cX11_nearTo 2 = .ok (.iload_n 1, 1) := by decide +kernel
theorem dX11_nearTo_3 : decode cX11_nearTo 3 = .ok (.invokevirtual 364, 3) := by decide +kernel
theorem dX11_nearTo_6 : decode cX11_nearTo 6 = .ok (.invokevirtual 235, 3) := by decide +kernel
theorem dX11_nearTo_9 : decode cX11_nearTo 9 = .ok (.ifCond .ne 5, 3) := by decide +kernel
theorem dX11_nearTo_12 : decode cX11_nearTo 12 = .ok (.iconst 0, 1) := by decide +kernel
theorem dX11_nearTo_13 : decode cX11_nearTo 13 = .ok (.ireturn, 1) := by decide +kernel
theorem dX11_nearTo_14 : decode cX11_nearTo 14 = .ok (.aload_n 0, 1) := by decide +kernel
theorem dX11_nearTo_15 : decode cX11_nearTo 15 = .ok (.invokevirtual 174, 3) := by decide +kernel
theorem dX11_nearTo_18 : decode cX11_nearTo 18 = .ok (.iconst (-1), 1) := by decide +kernel
theorem dX11_nearTo_19 : decode cX11_nearTo 19 = .ok (.istore_n 2, 1) := by decide +kernel
theorem dX11_nearTo_20 : decode cX11_nearTo 20 = .ok (.iconst 0, 1) := by decide +kernel
theorem dX11_nearTo_21 : decode cX11_nearTo 21 = .ok (.istore_n 3, 1) := by decide +kernel
theorem dX11_nearTo_22 : decode cX11_nearTo 22 = .ok (.iload_n 3, 1) := by decide +kernel
theorem dX11_nearTo_23 : decode cX11_nearTo 23 = .ok (.aload_n 0, 1) := by decide +kernel
theorem dX11_nearTo_24 : decode cX11_nearTo 24 = .ok (.getfield 130, 3) := by decide +kernel
theorem dX11_nearTo_27 : decode cX11_nearTo 27 = .ok (.if_icmp .ge 41, 3) := by decide +kernel
theorem dX11_nearTo_30 : decode cX11_nearTo 30 = .ok (.iload_n 2, 1) := by decide +kernel
theorem dX11_nearTo_31 : decode cX11_nearTo 31 = .ok (.iconst (-1), 1) := by decide +kernel
theorem dX11_nearTo_32 : decode cX11_nearTo 32 = .ok (.if_icmp .eq 28, 3) := by decide +kernel
theorem dX11_nearTo_35 : decode cX11_nearTo 35 = .ok (.aload_n 0, 1) := by decide +kernel
theorem dX11_nearTo_36 : decode cX11_nearTo 36 = .ok (.getfield 36, 3) := by decide +kernel
theorem dX11_nearTo_39 : decode cX11_nearTo 39 = .ok (.iload_n 3, 1) := by decide +kernel
theorem dX11_nearTo_40 : decode cX11_nearTo 40 = .ok (.iaload, 1) := by decide +kernel
theorem dX11_nearTo_41 : decode cX11_nearTo 41 = .ok (.iload_n 1, 1) := by decide +kernel
theorem dX11_nearTo_42 : decode cX11_nearTo 42 = .ok (.ixor, 1) := by decide +kernel
theorem dX11_nearTo_43 : decode cX11_nearTo 43 = .ok (.invokestatic 105, 3) := by decide +kernel
theorem dX11_nearTo_46 : decode cX11_nearTo 46 = .ok (.aload_n 0, 1) := by decide +kernel
theorem dX11_nearTo_47 : decode cX11_nearTo 47 = .ok (.getfield 36, 3) := by decide +kernel
theorem dX11_nearTo_50 : decode cX11_nearTo 50 = .ok (.iload_n 2, 1) := by decide +kernel
theorem dX11_nearTo_51 : decode cX11_nearTo 51 = .ok (.iaload, 1) := by decide +kernel
theorem dX11_nearTo_52 : decode cX11_nearTo 52 = .ok (.iload_n 1, 1) := by decide +kernel
theorem dX11_nearTo_53 : decode cX11_nearTo 53 = .ok (.ixor, 1) := by decide +kernel
theorem dX11_nearTo_54 : decode cX11_nearTo 54 = .ok (.invokestatic 105, 3) := by decide +kernel
theorem dX11_nearTo_57 : decode cX11_nearTo 57 = .ok (.if_icmp .ge 5, 3) := by decide +kernel
theorem dX11_nearTo_60 : decode cX11_nearTo 60 = .ok (.iload_n 3, 1) := by decide +kernel
theorem dX11_nearTo_61 : decode cX11_nearTo 61 = .ok (.istore_n 2, 1) := by decide +kernel
theorem dX11_nearTo_62 : decode cX11_nearTo 62 = .ok (.iinc 3 1, 3) := by decide +kernel
theorem dX11_nearTo_65 : decode cX11_nearTo 65 = .ok (.goto (-43), 3) := by decide +kernel
theorem dX11_nearTo_68 : decode cX11_nearTo 68 = .ok (.iload_n 2, 1) := by decide +kernel
theorem dX11_nearTo_69 : decode cX11_nearTo 69 = .ok (.ireturn, 1) := by decide +kernel
theorem dX11_apart_0 : decode cX11_apart 0 = .ok (.aload_n 0, 1) := by decide +kernel
theorem dX11_apart_1 : decode cX11_apart 1 = .ok (.invokevirtual 174, 3) := by decide +kernel
theorem dX11_apart_4 : decode cX11_apart 4 = .ok (.aload_n 0, 1) := by decide +kernel
theorem dX11_apart_5 : decode cX11_apart 5 = .ok (.aload_n 0, 1) := by decide +kernel
theorem dX11_apart_6 : decode cX11_apart 6 = .ok (.iload_n 1, 1) := by decide +kernel
theorem dX11_apart_7 : decode cX11_apart 7 = .ok (.invokevirtual 372, 3) := by decide +kernel
theorem dX11_apart_10 : decode cX11_apart 10 = .ok (.ifCond .eq 15, 3) := by decide +kernel
theorem dX11_apart_13 : decode cX11_apart 13 = .ok (.aload_n 0, 1) := by decide +kernel
theorem dX11_apart_14 : decode cX11_apart 14 = .ok (.iload_n 2, 1) := by decide +kernel
theorem dX11_apart_15 : decode cX11_apart 15 = .ok (.invokevirtual 372, 3) := by decide +kernel
theorem dX11_apart_18 : decode cX11_apart 18 = .ok (.ifCond .eq 7, 3) := by decide +kernel
theorem dX11_apart_21 : decode cX11_apart 21 = .ok (.iconst 1, 1) := by decide +kernel
theorem dX11_apart_22 : decode cX11_apart 22 = .ok (.goto 4, 3) := by decide +kernel
theorem dX11_apart_25 : decode cX11_apart 25 = .ok (.iconst 0, 1) := by decide +kernel
theorem dX11_apart_26 : decode cX11_apart 26 = .ok (.invokevirtual 235, 3) := by decide +kernel
theorem dX11_apart_29 : decode cX11_apart 29 = .ok (.ifCond .eq 22, 3) := by decide +kernel
theorem dX11_apart_32 : decode cX11_apart 32 = .ok (.aload_n 0, 1) := by decide +kernel
theorem dX11_apart_33 : decode cX11_apart 33 = .ok (.getfield 36, 3) := by decide +kernel
theorem dX11_apart_36 : decode cX11_apart 36 = .ok (.iload_n 1, 1) := by decide +kernel
theorem dX11_apart_37 : decode cX11_apart 37 = .ok (.iaload, 1) := by decide +kernel
theorem dX11_apart_38 : decode cX11_apart 38 = .ok (.aload_n 0, 1) := by decide +kernel
theorem dX11_apart_39 : decode cX11_apart 39 = .ok (.getfield 36, 3) := by decide +kernel
theorem dX11_apart_42 : decode cX11_apart 42 = .ok (.iload_n 2, 1) := by decide +kernel
theorem dX11_apart_43 : decode cX11_apart 43 = .ok (.iaload, 1) := by decide +kernel
theorem dX11_apart_44 : decode cX11_apart 44 = .ok (.ixor, 1) := by decide +kernel
theorem dX11_apart_45 : decode cX11_apart 45 = .ok (.invokestatic 105, 3) := by decide +kernel
theorem dX11_apart_48 : decode cX11_apart 48 = .ok (.goto 4, 3) := by decide +kernel
theorem dX11_apart_51 : decode cX11_apart 51 = .ok (.iconst 0, 1) := by decide +kernel
theorem dX11_apart_52 : decode cX11_apart 52 = .ok (.ireturn, 1) := by decide +kernel
theorem dX11_layers_0 : decode cX11_layers 0 = .ok (.aload_n 0, 1) := by decide +kernel
theorem dX11_layers_1 : decode cX11_layers 1 = .ok (.iconst 0, 1) := by decide +kernel
theorem dX11_layers_2 : decode cX11_layers 2 = .ok (.putfield 3, 3) := by decide +kernel
theorem dX11_layers_5 : decode cX11_layers 5 = .ok (.aload_n 0, 1) := by decide +kernel
theorem dX11_layers_6 : decode cX11_layers 6 = .ok (.invokevirtual 409, 3) := by decide +kernel
theorem dX11_layers_9 : decode cX11_layers 9 = .ok (.aload_n 0, 1) := by decide +kernel
theorem dX11_layers_10 : decode cX11_layers 10 = .ok (.getfield 211, 3) := by decide +kernel
theorem dX11_layers_13 : decode cX11_layers 13 = .ok (.ireturn, 1) := by decide +kernel
theorem dX11_layerSize_0 : decode cX11_layerSize 0 = .ok (.aload_n 0, 1) := by decide +kernel
theorem dX11_layerSize_1 : decode cX11_layerSize 1 = .ok (.invokevirtual 409, 3) := by decide +kernel
theorem dX11_layerSize_4 : decode cX11_layerSize 4 = .ok (.aload_n 0, 1) := by decide +kernel
theorem dX11_layerSize_5 : decode cX11_layerSize 5 = .ok (.iload_n 1, 1) := by decide +kernel
theorem dX11_layerSize_6 : decode cX11_layerSize 6 = .ok (.i2l, 1) := by decide +kernel
theorem dX11_layerSize_7 : decode cX11_layerSize 7 = .ok (.lconst 0, 1) := by decide +kernel
theorem dX11_layerSize_8 : decode cX11_layerSize 8 = .ok (.aload_n 0, 1) := by decide +kernel
theorem dX11_layerSize_9 : decode cX11_layerSize 9 = .ok (.getfield 211, 3) := by decide +kernel
theorem dX11_layerSize_12 : decode cX11_layerSize 12 = .ok (.iconst 1, 1) := by decide +kernel
theorem dX11_layerSize_13 : decode cX11_layerSize 13 = .ok (.isub, 1) := by decide +kernel
theorem dX11_layerSize_14 : decode cX11_layerSize 14 = .ok (.i2l, 1) := by decide +kernel
theorem dX11_layerSize_15 : decode cX11_layerSize 15 = .ok (.invokestatic 87, 3) := by decide +kernel
theorem dX11_layerSize_18 : decode cX11_layerSize 18 = .ok (.invokevirtual 235, 3) := by decide +kernel
theorem dX11_layerSize_21 : decode cX11_layerSize 21 = .ok (.ifCond .ne 5, 3) := by decide +kernel
theorem dX11_layerSize_24 : decode cX11_layerSize 24 = .ok (.iconst 0, 1) := by decide +kernel
theorem dX11_layerSize_25 : decode cX11_layerSize 25 = .ok (.ireturn, 1) := by decide +kernel
theorem dX11_layerSize_26 : decode cX11_layerSize 26 = .ok (.iconst 0, 1) := by decide +kernel
theorem dX11_layerSize_27 : decode cX11_layerSize 27 = .ok (.istore_n 2, 1) := by decide +kernel
theorem dX11_layerSize_28 : decode cX11_layerSize 28 = .ok (.iconst 0, 1) := by decide +kernel
theorem dX11_layerSize_29 : decode cX11_layerSize 29 = .ok (.istore_n 3, 1) := by decide +kernel
theorem dX11_layerSize_30 : decode cX11_layerSize 30 = .ok (.iload_n 3, 1) := by decide +kernel
theorem dX11_layerSize_31 : decode cX11_layerSize 31 = .ok (.aload_n 0, 1) := by decide +kernel
theorem dX11_layerSize_32 : decode cX11_layerSize 32 = .ok (.getfield 205, 3) := by decide +kernel
theorem dX11_layerSize_35 : decode cX11_layerSize 35 = .ok (.if_icmp .ge 27, 3) := by decide +kernel
theorem dX11_layerSize_38 : decode cX11_layerSize 38 = .ok (.iload_n 2, 1) := by decide +kernel
theorem dX11_layerSize_39 : decode cX11_layerSize 39 = .ok (.aload_n 0, 1) := by decide +kernel
theorem dX11_layerSize_40 : decode cX11_layerSize 40 = .ok (.getfield 57, 3) := by decide +kernel
theorem dX11_layerSize_43 : decode cX11_layerSize 43 = .ok (.iload_n 3, 1) := by decide +kernel
theorem dX11_layerSize_44 : decode cX11_layerSize 44 = .ok (.iaload, 1) := by decide +kernel
theorem dX11_layerSize_45 : decode cX11_layerSize 45 = .ok (.iload_n 1, 1) := by decide +kernel
theorem dX11_layerSize_46 : decode cX11_layerSize 46 = .ok (.if_icmp .ne 7, 3) := by decide +kernel
theorem dX11_layerSize_49 : decode cX11_layerSize 49 = .ok (.iconst 1, 1) := by decide +kernel
theorem dX11_layerSize_50 : decode cX11_layerSize 50 = .ok (.goto 4, 3) := by decide +kernel
theorem dX11_layerSize_53 : decode cX11_layerSize 53 = .ok (.iconst 0, 1) := by decide +kernel
theorem dX11_layerSize_54 : decode cX11_layerSize 54 = .ok (.iadd, 1) := by decide +kernel
theorem dX11_layerSize_55 : decode cX11_layerSize 55 = .ok (.istore_n 2, 1) := by decide +kernel
theorem dX11_layerSize_56 : decode cX11_layerSize 56 = .ok (.iinc 3 1, 3) := by decide +kernel
theorem dX11_layerSize_59 : decode cX11_layerSize 59 = .ok (.goto (-29), 3) := by decide +kernel
theorem dX11_layerSize_62 : decode cX11_layerSize 62 = .ok (.iload_n 2, 1) := by decide +kernel
theorem dX11_layerSize_63 : decode cX11_layerSize 63 = .ok (.ireturn, 1) := by decide +kernel
theorem dX11_layerOf_0 : decode cX11_layerOf 0 = .ok (.aload_n 0, 1) := by decide +kernel
theorem dX11_layerOf_1 : decode cX11_layerOf 1 = .ok (.aload_n 0, 1) := by decide +kernel
theorem dX11_layerOf_2 : decode cX11_layerOf 2 = .ok (.iload_n 1, 1) := by decide +kernel
theorem dX11_layerOf_3 : decode cX11_layerOf 3 = .ok (.invokevirtual 364, 3) := by decide +kernel
theorem dX11_layerOf_6 : decode cX11_layerOf 6 = .ok (.invokevirtual 235, 3) := by decide +kernel
theorem dX11_layerOf_9 : decode cX11_layerOf 9 = .ok (.ifCond .eq 11, 3) := by decide +kernel
theorem dX11_layerOf_12 : decode cX11_layerOf 12 = .ok (.aload_n 0, 1) := by decide +kernel
theorem dX11_layerOf_13 : decode cX11_layerOf 13 = .ok (.iload_n 1, 1) := by decide +kernel
theorem dX11_layerOf_14 : decode cX11_layerOf 14 = .ok (.invokevirtual 122, 3) := by decide +kernel
theorem dX11_layerOf_17 : decode cX11_layerOf 17 = .ok (.ifCond .ne 16, 3) := by decide +kernel
theorem dX11_layerOf_20 : decode cX11_layerOf 20 = .ok (.aload_n 0, 1) := by decide +kernel
theorem dX11_layerOf_21 : decode cX11_layerOf 21 = .ok (.getfield 3, 3) := by decide +kernel
theorem dX11_layerOf_24 : decode cX11_layerOf 24 = .ok (.ifCond .ne 7, 3) := by decide +kernel
theorem dX11_layerOf_27 : decode cX11_layerOf 27 = .ok (.iconst (-1), 1) := by decide +kernel
theorem dX11_layerOf_28 : decode cX11_layerOf 28 = .ok (.goto 4, 3) := by decide +kernel
theorem dX11_layerOf_31 : decode cX11_layerOf 31 = .ok (.iconst 0, 1) := by decide +kernel
theorem dX11_layerOf_32 : decode cX11_layerOf 32 = .ok (.ireturn, 1) := by decide +kernel
theorem dX11_layerOf_33 : decode cX11_layerOf 33 = .ok (.aload_n 0, 1) := by decide +kernel
theorem dX11_layerOf_34 : decode cX11_layerOf 34 = .ok (.invokevirtual 409, 3) := by decide +kernel
theorem dX11_layerOf_37 : decode cX11_layerOf 37 = .ok (.aload_n 0, 1) := by decide +kernel
theorem dX11_layerOf_38 : decode cX11_layerOf 38 = .ok (.iload_n 1, 1) := by decide +kernel
theorem dX11_layerOf_39 : decode cX11_layerOf 39 = .ok (.iconst 1, 1) := by decide +kernel
theorem dX11_layerOf_40 : decode cX11_layerOf 40 = .ok (.invokevirtual 102, 3) := by decide +kernel
theorem dX11_layerOf_43 : decode cX11_layerOf 43 = .ok (.aload_n 0, 1) := by decide +kernel
theorem dX11_layerOf_44 : decode cX11_layerOf 44 = .ok (.iload_n 1, 1) := by decide +kernel
theorem dX11_layerOf_45 : decode cX11_layerOf 45 = .ok (.iconst 2, 1) := by decide +kernel
theorem dX11_layerOf_46 : decode cX11_layerOf 46 = .ok (.invokevirtual 102, 3) := by decide +kernel
theorem dX11_layerOf_49 : decode cX11_layerOf 49 = .ok (.invokestatic 198, 3) := by decide +kernel
theorem dX11_layerOf_52 : decode cX11_layerOf 52 = .ok (.istore_n 2, 1) := by decide +kernel
theorem dX11_layerOf_53 : decode cX11_layerOf 53 = .ok (.iconst 0, 1) := by decide +kernel
theorem dX11_layerOf_54 : decode cX11_layerOf 54 = .ok (.istore_n 3, 1) := by decide +kernel
theorem dX11_layerOf_55 : decode cX11_layerOf 55 = .ok (.aload_n 0, 1) := by decide +kernel
theorem dX11_layerOf_56 : decode cX11_layerOf 56 = .ok (.getfield 54, 3) := by decide +kernel
theorem dX11_layerOf_59 : decode cX11_layerOf 59 = .ok (.iload_n 3, 1) := by decide +kernel
theorem dX11_layerOf_60 : decode cX11_layerOf 60 = .ok (.iaload, 1) := by decide +kernel
theorem dX11_layerOf_61 : decode cX11_layerOf 61 = .ok (.iload_n 2, 1) := by decide +kernel
theorem dX11_layerOf_62 : decode cX11_layerOf 62 = .ok (.if_icmp .eq 9, 3) := by decide +kernel
theorem dX11_layerOf_65 : decode cX11_layerOf 65 = .ok (.iinc 3 1, 3) := by decide +kernel
theorem dX11_layerOf_68 : decode cX11_layerOf 68 = .ok (.goto (-13), 3) := by decide +kernel
theorem dX11_layerOf_71 : decode cX11_layerOf 71 = .ok (.aload_n 0, 1) := by decide +kernel
theorem dX11_layerOf_72 : decode cX11_layerOf 72 = .ok (.getfield 57, 3) := by decide +kernel
theorem dX11_layerOf_75 : decode cX11_layerOf 75 = .ok (.iload_n 3, 1) := by decide +kernel
theorem dX11_layerOf_76 : decode cX11_layerOf 76 = .ok (.iaload, 1) := by decide +kernel
theorem dX11_layerOf_77 : decode cX11_layerOf 77 = .ok (.ireturn, 1) := by decide +kernel
theorem dX11_climb_0 : decode cX11_climb 0 = .ok (.aload_n 0, 1) := by decide +kernel
theorem dX11_climb_1 : decode cX11_climb 1 = .ok (.iload_n 1, 1) := by decide +kernel
theorem dX11_climb_2 : decode cX11_climb 2 = .ok (.iload_n 2, 1) := by decide +kernel
theorem dX11_climb_3 : decode cX11_climb 3 = .ok (.invokestatic 383, 3) := by decide +kernel
theorem dX11_climb_6 : decode cX11_climb 6 = .ok (.invokevirtual 235, 3) := by decide +kernel
theorem dX11_climb_9 : decode cX11_climb 9 = .ok (.ifCond .eq 12, 3) := by decide +kernel
theorem dX11_climb_12 : decode cX11_climb 12 = .ok (.aload_n 0, 1) := by decide +kernel
theorem dX11_climb_13 : decode cX11_climb 13 = .ok (.iload_n 1, 1) := by decide +kernel
theorem dX11_climb_14 : decode cX11_climb 14 = .ok (.iload_n 2, 1) := by decide +kernel
theorem dX11_climb_15 : decode cX11_climb 15 = .ok (.invokevirtual 412, 3) := by decide +kernel
theorem dX11_climb_18 : decode cX11_climb 18 = .ok (.goto 4, 3) := by decide +kernel
theorem dX11_climb_21 : decode cX11_climb 21 = .ok (.iconst 0, 1) := by decide +kernel
theorem dX11_climb_22 : decode cX11_climb 22 = .ok (.ireturn, 1) := by decide +kernel
theorem dX11_share_0 : decode cX11_share 0 = .ok (.aload_n 0, 1) := by decide +kernel
theorem dX11_share_1 : decode cX11_share 1 = .ok (.iconst 0, 1) := by decide +kernel
theorem dX11_share_2 : decode cX11_share 2 = .ok (.putfield 3, 3) := by decide +kernel
theorem dX11_share_5 : decode cX11_share 5 = .ok (.aload_n 0, 1) := by decide +kernel
theorem dX11_share_6 : decode cX11_share 6 = .ok (.invokevirtual 144, 3) := by decide +kernel
theorem dX11_share_9 : decode cX11_share 9 = .ok (.aload_n 0, 1) := by decide +kernel
theorem dX11_share_10 : decode cX11_share 10 = .ok (.getfield 119, 3) := by decide +kernel
theorem dX11_share_13 : decode cX11_share 13 = .ok (.ifCond .ne 7, 3) := by decide +kernel
theorem dX11_share_16 : decode cX11_share 16 = .ok (.dconst 0, 1) := by decide +kernel
theorem dX11_share_17 : decode cX11_share 17 = .ok (.goto 14, 3) := by decide +kernel
theorem dX11_share_20 : decode cX11_share 20 = .ok (.aload_n 0, 1) := by decide +kernel
theorem dX11_share_21 : decode cX11_share 21 = .ok (.getfield 130, 3) := by decide +kernel
theorem dX11_share_24 : decode cX11_share 24 = .ok (.i2d, 1) := by decide +kernel
theorem dX11_share_25 : decode cX11_share 25 = .ok (.aload_n 0, 1) := by decide +kernel
theorem dX11_share_26 : decode cX11_share 26 = .ok (.getfield 119, 3) := by decide +kernel
theorem dX11_share_29 : decode cX11_share 29 = .ok (.i2d, 1) := by decide +kernel
theorem dX11_share_30 : decode cX11_share 30 = .ok (.ddiv, 1) := by decide +kernel
theorem dX11_share_31 : decode cX11_share 31 = .ok (.dreturn, 1) := by decide +kernel
theorem dX11_addItem_0 : decode cX11_addItem 0 = .ok (.iload_n 1, 1) := by decide +kernel
theorem dX11_addItem_1 : decode cX11_addItem 1 = .ok (.i2l, 1) := by decide +kernel
theorem dX11_addItem_2 : decode cX11_addItem 2 = .ok (.lconst 0, 1) := by decide +kernel
theorem dX11_addItem_3 : decode cX11_addItem 3 = .ok (.ldc2_w 230, 3) := by decide +kernel
theorem dX11_addItem_6 : decode cX11_addItem 6 = .ok (.invokestatic 87, 3) := by decide +kernel
theorem dX11_addItem_9 : decode cX11_addItem 9 = .ok (.ifCond .eq 31, 3) := by decide +kernel
theorem dX11_addItem_12 : decode cX11_addItem 12 = .ok (.iload_n 2, 1) := by decide +kernel
theorem dX11_addItem_13 : decode cX11_addItem 13 = .ok (.i2l, 1) := by decide +kernel
theorem dX11_addItem_14 : decode cX11_addItem 14 = .ok (.lconst 0, 1) := by decide +kernel
theorem dX11_addItem_15 : decode cX11_addItem 15 = .ok (.ldc2_w 230, 3) := by decide +kernel
theorem dX11_addItem_18 : decode cX11_addItem 18 = .ok (.invokestatic 87, 3) := by decide +kernel
theorem dX11_addItem_21 : decode cX11_addItem 21 = .ok (.ifCond .eq 19, 3) := by decide +kernel
theorem dX11_addItem_24 : decode cX11_addItem 24 = .ok (.iload_n 3, 1) := by decide +kernel
theorem dX11_addItem_25 : decode cX11_addItem 25 = .ok (.i2l, 1) := by decide +kernel
theorem dX11_addItem_26 : decode cX11_addItem 26 = .ok (.lconst 0, 1) := by decide +kernel
theorem dX11_addItem_27 : decode cX11_addItem 27 = .ok (.ldc2_w 230, 3) := by decide +kernel
theorem dX11_addItem_30 : decode cX11_addItem 30 = .ok (.invokestatic 87, 3) := by decide +kernel
theorem dX11_addItem_33 : decode cX11_addItem 33 = .ok (.ifCond .eq 7, 3) := by decide +kernel
theorem dX11_addItem_36 : decode cX11_addItem 36 = .ok (.iconst 1, 1) := by decide +kernel
theorem dX11_addItem_37 : decode cX11_addItem 37 = .ok (.goto 4, 3) := by decide +kernel
theorem dX11_addItem_40 : decode cX11_addItem 40 = .ok (.iconst 0, 1) := by decide +kernel
theorem dX11_addItem_41 : decode cX11_addItem 41 = .ok (.istore 4, 2) := by decide +kernel
theorem dX11_addItem_43 : decode cX11_addItem 43 = .ok (.aload_n 0, 1) := by decide +kernel
theorem dX11_addItem_44 : decode cX11_addItem 44 = .ok (.iload 4, 2) := by decide +kernel
theorem dX11_addItem_46 : decode cX11_addItem 46 = .ok (.aload_n 0, 1) := by decide +kernel
theorem dX11_addItem_47 : decode cX11_addItem 47 = .ok (.invokevirtual 83, 3) := by decide +kernel
theorem dX11_addItem_50 : decode cX11_addItem 50 = .ok (.bipush 12, 2) := by decide +kernel
theorem dX11_addItem_52 : decode cX11_addItem 52 = .ok (.if_icmp .ge 7, 3) := by decide +kernel
theorem dX11_addItem_55 : decode cX11_addItem 55 = .ok (.iconst 1, 1) := by decide +kernel
theorem dX11_addItem_56 : decode cX11_addItem 56 = .ok (.goto 4, 3) := by decide +kernel
theorem dX11_addItem_59 : decode cX11_addItem 59 = .ok (.iconst 0, 1) := by decide +kernel
theorem dX11_addItem_60 : decode cX11_addItem 60 = .ok (.invokevirtual 7, 3) := by decide +kernel
theorem dX11_addItem_63 : decode cX11_addItem 63 = .ok (.ifCond .ne 5, 3) := by decide +kernel
theorem dX11_addItem_66 : decode cX11_addItem 66 = .ok (.iconst 0, 1) := by decide +kernel
theorem dX11_addItem_67 : decode cX11_addItem 67 = .ok (.ireturn, 1) := by decide +kernel
theorem dX11_addItem_68 : decode cX11_addItem 68 = .ok (.aload_n 0, 1) := by decide +kernel
theorem dX11_addItem_69 : decode cX11_addItem 69 = .ok (.invokevirtual 351, 3) := by decide +kernel
theorem dX11_addItem_72 : decode cX11_addItem 72 = .ok (.aload_n 0, 1) := by decide +kernel
theorem dX11_addItem_73 : decode cX11_addItem 73 = .ok (.invokevirtual 83, 3) := by decide +kernel
theorem dX11_addItem_76 : decode cX11_addItem 76 = .ok (.istore 5, 2) := by decide +kernel
theorem dX11_addItem_78 : decode cX11_addItem 78 = .ok (.aload_n 0, 1) := by decide +kernel
theorem dX11_addItem_79 : decode cX11_addItem 79 = .ok (.getfield 17, 3) := by decide +kernel
theorem dX11_addItem_82 : decode cX11_addItem 82 = .ok (.iconst 0, 1) := by decide +kernel
theorem dX11_addItem_83 : decode cX11_addItem 83 = .ok (.dup2, 1) := by decide +kernel
theorem dX11_addItem_84 : decode cX11_addItem 84 = .ok (.iaload, 1) := by decide +kernel
theorem dX11_addItem_85 : decode cX11_addItem 85 = .ok (.iconst 1, 1) := by decide +kernel
theorem dX11_addItem_86 : decode cX11_addItem 86 = .ok (.iadd, 1) := by decide +kernel
theorem dX11_addItem_87 : decode cX11_addItem 87 = .ok (.iastore, 1) := by decide +kernel
theorem dX11_addItem_88 : decode cX11_addItem 88 = .ok (.iconst 0, 1) := by decide +kernel
theorem dX11_addItem_89 : decode cX11_addItem 89 = .ok (.istore 6, 2) := by decide +kernel
theorem dX11_addItem_91 : decode cX11_addItem 91 = .ok (.iload 6, 2) := by decide +kernel
theorem dX11_addItem_93 : decode cX11_addItem 93 = .ok (.iconst 5, 1) := by decide +kernel
theorem dX11_addItem_94 : decode cX11_addItem 94 = .ok (.if_icmp .ge 18, 3) := by decide +kernel
theorem dX11_addItem_97 : decode cX11_addItem 97 = .ok (.aload_n 0, 1) := by decide +kernel
theorem dX11_addItem_98 : decode cX11_addItem 98 = .ok (.iload 5, 2) := by decide +kernel
theorem dX11_addItem_100 : decode cX11_addItem 100 = .ok (.iload 6, 2) := by decide +kernel
theorem dX11_addItem_102 : decode cX11_addItem 102 = .ok (.iconst 0, 1) := by decide +kernel
theorem dX11_addItem_103 : decode cX11_addItem 103 = .ok (.invokevirtual 320, 3) := by decide +kernel
theorem dX11_addItem_106 : decode cX11_addItem 106 = .ok (.iinc 6 1, 3) := by decide +kernel
theorem dX11_addItem_109 : decode cX11_addItem 109 = .ok (.goto (-18), 3) := by decide +kernel
theorem dX11_addItem_112 : decode cX11_addItem 112 = .ok (.aload_n 0, 1) := by decide +kernel
theorem dX11_addItem_113 : decode cX11_addItem 113 = .ok (.iload 5, 2) := by decide +kernel
theorem dX11_addItem_115 : decode cX11_addItem 115 = .ok (.iconst 0, 1) := by decide +kernel
theorem dX11_addItem_116 : decode cX11_addItem 116 = .ok (.iload_n 1, 1) := by decide +kernel
theorem dX11_addItem_117 : decode cX11_addItem 117 = .ok (.invokevirtual 320, 3) := by decide +kernel
theorem dX11_addItem_120 : decode cX11_addItem 120 = .ok (.aload_n 0, 1) := by decide +kernel
theorem dX11_addItem_121 : decode cX11_addItem 121 = .ok (.iload 5, 2) := by decide +kernel
theorem dX11_addItem_123 : decode cX11_addItem 123 = .ok (.iconst 1, 1) := by decide +kernel
theorem dX11_addItem_124 : decode cX11_addItem 124 = .ok (.iload_n 2, 1) := by decide +kernel
theorem dX11_addItem_125 : decode cX11_addItem 125 = .ok (.invokevirtual 320, 3) := by decide +kernel
theorem dX11_addItem_128 : decode cX11_addItem 128 = .ok (.aload_n 0, 1) := by decide +kernel
theorem dX11_addItem_129 : decode cX11_addItem 129 = .ok (.iload 5, 2) := by decide +kernel
theorem dX11_addItem_131 : decode cX11_addItem 131 = .ok (.iconst 2, 1) := by decide +kernel
theorem dX11_addItem_132 : decode cX11_addItem 132 = .ok (.iload_n 3, 1) := by decide +kernel
theorem dX11_addItem_133 : decode cX11_addItem 133 = .ok (.invokevirtual 320, 3) := by decide +kernel
theorem dX11_addItem_136 : decode cX11_addItem 136 = .ok (.iload 5, 2) := by decide +kernel
theorem dX11_addItem_138 : decode cX11_addItem 138 = .ok (.ireturn, 1) := by decide +kernel
theorem dX11_without_0 : decode cX11_without 0 = .ok (.iload_n 0, 1) := by decide +kernel
theorem dX11_without_1 : decode cX11_without 1 = .ok (.iconst 1, 1) := by decide +kernel
theorem dX11_without_2 : decode cX11_without 2 = .ok (.iload_n 1, 1) := by decide +kernel
theorem dX11_without_3 : decode cX11_without 3 = .ok (.ishl, 1) := by decide +kernel
theorem dX11_without_4 : decode cX11_without 4 = .ok (.iconst 1, 1) := by decide +kernel
theorem dX11_without_5 : decode cX11_without 5 = .ok (.isub, 1) := by decide +kernel
theorem dX11_without_6 : decode cX11_without 6 = .ok (.iand, 1) := by decide +kernel
theorem dX11_without_7 : decode cX11_without 7 = .ok (.istore_n 2, 1) := by decide +kernel
theorem dX11_without_8 : decode cX11_without 8 = .ok (.iload_n 2, 1) := by decide +kernel
theorem dX11_without_9 : decode cX11_without 9 = .ok (.iload_n 0, 1) := by decide +kernel
theorem dX11_without_10 : decode cX11_without 10 = .ok (.iload_n 1, 1) := by decide +kernel
theorem dX11_without_11 : decode cX11_without 11 = .ok (.iconst 1, 1) := by decide +kernel
theorem dX11_without_12 : decode cX11_without 12 = .ok (.iadd, 1) := by decide +kernel
theorem dX11_without_13 : decode cX11_without 13 = .ok (.ishr, 1) := by decide +kernel
theorem dX11_without_14 : decode cX11_without 14 = .ok (.iload_n 1, 1) := by decide +kernel
theorem dX11_without_15 : decode cX11_without 15 = .ok (.ishl, 1) := by decide +kernel
theorem dX11_without_16 : decode cX11_without 16 = .ok (.ior, 1) := by decide +kernel
theorem dX11_without_17 : decode cX11_without 17 = .ok (.ireturn, 1) := by decide +kernel
theorem dX11_dropItem_0 : decode cX11_dropItem 0 = .ok (.aload_n 0, 1) := by decide +kernel
theorem dX11_dropItem_1 : decode cX11_dropItem 1 = .ok (.aload_n 0, 1) := by decide +kernel
theorem dX11_dropItem_2 : decode cX11_dropItem 2 = .ok (.iload_n 1, 1) := by decide +kernel
theorem dX11_dropItem_3 : decode cX11_dropItem 3 = .ok (.invokevirtual 359, 3) := by decide +kernel
theorem dX11_dropItem_6 : decode cX11_dropItem 6 = .ok (.invokevirtual 235, 3) := by decide +kernel
theorem dX11_dropItem_9 : decode cX11_dropItem 9 = .ok (.ifCond .ne 5, 3) := by decide +kernel
theorem dX11_dropItem_12 : decode cX11_dropItem 12 = .ok (.iconst 0, 1) := by decide +kernel
theorem dX11_dropItem_13 : decode cX11_dropItem 13 = .ok (.ireturn, 1) := by decide +kernel
theorem dX11_dropItem_14 : decode cX11_dropItem 14 = .ok (.aload_n 0, 1) := by decide +kernel
theorem dX11_dropItem_15 : decode cX11_dropItem 15 = .ok (.invokevirtual 351, 3) := by decide +kernel
theorem dX11_dropItem_18 : decode cX11_dropItem 18 = .ok (.aload_n 0, 1) := by decide +kernel
theorem dX11_dropItem_19 : decode cX11_dropItem 19 = .ok (.getfield 17, 3) := by decide +kernel
theorem dX11_dropItem_22 : decode cX11_dropItem 22 = .ok (.iconst 0, 1) := by decide +kernel
theorem dX11_dropItem_23 : decode cX11_dropItem 23 = .ok (.dup2, 1) := by decide +kernel
theorem dX11_dropItem_24 : decode cX11_dropItem 24 = .ok (.iaload, 1) := by decide +kernel
theorem dX11_dropItem_25 : decode cX11_dropItem 25 = .ok (.iconst 1, 1) := by decide +kernel
theorem dX11_dropItem_26 : decode cX11_dropItem 26 = .ok (.isub, 1) := by decide +kernel
theorem dX11_dropItem_27 : decode cX11_dropItem 27 = .ok (.iastore, 1) := by decide +kernel
theorem dX11_dropItem_28 : decode cX11_dropItem 28 = .ok (.iload_n 1, 1) := by decide +kernel
theorem dX11_dropItem_29 : decode cX11_dropItem 29 = .ok (.istore_n 2, 1) := by decide +kernel
theorem dX11_dropItem_30 : decode cX11_dropItem 30 = .ok (.iload_n 2, 1) := by decide +kernel
theorem dX11_dropItem_31 : decode cX11_dropItem 31 = .ok (.aload_n 0, 1) := by decide +kernel
theorem dX11_dropItem_32 : decode cX11_dropItem 32 = .ok (.invokevirtual 83, 3) := by decide +kernel
theorem dX11_dropItem_35 : decode cX11_dropItem 35 = .ok (.if_icmp .ge 36, 3) := by decide +kernel
theorem dX11_dropItem_38 : decode cX11_dropItem 38 = .ok (.iconst 0, 1) := by decide +kernel
theorem dX11_dropItem_39 : decode cX11_dropItem 39 = .ok (.istore_n 3, 1) := by decide +kernel
theorem dX11_dropItem_40 : decode cX11_dropItem 40 = .ok (.iload_n 3, 1) := by decide +kernel
theorem dX11_dropItem_41 : decode cX11_dropItem 41 = .ok (.iconst 5, 1) := by decide +kernel
theorem dX11_dropItem_42 : decode cX11_dropItem 42 = .ok (.if_icmp .ge 23, 3) := by decide +kernel
theorem dX11_dropItem_45 : decode cX11_dropItem 45 = .ok (.aload_n 0, 1) := by decide +kernel
theorem dX11_dropItem_46 : decode cX11_dropItem 46 = .ok (.iload_n 2, 1) := by decide +kernel
theorem dX11_dropItem_47 : decode cX11_dropItem 47 = .ok (.iload_n 3, 1) := by decide +kernel
theorem dX11_dropItem_48 : decode cX11_dropItem 48 = .ok (.aload_n 0, 1) := by decide +kernel
theorem dX11_dropItem_49 : decode cX11_dropItem 49 = .ok (.iload_n 2, 1) := by decide +kernel
theorem dX11_dropItem_50 : decode cX11_dropItem 50 = .ok (.iconst 1, 1) := by decide +kernel
theorem dX11_dropItem_51 : decode cX11_dropItem 51 = .ok (.iadd, 1) := by decide +kernel
theorem dX11_dropItem_52 : decode cX11_dropItem 52 = .ok (.iload_n 3, 1) := by decide +kernel
theorem dX11_dropItem_53 : decode cX11_dropItem 53 = .ok (.invokevirtual 98, 3) := by decide +kernel
theorem dX11_dropItem_56 : decode cX11_dropItem 56 = .ok (.invokevirtual 320, 3) := by decide +kernel
theorem dX11_dropItem_59 : decode cX11_dropItem 59 = .ok (.iinc 3 1, 3) := by decide +kernel
theorem dX11_dropItem_62 : decode cX11_dropItem 62 = .ok (.goto (-22), 3) := by decide +kernel
theorem dX11_dropItem_65 : decode cX11_dropItem 65 = .ok (.iinc 2 1, 3) := by decide +kernel
theorem dX11_dropItem_68 : decode cX11_dropItem 68 = .ok (.goto (-38), 3) := by decide +kernel
theorem dX11_dropItem_71 : decode cX11_dropItem 71 = .ok (.iconst 0, 1) := by decide +kernel
theorem dX11_dropItem_72 : decode cX11_dropItem 72 = .ok (.istore_n 2, 1) := by decide +kernel
theorem dX11_dropItem_73 : decode cX11_dropItem 73 = .ok (.iload_n 2, 1) := by decide +kernel
theorem dX11_dropItem_74 : decode cX11_dropItem 74 = .ok (.aload_n 0, 1) := by decide +kernel
theorem dX11_dropItem_75 : decode cX11_dropItem 75 = .ok (.invokevirtual 83, 3) := by decide +kernel
theorem dX11_dropItem_78 : decode cX11_dropItem 78 = .ok (.if_icmp .ge 41, 3) := by decide +kernel
theorem dX11_dropItem_81 : decode cX11_dropItem 81 = .ok (.aload_n 0, 1) := by decide +kernel
theorem dX11_dropItem_82 : decode cX11_dropItem 82 = .ok (.iload_n 2, 1) := by decide +kernel
theorem dX11_dropItem_83 : decode cX11_dropItem 83 = .ok (.iconst 3, 1) := by decide +kernel
theorem dX11_dropItem_84 : decode cX11_dropItem 84 = .ok (.aload_n 0, 1) := by decide +kernel
theorem dX11_dropItem_85 : decode cX11_dropItem 85 = .ok (.iload_n 2, 1) := by decide +kernel
theorem dX11_dropItem_86 : decode cX11_dropItem 86 = .ok (.iconst 3, 1) := by decide +kernel
theorem dX11_dropItem_87 : decode cX11_dropItem 87 = .ok (.invokevirtual 98, 3) := by decide +kernel
theorem dX11_dropItem_90 : decode cX11_dropItem 90 = .ok (.iload_n 1, 1) := by decide +kernel
theorem dX11_dropItem_91 : decode cX11_dropItem 91 = .ok (.invokestatic 415, 3) := by decide +kernel
theorem dX11_dropItem_94 : decode cX11_dropItem 94 = .ok (.invokevirtual 320, 3) := by decide +kernel
theorem dX11_dropItem_97 : decode cX11_dropItem 97 = .ok (.aload_n 0, 1) := by decide +kernel
theorem dX11_dropItem_98 : decode cX11_dropItem 98 = .ok (.iload_n 2, 1) := by decide +kernel
theorem dX11_dropItem_99 : decode cX11_dropItem 99 = .ok (.iconst 4, 1) := by decide +kernel
theorem dX11_dropItem_100 : decode cX11_dropItem 100 = .ok (.aload_n 0, 1) := by decide +kernel
theorem dX11_dropItem_101 : decode cX11_dropItem 101 = .ok (.iload_n 2, 1) := by decide +kernel
theorem dX11_dropItem_102 : decode cX11_dropItem 102 = .ok (.iconst 4, 1) := by decide +kernel
theorem dX11_dropItem_103 : decode cX11_dropItem 103 = .ok (.invokevirtual 98, 3) := by decide +kernel
theorem dX11_dropItem_106 : decode cX11_dropItem 106 = .ok (.iload_n 1, 1) := by decide +kernel
theorem dX11_dropItem_107 : decode cX11_dropItem 107 = .ok (.invokestatic 415, 3) := by decide +kernel
theorem dX11_dropItem_110 : decode cX11_dropItem 110 = .ok (.invokevirtual 320, 3) := by decide +kernel
theorem dX11_dropItem_113 : decode cX11_dropItem 113 = .ok (.iinc 2 1, 3) := by decide +kernel
theorem dX11_dropItem_116 : decode cX11_dropItem 116 = .ok (.goto (-43), 3) := by decide +kernel
theorem dX11_dropItem_119 : decode cX11_dropItem 119 = .ok (.aload_n 0, 1) := by decide +kernel
theorem dX11_dropItem_120 : decode cX11_dropItem 120 = .ok (.getfield 17, 3) := by decide +kernel
theorem dX11_dropItem_123 : decode cX11_dropItem 123 = .ok (.iconst 3, 1) := by decide +kernel
theorem dX11_dropItem_124 : decode cX11_dropItem 124 = .ok (.aload_n 0, 1) := by decide +kernel
theorem dX11_dropItem_125 : decode cX11_dropItem 125 = .ok (.getfield 17, 3) := by decide +kernel
theorem dX11_dropItem_128 : decode cX11_dropItem 128 = .ok (.iconst 3, 1) := by decide +kernel
theorem dX11_dropItem_129 : decode cX11_dropItem 129 = .ok (.iaload, 1) := by decide +kernel
theorem dX11_dropItem_130 : decode cX11_dropItem 130 = .ok (.iload_n 1, 1) := by decide +kernel
theorem dX11_dropItem_131 : decode cX11_dropItem 131 = .ok (.invokestatic 415, 3) := by decide +kernel
theorem dX11_dropItem_134 : decode cX11_dropItem 134 = .ok (.iastore, 1) := by decide +kernel
theorem dX11_dropItem_135 : decode cX11_dropItem 135 = .ok (.aload_n 0, 1) := by decide +kernel
theorem dX11_dropItem_136 : decode cX11_dropItem 136 = .ok (.getfield 17, 3) := by decide +kernel
theorem dX11_dropItem_139 : decode cX11_dropItem 139 = .ok (.iconst 4, 1) := by decide +kernel
theorem dX11_dropItem_140 : decode cX11_dropItem 140 = .ok (.aload_n 0, 1) := by decide +kernel
theorem dX11_dropItem_141 : decode cX11_dropItem 141 = .ok (.getfield 17, 3) := by decide +kernel
theorem dX11_dropItem_144 : decode cX11_dropItem 144 = .ok (.iconst 4, 1) := by decide +kernel
theorem dX11_dropItem_145 : decode cX11_dropItem 145 = .ok (.iaload, 1) := by decide +kernel
theorem dX11_dropItem_146 : decode cX11_dropItem 146 = .ok (.iload_n 1, 1) := by decide +kernel
theorem dX11_dropItem_147 : decode cX11_dropItem 147 = .ok (.invokestatic 415, 3) := by decide +kernel
theorem dX11_dropItem_150 : decode cX11_dropItem 150 = .ok (.iastore, 1) := by decide +kernel
theorem dX11_dropItem_151 : decode cX11_dropItem 151 = .ok (.aload_n 0, 1) := by decide +kernel
theorem dX11_dropItem_152 : decode cX11_dropItem 152 = .ok (.getfield 17, 3) := by decide +kernel
theorem dX11_dropItem_155 : decode cX11_dropItem 155 = .ok (.iconst 5, 1) := by decide +kernel
theorem dX11_dropItem_156 : decode cX11_dropItem 156 = .ok (.aload_n 0, 1) := by decide +kernel
theorem dX11_dropItem_157 : decode cX11_dropItem 157 = .ok (.getfield 17, 3) := by decide +kernel
theorem dX11_dropItem_160 : decode cX11_dropItem 160 = .ok (.iconst 5, 1) := by decide +kernel
theorem dX11_dropItem_161 : decode cX11_dropItem 161 = .ok (.iaload, 1) := by decide +kernel
theorem dX11_dropItem_162 : decode cX11_dropItem 162 = .ok (.iload_n 1, 1) := by decide +kernel
theorem dX11_dropItem_163 : decode cX11_dropItem 163 = .ok (.invokestatic 415, 3) := by decide +kernel
theorem dX11_dropItem_166 : decode cX11_dropItem 166 = .ok (.iastore, 1) := by decide +kernel
theorem dX11_dropItem_167 : decode cX11_dropItem 167 = .ok (.aload_n 0, 1) := by decide +kernel
theorem dX11_dropItem_168 : decode cX11_dropItem 168 = .ok (.invokevirtual 83, 3) := by decide +kernel
theorem dX11_dropItem_171 : decode cX11_dropItem 171 = .ok (.ireturn, 1) := by decide +kernel
theorem dX11_setItem_0 : decode cX11_setItem 0 = .ok (.aload_n 0, 1) := by decide +kernel
theorem dX11_setItem_1 : decode cX11_setItem 1 = .ok (.aload_n 0, 1) := by decide +kernel
theorem dX11_setItem_2 : decode cX11_setItem 2 = .ok (.iload_n 1, 1) := by decide +kernel
theorem dX11_setItem_3 : decode cX11_setItem 3 = .ok (.invokevirtual 359, 3) := by decide +kernel
theorem dX11_setItem_6 : decode cX11_setItem 6 = .ok (.iload_n 2, 1) := by decide +kernel
theorem dX11_setItem_7 : decode cX11_setItem 7 = .ok (.i2l, 1) := by decide +kernel
theorem dX11_setItem_8 : decode cX11_setItem 8 = .ok (.lconst 0, 1) := by decide +kernel
theorem dX11_setItem_9 : decode cX11_setItem 9 = .ok (.ldc2_w 367, 3) := by decide +kernel
theorem dX11_setItem_12 : decode cX11_setItem 12 = .ok (.invokestatic 87, 3) := by decide +kernel
theorem dX11_setItem_15 : decode cX11_setItem 15 = .ok (.ifCond .eq 19, 3) := by decide +kernel
theorem dX11_setItem_18 : decode cX11_setItem 18 = .ok (.iload_n 3, 1) := by decide +kernel
theorem dX11_setItem_19 : decode cX11_setItem 19 = .ok (.i2l, 1) := by decide +kernel
theorem dX11_setItem_20 : decode cX11_setItem 20 = .ok (.lconst 0, 1) := by decide +kernel
theorem dX11_setItem_21 : decode cX11_setItem 21 = .ok (.ldc2_w 230, 3) := by decide +kernel
theorem dX11_setItem_24 : decode cX11_setItem 24 = .ok (.invokestatic 87, 3) := by decide +kernel
theorem dX11_setItem_27 : decode cX11_setItem 27 = .ok (.ifCond .eq 7, 3) := by decide +kernel
theorem dX11_setItem_30 : decode cX11_setItem 30 = .ok (.iconst 1, 1) := by decide +kernel
theorem dX11_setItem_31 : decode cX11_setItem 31 = .ok (.goto 4, 3) := by decide +kernel
theorem dX11_setItem_34 : decode cX11_setItem 34 = .ok (.iconst 0, 1) := by decide +kernel
theorem dX11_setItem_35 : decode cX11_setItem 35 = .ok (.invokevirtual 7, 3) := by decide +kernel
theorem dX11_setItem_38 : decode cX11_setItem 38 = .ok (.ifCond .ne 5, 3) := by decide +kernel
theorem dX11_setItem_41 : decode cX11_setItem 41 = .ok (.iconst 0, 1) := by decide +kernel
theorem dX11_setItem_42 : decode cX11_setItem 42 = .ok (.ireturn, 1) := by decide +kernel
theorem dX11_setItem_43 : decode cX11_setItem 43 = .ok (.aload_n 0, 1) := by decide +kernel
theorem dX11_setItem_44 : decode cX11_setItem 44 = .ok (.invokevirtual 351, 3) := by decide +kernel
theorem dX11_setItem_47 : decode cX11_setItem 47 = .ok (.aload_n 0, 1) := by decide +kernel
theorem dX11_setItem_48 : decode cX11_setItem 48 = .ok (.iload_n 1, 1) := by decide +kernel
theorem dX11_setItem_49 : decode cX11_setItem 49 = .ok (.iload_n 2, 1) := by decide +kernel
theorem dX11_setItem_50 : decode cX11_setItem 50 = .ok (.invokevirtual 98, 3) := by decide +kernel
theorem dX11_setItem_53 : decode cX11_setItem 53 = .ok (.istore 4, 2) := by decide +kernel
theorem dX11_setItem_55 : decode cX11_setItem 55 = .ok (.aload_n 0, 1) := by decide +kernel
theorem dX11_setItem_56 : decode cX11_setItem 56 = .ok (.iload_n 1, 1) := by decide +kernel
theorem dX11_setItem_57 : decode cX11_setItem 57 = .ok (.iload_n 2, 1) := by decide +kernel
theorem dX11_setItem_58 : decode cX11_setItem 58 = .ok (.iload_n 3, 1) := by decide +kernel
theorem dX11_setItem_59 : decode cX11_setItem 59 = .ok (.invokevirtual 320, 3) := by decide +kernel
theorem dX11_setItem_62 : decode cX11_setItem 62 = .ok (.iload 4, 2) := by decide +kernel
theorem dX11_setItem_64 : decode cX11_setItem 64 = .ok (.ireturn, 1) := by decide +kernel
theorem dX11_set_0 : decode cX11_set 0 = .ok (.aload_n 0, 1) := by decide +kernel
theorem dX11_set_1 : decode cX11_set 1 = .ok (.invokevirtual 351, 3) := by decide +kernel
theorem dX11_set_4 : decode cX11_set 4 = .ok (.aload_n 0, 1) := by decide +kernel
theorem dX11_set_5 : decode cX11_set 5 = .ok (.getfield 17, 3) := by decide +kernel
theorem dX11_set_8 : decode cX11_set 8 = .ok (.iload_n 1, 1) := by decide +kernel
theorem dX11_set_9 : decode cX11_set 9 = .ok (.iaload, 1) := by decide +kernel
theorem dX11_set_10 : decode cX11_set 10 = .ok (.istore_n 3, 1) := by decide +kernel
theorem dX11_set_11 : decode cX11_set 11 = .ok (.aload_n 0, 1) := by decide +kernel
theorem dX11_set_12 : decode cX11_set 12 = .ok (.getfield 17, 3) := by decide +kernel
theorem dX11_set_15 : decode cX11_set 15 = .ok (.iload_n 1, 1) := by decide +kernel
theorem dX11_set_16 : decode cX11_set 16 = .ok (.iload_n 2, 1) := by decide +kernel
theorem dX11_set_17 : decode cX11_set 17 = .ok (.iastore, 1) := by decide +kernel
theorem dX11_set_18 : decode cX11_set 18 = .ok (.iload_n 3, 1) := by decide +kernel
theorem dX11_set_19 : decode cX11_set 19 = .ok (.ireturn, 1) := by decide +kernel
theorem dX11_setCapacity_0 : decode cX11_setCapacity 0 = .ok (.aload_n 0, 1) := by decide +kernel
theorem dX11_setCapacity_1 : decode cX11_setCapacity 1 = .ok (.iload_n 1, 1) := by decide +kernel
theorem dX11_setCapacity_2 : decode cX11_setCapacity 2 = .ok (.i2l, 1) := by decide +kernel
theorem dX11_setCapacity_3 : decode cX11_setCapacity 3 = .ok (.lconst 0, 1) := by decide +kernel
theorem dX11_setCapacity_4 : decode cX11_setCapacity 4 = .ok (.ldc2_w 404, 3) := by decide +kernel
theorem dX11_setCapacity_7 : decode cX11_setCapacity 7 = .ok (.invokestatic 87, 3) := by decide +kernel
theorem dX11_setCapacity_10 : decode cX11_setCapacity 10 = .ok (.invokevirtual 235, 3) := by decide +kernel
theorem dX11_setCapacity_13 : decode cX11_setCapacity 13 = .ok (.ifCond .eq 12, 3) := by decide +kernel
theorem dX11_setCapacity_16 : decode cX11_setCapacity 16 = .ok (.aload_n 0, 1) := by decide +kernel
theorem dX11_setCapacity_17 : decode cX11_setCapacity 17 = .ok (.iconst 1, 1) := by decide +kernel
theorem dX11_setCapacity_18 : decode cX11_setCapacity 18 = .ok (.iload_n 1, 1) := by decide +kernel
theorem dX11_setCapacity_19 : decode cX11_setCapacity 19 = .ok (.invokevirtual 418, 3) := by decide +kernel
theorem dX11_setCapacity_22 : decode cX11_setCapacity 22 = .ok (.goto 4, 3) := by decide +kernel
theorem dX11_setCapacity_25 : decode cX11_setCapacity 25 = .ok (.iconst 0, 1) := by decide +kernel
theorem dX11_setCapacity_26 : decode cX11_setCapacity 26 = .ok (.ireturn, 1) := by decide +kernel
theorem dX11_setLimit_0 : decode cX11_setLimit 0 = .ok (.aload_n 0, 1) := by decide +kernel
theorem dX11_setLimit_1 : decode cX11_setLimit 1 = .ok (.iload_n 1, 1) := by decide +kernel
theorem dX11_setLimit_2 : decode cX11_setLimit 2 = .ok (.i2l, 1) := by decide +kernel
theorem dX11_setLimit_3 : decode cX11_setLimit 3 = .ok (.lconst 0, 1) := by decide +kernel
theorem dX11_setLimit_4 : decode cX11_setLimit 4 = .ok (.ldc2_w 421, 3) := by decide +kernel
theorem dX11_setLimit_7 : decode cX11_setLimit 7 = .ok (.invokestatic 87, 3) := by decide +kernel
theorem dX11_setLimit_10 : decode cX11_setLimit 10 = .ok (.invokevirtual 235, 3) := by decide +kernel
theorem dX11_setLimit_13 : decode cX11_setLimit 13 = .ok (.ifCond .eq 12, 3) := by decide +kernel
theorem dX11_setLimit_16 : decode cX11_setLimit 16 = .ok (.aload_n 0, 1) := by decide +kernel
theorem dX11_setLimit_17 : decode cX11_setLimit 17 = .ok (.iconst 2, 1) := by decide +kernel
theorem dX11_setLimit_18 : decode cX11_setLimit 18 = .ok (.iload_n 1, 1) := by decide +kernel
theorem dX11_setLimit_19 : decode cX11_setLimit 19 = .ok (.invokevirtual 418, 3) := by decide +kernel
theorem dX11_setLimit_22 : decode cX11_setLimit 22 = .ok (.goto 4, 3) := by decide +kernel
theorem dX11_setLimit_25 : decode cX11_setLimit 25 = .ok (.iconst 0, 1) := by decide +kernel
theorem dX11_setLimit_26 : decode cX11_setLimit 26 = .ok (.ireturn, 1) := by decide +kernel
theorem dX11_turned_0 : decode cX11_turned 0 = .ok (.iload_n 2, 1) := by decide +kernel
theorem dX11_turned_1 : decode cX11_turned 1 = .ok (.ifCond .eq 11, 3) := by decide +kernel
theorem dX11_turned_4 : decode cX11_turned 4 = .ok (.iload_n 0, 1) := by decide +kernel
theorem dX11_turned_5 : decode cX11_turned 5 = .ok (.iconst 1, 1) := by decide +kernel
theorem dX11_turned_6 : decode cX11_turned 6 = .ok (.iload_n 1, 1) := by decide +kernel
theorem dX11_turned_7 : decode cX11_turned 7 = .ok (.ishl, 1) := by decide +kernel
theorem dX11_turned_8 : decode cX11_turned 8 = .ok (.ior, 1) := by decide +kernel
theorem dX11_turned_9 : decode cX11_turned 9 = .ok (.goto 10, 3) := by decide +kernel
theorem dX11_turned_12 : decode cX11_turned 12 = .ok (.iload_n 0, 1) := by decide +kernel
theorem dX11_turned_13 : decode cX11_turned 13 = .ok (.iconst 1, 1) := by decide +kernel
theorem dX11_turned_14 : decode cX11_turned 14 = .ok (.iload_n 1, 1) := by decide +kernel
theorem dX11_turned_15 : decode cX11_turned 15 = .ok (.ishl, 1) := by decide +kernel
theorem dX11_turned_16 : decode cX11_turned 16 = .ok (.iconst (-1), 1) := by decide +kernel
theorem dX11_turned_17 : decode cX11_turned 17 = .ok (.ixor, 1) := by decide +kernel
theorem dX11_turned_18 : decode cX11_turned 18 = .ok (.iand, 1) := by decide +kernel
theorem dX11_turned_19 : decode cX11_turned 19 = .ok (.ireturn, 1) := by decide +kernel
theorem dX11_arePair_0 : decode cX11_arePair 0 = .ok (.aload_n 0, 1) := by decide +kernel
theorem dX11_arePair_1 : decode cX11_arePair 1 = .ok (.aload_n 0, 1) := by decide +kernel
theorem dX11_arePair_2 : decode cX11_arePair 2 = .ok (.iload_n 1, 1) := by decide +kernel
theorem dX11_arePair_3 : decode cX11_arePair 3 = .ok (.invokevirtual 359, 3) := by decide +kernel
theorem dX11_arePair_6 : decode cX11_arePair 6 = .ok (.ifCond .eq 15, 3) := by decide +kernel
theorem dX11_arePair_9 : decode cX11_arePair 9 = .ok (.aload_n 0, 1) := by decide +kernel
theorem dX11_arePair_10 : decode cX11_arePair 10 = .ok (.iload_n 2, 1) := by decide +kernel
theorem dX11_arePair_11 : decode cX11_arePair 11 = .ok (.invokevirtual 359, 3) := by decide +kernel
theorem dX11_arePair_14 : decode cX11_arePair 14 = .ok (.ifCond .eq 7, 3) := by decide +kernel
theorem dX11_arePair_17 : decode cX11_arePair 17 = .ok (.iconst 1, 1) := by decide +kernel
theorem dX11_arePair_18 : decode cX11_arePair 18 = .ok (.goto 4, 3) := by decide +kernel
theorem dX11_arePair_21 : decode cX11_arePair 21 = .ok (.iconst 0, 1) := by decide +kernel
theorem dX11_arePair_22 : decode cX11_arePair 22 = .ok (.iload_n 1, 1) := by decide +kernel
theorem dX11_arePair_23 : decode cX11_arePair 23 = .ok (.iload_n 2, 1) := by decide +kernel
theorem dX11_arePair_24 : decode cX11_arePair 24 = .ok (.if_icmp .eq 7, 3) := by decide +kernel
theorem dX11_arePair_27 : decode cX11_arePair 27 = .ok (.iconst 1, 1) := by decide +kernel
theorem dX11_arePair_28 : decode cX11_arePair 28 = .ok (.goto 4, 3) := by decide +kernel
theorem dX11_arePair_31 : decode cX11_arePair 31 = .ok (.iconst 0, 1) := by decide +kernel
theorem dX11_arePair_32 : decode cX11_arePair 32 = .ok (.invokevirtual 7, 3) := by decide +kernel
theorem dX11_arePair_35 : decode cX11_arePair 35 = .ok (.ireturn, 1) := by decide +kernel
theorem dX11_bar_0 : decode cX11_bar 0 = .ok (.aload_n 0, 1) := by decide +kernel
theorem dX11_bar_1 : decode cX11_bar 1 = .ok (.iload_n 1, 1) := by decide +kernel
theorem dX11_bar_2 : decode cX11_bar 2 = .ok (.iload_n 2, 1) := by decide +kernel
theorem dX11_bar_3 : decode cX11_bar 3 = .ok (.invokevirtual 423, 3) := by decide +kernel
theorem dX11_bar_6 : decode cX11_bar 6 = .ok (.ifCond .ne 5, 3) := by decide +kernel
theorem dX11_bar_9 : decode cX11_bar 9 = .ok (.iconst 0, 1) := by decide +kernel
theorem dX11_bar_10 : decode cX11_bar 10 = .ok (.ireturn, 1) := by decide +kernel
theorem dX11_bar_11 : decode cX11_bar 11 = .ok (.aload_n 0, 1) := by decide +kernel
theorem dX11_bar_12 : decode cX11_bar 12 = .ok (.invokevirtual 351, 3) := by decide +kernel
theorem dX11_bar_15 : decode cX11_bar 15 = .ok (.aload_n 0, 1) := by decide +kernel
theorem dX11_bar_16 : decode cX11_bar 16 = .ok (.iload_n 1, 1) := by decide +kernel
theorem dX11_bar_17 : decode cX11_bar 17 = .ok (.iconst 3, 1) := by decide +kernel
theorem dX11_bar_18 : decode cX11_bar 18 = .ok (.invokevirtual 98, 3) := by decide +kernel
theorem dX11_bar_21 : decode cX11_bar 21 = .ok (.iload_n 2, 1) := by decide +kernel
theorem dX11_bar_22 : decode cX11_bar 22 = .ok (.invokestatic 94, 3) := by decide +kernel
theorem dX11_bar_25 : decode cX11_bar 25 = .ok (.istore 4, 2) := by decide +kernel
theorem dX11_bar_27 : decode cX11_bar 27 = .ok (.aload_n 0, 1) := by decide +kernel
theorem dX11_bar_28 : decode cX11_bar 28 = .ok (.iload_n 1, 1) := by decide +kernel
theorem dX11_bar_29 : decode cX11_bar 29 = .ok (.iconst 3, 1) := by decide +kernel
theorem dX11_bar_30 : decode cX11_bar 30 = .ok (.aload_n 0, 1) := by decide +kernel
theorem dX11_bar_31 : decode cX11_bar 31 = .ok (.iload_n 1, 1) := by decide +kernel
theorem dX11_bar_32 : decode cX11_bar 32 = .ok (.iconst 3, 1) := by decide +kernel
theorem dX11_bar_33 : decode cX11_bar 33 = .ok (.invokevirtual 98, 3) := by decide +kernel
theorem dX11_bar_36 : decode cX11_bar 36 = .ok (.iload_n 2, 1) := by decide +kernel
theorem dX11_bar_37 : decode cX11_bar 37 = .ok (.iload_n 3, 1) := by decide +kernel
theorem dX11_bar_38 : decode cX11_bar 38 = .ok (.invokestatic 426, 3) := by decide +kernel
theorem dX11_bar_41 : decode cX11_bar 41 = .ok (.invokevirtual 320, 3) := by decide +kernel
theorem dX11_bar_44 : decode cX11_bar 44 = .ok (.aload_n 0, 1) := by decide +kernel
theorem dX11_bar_45 : decode cX11_bar 45 = .ok (.iload_n 2, 1) := by decide +kernel
theorem dX11_bar_46 : decode cX11_bar 46 = .ok (.iconst 3, 1) := by decide +kernel
theorem dX11_bar_47 : decode cX11_bar 47 = .ok (.aload_n 0, 1) := by decide +kernel
theorem dX11_bar_48 : decode cX11_bar 48 = .ok (.iload_n 2, 1) := by decide +kernel
theorem dX11_bar_49 : decode cX11_bar 49 = .ok (.iconst 3, 1) := by decide +kernel
theorem dX11_bar_50 : decode cX11_bar 50 = .ok (.invokevirtual 98, 3) := by decide +kernel
theorem dX11_bar_53 : decode cX11_bar 53 = .ok (.iload_n 1, 1) := by decide +kernel
theorem dX11_bar_54 : decode cX11_bar 54 = .ok (.iload_n 3, 1) := by decide +kernel
theorem dX11_bar_55 : decode cX11_bar 55 = .ok (.invokestatic 426, 3) := by decide +kernel
theorem dX11_bar_58 : decode cX11_bar 58 = .ok (.invokevirtual 320, 3) := by decide +kernel
theorem dX11_bar_61 : decode cX11_bar 61 = .ok (.iload 4, 2) := by decide +kernel
theorem dX11_bar_63 : decode cX11_bar 63 = .ok (.ireturn, 1) := by decide +kernel
theorem dX11_need_0 : decode cX11_need 0 = .ok (.aload_n 0, 1) := by decide +kernel
theorem dX11_need_1 : decode cX11_need 1 = .ok (.iload_n 1, 1) := by decide +kernel
theorem dX11_need_2 : decode cX11_need 2 = .ok (.iload_n 2, 1) := by decide +kernel
theorem dX11_need_3 : decode cX11_need 3 = .ok (.invokevirtual 423, 3) := by decide +kernel
theorem dX11_need_6 : decode cX11_need 6 = .ok (.ifCond .ne 5, 3) := by decide +kernel
theorem dX11_need_9 : decode cX11_need 9 = .ok (.iconst 0, 1) := by decide +kernel
theorem dX11_need_10 : decode cX11_need 10 = .ok (.ireturn, 1) := by decide +kernel
theorem dX11_need_11 : decode cX11_need 11 = .ok (.aload_n 0, 1) := by decide +kernel
theorem dX11_need_12 : decode cX11_need 12 = .ok (.invokevirtual 351, 3) := by decide +kernel
theorem dX11_need_15 : decode cX11_need 15 = .ok (.aload_n 0, 1) := by decide +kernel
theorem dX11_need_16 : decode cX11_need 16 = .ok (.iload_n 1, 1) := by decide +kernel
theorem dX11_need_17 : decode cX11_need 17 = .ok (.iconst 4, 1) := by decide +kernel
theorem dX11_need_18 : decode cX11_need 18 = .ok (.invokevirtual 98, 3) := by decide +kernel
theorem dX11_need_21 : decode cX11_need 21 = .ok (.iload_n 2, 1) := by decide +kernel
theorem dX11_need_22 : decode cX11_need 22 = .ok (.invokestatic 94, 3) := by decide +kernel
theorem dX11_need_25 : decode cX11_need 25 = .ok (.istore 4, 2) := by decide +kernel
theorem dX11_need_27 : decode cX11_need 27 = .ok (.aload_n 0, 1) := by decide +kernel
theorem dX11_need_28 : decode cX11_need 28 = .ok (.iload_n 1, 1) := by decide +kernel
theorem dX11_need_29 : decode cX11_need 29 = .ok (.iconst 4, 1) := by decide +kernel
theorem dX11_need_30 : decode cX11_need 30 = .ok (.aload_n 0, 1) := by decide +kernel
theorem dX11_need_31 : decode cX11_need 31 = .ok (.iload_n 1, 1) := by decide +kernel
theorem dX11_need_32 : decode cX11_need 32 = .ok (.iconst 4, 1) := by decide +kernel
theorem dX11_need_33 : decode cX11_need 33 = .ok (.invokevirtual 98, 3) := by decide +kernel
theorem dX11_need_36 : decode cX11_need 36 = .ok (.iload_n 2, 1) := by decide +kernel
theorem dX11_need_37 : decode cX11_need 37 = .ok (.iload_n 3, 1) := by decide +kernel
theorem dX11_need_38 : decode cX11_need 38 = .ok (.invokestatic 426, 3) := by decide +kernel
theorem dX11_need_41 : decode cX11_need 41 = .ok (.invokevirtual 320, 3) := by decide +kernel
theorem dX11_need_44 : decode cX11_need 44 = .ok (.iload 4, 2) := by decide +kernel
theorem dX11_need_46 : decode cX11_need 46 = .ok (.ireturn, 1) := by decide +kernel
theorem dX11_must_0 : decode cX11_must 0 = .ok (.aload_n 0, 1) := by decide +kernel
theorem dX11_must_1 : decode cX11_must 1 = .ok (.aload_n 0, 1) := by decide +kernel
theorem dX11_must_2 : decode cX11_must 2 = .ok (.iload_n 1, 1) := by decide +kernel
theorem dX11_must_3 : decode cX11_must 3 = .ok (.invokevirtual 359, 3) := by decide +kernel
theorem dX11_must_6 : decode cX11_must 6 = .ok (.invokevirtual 235, 3) := by decide +kernel
theorem dX11_must_9 : decode cX11_must 9 = .ok (.ifCond .eq 30, 3) := by decide +kernel
theorem dX11_must_12 : decode cX11_must 12 = .ok (.aload_n 0, 1) := by decide +kernel
theorem dX11_must_13 : decode cX11_must 13 = .ok (.iconst 3, 1) := by decide +kernel
theorem dX11_must_14 : decode cX11_must 14 = .ok (.aload_n 0, 1) := by decide +kernel
theorem dX11_must_15 : decode cX11_must 15 = .ok (.getfield 17, 3) := by decide +kernel
theorem dX11_must_18 : decode cX11_must 18 = .ok (.iconst 3, 1) := by decide +kernel
theorem dX11_must_19 : decode cX11_must 19 = .ok (.iaload, 1) := by decide +kernel
theorem dX11_must_20 : decode cX11_must 20 = .ok (.iload_n 1, 1) := by decide +kernel
theorem dX11_must_21 : decode cX11_must 21 = .ok (.iload_n 2, 1) := by decide +kernel
theorem dX11_must_22 : decode cX11_must 22 = .ok (.invokestatic 426, 3) := by decide +kernel
theorem dX11_must_25 : decode cX11_must 25 = .ok (.invokevirtual 418, 3) := by decide +kernel
theorem dX11_must_28 : decode cX11_must 28 = .ok (.iload_n 1, 1) := by decide +kernel
theorem dX11_must_29 : decode cX11_must 29 = .ok (.invokestatic 94, 3) := by decide +kernel
theorem dX11_must_32 : decode cX11_must 32 = .ok (.ifCond .eq 7, 3) := by decide +kernel
theorem dX11_must_35 : decode cX11_must 35 = .ok (.iconst 1, 1) := by decide +kernel
theorem dX11_must_36 : decode cX11_must 36 = .ok (.goto 4, 3) := by decide +kernel
theorem dX11_must_39 : decode cX11_must 39 = .ok (.iconst 0, 1) := by decide +kernel
theorem dX11_must_40 : decode cX11_must 40 = .ok (.ireturn, 1) := by decide +kernel
theorem dX11_never_0 : decode cX11_never 0 = .ok (.aload_n 0, 1) := by decide +kernel
theorem dX11_never_1 : decode cX11_never 1 = .ok (.aload_n 0, 1) := by decide +kernel
theorem dX11_never_2 : decode cX11_never 2 = .ok (.iload_n 1, 1) := by decide +kernel
theorem dX11_never_3 : decode cX11_never 3 = .ok (.invokevirtual 359, 3) := by decide +kernel
theorem dX11_never_6 : decode cX11_never 6 = .ok (.invokevirtual 235, 3) := by decide +kernel
theorem dX11_never_9 : decode cX11_never 9 = .ok (.ifCond .eq 30, 3) := by decide +kernel
theorem dX11_never_12 : decode cX11_never 12 = .ok (.aload_n 0, 1) := by decide +kernel
theorem dX11_never_13 : decode cX11_never 13 = .ok (.iconst 4, 1) := by decide +kernel
theorem dX11_never_14 : decode cX11_never 14 = .ok (.aload_n 0, 1) := by decide +kernel
theorem dX11_never_15 : decode cX11_never 15 = .ok (.getfield 17, 3) := by decide +kernel
theorem dX11_never_18 : decode cX11_never 18 = .ok (.iconst 4, 1) := by decide +kernel
theorem dX11_never_19 : decode cX11_never 19 = .ok (.iaload, 1) := by decide +kernel
theorem dX11_never_20 : decode cX11_never 20 = .ok (.iload_n 1, 1) := by decide +kernel
theorem dX11_never_21 : decode cX11_never 21 = .ok (.iload_n 2, 1) := by decide +kernel
theorem dX11_never_22 : decode cX11_never 22 = .ok (.invokestatic 426, 3) := by decide +kernel
theorem dX11_never_25 : decode cX11_never 25 = .ok (.invokevirtual 418, 3) := by decide +kernel
theorem dX11_never_28 : decode cX11_never 28 = .ok (.iload_n 1, 1) := by decide +kernel
theorem dX11_never_29 : decode cX11_never 29 = .ok (.invokestatic 94, 3) := by decide +kernel
theorem dX11_never_32 : decode cX11_never 32 = .ok (.ifCond .eq 7, 3) := by decide +kernel
theorem dX11_never_35 : decode cX11_never 35 = .ok (.iconst 1, 1) := by decide +kernel
theorem dX11_never_36 : decode cX11_never 36 = .ok (.goto 4, 3) := by decide +kernel
theorem dX11_never_39 : decode cX11_never 39 = .ok (.iconst 0, 1) := by decide +kernel
theorem dX11_never_40 : decode cX11_never 40 = .ok (.ireturn, 1) := by decide +kernel
theorem dX11_choose_0 : decode cX11_choose 0 = .ok (.aload_n 0, 1) := by decide +kernel
theorem dX11_choose_1 : decode cX11_choose 1 = .ok (.iload_n 1, 1) := by decide +kernel
theorem dX11_choose_2 : decode cX11_choose 2 = .ok (.invokevirtual 364, 3) := by decide +kernel
theorem dX11_choose_5 : decode cX11_choose 5 = .ok (.istore_n 2, 1) := by decide +kernel
theorem dX11_choose_6 : decode cX11_choose 6 = .ok (.aload_n 0, 1) := by decide +kernel
theorem dX11_choose_7 : decode cX11_choose 7 = .ok (.iload_n 2, 1) := by decide +kernel
theorem dX11_choose_8 : decode cX11_choose 8 = .ok (.iload_n 2, 1) := by decide +kernel
theorem dX11_choose_9 : decode cX11_choose 9 = .ok (.ifCond .eq 15, 3) := by decide +kernel
theorem dX11_choose_12 : decode cX11_choose 12 = .ok (.aload_n 0, 1) := by decide +kernel
theorem dX11_choose_13 : decode cX11_choose 13 = .ok (.iload_n 1, 1) := by decide +kernel
theorem dX11_choose_14 : decode cX11_choose 14 = .ok (.invokevirtual 122, 3) := by decide +kernel
theorem dX11_choose_17 : decode cX11_choose 17 = .ok (.ifCond .eq 7, 3) := by decide +kernel
theorem dX11_choose_20 : decode cX11_choose 20 = .ok (.iconst 1, 1) := by decide +kernel
theorem dX11_choose_21 : decode cX11_choose 21 = .ok (.goto 4, 3) := by decide +kernel
theorem dX11_choose_24 : decode cX11_choose 24 = .ok (.iconst 0, 1) := by decide +kernel
theorem dX11_choose_25 : decode cX11_choose 25 = .ok (.invokevirtual 7, 3) := by decide +kernel
theorem dX11_choose_28 : decode cX11_choose 28 = .ok (.ifCond .eq 12, 3) := by decide +kernel
theorem dX11_choose_31 : decode cX11_choose 31 = .ok (.aload_n 0, 1) := by decide +kernel
theorem dX11_choose_32 : decode cX11_choose 32 = .ok (.iconst 5, 1) := by decide +kernel
theorem dX11_choose_33 : decode cX11_choose 33 = .ok (.iload_n 1, 1) := by decide +kernel
theorem dX11_choose_34 : decode cX11_choose 34 = .ok (.invokevirtual 418, 3) := by decide +kernel
theorem dX11_choose_37 : decode cX11_choose 37 = .ok (.goto 4, 3) := by decide +kernel
theorem dX11_choose_40 : decode cX11_choose 40 = .ok (.iconst 0, 1) := by decide +kernel
theorem dX11_choose_41 : decode cX11_choose 41 = .ok (.ireturn, 1) := by decide +kernel
theorem dX11_chooseBest_0 : decode cX11_chooseBest 0 = .ok (.aload_n 0, 1) := by decide +kernel
theorem dX11_chooseBest_1 : decode cX11_chooseBest 1 = .ok (.invokevirtual 174, 3) := by decide +kernel
theorem dX11_chooseBest_4 : decode cX11_chooseBest 4 = .ok (.aload_n 0, 1) := by decide +kernel
theorem dX11_chooseBest_5 : decode cX11_chooseBest 5 = .ok (.iload_n 1, 1) := by decide +kernel
theorem dX11_chooseBest_6 : decode cX11_chooseBest 6 = .ok (.iload_n 2, 1) := by decide +kernel
theorem dX11_chooseBest_7 : decode cX11_chooseBest 7 = .ok (.invokestatic 383, 3) := by decide +kernel
theorem dX11_chooseBest_10 : decode cX11_chooseBest 10 = .ok (.aload_n 0, 1) := by decide +kernel
theorem dX11_chooseBest_11 : decode cX11_chooseBest 11 = .ok (.getfield 130, 3) := by decide +kernel
theorem dX11_chooseBest_14 : decode cX11_chooseBest 14 = .ok (.ifCond .le 7, 3) := by decide +kernel
theorem dX11_chooseBest_17 : decode cX11_chooseBest 17 = .ok (.iconst 1, 1) := by decide +kernel
theorem dX11_chooseBest_18 : decode cX11_chooseBest 18 = .ok (.goto 4, 3) := by decide +kernel
theorem dX11_chooseBest_21 : decode cX11_chooseBest 21 = .ok (.iconst 0, 1) := by decide +kernel
theorem dX11_chooseBest_22 : decode cX11_chooseBest 22 = .ok (.invokevirtual 7, 3) := by decide +kernel
theorem dX11_chooseBest_25 : decode cX11_chooseBest 25 = .ok (.ifCond .ne 5, 3) := by decide +kernel
theorem dX11_chooseBest_28 : decode cX11_chooseBest 28 = .ok (.iconst 0, 1) := by decide +kernel
theorem dX11_chooseBest_29 : decode cX11_chooseBest 29 = .ok (.ireturn, 1) := by decide +kernel
theorem dX11_chooseBest_30 : decode cX11_chooseBest 30 = .ok (.aload_n 0, 1) := by decide +kernel
theorem dX11_chooseBest_31 : decode cX11_chooseBest 31 = .ok (.invokevirtual 351, 3) := by decide +kernel
theorem dX11_chooseBest_34 : decode cX11_chooseBest 34 = .ok (.aload_n 0, 1) := by decide +kernel
theorem dX11_chooseBest_35 : decode cX11_chooseBest 35 = .ok (.getfield 17, 3) := by decide +kernel
theorem dX11_chooseBest_38 : decode cX11_chooseBest 38 = .ok (.iconst 5, 1) := by decide +kernel
theorem dX11_chooseBest_39 : decode cX11_chooseBest 39 = .ok (.aload_n 0, 1) := by decide +kernel
theorem dX11_chooseBest_40 : decode cX11_chooseBest 40 = .ok (.getfield 36, 3) := by decide +kernel
theorem dX11_chooseBest_43 : decode cX11_chooseBest 43 = .ok (.aload_n 0, 1) := by decide +kernel
theorem dX11_chooseBest_44 : decode cX11_chooseBest 44 = .ok (.iload_n 1, 1) := by decide +kernel
theorem dX11_chooseBest_45 : decode cX11_chooseBest 45 = .ok (.iload_n 2, 1) := by decide +kernel
theorem dX11_chooseBest_46 : decode cX11_chooseBest 46 = .ok (.invokevirtual 195, 3) := by decide +kernel
theorem dX11_chooseBest_49 : decode cX11_chooseBest 49 = .ok (.iaload, 1) := by decide +kernel
theorem dX11_chooseBest_50 : decode cX11_chooseBest 50 = .ok (.iastore, 1) := by decide +kernel
theorem dX11_chooseBest_51 : decode cX11_chooseBest 51 = .ok (.aload_n 0, 1) := by decide +kernel
theorem dX11_chooseBest_52 : decode cX11_chooseBest 52 = .ok (.getfield 17, 3) := by decide +kernel
theorem dX11_chooseBest_55 : decode cX11_chooseBest 55 = .ok (.iconst 5, 1) := by decide +kernel
theorem dX11_chooseBest_56 : decode cX11_chooseBest 56 = .ok (.iaload, 1) := by decide +kernel
theorem dX11_chooseBest_57 : decode cX11_chooseBest 57 = .ok (.ireturn, 1) := by decide +kernel
theorem dX11_improve_0 : decode cX11_improve 0 = .ok (.aload_n 0, 1) := by decide +kernel
theorem dX11_improve_1 : decode cX11_improve 1 = .ok (.iload_n 1, 1) := by decide +kernel
theorem dX11_improve_2 : decode cX11_improve 2 = .ok (.iload_n 2, 1) := by decide +kernel
theorem dX11_improve_3 : decode cX11_improve 3 = .ok (.invokestatic 383, 3) := by decide +kernel
theorem dX11_improve_6 : decode cX11_improve 6 = .ok (.invokevirtual 235, 3) := by decide +kernel
theorem dX11_improve_9 : decode cX11_improve 9 = .ok (.ifCond .ne 5, 3) := by decide +kernel
theorem dX11_improve_12 : decode cX11_improve 12 = .ok (.iconst 0, 1) := by decide +kernel
theorem dX11_improve_13 : decode cX11_improve 13 = .ok (.ireturn, 1) := by decide +kernel
theorem dX11_improve_14 : decode cX11_improve 14 = .ok (.aload_n 0, 1) := by decide +kernel
theorem dX11_improve_15 : decode cX11_improve 15 = .ok (.iload_n 1, 1) := by decide +kernel
theorem dX11_improve_16 : decode cX11_improve 16 = .ok (.iload_n 2, 1) := by decide +kernel
theorem dX11_improve_17 : decode cX11_improve 17 = .ok (.invokevirtual 412, 3) := by decide +kernel
theorem dX11_improve_20 : decode cX11_improve 20 = .ok (.istore_n 3, 1) := by decide +kernel
theorem dX11_improve_21 : decode cX11_improve 21 = .ok (.aload_n 0, 1) := by decide +kernel
theorem dX11_improve_22 : decode cX11_improve 22 = .ok (.invokevirtual 351, 3) := by decide +kernel
theorem dX11_improve_25 : decode cX11_improve 25 = .ok (.aload_n 0, 1) := by decide +kernel
theorem dX11_improve_26 : decode cX11_improve 26 = .ok (.getfield 17, 3) := by decide +kernel
theorem dX11_improve_29 : decode cX11_improve 29 = .ok (.iconst 5, 1) := by decide +kernel
theorem dX11_improve_30 : decode cX11_improve 30 = .ok (.iload_n 3, 1) := by decide +kernel
theorem dX11_improve_31 : decode cX11_improve 31 = .ok (.iastore, 1) := by decide +kernel
theorem dX11_improve_32 : decode cX11_improve 32 = .ok (.aload_n 0, 1) := by decide +kernel
theorem dX11_improve_33 : decode cX11_improve 33 = .ok (.getfield 224, 3) := by decide +kernel
theorem dX11_improve_36 : decode cX11_improve 36 = .ok (.ireturn, 1) := by decide +kernel
theorem dX11_becomes_0 : decode cX11_becomes 0 = .ok (.aload_n 0, 1) := by decide +kernel
theorem dX11_becomes_1 : decode cX11_becomes 1 = .ok (.invokevirtual 351, 3) := by decide +kernel
theorem dX11_becomes_4 : decode cX11_becomes 4 = .ok (.aload_n 0, 1) := by decide +kernel
theorem dX11_becomes_5 : decode cX11_becomes 5 = .ok (.getfield 17, 3) := by decide +kernel
theorem dX11_becomes_8 : decode cX11_becomes 8 = .ok (.iconst 5, 1) := by decide +kernel
theorem dX11_becomes_9 : decode cX11_becomes 9 = .ok (.iload_n 1, 1) := by decide +kernel
theorem dX11_becomes_10 : decode cX11_becomes 10 = .ok (.iastore, 1) := by decide +kernel
theorem dX11_becomes_11 : decode cX11_becomes 11 = .ok (.aload_n 0, 1) := by decide +kernel
theorem dX11_becomes_12 : decode cX11_becomes 12 = .ok (.iload_n 1, 1) := by decide +kernel
theorem dX11_becomes_13 : decode cX11_becomes 13 = .ok (.iconst 0, 1) := by decide +kernel
theorem dX11_becomes_14 : decode cX11_becomes 14 = .ok (.invokevirtual 102, 3) := by decide +kernel
theorem dX11_becomes_17 : decode cX11_becomes 17 = .ok (.ireturn, 1) := by decide +kernel
theorem dX11_take_0 : decode cX11_take 0 = .ok (.aload_n 0, 1) := by decide +kernel
theorem dX11_take_1 : decode cX11_take 1 = .ok (.iload_n 1, 1) := by decide +kernel
theorem dX11_take_2 : decode cX11_take 2 = .ok (.invokevirtual 359, 3) := by decide +kernel
theorem dX11_take_5 : decode cX11_take 5 = .ok (.istore_n 2, 1) := by decide +kernel
theorem dX11_take_6 : decode cX11_take 6 = .ok (.iload_n 2, 1) := by decide +kernel
theorem dX11_take_7 : decode cX11_take 7 = .ok (.ifCond .eq 16, 3) := by decide +kernel
theorem dX11_take_10 : decode cX11_take 10 = .ok (.aload_n 0, 1) := by decide +kernel
theorem dX11_take_11 : decode cX11_take 11 = .ok (.getfield 17, 3) := by decide +kernel
theorem dX11_take_14 : decode cX11_take 14 = .ok (.iconst 5, 1) := by decide +kernel
theorem dX11_take_15 : decode cX11_take 15 = .ok (.iaload, 1) := by decide +kernel
theorem dX11_take_16 : decode cX11_take 16 = .ok (.iconst 1, 1) := by decide +kernel
theorem dX11_take_17 : decode cX11_take 17 = .ok (.iload_n 1, 1) := by decide +kernel
theorem dX11_take_18 : decode cX11_take 18 = .ok (.ishl, 1) := by decide +kernel
theorem dX11_take_19 : decode cX11_take 19 = .ok (.ior, 1) := by decide +kernel
theorem dX11_take_20 : decode cX11_take 20 = .ok (.goto 4, 3) := by decide +kernel
theorem dX11_take_23 : decode cX11_take 23 = .ok (.iconst 0, 1) := by decide +kernel
theorem dX11_take_24 : decode cX11_take 24 = .ok (.istore_n 3, 1) := by decide +kernel
theorem dX11_take_25 : decode cX11_take 25 = .ok (.aload_n 0, 1) := by decide +kernel
theorem dX11_take_26 : decode cX11_take 26 = .ok (.iload_n 2, 1) := by decide +kernel
theorem dX11_take_27 : decode cX11_take 27 = .ok (.iload_n 2, 1) := by decide +kernel
theorem dX11_take_28 : decode cX11_take 28 = .ok (.ifCond .eq 25, 3) := by decide +kernel
theorem dX11_take_31 : decode cX11_take 31 = .ok (.iload_n 3, 1) := by decide +kernel
theorem dX11_take_32 : decode cX11_take 32 = .ok (.aload_n 0, 1) := by decide +kernel
theorem dX11_take_33 : decode cX11_take 33 = .ok (.getfield 17, 3) := by decide +kernel
theorem dX11_take_36 : decode cX11_take 36 = .ok (.iconst 5, 1) := by decide +kernel
theorem dX11_take_37 : decode cX11_take 37 = .ok (.iaload, 1) := by decide +kernel
theorem dX11_take_38 : decode cX11_take 38 = .ok (.if_icmp .eq 15, 3) := by decide +kernel
theorem dX11_take_41 : decode cX11_take 41 = .ok (.aload_n 0, 1) := by decide +kernel
theorem dX11_take_42 : decode cX11_take 42 = .ok (.iload_n 3, 1) := by decide +kernel
theorem dX11_take_43 : decode cX11_take 43 = .ok (.invokevirtual 122, 3) := by decide +kernel
theorem dX11_take_46 : decode cX11_take 46 = .ok (.ifCond .eq 7, 3) := by decide +kernel
theorem dX11_take_49 : decode cX11_take 49 = .ok (.iconst 1, 1) := by decide +kernel
theorem dX11_take_50 : decode cX11_take 50 = .ok (.goto 4, 3) := by decide +kernel
theorem dX11_take_53 : decode cX11_take 53 = .ok (.iconst 0, 1) := by decide +kernel
theorem dX11_take_54 : decode cX11_take 54 = .ok (.invokevirtual 7, 3) := by decide +kernel
theorem dX11_take_57 : decode cX11_take 57 = .ok (.ifCond .eq 11, 3) := by decide +kernel
theorem dX11_take_60 : decode cX11_take 60 = .ok (.aload_n 0, 1) := by decide +kernel
theorem dX11_take_61 : decode cX11_take 61 = .ok (.iload_n 3, 1) := by decide +kernel
theorem dX11_take_62 : decode cX11_take 62 = .ok (.invokevirtual 430, 3) := by decide +kernel
theorem dX11_take_65 : decode cX11_take 65 = .ok (.goto 4, 3) := by decide +kernel
theorem dX11_take_68 : decode cX11_take 68 = .ok (.iconst 0, 1) := by decide +kernel
theorem dX11_take_69 : decode cX11_take 69 = .ok (.ireturn, 1) := by decide +kernel
theorem dX11_leave_0 : decode cX11_leave 0 = .ok (.aload_n 0, 1) := by decide +kernel
theorem dX11_leave_1 : decode cX11_leave 1 = .ok (.iload_n 1, 1) := by decide +kernel
theorem dX11_leave_2 : decode cX11_leave 2 = .ok (.invokevirtual 359, 3) := by decide +kernel
theorem dX11_leave_5 : decode cX11_leave 5 = .ok (.istore_n 2, 1) := by decide +kernel
theorem dX11_leave_6 : decode cX11_leave 6 = .ok (.iload_n 2, 1) := by decide +kernel
theorem dX11_leave_7 : decode cX11_leave 7 = .ok (.ifCond .eq 18, 3) := by decide +kernel
theorem dX11_leave_10 : decode cX11_leave 10 = .ok (.aload_n 0, 1) := by decide +kernel
theorem dX11_leave_11 : decode cX11_leave 11 = .ok (.getfield 17, 3) := by decide +kernel
theorem dX11_leave_14 : decode cX11_leave 14 = .ok (.iconst 5, 1) := by decide +kernel
theorem dX11_leave_15 : decode cX11_leave 15 = .ok (.iaload, 1) := by decide +kernel
theorem dX11_leave_16 : decode cX11_leave 16 = .ok (.iconst 1, 1) := by decide +kernel
theorem dX11_leave_17 : decode cX11_leave 17 = .ok (.iload_n 1, 1) := by decide +kernel
theorem dX11_leave_18 : decode cX11_leave 18 = .ok (.ishl, 1) := by decide +kernel
theorem dX11_leave_19 : decode cX11_leave 19 = .ok (.iconst (-1), 1) := by decide +kernel
theorem dX11_leave_20 : decode cX11_leave 20 = .ok (.ixor, 1) := by decide +kernel
theorem dX11_leave_21 : decode cX11_leave 21 = .ok (.iand, 1) := by decide +kernel
theorem dX11_leave_22 : decode cX11_leave 22 = .ok (.goto 4, 3) := by decide +kernel
theorem dX11_leave_25 : decode cX11_leave 25 = .ok (.iconst 0, 1) := by decide +kernel
theorem dX11_leave_26 : decode cX11_leave 26 = .ok (.istore_n 3, 1) := by decide +kernel
theorem dX11_leave_27 : decode cX11_leave 27 = .ok (.aload_n 0, 1) := by decide +kernel
theorem dX11_leave_28 : decode cX11_leave 28 = .ok (.iload_n 2, 1) := by decide +kernel
theorem dX11_leave_29 : decode cX11_leave 29 = .ok (.iload_n 2, 1) := by decide +kernel
theorem dX11_leave_30 : decode cX11_leave 30 = .ok (.ifCond .eq 25, 3) := by decide +kernel
theorem dX11_leave_33 : decode cX11_leave 33 = .ok (.iload_n 3, 1) := by decide +kernel
theorem dX11_leave_34 : decode cX11_leave 34 = .ok (.aload_n 0, 1) := by decide +kernel
theorem dX11_leave_35 : decode cX11_leave 35 = .ok (.getfield 17, 3) := by decide +kernel
theorem dX11_leave_38 : decode cX11_leave 38 = .ok (.iconst 5, 1) := by decide +kernel
theorem dX11_leave_39 : decode cX11_leave 39 = .ok (.iaload, 1) := by decide +kernel
theorem dX11_leave_40 : decode cX11_leave 40 = .ok (.if_icmp .eq 15, 3) := by decide +kernel
theorem dX11_leave_43 : decode cX11_leave 43 = .ok (.aload_n 0, 1) := by decide +kernel
theorem dX11_leave_44 : decode cX11_leave 44 = .ok (.iload_n 3, 1) := by decide +kernel
theorem dX11_leave_45 : decode cX11_leave 45 = .ok (.invokevirtual 122, 3) := by decide +kernel
theorem dX11_leave_48 : decode cX11_leave 48 = .ok (.ifCond .eq 7, 3) := by decide +kernel
theorem dX11_leave_51 : decode cX11_leave 51 = .ok (.iconst 1, 1) := by decide +kernel
theorem dX11_leave_52 : decode cX11_leave 52 = .ok (.goto 4, 3) := by decide +kernel
theorem dX11_leave_55 : decode cX11_leave 55 = .ok (.iconst 0, 1) := by decide +kernel
theorem dX11_leave_56 : decode cX11_leave 56 = .ok (.invokevirtual 7, 3) := by decide +kernel
theorem dX11_leave_59 : decode cX11_leave 59 = .ok (.ifCond .eq 11, 3) := by decide +kernel
theorem dX11_leave_62 : decode cX11_leave 62 = .ok (.aload_n 0, 1) := by decide +kernel
theorem dX11_leave_63 : decode cX11_leave 63 = .ok (.iload_n 3, 1) := by decide +kernel
theorem dX11_leave_64 : decode cX11_leave 64 = .ok (.invokevirtual 430, 3) := by decide +kernel
theorem dX11_leave_67 : decode cX11_leave 67 = .ok (.goto 4, 3) := by decide +kernel
theorem dX11_leave_70 : decode cX11_leave 70 = .ok (.iconst 0, 1) := by decide +kernel
theorem dX11_leave_71 : decode cX11_leave 71 = .ok (.ireturn, 1) := by decide +kernel
theorem dX11_isSlot_0 : decode cX11_isSlot 0 = .ok (.iload_n 0, 1) := by decide +kernel
theorem dX11_isSlot_1 : decode cX11_isSlot 1 = .ok (.i2l, 1) := by decide +kernel
theorem dX11_isSlot_2 : decode cX11_isSlot 2 = .ok (.lconst 0, 1) := by decide +kernel
theorem dX11_isSlot_3 : decode cX11_isSlot 3 = .ok (.lconst 1, 1) := by decide +kernel
theorem dX11_isSlot_4 : decode cX11_isSlot 4 = .ok (.invokestatic 87, 3) := by decide +kernel
theorem dX11_isSlot_7 : decode cX11_isSlot 7 = .ok (.ireturn, 1) := by decide +kernel
theorem dX11_keep_0 : decode cX11_keep 0 = .ok (.aload_n 0, 1) := by decide +kernel
theorem dX11_keep_1 : decode cX11_keep 1 = .ok (.iload_n 1, 1) := by decide +kernel
theorem dX11_keep_2 : decode cX11_keep 2 = .ok (.invokestatic 433, 3) := by decide +kernel
theorem dX11_keep_5 : decode cX11_keep 5 = .ok (.invokevirtual 235, 3) := by decide +kernel
theorem dX11_keep_8 : decode cX11_keep 8 = .ok (.ifCond .ne 5, 3) := by decide +kernel
theorem dX11_keep_11 : decode cX11_keep 11 = .ok (.iconst 0, 1) := by decide +kernel
theorem dX11_keep_12 : decode cX11_keep 12 = .ok (.ireturn, 1) := by decide +kernel
theorem dX11_keep_13 : decode cX11_keep 13 = .ok (.iconst 0, 1) := by decide +kernel
theorem dX11_keep_14 : decode cX11_keep 14 = .ok (.istore_n 2, 1) := by decide +kernel
theorem dX11_keep_15 : decode cX11_keep 15 = .ok (.iload_n 2, 1) := by decide +kernel
theorem dX11_keep_16 : decode cX11_keep 16 = .ok (.bipush 66, 2) := by decide +kernel
theorem dX11_keep_18 : decode cX11_keep 18 = .ok (.if_icmp .ge 26, 3) := by decide +kernel
theorem dX11_keep_21 : decode cX11_keep 21 = .ok (.aload_n 0, 1) := by decide +kernel
theorem dX11_keep_22 : decode cX11_keep 22 = .ok (.getfield 70, 3) := by decide +kernel
theorem dX11_keep_25 : decode cX11_keep 25 = .ok (.bipush 66, 2) := by decide +kernel
theorem dX11_keep_27 : decode cX11_keep 27 = .ok (.iload_n 1, 1) := by decide +kernel
theorem dX11_keep_28 : decode cX11_keep 28 = .ok (.imul, 1) := by decide +kernel
theorem dX11_keep_29 : decode cX11_keep 29 = .ok (.iload_n 2, 1) := by decide +kernel
theorem dX11_keep_30 : decode cX11_keep 30 = .ok (.iadd, 1) := by decide +kernel
theorem dX11_keep_31 : decode cX11_keep 31 = .ok (.aload_n 0, 1) := by decide +kernel
theorem dX11_keep_32 : decode cX11_keep 32 = .ok (.getfield 17, 3) := by decide +kernel
theorem dX11_keep_35 : decode cX11_keep 35 = .ok (.iload_n 2, 1) := by decide +kernel
theorem dX11_keep_36 : decode cX11_keep 36 = .ok (.iaload, 1) := by decide +kernel
theorem dX11_keep_37 : decode cX11_keep 37 = .ok (.iastore, 1) := by decide +kernel
theorem dX11_keep_38 : decode cX11_keep 38 = .ok (.iinc 2 1, 3) := by decide +kernel
theorem dX11_keep_41 : decode cX11_keep 41 = .ok (.goto (-26), 3) := by decide +kernel
theorem dX11_keep_44 : decode cX11_keep 44 = .ok (.aload_n 0, 1) := by decide +kernel
theorem dX11_keep_45 : decode cX11_keep 45 = .ok (.getfield 73, 3) := by decide +kernel
theorem dX11_keep_48 : decode cX11_keep 48 = .ok (.iload_n 1, 1) := by decide +kernel
theorem dX11_keep_49 : decode cX11_keep 49 = .ok (.iconst 1, 1) := by decide +kernel
theorem dX11_keep_50 : decode cX11_keep 50 = .ok (.bastore, 1) := by decide +kernel
theorem dX11_keep_51 : decode cX11_keep 51 = .ok (.aload_n 0, 1) := by decide +kernel
theorem dX11_keep_52 : decode cX11_keep 52 = .ok (.invokevirtual 83, 3) := by decide +kernel
theorem dX11_keep_55 : decode cX11_keep 55 = .ok (.ireturn, 1) := by decide +kernel
theorem dX11_restore_0 : decode cX11_restore 0 = .ok (.aload_n 0, 1) := by decide +kernel
theorem dX11_restore_1 : decode cX11_restore 1 = .ok (.iload_n 1, 1) := by decide +kernel
theorem dX11_restore_2 : decode cX11_restore 2 = .ok (.invokestatic 433, 3) := by decide +kernel
theorem dX11_restore_5 : decode cX11_restore 5 = .ok (.iload_n 1, 1) := by decide +kernel
theorem dX11_restore_6 : decode cX11_restore 6 = .ok (.invokestatic 433, 3) := by decide +kernel
theorem dX11_restore_9 : decode cX11_restore 9 = .ok (.ifCond .eq 12, 3) := by decide +kernel
theorem dX11_restore_12 : decode cX11_restore 12 = .ok (.aload_n 0, 1) := by decide +kernel
theorem dX11_restore_13 : decode cX11_restore 13 = .ok (.getfield 73, 3) := by decide +kernel
theorem dX11_restore_16 : decode cX11_restore 16 = .ok (.iload_n 1, 1) := by decide +kernel
theorem dX11_restore_17 : decode cX11_restore 17 = .ok (.baload, 1) := by decide +kernel
theorem dX11_restore_18 : decode cX11_restore 18 = .ok (.ifCond .eq 7, 3) := by decide +kernel
theorem dX11_restore_21 : decode cX11_restore 21 = .ok (.iconst 1, 1) := by decide +kernel
theorem dX11_restore_22 : decode cX11_restore 22 = .ok (.goto 4, 3) := by decide +kernel
theorem dX11_restore_25 : decode cX11_restore 25 = .ok (.iconst 0, 1) := by decide +kernel
theorem dX11_restore_26 : decode cX11_restore 26 = .ok (.invokevirtual 7, 3) := by decide +kernel
theorem dX11_restore_29 : decode cX11_restore 29 = .ok (.ifCond .ne 5, 3) := by decide +kernel
theorem dX11_restore_32 : decode cX11_restore 32 = .ok (.iconst 0, 1) := by decide +kernel
theorem dX11_restore_33 : decode cX11_restore 33 = .ok (.ireturn, 1) := by decide +kernel
theorem dX11_restore_34 : decode cX11_restore 34 = .ok (.aload_n 0, 1) := by decide +kernel
theorem dX11_restore_35 : decode cX11_restore 35 = .ok (.invokevirtual 351, 3) := by decide +kernel
theorem dX11_restore_38 : decode cX11_restore 38 = .ok (.iconst 0, 1) := by decide +kernel
theorem dX11_restore_39 : decode cX11_restore 39 = .ok (.istore_n 2, 1) := by decide +kernel
theorem dX11_restore_40 : decode cX11_restore 40 = .ok (.iload_n 2, 1) := by decide +kernel
theorem dX11_restore_41 : decode cX11_restore 41 = .ok (.bipush 66, 2) := by decide +kernel
theorem dX11_restore_43 : decode cX11_restore 43 = .ok (.if_icmp .ge 26, 3) := by decide +kernel
theorem dX11_restore_46 : decode cX11_restore 46 = .ok (.aload_n 0, 1) := by decide +kernel
theorem dX11_restore_47 : decode cX11_restore 47 = .ok (.getfield 17, 3) := by decide +kernel
theorem dX11_restore_50 : decode cX11_restore 50 = .ok (.iload_n 2, 1) := by decide +kernel
theorem dX11_restore_51 : decode cX11_restore 51 = .ok (.aload_n 0, 1) := by decide +kernel
theorem dX11_restore_52 : decode cX11_restore 52 = .ok (.getfield 70, 3) := by decide +kernel
theorem dX11_restore_55 : decode cX11_restore 55 = .ok (.bipush 66, 2) := by decide +kernel
theorem dX11_restore_57 : decode cX11_restore 57 = .ok (.iload_n 1, 1) := by decide +kernel
theorem dX11_restore_58 : decode cX11_restore 58 = .ok (.imul, 1) := by decide +kernel
theorem dX11_restore_59 : decode cX11_restore 59 = .ok (.iload_n 2, 1) := by decide +kernel
theorem dX11_restore_60 : decode cX11_restore 60 = .ok (.iadd, 1) := by decide +kernel
theorem dX11_restore_61 : decode cX11_restore 61 = .ok (.iaload, 1) := by decide +kernel
theorem dX11_restore_62 : decode cX11_restore 62 = .ok (.iastore, 1) := by decide +kernel
theorem dX11_restore_63 : decode cX11_restore 63 = .ok (.iinc 2 1, 3) := by decide +kernel
theorem dX11_restore_66 : decode cX11_restore 66 = .ok (.goto (-26), 3) := by decide +kernel
theorem dX11_restore_69 : decode cX11_restore 69 = .ok (.aload_n 0, 1) := by decide +kernel
theorem dX11_restore_70 : decode cX11_restore 70 = .ok (.invokevirtual 83, 3) := by decide +kernel
theorem dX11_restore_73 : decode cX11_restore 73 = .ok (.ireturn, 1) := by decide +kernel
theorem dX11_remember_0 : decode cX11_remember 0 = .ok (.aload_n 0, 1) := by decide +kernel
theorem dX11_remember_1 : decode cX11_remember 1 = .ok (.getfield 436, 3) := by decide +kernel
theorem dX11_remember_4 : decode cX11_remember 4 = .ok (.bipush 8, 2) := by decide +kernel
theorem dX11_remember_6 : decode cX11_remember 6 = .ok (.if_icmp .ne 44, 3) := by decide +kernel
theorem dX11_remember_9 : decode cX11_remember 9 = .ok (.bipush 66, 2) := by decide +kernel
theorem dX11_remember_11 : decode cX11_remember 11 = .ok (.istore_n 1, 1) := by decide +kernel
theorem dX11_remember_12 : decode cX11_remember 12 = .ok (.iload_n 1, 1) := by decide +kernel
theorem dX11_remember_13 : decode cX11_remember 13 = .ok (.sipush 528, 3) := by decide +kernel
theorem dX11_remember_16 : decode cX11_remember 16 = .ok (.if_icmp .ge 24, 3) := by decide +kernel
theorem dX11_remember_19 : decode cX11_remember 19 = .ok (.aload_n 0, 1) := by decide +kernel
theorem dX11_remember_20 : decode cX11_remember 20 = .ok (.getfield 77, 3) := by decide +kernel
theorem dX11_remember_23 : decode cX11_remember 23 = .ok (.iload_n 1, 1) := by decide +kernel
theorem dX11_remember_24 : decode cX11_remember 24 = .ok (.bipush 66, 2) := by decide +kernel
theorem dX11_remember_26 : decode cX11_remember 26 = .ok (.isub, 1) := by decide +kernel
theorem dX11_remember_27 : decode cX11_remember 27 = .ok (.aload_n 0, 1) := by decide +kernel
theorem dX11_remember_28 : decode cX11_remember 28 = .ok (.getfield 77, 3) := by decide +kernel
theorem dX11_remember_31 : decode cX11_remember 31 = .ok (.iload_n 1, 1) := by decide +kernel
theorem dX11_remember_32 : decode cX11_remember 32 = .ok (.iaload, 1) := by decide +kernel
theorem dX11_remember_33 : decode cX11_remember 33 = .ok (.iastore, 1) := by decide +kernel
theorem dX11_remember_34 : decode cX11_remember 34 = .ok (.iinc 1 1, 3) := by decide +kernel
theorem dX11_remember_37 : decode cX11_remember 37 = .ok (.goto (-25), 3) := by decide +kernel
theorem dX11_remember_40 : decode cX11_remember 40 = .ok (.aload_n 0, 1) := by decide +kernel
theorem dX11_remember_41 : decode cX11_remember 41 = .ok (.dup, 1) := by decide +kernel
theorem dX11_remember_42 : decode cX11_remember 42 = .ok (.getfield 436, 3) := by decide +kernel
theorem dX11_remember_45 : decode cX11_remember 45 = .ok (.iconst 1, 1) := by decide +kernel
theorem dX11_remember_46 : decode cX11_remember 46 = .ok (.isub, 1) := by decide +kernel
theorem dX11_remember_47 : decode cX11_remember 47 = .ok (.putfield 436, 3) := by decide +kernel
theorem dX11_remember_50 : decode cX11_remember 50 = .ok (.iconst 0, 1) := by decide +kernel
theorem dX11_remember_51 : decode cX11_remember 51 = .ok (.istore_n 1, 1) := by decide +kernel
theorem dX11_remember_52 : decode cX11_remember 52 = .ok (.iload_n 1, 1) := by decide +kernel
theorem dX11_remember_53 : decode cX11_remember 53 = .ok (.bipush 66, 2) := by decide +kernel
theorem dX11_remember_55 : decode cX11_remember 55 = .ok (.if_icmp .ge 29, 3) := by decide +kernel
theorem dX11_remember_58 : decode cX11_remember 58 = .ok (.aload_n 0, 1) := by decide +kernel
theorem dX11_remember_59 : decode cX11_remember 59 = .ok (.getfield 77, 3) := by decide +kernel
theorem dX11_remember_62 : decode cX11_remember 62 = .ok (.bipush 66, 2) := by decide +kernel
theorem dX11_remember_64 : decode cX11_remember 64 = .ok (.aload_n 0, 1) := by decide +kernel
theorem dX11_remember_65 : decode cX11_remember 65 = .ok (.getfield 436, 3) := by decide +kernel
theorem dX11_remember_68 : decode cX11_remember 68 = .ok (.imul, 1) := by decide +kernel
theorem dX11_remember_69 : decode cX11_remember 69 = .ok (.iload_n 1, 1) := by decide +kernel
theorem dX11_remember_70 : decode cX11_remember 70 = .ok (.iadd, 1) := by decide +kernel
theorem dX11_remember_71 : decode cX11_remember 71 = .ok (.aload_n 0, 1) := by decide +kernel
theorem dX11_remember_72 : decode cX11_remember 72 = .ok (.getfield 17, 3) := by decide +kernel
theorem dX11_remember_75 : decode cX11_remember 75 = .ok (.iload_n 1, 1) := by decide +kernel
theorem dX11_remember_76 : decode cX11_remember 76 = .ok (.iaload, 1) := by decide +kernel
theorem dX11_remember_77 : decode cX11_remember 77 = .ok (.iastore, 1) := by decide +kernel
theorem dX11_remember_78 : decode cX11_remember 78 = .ok (.iinc 1 1, 3) := by decide +kernel
theorem dX11_remember_81 : decode cX11_remember 81 = .ok (.goto (-29), 3) := by decide +kernel
theorem dX11_remember_84 : decode cX11_remember 84 = .ok (.aload_n 0, 1) := by decide +kernel
theorem dX11_remember_85 : decode cX11_remember 85 = .ok (.dup, 1) := by decide +kernel
theorem dX11_remember_86 : decode cX11_remember 86 = .ok (.getfield 436, 3) := by decide +kernel
theorem dX11_remember_89 : decode cX11_remember 89 = .ok (.iconst 1, 1) := by decide +kernel
theorem dX11_remember_90 : decode cX11_remember 90 = .ok (.iadd, 1) := by decide +kernel
theorem dX11_remember_91 : decode cX11_remember 91 = .ok (.putfield 436, 3) := by decide +kernel
theorem dX11_remember_94 : decode cX11_remember 94 = .ok (.return_, 1) := by decide +kernel
theorem dX11_undo_0 : decode cX11_undo 0 = .ok (.aload_n 0, 1) := by decide +kernel
theorem dX11_undo_1 : decode cX11_undo 1 = .ok (.aload_n 0, 1) := by decide +kernel
theorem dX11_undo_2 : decode cX11_undo 2 = .ok (.getfield 436, 3) := by decide +kernel
theorem dX11_undo_5 : decode cX11_undo 5 = .ok (.ifCond .le 7, 3) := by decide +kernel
theorem dX11_undo_8 : decode cX11_undo 8 = .ok (.iconst 1, 1) := by decide +kernel
theorem dX11_undo_9 : decode cX11_undo 9 = .ok (.goto 4, 3) := by decide +kernel
theorem dX11_undo_12 : decode cX11_undo 12 = .ok (.iconst 0, 1) := by decide +kernel
theorem dX11_undo_13 : decode cX11_undo 13 = .ok (.invokevirtual 235, 3) := by decide +kernel
theorem dX11_undo_16 : decode cX11_undo 16 = .ok (.ifCond .ne 5, 3) := by decide +kernel
theorem dX11_undo_19 : decode cX11_undo 19 = .ok (.iconst 0, 1) := by decide +kernel
theorem dX11_undo_20 : decode cX11_undo 20 = .ok (.ireturn, 1) := by decide +kernel
theorem dX11_undo_21 : decode cX11_undo 21 = .ok (.aload_n 0, 1) := by decide +kernel
theorem dX11_undo_22 : decode cX11_undo 22 = .ok (.dup, 1) := by decide +kernel
theorem dX11_undo_23 : decode cX11_undo 23 = .ok (.getfield 436, 3) := by decide +kernel
theorem dX11_undo_26 : decode cX11_undo 26 = .ok (.iconst 1, 1) := by decide +kernel
theorem dX11_undo_27 : decode cX11_undo 27 = .ok (.isub, 1) := by decide +kernel
theorem dX11_undo_28 : decode cX11_undo 28 = .ok (.putfield 436, 3) := by decide +kernel
theorem dX11_undo_31 : decode cX11_undo 31 = .ok (.iconst 0, 1) := by decide +kernel
theorem dX11_undo_32 : decode cX11_undo 32 = .ok (.istore_n 1, 1) := by decide +kernel
theorem dX11_undo_33 : decode cX11_undo 33 = .ok (.iload_n 1, 1) := by decide +kernel
theorem dX11_undo_34 : decode cX11_undo 34 = .ok (.bipush 66, 2) := by decide +kernel
theorem dX11_undo_36 : decode cX11_undo 36 = .ok (.if_icmp .ge 29, 3) := by decide +kernel
theorem dX11_undo_39 : decode cX11_undo 39 = .ok (.aload_n 0, 1) := by decide +kernel
theorem dX11_undo_40 : decode cX11_undo 40 = .ok (.getfield 17, 3) := by decide +kernel
theorem dX11_undo_43 : decode cX11_undo 43 = .ok (.iload_n 1, 1) := by decide +kernel
theorem dX11_undo_44 : decode cX11_undo 44 = .ok (.aload_n 0, 1) := by decide +kernel
theorem dX11_undo_45 : decode cX11_undo 45 = .ok (.getfield 77, 3) := by decide +kernel
theorem dX11_undo_48 : decode cX11_undo 48 = .ok (.bipush 66, 2) := by decide +kernel
theorem dX11_undo_50 : decode cX11_undo 50 = .ok (.aload_n 0, 1) := by decide +kernel
theorem dX11_undo_51 : decode cX11_undo 51 = .ok (.getfield 436, 3) := by decide +kernel
theorem dX11_undo_54 : decode cX11_undo 54 = .ok (.imul, 1) := by decide +kernel
theorem dX11_undo_55 : decode cX11_undo 55 = .ok (.iload_n 1, 1) := by decide +kernel
theorem dX11_undo_56 : decode cX11_undo 56 = .ok (.iadd, 1) := by decide +kernel
theorem dX11_undo_57 : decode cX11_undo 57 = .ok (.iaload, 1) := by decide +kernel
theorem dX11_undo_58 : decode cX11_undo 58 = .ok (.iastore, 1) := by decide +kernel
theorem dX11_undo_59 : decode cX11_undo 59 = .ok (.iinc 1 1, 3) := by decide +kernel
theorem dX11_undo_62 : decode cX11_undo 62 = .ok (.goto (-29), 3) := by decide +kernel
theorem dX11_undo_65 : decode cX11_undo 65 = .ok (.aload_n 0, 1) := by decide +kernel
theorem dX11_undo_66 : decode cX11_undo 66 = .ok (.getfield 436, 3) := by decide +kernel
theorem dX11_undo_69 : decode cX11_undo 69 = .ok (.ireturn, 1) := by decide +kernel
theorem dX11_undoCount_0 : decode cX11_undoCount 0 = .ok (.aload_n 0, 1) := by decide +kernel
theorem dX11_undoCount_1 : decode cX11_undoCount 1 = .ok (.iconst 0, 1) := by decide +kernel
theorem dX11_undoCount_2 : decode cX11_undoCount 2 = .ok (.putfield 3, 3) := by decide +kernel
theorem dX11_undoCount_5 : decode cX11_undoCount 5 = .ok (.aload_n 0, 1) := by decide +kernel
theorem dX11_undoCount_6 : decode cX11_undoCount 6 = .ok (.getfield 436, 3) := by decide +kernel
theorem dX11_undoCount_9 : decode cX11_undoCount 9 = .ok (.ireturn, 1) := by decide +kernel
theorem dX11_write_0 : decode cX11_write 0 = .ok (.aload_n 0, 1) := by decide +kernel
theorem dX11_write_1 : decode cX11_write 1 = .ok (.getfield 80, 3) := by decide +kernel
theorem dX11_write_4 : decode cX11_write 4 = .ok (.aload_n 0, 1) := by decide +kernel
theorem dX11_write_5 : decode cX11_write 5 = .ok (.getfield 439, 3) := by decide +kernel
theorem dX11_write_8 : decode cX11_write 8 = .ok (.iload_n 1, 1) := by decide +kernel
theorem dX11_write_9 : decode cX11_write 9 = .ok (.i2b, 1) := by decide +kernel
theorem dX11_write_10 : decode cX11_write 10 = .ok (.bastore, 1) := by decide +kernel
theorem dX11_write_11 : decode cX11_write 11 = .ok (.aload_n 0, 1) := by decide +kernel
theorem dX11_write_12 : decode cX11_write 12 = .ok (.dup, 1) := by decide +kernel
theorem dX11_write_13 : decode cX11_write 13 = .ok (.getfield 439, 3) := by decide +kernel
theorem dX11_write_16 : decode cX11_write 16 = .ok (.iconst 1, 1) := by decide +kernel
theorem dX11_write_17 : decode cX11_write 17 = .ok (.iadd, 1) := by decide +kernel
theorem dX11_write_18 : decode cX11_write 18 = .ok (.putfield 439, 3) := by decide +kernel
theorem dX11_write_21 : decode cX11_write 21 = .ok (.return_, 1) := by decide +kernel
theorem dX11_writeNumber_0 : decode cX11_writeNumber 0 = .ok (.iconst 1, 1) := by decide +kernel
theorem dX11_writeNumber_1 : decode cX11_writeNumber 1 = .ok (.istore_n 2, 1) := by decide +kernel
theorem dX11_writeNumber_2 : decode cX11_writeNumber 2 = .ok (.iload_n 1, 1) := by decide +kernel
theorem dX11_writeNumber_3 : decode cX11_writeNumber 3 = .ok (.iload_n 2, 1) := by decide +kernel
theorem dX11_writeNumber_4 : decode cX11_writeNumber 4 = .ok (.idiv, 1) := by decide +kernel
theorem dX11_writeNumber_5 : decode cX11_writeNumber 5 = .ok (.bipush 10, 2) := by decide +kernel
theorem dX11_writeNumber_7 : decode cX11_writeNumber 7 = .ok (.if_icmp .lt 11, 3) := by decide +kernel
theorem dX11_writeNumber_10 : decode cX11_writeNumber 10 = .ok (.iload_n 2, 1) := by decide +kernel
theorem dX11_writeNumber_11 : decode cX11_writeNumber 11 = .ok (.bipush 10, 2) := by decide +kernel
theorem dX11_writeNumber_13 : decode cX11_writeNumber 13 = .ok (.imul, 1) := by decide +kernel
theorem dX11_writeNumber_14 : decode cX11_writeNumber 14 = .ok (.istore_n 2, 1) := by decide +kernel
theorem dX11_writeNumber_15 : decode cX11_writeNumber 15 = .ok (.goto (-13), 3) := by decide +kernel
theorem dX11_writeNumber_18 : decode cX11_writeNumber 18 = .ok (.iload_n 2, 1) := by decide +kernel
theorem dX11_writeNumber_19 : decode cX11_writeNumber 19 = .ok (.istore_n 3, 1) := by decide +kernel
theorem dX11_writeNumber_20 : decode cX11_writeNumber 20 = .ok (.iload_n 3, 1) := by decide +kernel
theorem dX11_writeNumber_21 : decode cX11_writeNumber 21 = .ok (.ifCond .le 24, 3) := by decide +kernel
theorem dX11_writeNumber_24 : decode cX11_writeNumber 24 = .ok (.aload_n 0, 1) := by decide +kernel
theorem dX11_writeNumber_25 : decode cX11_writeNumber 25 = .ok (.bipush 48, 2) := by decide +kernel
theorem dX11_writeNumber_27 : decode cX11_writeNumber 27 = .ok (.iload_n 1, 1) := by decide +kernel
theorem dX11_writeNumber_28 : decode cX11_writeNumber 28 = .ok (.iload_n 3, 1) := by decide +kernel
theorem dX11_writeNumber_29 : decode cX11_writeNumber 29 = .ok (.idiv, 1) := by decide +kernel
theorem dX11_writeNumber_30 : decode cX11_writeNumber 30 = .ok (.bipush 10, 2) := by decide +kernel
theorem dX11_writeNumber_32 : decode cX11_writeNumber 32 = .ok (.irem, 1) := by decide +kernel
theorem dX11_writeNumber_33 : decode cX11_writeNumber 33 = .ok (.iadd, 1) := by decide +kernel
theorem dX11_writeNumber_34 : decode cX11_writeNumber 34 = .ok (.invokevirtual 442, 3) := by decide +kernel
theorem dX11_writeNumber_37 : decode cX11_writeNumber 37 = .ok (.iload_n 3, 1) := by decide +kernel
theorem dX11_writeNumber_38 : decode cX11_writeNumber 38 = .ok (.bipush 10, 2) := by decide +kernel
theorem dX11_writeNumber_40 : decode cX11_writeNumber 40 = .ok (.idiv, 1) := by decide +kernel
theorem dX11_writeNumber_41 : decode cX11_writeNumber 41 = .ok (.istore_n 3, 1) := by decide +kernel
theorem dX11_writeNumber_42 : decode cX11_writeNumber 42 = .ok (.goto (-22), 3) := by decide +kernel
theorem dX11_writeNumber_45 : decode cX11_writeNumber 45 = .ok (.return_, 1) := by decide +kernel
theorem dX11_writeFrontier_0 : decode cX11_writeFrontier 0 = .ok (.aload_n 0, 1) := by decide +kernel
theorem dX11_writeFrontier_1 : decode cX11_writeFrontier 1 = .ok (.iconst 0, 1) := by decide +kernel
theorem dX11_writeFrontier_2 : decode cX11_writeFrontier 2 = .ok (.putfield 3, 3) := by decide +kernel
theorem dX11_writeFrontier_5 : decode cX11_writeFrontier 5 = .ok (.aload_n 0, 1) := by decide +kernel
theorem dX11_writeFrontier_6 : decode cX11_writeFrontier 6 = .ok (.invokevirtual 369, 3) := by decide +kernel
theorem dX11_writeFrontier_9 : decode cX11_writeFrontier 9 = .ok (.aload_n 0, 1) := by decide +kernel
theorem dX11_writeFrontier_10 : decode cX11_writeFrontier 10 = .ok (.iconst 0, 1) := by decide +kernel
theorem dX11_writeFrontier_11 : decode cX11_writeFrontier 11 = .ok (.putfield 439, 3) := by decide +kernel
theorem dX11_writeFrontier_14 : decode cX11_writeFrontier 14 = .ok (.iconst 0, 1) := by decide +kernel
theorem dX11_writeFrontier_15 : decode cX11_writeFrontier 15 = .ok (.istore_n 1, 1) := by decide +kernel
theorem dX11_writeFrontier_16 : decode cX11_writeFrontier 16 = .ok (.iload_n 1, 1) := by decide +kernel
theorem dX11_writeFrontier_17 : decode cX11_writeFrontier 17 = .ok (.aload_n 0, 1) := by decide +kernel
theorem dX11_writeFrontier_18 : decode cX11_writeFrontier 18 = .ok (.getfield 130, 3) := by decide +kernel
theorem dX11_writeFrontier_21 : decode cX11_writeFrontier 21 = .ok (.if_icmp .ge 77, 3) := by decide +kernel
theorem dX11_writeFrontier_24 : decode cX11_writeFrontier 24 = .ok (.iload_n 1, 1) := by decide +kernel
theorem dX11_writeFrontier_25 : decode cX11_writeFrontier 25 = .ok (.ifCond .le 9, 3) := by decide +kernel
theorem dX11_writeFrontier_28 : decode cX11_writeFrontier 28 = .ok (.aload_n 0, 1) := by decide +kernel
theorem dX11_writeFrontier_29 : decode cX11_writeFrontier 29 = .ok (.bipush 32, 2) := by decide +kernel
theorem dX11_writeFrontier_31 : decode cX11_writeFrontier 31 = .ok (.invokevirtual 442, 3) := by decide +kernel
theorem dX11_writeFrontier_34 : decode cX11_writeFrontier 34 = .ok (.aload_n 0, 1) := by decide +kernel
theorem dX11_writeFrontier_35 : decode cX11_writeFrontier 35 = .ok (.aload_n 0, 1) := by decide +kernel
theorem dX11_writeFrontier_36 : decode cX11_writeFrontier 36 = .ok (.getfield 30, 3) := by decide +kernel
theorem dX11_writeFrontier_39 : decode cX11_writeFrontier 39 = .ok (.iload_n 1, 1) := by decide +kernel
theorem dX11_writeFrontier_40 : decode cX11_writeFrontier 40 = .ok (.iaload, 1) := by decide +kernel
theorem dX11_writeFrontier_41 : decode cX11_writeFrontier 41 = .ok (.invokevirtual 445, 3) := by decide +kernel
theorem dX11_writeFrontier_44 : decode cX11_writeFrontier 44 = .ok (.aload_n 0, 1) := by decide +kernel
theorem dX11_writeFrontier_45 : decode cX11_writeFrontier 45 = .ok (.bipush 44, 2) := by decide +kernel
theorem dX11_writeFrontier_47 : decode cX11_writeFrontier 47 = .ok (.invokevirtual 442, 3) := by decide +kernel
theorem dX11_writeFrontier_50 : decode cX11_writeFrontier 50 = .ok (.aload_n 0, 1) := by decide +kernel
theorem dX11_writeFrontier_51 : decode cX11_writeFrontier 51 = .ok (.aload_n 0, 1) := by decide +kernel
theorem dX11_writeFrontier_52 : decode cX11_writeFrontier 52 = .ok (.getfield 33, 3) := by decide +kernel
theorem dX11_writeFrontier_55 : decode cX11_writeFrontier 55 = .ok (.iload_n 1, 1) := by decide +kernel
theorem dX11_writeFrontier_56 : decode cX11_writeFrontier 56 = .ok (.iaload, 1) := by decide +kernel
theorem dX11_writeFrontier_57 : decode cX11_writeFrontier 57 = .ok (.invokevirtual 445, 3) := by decide +kernel
theorem dX11_writeFrontier_60 : decode cX11_writeFrontier 60 = .ok (.aload_n 0, 1) := by decide +kernel
theorem dX11_writeFrontier_61 : decode cX11_writeFrontier 61 = .ok (.aload_n 0, 1) := by decide +kernel
theorem dX11_writeFrontier_62 : decode cX11_writeFrontier 62 = .ok (.iload_n 1, 1) := by decide +kernel
theorem dX11_writeFrontier_63 : decode cX11_writeFrontier 63 = .ok (.invokevirtual 165, 3) := by decide +kernel
theorem dX11_writeFrontier_66 : decode cX11_writeFrontier 66 = .ok (.ifCond .eq 8, 3) := by decide +kernel
theorem dX11_writeFrontier_69 : decode cX11_writeFrontier 69 = .ok (.bipush 33, 2) := by decide +kernel
theorem dX11_writeFrontier_71 : decode cX11_writeFrontier 71 = .ok (.goto 18, 3) := by decide +kernel
theorem dX11_writeFrontier_74 : decode cX11_writeFrontier 74 = .ok (.aload_n 0, 1) := by decide +kernel
theorem dX11_writeFrontier_75 : decode cX11_writeFrontier 75 = .ok (.iload_n 1, 1) := by decide +kernel
theorem dX11_writeFrontier_76 : decode cX11_writeFrontier 76 = .ok (.invokevirtual 377, 3) := by decide +kernel
theorem dX11_writeFrontier_79 : decode cX11_writeFrontier 79 = .ok (.ifCond .eq 8, 3) := by decide +kernel
theorem dX11_writeFrontier_82 : decode cX11_writeFrontier 82 = .ok (.bipush 43, 2) := by decide +kernel
theorem dX11_writeFrontier_84 : decode cX11_writeFrontier 84 = .ok (.goto 5, 3) := by decide +kernel
theorem dX11_writeFrontier_87 : decode cX11_writeFrontier 87 = .ok (.bipush 46, 2) := by decide +kernel
theorem dX11_writeFrontier_89 : decode cX11_writeFrontier 89 = .ok (.invokevirtual 442, 3) := by decide +kernel
theorem dX11_writeFrontier_92 : decode cX11_writeFrontier 92 = .ok (.iinc 1 1, 3) := by decide +kernel
theorem dX11_writeFrontier_95 : decode cX11_writeFrontier 95 = .ok (.goto (-79), 3) := by decide +kernel
theorem dX11_writeFrontier_98 : decode cX11_writeFrontier 98 = .ok (.aload_n 0, 1) := by decide +kernel
theorem dX11_writeFrontier_99 : decode cX11_writeFrontier 99 = .ok (.getfield 439, 3) := by decide +kernel
theorem dX11_writeFrontier_102 : decode cX11_writeFrontier 102 = .ok (.ireturn, 1) := by decide +kernel
theorem dX11_writeChoices_0 : decode cX11_writeChoices 0 = .ok (.aload_n 0, 1) := by decide +kernel
theorem dX11_writeChoices_1 : decode cX11_writeChoices 1 = .ok (.iconst 0, 1) := by decide +kernel
theorem dX11_writeChoices_2 : decode cX11_writeChoices 2 = .ok (.putfield 3, 3) := by decide +kernel
theorem dX11_writeChoices_5 : decode cX11_writeChoices 5 = .ok (.aload_n 0, 1) := by decide +kernel
theorem dX11_writeChoices_6 : decode cX11_writeChoices 6 = .ok (.invokevirtual 174, 3) := by decide +kernel
theorem dX11_writeChoices_9 : decode cX11_writeChoices 9 = .ok (.aload_n 0, 1) := by decide +kernel
theorem dX11_writeChoices_10 : decode cX11_writeChoices 10 = .ok (.iconst 0, 1) := by decide +kernel
theorem dX11_writeChoices_11 : decode cX11_writeChoices 11 = .ok (.putfield 439, 3) := by decide +kernel
theorem dX11_writeChoices_14 : decode cX11_writeChoices 14 = .ok (.iconst 0, 1) := by decide +kernel
theorem dX11_writeChoices_15 : decode cX11_writeChoices 15 = .ok (.istore_n 1, 1) := by decide +kernel
theorem dX11_writeChoices_16 : decode cX11_writeChoices 16 = .ok (.iload_n 1, 1) := by decide +kernel
theorem dX11_writeChoices_17 : decode cX11_writeChoices 17 = .ok (.aload_n 0, 1) := by decide +kernel
theorem dX11_writeChoices_18 : decode cX11_writeChoices 18 = .ok (.getfield 130, 3) := by decide +kernel
theorem dX11_writeChoices_21 : decode cX11_writeChoices 21 = .ok (.if_icmp .ge 55, 3) := by decide +kernel
theorem dX11_writeChoices_24 : decode cX11_writeChoices 24 = .ok (.iconst 0, 1) := by decide +kernel
theorem dX11_writeChoices_25 : decode cX11_writeChoices 25 = .ok (.istore_n 2, 1) := by decide +kernel
theorem dX11_writeChoices_26 : decode cX11_writeChoices 26 = .ok (.iload_n 2, 1) := by decide +kernel
theorem dX11_writeChoices_27 : decode cX11_writeChoices 27 = .ok (.aload_n 0, 1) := by decide +kernel
theorem dX11_writeChoices_28 : decode cX11_writeChoices 28 = .ok (.invokevirtual 83, 3) := by decide +kernel
theorem dX11_writeChoices_31 : decode cX11_writeChoices 31 = .ok (.if_icmp .ge 33, 3) := by decide +kernel
theorem dX11_writeChoices_34 : decode cX11_writeChoices 34 = .ok (.aload_n 0, 1) := by decide +kernel
theorem dX11_writeChoices_35 : decode cX11_writeChoices 35 = .ok (.aload_n 0, 1) := by decide +kernel
theorem dX11_writeChoices_36 : decode cX11_writeChoices 36 = .ok (.getfield 36, 3) := by decide +kernel
theorem dX11_writeChoices_39 : decode cX11_writeChoices 39 = .ok (.iload_n 1, 1) := by decide +kernel
theorem dX11_writeChoices_40 : decode cX11_writeChoices 40 = .ok (.iaload, 1) := by decide +kernel
theorem dX11_writeChoices_41 : decode cX11_writeChoices 41 = .ok (.iload_n 2, 1) := by decide +kernel
theorem dX11_writeChoices_42 : decode cX11_writeChoices 42 = .ok (.invokestatic 94, 3) := by decide +kernel
theorem dX11_writeChoices_45 : decode cX11_writeChoices 45 = .ok (.ifCond .eq 8, 3) := by decide +kernel
theorem dX11_writeChoices_48 : decode cX11_writeChoices 48 = .ok (.bipush 49, 2) := by decide +kernel
theorem dX11_writeChoices_50 : decode cX11_writeChoices 50 = .ok (.goto 5, 3) := by decide +kernel
theorem dX11_writeChoices_53 : decode cX11_writeChoices 53 = .ok (.bipush 48, 2) := by decide +kernel
theorem dX11_writeChoices_55 : decode cX11_writeChoices 55 = .ok (.invokevirtual 442, 3) := by decide +kernel
theorem dX11_writeChoices_58 : decode cX11_writeChoices 58 = .ok (.iinc 2 1, 3) := by decide +kernel
theorem dX11_writeChoices_61 : decode cX11_writeChoices 61 = .ok (.goto (-35), 3) := by decide +kernel
theorem dX11_writeChoices_64 : decode cX11_writeChoices 64 = .ok (.aload_n 0, 1) := by decide +kernel
theorem dX11_writeChoices_65 : decode cX11_writeChoices 65 = .ok (.bipush 10, 2) := by decide +kernel
theorem dX11_writeChoices_67 : decode cX11_writeChoices 67 = .ok (.invokevirtual 442, 3) := by decide +kernel
theorem dX11_writeChoices_70 : decode cX11_writeChoices 70 = .ok (.iinc 1 1, 3) := by decide +kernel
theorem dX11_writeChoices_73 : decode cX11_writeChoices 73 = .ok (.goto (-57), 3) := by decide +kernel
theorem dX11_writeChoices_76 : decode cX11_writeChoices 76 = .ok (.aload_n 0, 1) := by decide +kernel
theorem dX11_writeChoices_77 : decode cX11_writeChoices 77 = .ok (.getfield 439, 3) := by decide +kernel
theorem dX11_writeChoices_80 : decode cX11_writeChoices 80 = .ok (.ireturn, 1) := by decide +kernel
theorem dX11_outputByte_0 : decode cX11_outputByte 0 = .ok (.aload_n 0, 1) := by decide +kernel
theorem dX11_outputByte_1 : decode cX11_outputByte 1 = .ok (.iload_n 1, 1) := by decide +kernel
theorem dX11_outputByte_2 : decode cX11_outputByte 2 = .ok (.i2l, 1) := by decide +kernel
theorem dX11_outputByte_3 : decode cX11_outputByte 3 = .ok (.lconst 0, 1) := by decide +kernel
theorem dX11_outputByte_4 : decode cX11_outputByte 4 = .ok (.aload_n 0, 1) := by decide +kernel
theorem dX11_outputByte_5 : decode cX11_outputByte 5 = .ok (.getfield 439, 3) := by decide +kernel
theorem dX11_outputByte_8 : decode cX11_outputByte 8 = .ok (.iconst 1, 1) := by decide +kernel
theorem dX11_outputByte_9 : decode cX11_outputByte 9 = .ok (.isub, 1) := by decide +kernel
theorem dX11_outputByte_10 : decode cX11_outputByte 10 = .ok (.i2l, 1) := by decide +kernel
theorem dX11_outputByte_11 : decode cX11_outputByte 11 = .ok (.invokestatic 87, 3) := by decide +kernel
theorem dX11_outputByte_14 : decode cX11_outputByte 14 = .ok (.invokevirtual 235, 3) := by decide +kernel
theorem dX11_outputByte_17 : decode cX11_outputByte 17 = .ok (.ifCond .eq 12, 3) := by decide +kernel
theorem dX11_outputByte_20 : decode cX11_outputByte 20 = .ok (.aload_n 0, 1) := by decide +kernel
theorem dX11_outputByte_21 : decode cX11_outputByte 21 = .ok (.getfield 80, 3) := by decide +kernel
theorem dX11_outputByte_24 : decode cX11_outputByte 24 = .ok (.iload_n 1, 1) := by decide +kernel
theorem dX11_outputByte_25 : decode cX11_outputByte 25 = .ok (.baload, 1) := by decide +kernel
theorem dX11_outputByte_26 : decode cX11_outputByte 26 = .ok (.goto 4, 3) := by decide +kernel
theorem dX11_outputByte_29 : decode cX11_outputByte 29 = .ok (.iconst 0, 1) := by decide +kernel
theorem dX11_outputByte_30 : decode cX11_outputByte 30 = .ok (.ireturn, 1) := by decide +kernel
theorem dJ6_bitCount_0f7a4_0 : decode cJ6_bitCount_0f7a4 0 = .ok (.iload_n 0, 1) := by decide +kernel
theorem dJ6_bitCount_0f7a4_1 : decode cJ6_bitCount_0f7a4 1 = .ok (.iload_n 0, 1) := by decide +kernel
theorem dJ6_bitCount_0f7a4_2 : decode cJ6_bitCount_0f7a4 2 = .ok (.iconst 1, 1) := by decide +kernel
theorem dJ6_bitCount_0f7a4_3 : decode cJ6_bitCount_0f7a4 3 = .ok (.iushr, 1) := by decide +kernel
theorem dJ6_bitCount_0f7a4_4 : decode cJ6_bitCount_0f7a4 4 = .ok (.ldc_w 265, 3) := by decide +kernel
theorem dJ6_bitCount_0f7a4_7 : decode cJ6_bitCount_0f7a4 7 = .ok (.iand, 1) := by decide +kernel
theorem dJ6_bitCount_0f7a4_8 : decode cJ6_bitCount_0f7a4 8 = .ok (.isub, 1) := by decide +kernel
theorem dJ6_bitCount_0f7a4_9 : decode cJ6_bitCount_0f7a4 9 = .ok (.istore_n 0, 1) := by decide +kernel
theorem dJ6_bitCount_0f7a4_10 : decode cJ6_bitCount_0f7a4 10 = .ok (.iload_n 0, 1) := by decide +kernel
theorem dJ6_bitCount_0f7a4_11 : decode cJ6_bitCount_0f7a4 11 = .ok (.ldc_w 266, 3) := by decide +kernel
theorem dJ6_bitCount_0f7a4_14 : decode cJ6_bitCount_0f7a4 14 = .ok (.iand, 1) := by decide +kernel
theorem dJ6_bitCount_0f7a4_15 : decode cJ6_bitCount_0f7a4 15 = .ok (.iload_n 0, 1) := by decide +kernel
theorem dJ6_bitCount_0f7a4_16 : decode cJ6_bitCount_0f7a4 16 = .ok (.iconst 2, 1) := by decide +kernel
theorem dJ6_bitCount_0f7a4_17 : decode cJ6_bitCount_0f7a4 17 = .ok (.iushr, 1) := by decide +kernel
theorem dJ6_bitCount_0f7a4_18 : decode cJ6_bitCount_0f7a4 18 = .ok (.ldc_w 266, 3) := by decide +kernel
theorem dJ6_bitCount_0f7a4_21 : decode cJ6_bitCount_0f7a4 21 = .ok (.iand, 1) := by decide +kernel
theorem dJ6_bitCount_0f7a4_22 : decode cJ6_bitCount_0f7a4 22 = .ok (.iadd, 1) := by decide +kernel
theorem dJ6_bitCount_0f7a4_23 : decode cJ6_bitCount_0f7a4 23 = .ok (.istore_n 0, 1) := by decide +kernel
theorem dJ6_bitCount_0f7a4_24 : decode cJ6_bitCount_0f7a4 24 = .ok (.iload_n 0, 1) := by decide +kernel
theorem dJ6_bitCount_0f7a4_25 : decode cJ6_bitCount_0f7a4 25 = .ok (.iload_n 0, 1) := by decide +kernel
theorem dJ6_bitCount_0f7a4_26 : decode cJ6_bitCount_0f7a4 26 = .ok (.iconst 4, 1) := by decide +kernel
theorem dJ6_bitCount_0f7a4_27 : decode cJ6_bitCount_0f7a4 27 = .ok (.iushr, 1) := by decide +kernel
theorem dJ6_bitCount_0f7a4_28 : decode cJ6_bitCount_0f7a4 28 = .ok (.iadd, 1) := by decide +kernel
theorem dJ6_bitCount_0f7a4_29 : decode cJ6_bitCount_0f7a4 29 = .ok (.ldc_w 267, 3) := by decide +kernel
theorem dJ6_bitCount_0f7a4_32 : decode cJ6_bitCount_0f7a4 32 = .ok (.iand, 1) := by decide +kernel
theorem dJ6_bitCount_0f7a4_33 : decode cJ6_bitCount_0f7a4 33 = .ok (.istore_n 0, 1) := by decide +kernel
theorem dJ6_bitCount_0f7a4_34 : decode cJ6_bitCount_0f7a4 34 = .ok (.iload_n 0, 1) := by decide +kernel
theorem dJ6_bitCount_0f7a4_35 : decode cJ6_bitCount_0f7a4 35 = .ok (.iload_n 0, 1) := by decide +kernel
theorem dJ6_bitCount_0f7a4_36 : decode cJ6_bitCount_0f7a4 36 = .ok (.bipush 8, 2) := by decide +kernel
theorem dJ6_bitCount_0f7a4_38 : decode cJ6_bitCount_0f7a4 38 = .ok (.iushr, 1) := by decide +kernel
theorem dJ6_bitCount_0f7a4_39 : decode cJ6_bitCount_0f7a4 39 = .ok (.iadd, 1) := by decide +kernel
theorem dJ6_bitCount_0f7a4_40 : decode cJ6_bitCount_0f7a4 40 = .ok (.istore_n 0, 1) := by decide +kernel
theorem dJ6_bitCount_0f7a4_41 : decode cJ6_bitCount_0f7a4 41 = .ok (.iload_n 0, 1) := by decide +kernel
theorem dJ6_bitCount_0f7a4_42 : decode cJ6_bitCount_0f7a4 42 = .ok (.iload_n 0, 1) := by decide +kernel
theorem dJ6_bitCount_0f7a4_43 : decode cJ6_bitCount_0f7a4 43 = .ok (.bipush 16, 2) := by decide +kernel
theorem dJ6_bitCount_0f7a4_45 : decode cJ6_bitCount_0f7a4 45 = .ok (.iushr, 1) := by decide +kernel
theorem dJ6_bitCount_0f7a4_46 : decode cJ6_bitCount_0f7a4 46 = .ok (.iadd, 1) := by decide +kernel
theorem dJ6_bitCount_0f7a4_47 : decode cJ6_bitCount_0f7a4 47 = .ok (.istore_n 0, 1) := by decide +kernel
theorem dJ6_bitCount_0f7a4_48 : decode cJ6_bitCount_0f7a4 48 = .ok (.iload_n 0, 1) := by decide +kernel
theorem dJ6_bitCount_0f7a4_49 : decode cJ6_bitCount_0f7a4 49 = .ok (.bipush 63, 2) := by decide +kernel
theorem dJ6_bitCount_0f7a4_51 : decode cJ6_bitCount_0f7a4 51 = .ok (.iand, 1) := by decide +kernel
theorem dJ6_bitCount_0f7a4_52 : decode cJ6_bitCount_0f7a4 52 = .ok (.ireturn, 1) := by decide +kernel
theorem dJ7_fill_53178_0 : decode cJ7_fill_53178 0 = .ok (.iconst 0, 1) := by decide +kernel
theorem dJ7_fill_53178_1 : decode cJ7_fill_53178 1 = .ok (.istore_n 2, 1) := by decide +kernel
theorem dJ7_fill_53178_2 : decode cJ7_fill_53178 2 = .ok (.aload_n 0, 1) := by decide +kernel
theorem dJ7_fill_53178_3 : decode cJ7_fill_53178 3 = .ok (.arraylength, 1) := by decide +kernel
theorem dJ7_fill_53178_4 : decode cJ7_fill_53178 4 = .ok (.istore_n 3, 1) := by decide +kernel
theorem dJ7_fill_53178_5 : decode cJ7_fill_53178 5 = .ok (.iload_n 2, 1) := by decide +kernel
theorem dJ7_fill_53178_6 : decode cJ7_fill_53178 6 = .ok (.iload_n 3, 1) := by decide +kernel
theorem dJ7_fill_53178_7 : decode cJ7_fill_53178 7 = .ok (.if_icmp .ge 13, 3) := by decide +kernel
theorem dJ7_fill_53178_10 : decode cJ7_fill_53178 10 = .ok (.aload_n 0, 1) := by decide +kernel
theorem dJ7_fill_53178_11 : decode cJ7_fill_53178 11 = .ok (.iload_n 2, 1) := by decide +kernel
theorem dJ7_fill_53178_12 : decode cJ7_fill_53178 12 = .ok (.iload_n 1, 1) := by decide +kernel
theorem dJ7_fill_53178_13 : decode cJ7_fill_53178 13 = .ok (.iastore, 1) := by decide +kernel
theorem dJ7_fill_53178_14 : decode cJ7_fill_53178 14 = .ok (.iinc 2 1, 3) := by decide +kernel
theorem dJ7_fill_53178_17 : decode cJ7_fill_53178 17 = .ok (.goto (-12), 3) := by decide +kernel
theorem dJ7_fill_53178_20 : decode cJ7_fill_53178 20 = .ok (.return_, 1) := by decide +kernel
