theorem dX11_layPoints_16 : decode cX11_layPoints 16 = .ok (.if_icmp .ge 72, 3) := by decide +kernel
theorem dX11_layPoints_19 : decode cX11_layPoints 19 = .ok (.aload_n 0, 1) := by decide +kernel
theorem dX11_layPoints_20 : decode cX11_layPoints 20 = .ok (.getfield 45, 3) := by decide +kernel
theorem dX11_layPoints_23 : decode cX11_layPoints 23 = .ok (.iload_n 2, 1) := by decide +kernel
theorem dX11_layPoints_24 : decode cX11_layPoints 24 = .ok (.aload_n 0, 1) := by decide +kernel
theorem dX11_layPoints_25 : decode cX11_layPoints 25 = .ok (.getfield 27, 3) := by decide +kernel
theorem dX11_layPoints_28 : decode cX11_layPoints 28 = .ok (.iload_n 2, 1) := by decide +kernel
theorem dX11_layPoints_29 : decode cX11_layPoints 29 = .ok (.iaload, 1) := by decide +kernel
theorem dX11_layPoints_30 : decode cX11_layPoints 30 = .ok (.iconst (-1), 1) := by decide +kernel
theorem dX11_layPoints_31 : decode cX11_layPoints 31 = .ok (.if_icmp .ne 7, 3) := by decide +kernel
theorem dX11_layPoints_34 : decode cX11_layPoints 34 = .ok (.iconst (-1), 1) := by decide +kernel
theorem dX11_layPoints_35 : decode cX11_layPoints 35 = .ok (.goto 4, 3) := by decide +kernel
theorem dX11_layPoints_38 : decode cX11_layPoints 38 = .ok (.iload_n 1, 1) := by decide +kernel
theorem dX11_layPoints_39 : decode cX11_layPoints 39 = .ok (.iastore, 1) := by decide +kernel
theorem dX11_layPoints_40 : decode cX11_layPoints 40 = .ok (.aload_n 0, 1) := by decide +kernel
theorem dX11_layPoints_41 : decode cX11_layPoints 41 = .ok (.getfield 27, 3) := by decide +kernel
theorem dX11_layPoints_44 : decode cX11_layPoints 44 = .ok (.iload_n 2, 1) := by decide +kernel
theorem dX11_layPoints_45 : decode cX11_layPoints 45 = .ok (.iaload, 1) := by decide +kernel
theorem dX11_layPoints_46 : decode cX11_layPoints 46 = .ok (.iconst (-1), 1) := by decide +kernel
theorem dX11_layPoints_47 : decode cX11_layPoints 47 = .ok (.if_icmp .ne 6, 3) := by decide +kernel
theorem dX11_layPoints_50 : decode cX11_layPoints 50 = .ok (.goto 32, 3) := by decide +kernel
theorem dX11_layPoints_53 : decode cX11_layPoints 53 = .ok (.aload_n 0, 1) := by decide +kernel
theorem dX11_layPoints_54 : decode cX11_layPoints 54 = .ok (.getfield 30, 3) := by decide +kernel
theorem dX11_layPoints_57 : decode cX11_layPoints 57 = .ok (.iload_n 1, 1) := by decide +kernel
theorem dX11_layPoints_58 : decode cX11_layPoints 58 = .ok (.iload_n 2, 1) := by decide +kernel
theorem dX11_layPoints_59 : decode cX11_layPoints 59 = .ok (.iastore, 1) := by decide +kernel
theorem dX11_layPoints_60 : decode cX11_layPoints 60 = .ok (.aload_n 0, 1) := by decide +kernel
theorem dX11_layPoints_61 : decode cX11_layPoints 61 = .ok (.getfield 33, 3) := by decide +kernel
theorem dX11_layPoints_64 : decode cX11_layPoints 64 = .ok (.iload_n 1, 1) := by decide +kernel
theorem dX11_layPoints_65 : decode cX11_layPoints 65 = .ok (.aload_n 0, 1) := by decide +kernel
theorem dX11_layPoints_66 : decode cX11_layPoints 66 = .ok (.getfield 27, 3) := by decide +kernel
theorem dX11_layPoints_69 : decode cX11_layPoints 69 = .ok (.iload_n 2, 1) := by decide +kernel
theorem dX11_layPoints_70 : decode cX11_layPoints 70 = .ok (.iaload, 1) := by decide +kernel
theorem dX11_layPoints_71 : decode cX11_layPoints 71 = .ok (.iastore, 1) := by decide +kernel
theorem dX11_layPoints_72 : decode cX11_layPoints 72 = .ok (.aload_n 0, 1) := by decide +kernel
theorem dX11_layPoints_73 : decode cX11_layPoints 73 = .ok (.getfield 39, 3) := by decide +kernel
theorem dX11_layPoints_76 : decode cX11_layPoints 76 = .ok (.iload_n 1, 1) := by decide +kernel
theorem dX11_layPoints_77 : decode cX11_layPoints 77 = .ok (.iconst 0, 1) := by decide +kernel
theorem dX11_layPoints_78 : decode cX11_layPoints 78 = .ok (.iastore, 1) := by decide +kernel
theorem dX11_layPoints_79 : decode cX11_layPoints 79 = .ok (.iinc 1 1, 3) := by decide +kernel
theorem dX11_layPoints_82 : decode cX11_layPoints 82 = .ok (.iinc 2 1, 3) := by decide +kernel
theorem dX11_layPoints_85 : decode cX11_layPoints 85 = .ok (.goto (-73), 3) := by decide +kernel
theorem dX11_layPoints_88 : decode cX11_layPoints 88 = .ok (.return_, 1) := by decide +kernel
theorem dX11_pointWith_0 : decode cX11_pointWith 0 = .ok (.iload_n 1, 1) := by decide +kernel
theorem dX11_pointWith_1 : decode cX11_pointWith 1 = .ok (.i2l, 1) := by decide +kernel
theorem dX11_pointWith_2 : decode cX11_pointWith 2 = .ok (.lconst 0, 1) := by decide +kernel
theorem dX11_pointWith_3 : decode cX11_pointWith 3 = .ok (.ldc2_w 139, 3) := by decide +kernel
theorem dX11_pointWith_6 : decode cX11_pointWith 6 = .ok (.invokestatic 87, 3) := by decide +kernel
theorem dX11_pointWith_9 : decode cX11_pointWith 9 = .ok (.ifCond .eq 13, 3) := by decide +kernel
theorem dX11_pointWith_12 : decode cX11_pointWith 12 = .ok (.aload_n 0, 1) := by decide +kernel
theorem dX11_pointWith_13 : decode cX11_pointWith 13 = .ok (.getfield 45, 3) := by decide +kernel
theorem dX11_pointWith_16 : decode cX11_pointWith 16 = .ok (.iload_n 1, 1) := by decide +kernel
theorem dX11_pointWith_17 : decode cX11_pointWith 17 = .ok (.iaload, 1) := by decide +kernel
theorem dX11_pointWith_18 : decode cX11_pointWith 18 = .ok (.iconst (-1), 1) := by decide +kernel
theorem dX11_pointWith_19 : decode cX11_pointWith 19 = .ok (.if_icmp .ne 5, 3) := by decide +kernel
theorem dX11_pointWith_22 : decode cX11_pointWith 22 = .ok (.iconst (-1), 1) := by decide +kernel
theorem dX11_pointWith_23 : decode cX11_pointWith 23 = .ok (.ireturn, 1) := by decide +kernel
theorem dX11_pointWith_24 : decode cX11_pointWith 24 = .ok (.aload_n 0, 1) := by decide +kernel
theorem dX11_pointWith_25 : decode cX11_pointWith 25 = .ok (.getfield 33, 3) := by decide +kernel
theorem dX11_pointWith_28 : decode cX11_pointWith 28 = .ok (.aload_n 0, 1) := by decide +kernel
theorem dX11_pointWith_29 : decode cX11_pointWith 29 = .ok (.getfield 45, 3) := by decide +kernel
theorem dX11_pointWith_32 : decode cX11_pointWith 32 = .ok (.iload_n 1, 1) := by decide +kernel
theorem dX11_pointWith_33 : decode cX11_pointWith 33 = .ok (.iaload, 1) := by decide +kernel
theorem dX11_pointWith_34 : decode cX11_pointWith 34 = .ok (.iaload, 1) := by decide +kernel
theorem dX11_pointWith_35 : decode cX11_pointWith 35 = .ok (.iload_n 2, 1) := by decide +kernel
theorem dX11_pointWith_36 : decode cX11_pointWith 36 = .ok (.if_icmp .ne 12, 3) := by decide +kernel
theorem dX11_pointWith_39 : decode cX11_pointWith 39 = .ok (.aload_n 0, 1) := by decide +kernel
theorem dX11_pointWith_40 : decode cX11_pointWith 40 = .ok (.getfield 45, 3) := by decide +kernel
theorem dX11_pointWith_43 : decode cX11_pointWith 43 = .ok (.iload_n 1, 1) := by decide +kernel
theorem dX11_pointWith_44 : decode cX11_pointWith 44 = .ok (.iaload, 1) := by decide +kernel
theorem dX11_pointWith_45 : decode cX11_pointWith 45 = .ok (.goto 4, 3) := by decide +kernel
theorem dX11_pointWith_48 : decode cX11_pointWith 48 = .ok (.iconst (-1), 1) := by decide +kernel
theorem dX11_pointWith_49 : decode cX11_pointWith 49 = .ok (.ireturn, 1) := by decide +kernel
theorem dX11_pointBy_0 : decode cX11_pointBy 0 = .ok (.aload_n 0, 1) := by decide +kernel
theorem dX11_pointBy_1 : decode cX11_pointBy 1 = .ok (.aload_n 0, 1) := by decide +kernel
theorem dX11_pointBy_2 : decode cX11_pointBy 2 = .ok (.iload_n 1, 1) := by decide +kernel
theorem dX11_pointBy_3 : decode cX11_pointBy 3 = .ok (.iconst 1, 1) := by decide +kernel
theorem dX11_pointBy_4 : decode cX11_pointBy 4 = .ok (.invokevirtual 102, 3) := by decide +kernel
theorem dX11_pointBy_7 : decode cX11_pointBy 7 = .ok (.aload_n 0, 1) := by decide +kernel
theorem dX11_pointBy_8 : decode cX11_pointBy 8 = .ok (.iload_n 1, 1) := by decide +kernel
theorem dX11_pointBy_9 : decode cX11_pointBy 9 = .ok (.iconst 2, 1) := by decide +kernel
theorem dX11_pointBy_10 : decode cX11_pointBy 10 = .ok (.invokevirtual 102, 3) := by decide +kernel
theorem dX11_pointBy_13 : decode cX11_pointBy 13 = .ok (.invokevirtual 141, 3) := by decide +kernel
theorem dX11_pointBy_16 : decode cX11_pointBy 16 = .ok (.ireturn, 1) := by decide +kernel
theorem dX11_noteChoice_0 : decode cX11_noteChoice 0 = .ok (.aload_n 0, 1) := by decide +kernel
theorem dX11_noteChoice_1 : decode cX11_noteChoice 1 = .ok (.getfield 39, 3) := by decide +kernel
theorem dX11_noteChoice_4 : decode cX11_noteChoice 4 = .ok (.iload_n 1, 1) := by decide +kernel
theorem dX11_noteChoice_5 : decode cX11_noteChoice 5 = .ok (.iaload, 1) := by decide +kernel
theorem dX11_noteChoice_6 : decode cX11_noteChoice 6 = .ok (.ifCond .ne 7, 3) := by decide +kernel
theorem dX11_noteChoice_9 : decode cX11_noteChoice 9 = .ok (.iconst 1, 1) := by decide +kernel
theorem dX11_noteChoice_10 : decode cX11_noteChoice 10 = .ok (.goto 4, 3) := by decide +kernel
theorem dX11_noteChoice_13 : decode cX11_noteChoice 13 = .ok (.iconst 0, 1) := by decide +kernel
theorem dX11_noteChoice_14 : decode cX11_noteChoice 14 = .ok (.istore_n 3, 1) := by decide +kernel
theorem dX11_noteChoice_15 : decode cX11_noteChoice 15 = .ok (.iload_n 3, 1) := by decide +kernel
theorem dX11_noteChoice_16 : decode cX11_noteChoice 16 = .ok (.ifCond .eq 10, 3) := by decide +kernel
theorem dX11_noteChoice_19 : decode cX11_noteChoice 19 = .ok (.aload_n 0, 1) := by decide +kernel
theorem dX11_noteChoice_20 : decode cX11_noteChoice 20 = .ok (.getfield 36, 3) := by decide +kernel
theorem dX11_noteChoice_23 : decode cX11_noteChoice 23 = .ok (.iload_n 1, 1) := by decide +kernel
theorem dX11_noteChoice_24 : decode cX11_noteChoice 24 = .ok (.iload_n 2, 1) := by decide +kernel
theorem dX11_noteChoice_25 : decode cX11_noteChoice 25 = .ok (.iastore, 1) := by decide +kernel
theorem dX11_noteChoice_26 : decode cX11_noteChoice 26 = .ok (.iload_n 3, 1) := by decide +kernel
theorem dX11_noteChoice_27 : decode cX11_noteChoice 27 = .ok (.ifCond .ne 23, 3) := by decide +kernel
theorem dX11_noteChoice_30 : decode cX11_noteChoice 30 = .ok (.aload_n 0, 1) := by decide +kernel
theorem dX11_noteChoice_31 : decode cX11_noteChoice 31 = .ok (.iload_n 2, 1) := by decide +kernel
theorem dX11_noteChoice_32 : decode cX11_noteChoice 32 = .ok (.iconst 0, 1) := by decide +kernel
theorem dX11_noteChoice_33 : decode cX11_noteChoice 33 = .ok (.invokevirtual 102, 3) := by decide +kernel
theorem dX11_noteChoice_36 : decode cX11_noteChoice 36 = .ok (.aload_n 0, 1) := by decide +kernel
theorem dX11_noteChoice_37 : decode cX11_noteChoice 37 = .ok (.aload_n 0, 1) := by decide +kernel
theorem dX11_noteChoice_38 : decode cX11_noteChoice 38 = .ok (.getfield 42, 3) := by decide +kernel
theorem dX11_noteChoice_41 : decode cX11_noteChoice 41 = .ok (.iload_n 1, 1) := by decide +kernel
theorem dX11_noteChoice_42 : decode cX11_noteChoice 42 = .ok (.iaload, 1) := by decide +kernel
theorem dX11_noteChoice_43 : decode cX11_noteChoice 43 = .ok (.iconst 0, 1) := by decide +kernel
theorem dX11_noteChoice_44 : decode cX11_noteChoice 44 = .ok (.invokevirtual 102, 3) := by decide +kernel
theorem dX11_noteChoice_47 : decode cX11_noteChoice 47 = .ok (.if_icmp .ge 10, 3) := by decide +kernel
theorem dX11_noteChoice_50 : decode cX11_noteChoice 50 = .ok (.aload_n 0, 1) := by decide +kernel
theorem dX11_noteChoice_51 : decode cX11_noteChoice 51 = .ok (.getfield 42, 3) := by decide +kernel
theorem dX11_noteChoice_54 : decode cX11_noteChoice 54 = .ok (.iload_n 1, 1) := by decide +kernel
theorem dX11_noteChoice_55 : decode cX11_noteChoice 55 = .ok (.iload_n 2, 1) := by decide +kernel
theorem dX11_noteChoice_56 : decode cX11_noteChoice 56 = .ok (.iastore, 1) := by decide +kernel
theorem dX11_noteChoice_57 : decode cX11_noteChoice 57 = .ok (.aload_n 0, 1) := by decide +kernel
theorem dX11_noteChoice_58 : decode cX11_noteChoice 58 = .ok (.getfield 39, 3) := by decide +kernel
theorem dX11_noteChoice_61 : decode cX11_noteChoice 61 = .ok (.iload_n 1, 1) := by decide +kernel
theorem dX11_noteChoice_62 : decode cX11_noteChoice 62 = .ok (.dup2, 1) := by decide +kernel
theorem dX11_noteChoice_63 : decode cX11_noteChoice 63 = .ok (.iaload, 1) := by decide +kernel
theorem dX11_noteChoice_64 : decode cX11_noteChoice 64 = .ok (.iconst 1, 1) := by decide +kernel
theorem dX11_noteChoice_65 : decode cX11_noteChoice 65 = .ok (.iadd, 1) := by decide +kernel
theorem dX11_noteChoice_66 : decode cX11_noteChoice 66 = .ok (.iastore, 1) := by decide +kernel
theorem dX11_noteChoice_67 : decode cX11_noteChoice 67 = .ok (.return_, 1) := by decide +kernel
theorem dX11_layAll_0 : decode cX11_layAll 0 = .ok (.aload_n 0, 1) := by decide +kernel
theorem dX11_layAll_1 : decode cX11_layAll 1 = .ok (.invokevirtual 144, 3) := by decide +kernel
theorem dX11_layAll_4 : decode cX11_layAll 4 = .ok (.iconst 0, 1) := by decide +kernel
theorem dX11_layAll_5 : decode cX11_layAll 5 = .ok (.istore_n 1, 1) := by decide +kernel
theorem dX11_layAll_6 : decode cX11_layAll 6 = .ok (.iload_n 1, 1) := by decide +kernel
theorem dX11_layAll_7 : decode cX11_layAll 7 = .ok (.aload_n 0, 1) := by decide +kernel
theorem dX11_layAll_8 : decode cX11_layAll 8 = .ok (.invokevirtual 91, 3) := by decide +kernel
theorem dX11_layAll_11 : decode cX11_layAll 11 = .ok (.if_icmp .ge 34, 3) := by decide +kernel
theorem dX11_layAll_14 : decode cX11_layAll 14 = .ok (.aload_n 0, 1) := by decide +kernel
theorem dX11_layAll_15 : decode cX11_layAll 15 = .ok (.iload_n 1, 1) := by decide +kernel
theorem dX11_layAll_16 : decode cX11_layAll 16 = .ok (.invokevirtual 147, 3) := by decide +kernel
theorem dX11_layAll_19 : decode cX11_layAll 19 = .ok (.istore_n 2, 1) := by decide +kernel
theorem dX11_layAll_20 : decode cX11_layAll 20 = .ok (.iload_n 2, 1) := by decide +kernel
theorem dX11_layAll_21 : decode cX11_layAll 21 = .ok (.iconst (-1), 1) := by decide +kernel
theorem dX11_layAll_22 : decode cX11_layAll 22 = .ok (.if_icmp .eq 17, 3) := by decide +kernel
theorem dX11_layAll_25 : decode cX11_layAll 25 = .ok (.aload_n 0, 1) := by decide +kernel
theorem dX11_layAll_26 : decode cX11_layAll 26 = .ok (.iload_n 1, 1) := by decide +kernel
theorem dX11_layAll_27 : decode cX11_layAll 27 = .ok (.invokevirtual 122, 3) := by decide +kernel
theorem dX11_layAll_30 : decode cX11_layAll 30 = .ok (.ifCond .eq 9, 3) := by decide +kernel
theorem dX11_layAll_33 : decode cX11_layAll 33 = .ok (.aload_n 0, 1) := by decide +kernel
theorem dX11_layAll_34 : decode cX11_layAll 34 = .ok (.iload_n 2, 1) := by decide +kernel
theorem dX11_layAll_35 : decode cX11_layAll 35 = .ok (.iload_n 1, 1) := by decide +kernel
theorem dX11_layAll_36 : decode cX11_layAll 36 = .ok (.invokevirtual 150, 3) := by decide +kernel
theorem dX11_layAll_39 : decode cX11_layAll 39 = .ok (.iinc 1 1, 3) := by decide +kernel
theorem dX11_layAll_42 : decode cX11_layAll 42 = .ok (.goto (-36), 3) := by decide +kernel
theorem dX11_layAll_45 : decode cX11_layAll 45 = .ok (.return_, 1) := by decide +kernel
theorem dX11_isPoint_0 : decode cX11_isPoint 0 = .ok (.iload_n 1, 1) := by decide +kernel
theorem dX11_isPoint_1 : decode cX11_isPoint 1 = .ok (.i2l, 1) := by decide +kernel
theorem dX11_isPoint_2 : decode cX11_isPoint 2 = .ok (.lconst 0, 1) := by decide +kernel
theorem dX11_isPoint_3 : decode cX11_isPoint 3 = .ok (.aload_n 0, 1) := by decide +kernel
theorem dX11_isPoint_4 : decode cX11_isPoint 4 = .ok (.getfield 130, 3) := by decide +kernel
theorem dX11_isPoint_7 : decode cX11_isPoint 7 = .ok (.iconst 1, 1) := by decide +kernel
theorem dX11_isPoint_8 : decode cX11_isPoint 8 = .ok (.isub, 1) := by decide +kernel
theorem dX11_isPoint_9 : decode cX11_isPoint 9 = .ok (.i2l, 1) := by decide +kernel
theorem dX11_isPoint_10 : decode cX11_isPoint 10 = .ok (.invokestatic 87, 3) := by decide +kernel
theorem dX11_isPoint_13 : decode cX11_isPoint 13 = .ok (.ireturn, 1) := by decide +kernel
theorem dX11_valueOf_0 : decode cX11_valueOf 0 = .ok (.iload_n 2, 1) := by decide +kernel
theorem dX11_valueOf_1 : decode cX11_valueOf 1 = .ok (.aload_n 0, 1) := by decide +kernel
theorem dX11_valueOf_2 : decode cX11_valueOf 2 = .ok (.getfield 30, 3) := by decide +kernel
theorem dX11_valueOf_5 : decode cX11_valueOf 5 = .ok (.iload_n 1, 1) := by decide +kernel
theorem dX11_valueOf_6 : decode cX11_valueOf 6 = .ok (.iaload, 1) := by decide +kernel
theorem dX11_valueOf_7 : decode cX11_valueOf 7 = .ok (.imul, 1) := by decide +kernel
theorem dX11_valueOf_8 : decode cX11_valueOf 8 = .ok (.iload_n 3, 1) := by decide +kernel
theorem dX11_valueOf_9 : decode cX11_valueOf 9 = .ok (.aload_n 0, 1) := by decide +kernel
theorem dX11_valueOf_10 : decode cX11_valueOf 10 = .ok (.getfield 33, 3) := by decide +kernel
theorem dX11_valueOf_13 : decode cX11_valueOf 13 = .ok (.iload_n 1, 1) := by decide +kernel
theorem dX11_valueOf_14 : decode cX11_valueOf 14 = .ok (.iaload, 1) := by decide +kernel
theorem dX11_valueOf_15 : decode cX11_valueOf 15 = .ok (.imul, 1) := by decide +kernel
theorem dX11_valueOf_16 : decode cX11_valueOf 16 = .ok (.iadd, 1) := by decide +kernel
theorem dX11_valueOf_17 : decode cX11_valueOf 17 = .ok (.ireturn, 1) := by decide +kernel
theorem dX11_bestBy_0 : decode cX11_bestBy 0 = .ok (.iconst (-1), 1) := by decide +kernel
theorem dX11_bestBy_1 : decode cX11_bestBy 1 = .ok (.istore_n 3, 1) := by decide +kernel
theorem dX11_bestBy_2 : decode cX11_bestBy 2 = .ok (.iconst 0, 1) := by decide +kernel
theorem dX11_bestBy_3 : decode cX11_bestBy 3 = .ok (.istore 4, 2) := by decide +kernel
theorem dX11_bestBy_5 : decode cX11_bestBy 5 = .ok (.iload 4, 2) := by decide +kernel
theorem dX11_bestBy_7 : decode cX11_bestBy 7 = .ok (.aload_n 0, 1) := by decide +kernel
theorem dX11_bestBy_8 : decode cX11_bestBy 8 = .ok (.getfield 130, 3) := by decide +kernel
theorem dX11_bestBy_11 : decode cX11_bestBy 11 = .ok (.if_icmp .ge 35, 3) := by decide +kernel
theorem dX11_bestBy_14 : decode cX11_bestBy 14 = .ok (.iload_n 3, 1) := by decide +kernel
theorem dX11_bestBy_15 : decode cX11_bestBy 15 = .ok (.iconst (-1), 1) := by decide +kernel
theorem dX11_bestBy_16 : decode cX11_bestBy 16 = .ok (.if_icmp .eq 21, 3) := by decide +kernel
theorem dX11_bestBy_19 : decode cX11_bestBy 19 = .ok (.aload_n 0, 1) := by decide +kernel
theorem dX11_bestBy_20 : decode cX11_bestBy 20 = .ok (.iload 4, 2) := by decide +kernel
theorem dX11_bestBy_22 : decode cX11_bestBy 22 = .ok (.iload_n 1, 1) := by decide +kernel
theorem dX11_bestBy_23 : decode cX11_bestBy 23 = .ok (.iload_n 2, 1) := by decide +kernel
theorem dX11_bestBy_24 : decode cX11_bestBy 24 = .ok (.invokevirtual 154, 3) := by decide +kernel
theorem dX11_bestBy_27 : decode cX11_bestBy 27 = .ok (.aload_n 0, 1) := by decide +kernel
theorem dX11_bestBy_28 : decode cX11_bestBy 28 = .ok (.iload_n 3, 1) := by decide +kernel
theorem dX11_bestBy_29 : decode cX11_bestBy 29 = .ok (.iload_n 1, 1) := by decide +kernel
theorem dX11_bestBy_30 : decode cX11_bestBy 30 = .ok (.iload_n 2, 1) := by decide +kernel
theorem dX11_bestBy_31 : decode cX11_bestBy 31 = .ok (.invokevirtual 154, 3) := by decide +kernel
theorem dX11_bestBy_34 : decode cX11_bestBy 34 = .ok (.if_icmp .le 6, 3) := by decide +kernel
theorem dX11_bestBy_37 : decode cX11_bestBy 37 = .ok (.iload 4, 2) := by decide +kernel
theorem dX11_bestBy_39 : decode cX11_bestBy 39 = .ok (.istore_n 3, 1) := by decide +kernel
theorem dX11_bestBy_40 : decode cX11_bestBy 40 = .ok (.iinc 4 1, 3) := by decide +kernel
theorem dX11_bestBy_43 : decode cX11_bestBy 43 = .ok (.goto (-38), 3) := by decide +kernel
theorem dX11_bestBy_46 : decode cX11_bestBy 46 = .ok (.iload_n 3, 1) := by decide +kernel
theorem dX11_bestBy_47 : decode cX11_bestBy 47 = .ok (.ireturn, 1) := by decide +kernel
theorem dX11_doesBeat_0 : decode cX11_doesBeat 0 = .ok (.aload_n 0, 1) := by decide +kernel
theorem dX11_doesBeat_1 : decode cX11_doesBeat 1 = .ok (.getfield 30, 3) := by decide +kernel
theorem dX11_doesBeat_4 : decode cX11_doesBeat 4 = .ok (.iload_n 1, 1) := by decide +kernel
theorem dX11_doesBeat_5 : decode cX11_doesBeat 5 = .ok (.iaload, 1) := by decide +kernel
theorem dX11_doesBeat_6 : decode cX11_doesBeat 6 = .ok (.iload_n 2, 1) := by decide +kernel
theorem dX11_doesBeat_7 : decode cX11_doesBeat 7 = .ok (.if_icmp .lt 37, 3) := by decide +kernel
theorem dX11_doesBeat_10 : decode cX11_doesBeat 10 = .ok (.aload_n 0, 1) := by decide +kernel
theorem dX11_doesBeat_11 : decode cX11_doesBeat 11 = .ok (.getfield 33, 3) := by decide +kernel
theorem dX11_doesBeat_14 : decode cX11_doesBeat 14 = .ok (.iload_n 1, 1) := by decide +kernel
theorem dX11_doesBeat_15 : decode cX11_doesBeat 15 = .ok (.iaload, 1) := by decide +kernel
theorem dX11_doesBeat_16 : decode cX11_doesBeat 16 = .ok (.iload_n 3, 1) := by decide +kernel
theorem dX11_doesBeat_17 : decode cX11_doesBeat 17 = .ok (.if_icmp .lt 27, 3) := by decide +kernel
theorem dX11_doesBeat_20 : decode cX11_doesBeat 20 = .ok (.aload_n 0, 1) := by decide +kernel
theorem dX11_doesBeat_21 : decode cX11_doesBeat 21 = .ok (.getfield 30, 3) := by decide +kernel
theorem dX11_doesBeat_24 : decode cX11_doesBeat 24 = .ok (.iload_n 1, 1) := by decide +kernel
theorem dX11_doesBeat_25 : decode cX11_doesBeat 25 = .ok (.iaload, 1) := by decide +kernel
theorem dX11_doesBeat_26 : decode cX11_doesBeat 26 = .ok (.iload_n 2, 1) := by decide +kernel
theorem dX11_doesBeat_27 : decode cX11_doesBeat 27 = .ok (.if_icmp .gt 13, 3) := by decide +kernel
theorem dX11_doesBeat_30 : decode cX11_doesBeat 30 = .ok (.aload_n 0, 1) := by decide +kernel
theorem dX11_doesBeat_31 : decode cX11_doesBeat 31 = .ok (.getfield 33, 3) := by decide +kernel
theorem dX11_doesBeat_34 : decode cX11_doesBeat 34 = .ok (.iload_n 1, 1) := by decide +kernel
theorem dX11_doesBeat_35 : decode cX11_doesBeat 35 = .ok (.iaload, 1) := by decide +kernel
theorem dX11_doesBeat_36 : decode cX11_doesBeat 36 = .ok (.iload_n 3, 1) := by decide +kernel
theorem dX11_doesBeat_37 : decode cX11_doesBeat 37 = .ok (.if_icmp .le 7, 3) := by decide +kernel
theorem dX11_doesBeat_40 : decode cX11_doesBeat 40 = .ok (.iconst 1, 1) := by decide +kernel
theorem dX11_doesBeat_41 : decode cX11_doesBeat 41 = .ok (.goto 4, 3) := by decide +kernel
theorem dX11_doesBeat_44 : decode cX11_doesBeat 44 = .ok (.iconst 0, 1) := by decide +kernel
theorem dX11_doesBeat_45 : decode cX11_doesBeat 45 = .ok (.ireturn, 1) := by decide +kernel
theorem dX11_areaNow_0 : decode cX11_areaNow 0 = .ok (.iconst 0, 1) := by decide +kernel
theorem dX11_areaNow_1 : decode cX11_areaNow 1 = .ok (.istore_n 1, 1) := by decide +kernel
theorem dX11_areaNow_2 : decode cX11_areaNow 2 = .ok (.iconst 0, 1) := by decide +kernel
theorem dX11_areaNow_3 : decode cX11_areaNow 3 = .ok (.istore_n 2, 1) := by decide +kernel
theorem dX11_areaNow_4 : decode cX11_areaNow 4 = .ok (.iload_n 2, 1) := by decide +kernel
theorem dX11_areaNow_5 : decode cX11_areaNow 5 = .ok (.aload_n 0, 1) := by decide +kernel
theorem dX11_areaNow_6 : decode cX11_areaNow 6 = .ok (.getfield 130, 3) := by decide +kernel
theorem dX11_areaNow_9 : decode cX11_areaNow 9 = .ok (.if_icmp .ge 42, 3) := by decide +kernel
theorem dX11_areaNow_12 : decode cX11_areaNow 12 = .ok (.iload_n 1, 1) := by decide +kernel
theorem dX11_areaNow_13 : decode cX11_areaNow 13 = .ok (.aload_n 0, 1) := by decide +kernel
theorem dX11_areaNow_14 : decode cX11_areaNow 14 = .ok (.getfield 30, 3) := by decide +kernel
theorem dX11_areaNow_17 : decode cX11_areaNow 17 = .ok (.iload_n 2, 1) := by decide +kernel
theorem dX11_areaNow_18 : decode cX11_areaNow 18 = .ok (.iaload, 1) := by decide +kernel
theorem dX11_areaNow_19 : decode cX11_areaNow 19 = .ok (.iload_n 2, 1) := by decide +kernel
theorem dX11_areaNow_20 : decode cX11_areaNow 20 = .ok (.ifCond .ne 7, 3) := by decide +kernel
theorem dX11_areaNow_23 : decode cX11_areaNow 23 = .ok (.iconst 0, 1) := by decide +kernel
theorem dX11_areaNow_24 : decode cX11_areaNow 24 = .ok (.goto 11, 3) := by decide +kernel
theorem dX11_areaNow_27 : decode cX11_areaNow 27 = .ok (.aload_n 0, 1) := by decide +kernel
theorem dX11_areaNow_28 : decode cX11_areaNow 28 = .ok (.getfield 30, 3) := by decide +kernel
theorem dX11_areaNow_31 : decode cX11_areaNow 31 = .ok (.iload_n 2, 1) := by decide +kernel
theorem dX11_areaNow_32 : decode cX11_areaNow 32 = .ok (.iconst 1, 1) := by decide +kernel
theorem dX11_areaNow_33 : decode cX11_areaNow 33 = .ok (.isub, 1) := by decide +kernel
theorem dX11_areaNow_34 : decode cX11_areaNow 34 = .ok (.iaload, 1) := by decide +kernel
theorem dX11_areaNow_35 : decode cX11_areaNow 35 = .ok (.isub, 1) := by decide +kernel
theorem dX11_areaNow_36 : decode cX11_areaNow 36 = .ok (.aload_n 0, 1) := by decide +kernel
theorem dX11_areaNow_37 : decode cX11_areaNow 37 = .ok (.getfield 33, 3) := by decide +kernel
theorem dX11_areaNow_40 : decode cX11_areaNow 40 = .ok (.iload_n 2, 1) := by decide +kernel
theorem dX11_areaNow_41 : decode cX11_areaNow 41 = .ok (.iaload, 1) := by decide +kernel
theorem dX11_areaNow_42 : decode cX11_areaNow 42 = .ok (.imul, 1) := by decide +kernel
theorem dX11_areaNow_43 : decode cX11_areaNow 43 = .ok (.iadd, 1) := by decide +kernel
theorem dX11_areaNow_44 : decode cX11_areaNow 44 = .ok (.istore_n 1, 1) := by decide +kernel
theorem dX11_areaNow_45 : decode cX11_areaNow 45 = .ok (.iinc 2 1, 3) := by decide +kernel
theorem dX11_areaNow_48 : decode cX11_areaNow 48 = .ok (.goto (-44), 3) := by decide +kernel
theorem dX11_areaNow_51 : decode cX11_areaNow 51 = .ok (.iload_n 1, 1) := by decide +kernel
theorem dX11_areaNow_52 : decode cX11_areaNow 52 = .ok (.ireturn, 1) := by decide +kernel
theorem dX11_isAbove_0 : decode cX11_isAbove 0 = .ok (.aload_n 0, 1) := by decide +kernel
theorem dX11_isAbove_1 : decode cX11_isAbove 1 = .ok (.getfield 33, 3) := by decide +kernel
theorem dX11_isAbove_4 : decode cX11_isAbove 4 = .ok (.iload_n 2, 1) := by decide +kernel
theorem dX11_isAbove_5 : decode cX11_isAbove 5 = .ok (.iaload, 1) := by decide +kernel
theorem dX11_isAbove_6 : decode cX11_isAbove 6 = .ok (.aload_n 0, 1) := by decide +kernel
theorem dX11_isAbove_7 : decode cX11_isAbove 7 = .ok (.getfield 33, 3) := by decide +kernel
theorem dX11_isAbove_10 : decode cX11_isAbove 10 = .ok (.iload_n 3, 1) := by decide +kernel
theorem dX11_isAbove_11 : decode cX11_isAbove 11 = .ok (.iaload, 1) := by decide +kernel
theorem dX11_isAbove_12 : decode cX11_isAbove 12 = .ok (.isub, 1) := by decide +kernel
theorem dX11_isAbove_13 : decode cX11_isAbove 13 = .ok (.istore 4, 2) := by decide +kernel
theorem dX11_isAbove_15 : decode cX11_isAbove 15 = .ok (.aload_n 0, 1) := by decide +kernel
theorem dX11_isAbove_16 : decode cX11_isAbove 16 = .ok (.getfield 30, 3) := by decide +kernel
theorem dX11_isAbove_19 : decode cX11_isAbove 19 = .ok (.iload_n 3, 1) := by decide +kernel
theorem dX11_isAbove_20 : decode cX11_isAbove 20 = .ok (.iaload, 1) := by decide +kernel
theorem dX11_isAbove_21 : decode cX11_isAbove 21 = .ok (.aload_n 0, 1) := by decide +kernel
theorem dX11_isAbove_22 : decode cX11_isAbove 22 = .ok (.getfield 30, 3) := by decide +kernel
theorem dX11_isAbove_25 : decode cX11_isAbove 25 = .ok (.iload_n 2, 1) := by decide +kernel
theorem dX11_isAbove_26 : decode cX11_isAbove 26 = .ok (.iaload, 1) := by decide +kernel
theorem dX11_isAbove_27 : decode cX11_isAbove 27 = .ok (.isub, 1) := by decide +kernel
theorem dX11_isAbove_28 : decode cX11_isAbove 28 = .ok (.istore 5, 2) := by decide +kernel
theorem dX11_isAbove_30 : decode cX11_isAbove 30 = .ok (.aload_n 0, 1) := by decide +kernel
theorem dX11_isAbove_31 : decode cX11_isAbove 31 = .ok (.iload_n 1, 1) := by decide +kernel
theorem dX11_isAbove_32 : decode cX11_isAbove 32 = .ok (.iload 4, 2) := by decide +kernel
theorem dX11_isAbove_34 : decode cX11_isAbove 34 = .ok (.iload 5, 2) := by decide +kernel
theorem dX11_isAbove_36 : decode cX11_isAbove 36 = .ok (.invokevirtual 154, 3) := by decide +kernel
theorem dX11_isAbove_39 : decode cX11_isAbove 39 = .ok (.aload_n 0, 1) := by decide +kernel
theorem dX11_isAbove_40 : decode cX11_isAbove 40 = .ok (.iload_n 2, 1) := by decide +kernel
theorem dX11_isAbove_41 : decode cX11_isAbove 41 = .ok (.iload 4, 2) := by decide +kernel
theorem dX11_isAbove_43 : decode cX11_isAbove 43 = .ok (.iload 5, 2) := by decide +kernel
theorem dX11_isAbove_45 : decode cX11_isAbove 45 = .ok (.invokevirtual 154, 3) := by decide +kernel
theorem dX11_isAbove_48 : decode cX11_isAbove 48 = .ok (.if_icmp .le 7, 3) := by decide +kernel
theorem dX11_isAbove_51 : decode cX11_isAbove 51 = .ok (.iconst 1, 1) := by decide +kernel
theorem dX11_isAbove_52 : decode cX11_isAbove 52 = .ok (.goto 4, 3) := by decide +kernel
theorem dX11_isAbove_55 : decode cX11_isAbove 55 = .ok (.iconst 0, 1) := by decide +kernel
theorem dX11_isAbove_56 : decode cX11_isAbove 56 = .ok (.ireturn, 1) := by decide +kernel
theorem dX11_isOn_0 : decode cX11_isOn 0 = .ok (.aload_n 0, 1) := by decide +kernel
theorem dX11_isOn_1 : decode cX11_isOn 1 = .ok (.getfield 33, 3) := by decide +kernel
theorem dX11_isOn_4 : decode cX11_isOn 4 = .ok (.iload_n 2, 1) := by decide +kernel
theorem dX11_isOn_5 : decode cX11_isOn 5 = .ok (.iaload, 1) := by decide +kernel
theorem dX11_isOn_6 : decode cX11_isOn 6 = .ok (.aload_n 0, 1) := by decide +kernel
theorem dX11_isOn_7 : decode cX11_isOn 7 = .ok (.getfield 33, 3) := by decide +kernel
theorem dX11_isOn_10 : decode cX11_isOn 10 = .ok (.iload_n 3, 1) := by decide +kernel
theorem dX11_isOn_11 : decode cX11_isOn 11 = .ok (.iaload, 1) := by decide +kernel
theorem dX11_isOn_12 : decode cX11_isOn 12 = .ok (.isub, 1) := by decide +kernel
theorem dX11_isOn_13 : decode cX11_isOn 13 = .ok (.istore 4, 2) := by decide +kernel
theorem dX11_isOn_15 : decode cX11_isOn 15 = .ok (.aload_n 0, 1) := by decide +kernel
theorem dX11_isOn_16 : decode cX11_isOn 16 = .ok (.getfield 30, 3) := by decide +kernel
theorem dX11_isOn_19 : decode cX11_isOn 19 = .ok (.iload_n 3, 1) := by decide +kernel
theorem dX11_isOn_20 : decode cX11_isOn 20 = .ok (.iaload, 1) := by decide +kernel
theorem dX11_isOn_21 : decode cX11_isOn 21 = .ok (.aload_n 0, 1) := by decide +kernel
theorem dX11_isOn_22 : decode cX11_isOn 22 = .ok (.getfield 30, 3) := by decide +kernel
theorem dX11_isOn_25 : decode cX11_isOn 25 = .ok (.iload_n 2, 1) := by decide +kernel
theorem dX11_isOn_26 : decode cX11_isOn 26 = .ok (.iaload, 1) := by decide +kernel
theorem dX11_isOn_27 : decode cX11_isOn 27 = .ok (.isub, 1) := by decide +kernel
theorem dX11_isOn_28 : decode cX11_isOn 28 = .ok (.istore 5, 2) := by decide +kernel
theorem dX11_isOn_30 : decode cX11_isOn 30 = .ok (.aload_n 0, 1) := by decide +kernel
theorem dX11_isOn_31 : decode cX11_isOn 31 = .ok (.iload_n 1, 1) := by decide +kernel
theorem dX11_isOn_32 : decode cX11_isOn 32 = .ok (.iload 4, 2) := by decide +kernel
theorem dX11_isOn_34 : decode cX11_isOn 34 = .ok (.iload 5, 2) := by decide +kernel
theorem dX11_isOn_36 : decode cX11_isOn 36 = .ok (.invokevirtual 154, 3) := by decide +kernel
theorem dX11_isOn_39 : decode cX11_isOn 39 = .ok (.aload_n 0, 1) := by decide +kernel
theorem dX11_isOn_40 : decode cX11_isOn 40 = .ok (.iload_n 2, 1) := by decide +kernel
theorem dX11_isOn_41 : decode cX11_isOn 41 = .ok (.iload 4, 2) := by decide +kernel
theorem dX11_isOn_43 : decode cX11_isOn 43 = .ok (.iload 5, 2) := by decide +kernel
theorem dX11_isOn_45 : decode cX11_isOn 45 = .ok (.invokevirtual 154, 3) := by decide +kernel
theorem dX11_isOn_48 : decode cX11_isOn 48 = .ok (.if_icmp .ne 7, 3) := by decide +kernel
theorem dX11_isOn_51 : decode cX11_isOn 51 = .ok (.iconst 1, 1) := by decide +kernel
theorem dX11_isOn_52 : decode cX11_isOn 52 = .ok (.goto 4, 3) := by decide +kernel
theorem dX11_isOn_55 : decode cX11_isOn 55 = .ok (.iconst 0, 1) := by decide +kernel
theorem dX11_isOn_56 : decode cX11_isOn 56 = .ok (.ireturn, 1) := by decide +kernel
theorem dX11_layCorners_0 : decode cX11_layCorners 0 = .ok (.aload_n 0, 1) := by decide +kernel
theorem dX11_layCorners_1 : decode cX11_layCorners 1 = .ok (.iconst 0, 1) := by decide +kernel
theorem dX11_layCorners_2 : decode cX11_layCorners 2 = .ok (.putfield 158, 3) := by decide +kernel
theorem dX11_layCorners_5 : decode cX11_layCorners 5 = .ok (.iconst 0, 1) := by decide +kernel
theorem dX11_layCorners_6 : decode cX11_layCorners 6 = .ok (.istore_n 1, 1) := by decide +kernel
theorem dX11_layCorners_7 : decode cX11_layCorners 7 = .ok (.iload_n 1, 1) := by decide +kernel
theorem dX11_layCorners_8 : decode cX11_layCorners 8 = .ok (.aload_n 0, 1) := by decide +kernel
theorem dX11_layCorners_9 : decode cX11_layCorners 9 = .ok (.getfield 130, 3) := by decide +kernel
theorem dX11_layCorners_12 : decode cX11_layCorners 12 = .ok (.if_icmp .ge 80, 3) := by decide +kernel
theorem dX11_layCorners_15 : decode cX11_layCorners 15 = .ok (.aload_n 0, 1) := by decide +kernel
theorem dX11_layCorners_16 : decode cX11_layCorners 16 = .ok (.getfield 158, 3) := by decide +kernel
theorem dX11_layCorners_19 : decode cX11_layCorners 19 = .ok (.iconst 1, 1) := by decide +kernel
theorem dX11_layCorners_20 : decode cX11_layCorners 20 = .ok (.if_icmp .le 46, 3) := by decide +kernel
theorem dX11_layCorners_23 : decode cX11_layCorners 23 = .ok (.aload_n 0, 1) := by decide +kernel
theorem dX11_layCorners_24 : decode cX11_layCorners 24 = .ok (.aload_n 0, 1) := by decide +kernel
theorem dX11_layCorners_25 : decode cX11_layCorners 25 = .ok (.getfield 48, 3) := by decide +kernel
theorem dX11_layCorners_28 : decode cX11_layCorners 28 = .ok (.aload_n 0, 1) := by decide +kernel
theorem dX11_layCorners_29 : decode cX11_layCorners 29 = .ok (.getfield 158, 3) := by decide +kernel
theorem dX11_layCorners_32 : decode cX11_layCorners 32 = .ok (.iconst 1, 1) := by decide +kernel
theorem dX11_layCorners_33 : decode cX11_layCorners 33 = .ok (.isub, 1) := by decide +kernel
theorem dX11_layCorners_34 : decode cX11_layCorners 34 = .ok (.iaload, 1) := by decide +kernel
theorem dX11_layCorners_35 : decode cX11_layCorners 35 = .ok (.aload_n 0, 1) := by decide +kernel
theorem dX11_layCorners_36 : decode cX11_layCorners 36 = .ok (.getfield 48, 3) := by decide +kernel
theorem dX11_layCorners_39 : decode cX11_layCorners 39 = .ok (.aload_n 0, 1) := by decide +kernel
theorem dX11_layCorners_40 : decode cX11_layCorners 40 = .ok (.getfield 158, 3) := by decide +kernel
theorem dX11_layCorners_43 : decode cX11_layCorners 43 = .ok (.iconst 2, 1) := by decide +kernel
theorem dX11_layCorners_44 : decode cX11_layCorners 44 = .ok (.isub, 1) := by decide +kernel
theorem dX11_layCorners_45 : decode cX11_layCorners 45 = .ok (.iaload, 1) := by decide +kernel
theorem dX11_layCorners_46 : decode cX11_layCorners 46 = .ok (.iload_n 1, 1) := by decide +kernel
theorem dX11_layCorners_47 : decode cX11_layCorners 47 = .ok (.invokevirtual 161, 3) := by decide +kernel
theorem dX11_layCorners_50 : decode cX11_layCorners 50 = .ok (.ifCond .ne 16, 3) := by decide +kernel
theorem dX11_layCorners_53 : decode cX11_layCorners 53 = .ok (.aload_n 0, 1) := by decide +kernel
theorem dX11_layCorners_54 : decode cX11_layCorners 54 = .ok (.dup, 1) := by decide +kernel
theorem dX11_layCorners_55 : decode cX11_layCorners 55 = .ok (.getfield 158, 3) := by decide +kernel
theorem dX11_layCorners_58 : decode cX11_layCorners 58 = .ok (.iconst 1, 1) := by decide +kernel
theorem dX11_layCorners_59 : decode cX11_layCorners 59 = .ok (.isub, 1) := by decide +kernel
theorem dX11_layCorners_60 : decode cX11_layCorners 60 = .ok (.putfield 158, 3) := by decide +kernel
theorem dX11_layCorners_63 : decode cX11_layCorners 63 = .ok (.goto (-48), 3) := by decide +kernel
theorem dX11_layCorners_66 : decode cX11_layCorners 66 = .ok (.aload_n 0, 1) := by decide +kernel
theorem dX11_layCorners_67 : decode cX11_layCorners 67 = .ok (.getfield 48, 3) := by decide +kernel
theorem dX11_layCorners_70 : decode cX11_layCorners 70 = .ok (.aload_n 0, 1) := by decide +kernel
theorem dX11_layCorners_71 : decode cX11_layCorners 71 = .ok (.getfield 158, 3) := by decide +kernel
theorem dX11_layCorners_74 : decode cX11_layCorners 74 = .ok (.iload_n 1, 1) := by decide +kernel
theorem dX11_layCorners_75 : decode cX11_layCorners 75 = .ok (.iastore, 1) := by decide +kernel
theorem dX11_layCorners_76 : decode cX11_layCorners 76 = .ok (.aload_n 0, 1) := by decide +kernel
theorem dX11_layCorners_77 : decode cX11_layCorners 77 = .ok (.dup, 1) := by decide +kernel
theorem dX11_layCorners_78 : decode cX11_layCorners 78 = .ok (.getfield 158, 3) := by decide +kernel
theorem dX11_layCorners_81 : decode cX11_layCorners 81 = .ok (.iconst 1, 1) := by decide +kernel
theorem dX11_layCorners_82 : decode cX11_layCorners 82 = .ok (.iadd, 1) := by decide +kernel
theorem dX11_layCorners_83 : decode cX11_layCorners 83 = .ok (.putfield 158, 3) := by decide +kernel
theorem dX11_layCorners_86 : decode cX11_layCorners 86 = .ok (.iinc 1 1, 3) := by decide +kernel
theorem dX11_layCorners_89 : decode cX11_layCorners 89 = .ok (.goto (-82), 3) := by decide +kernel
theorem dX11_layCorners_92 : decode cX11_layCorners 92 = .ok (.return_, 1) := by decide +kernel
theorem dX11_isCorner_0 : decode cX11_isCorner 0 = .ok (.iconst 0, 1) := by decide +kernel
theorem dX11_isCorner_1 : decode cX11_isCorner 1 = .ok (.istore_n 2, 1) := by decide +kernel
theorem dX11_isCorner_2 : decode cX11_isCorner 2 = .ok (.iconst 0, 1) := by decide +kernel
theorem dX11_isCorner_3 : decode cX11_isCorner 3 = .ok (.istore_n 3, 1) := by decide +kernel
theorem dX11_isCorner_4 : decode cX11_isCorner 4 = .ok (.iload_n 3, 1) := by decide +kernel
theorem dX11_isCorner_5 : decode cX11_isCorner 5 = .ok (.aload_n 0, 1) := by decide +kernel
theorem dX11_isCorner_6 : decode cX11_isCorner 6 = .ok (.getfield 158, 3) := by decide +kernel
theorem dX11_isCorner_9 : decode cX11_isCorner 9 = .ok (.if_icmp .ge 29, 3) := by decide +kernel
theorem dX11_isCorner_12 : decode cX11_isCorner 12 = .ok (.iload_n 2, 1) := by decide +kernel
theorem dX11_isCorner_13 : decode cX11_isCorner 13 = .ok (.ifCond .ne 13, 3) := by decide +kernel
theorem dX11_isCorner_16 : decode cX11_isCorner 16 = .ok (.aload_n 0, 1) := by decide +kernel
theorem dX11_isCorner_17 : decode cX11_isCorner 17 = .ok (.getfield 48, 3) := by decide +kernel
theorem dX11_isCorner_20 : decode cX11_isCorner 20 = .ok (.iload_n 3, 1) := by decide +kernel
theorem dX11_isCorner_21 : decode cX11_isCorner 21 = .ok (.iaload, 1) := by decide +kernel
theorem dX11_isCorner_22 : decode cX11_isCorner 22 = .ok (.iload_n 1, 1) := by decide +kernel
theorem dX11_isCorner_23 : decode cX11_isCorner 23 = .ok (.if_icmp .ne 7, 3) := by decide +kernel
theorem dX11_isCorner_26 : decode cX11_isCorner 26 = .ok (.iconst 1, 1) := by decide +kernel
theorem dX11_isCorner_27 : decode cX11_isCorner 27 = .ok (.goto 4, 3) := by decide +kernel
theorem dX11_isCorner_30 : decode cX11_isCorner 30 = .ok (.iconst 0, 1) := by decide +kernel
theorem dX11_isCorner_31 : decode cX11_isCorner 31 = .ok (.istore_n 2, 1) := by decide +kernel
theorem dX11_isCorner_32 : decode cX11_isCorner 32 = .ok (.iinc 3 1, 3) := by decide +kernel
theorem dX11_isCorner_35 : decode cX11_isCorner 35 = .ok (.goto (-31), 3) := by decide +kernel
theorem dX11_isCorner_38 : decode cX11_isCorner 38 = .ok (.iload_n 2, 1) := by decide +kernel
theorem dX11_isCorner_39 : decode cX11_isCorner 39 = .ok (.ireturn, 1) := by decide +kernel
theorem dX11_boxOf_0 : decode cX11_boxOf 0 = .ok (.iconst 0, 1) := by decide +kernel
theorem dX11_boxOf_1 : decode cX11_boxOf 1 = .ok (.istore_n 2, 1) := by decide +kernel
theorem dX11_boxOf_2 : decode cX11_boxOf 2 = .ok (.iload_n 2, 1) := by decide +kernel
theorem dX11_boxOf_3 : decode cX11_boxOf 3 = .ok (.iconst 1, 1) := by decide +kernel
theorem dX11_boxOf_4 : decode cX11_boxOf 4 = .ok (.iadd, 1) := by decide +kernel
theorem dX11_boxOf_5 : decode cX11_boxOf 5 = .ok (.aload_n 0, 1) := by decide +kernel
theorem dX11_boxOf_6 : decode cX11_boxOf 6 = .ok (.getfield 158, 3) := by decide +kernel
theorem dX11_boxOf_9 : decode cX11_boxOf 9 = .ok (.if_icmp .ge 33, 3) := by decide +kernel
theorem dX11_boxOf_12 : decode cX11_boxOf 12 = .ok (.aload_n 0, 1) := by decide +kernel
theorem dX11_boxOf_13 : decode cX11_boxOf 13 = .ok (.getfield 48, 3) := by decide +kernel
theorem dX11_boxOf_16 : decode cX11_boxOf 16 = .ok (.iload_n 2, 1) := by decide +kernel
theorem dX11_boxOf_17 : decode cX11_boxOf 17 = .ok (.iaload, 1) := by decide +kernel
theorem dX11_boxOf_18 : decode cX11_boxOf 18 = .ok (.iload_n 1, 1) := by decide +kernel
theorem dX11_boxOf_19 : decode cX11_boxOf 19 = .ok (.if_icmp .ge 17, 3) := by decide +kernel
theorem dX11_boxOf_22 : decode cX11_boxOf 22 = .ok (.iload_n 1, 1) := by decide +kernel
theorem dX11_boxOf_23 : decode cX11_boxOf 23 = .ok (.aload_n 0, 1) := by decide +kernel
theorem dX11_boxOf_24 : decode cX11_boxOf 24 = .ok (.getfield 48, 3) := by decide +kernel
theorem dX11_boxOf_27 : decode cX11_boxOf 27 = .ok (.iload_n 2, 1) := by decide +kernel
theorem dX11_boxOf_28 : decode cX11_boxOf 28 = .ok (.iconst 1, 1) := by decide +kernel
theorem dX11_boxOf_29 : decode cX11_boxOf 29 = .ok (.iadd, 1) := by decide +kernel
theorem dX11_boxOf_30 : decode cX11_boxOf 30 = .ok (.iaload, 1) := by decide +kernel
theorem dX11_boxOf_31 : decode cX11_boxOf 31 = .ok (.if_icmp .ge 5, 3) := by decide +kernel
theorem dX11_boxOf_34 : decode cX11_boxOf 34 = .ok (.iload_n 2, 1) := by decide +kernel
theorem dX11_boxOf_35 : decode cX11_boxOf 35 = .ok (.ireturn, 1) := by decide +kernel
theorem dX11_boxOf_36 : decode cX11_boxOf 36 = .ok (.iinc 2 1, 3) := by decide +kernel
theorem dX11_boxOf_39 : decode cX11_boxOf 39 = .ok (.goto (-37), 3) := by decide +kernel
theorem dX11_boxOf_42 : decode cX11_boxOf 42 = .ok (.iconst (-1), 1) := by decide +kernel
theorem dX11_boxOf_43 : decode cX11_boxOf 43 = .ok (.ireturn, 1) := by decide +kernel
theorem dX11_isSupported_0 : decode cX11_isSupported 0 = .ok (.aload_n 0, 1) := by decide +kernel
theorem dX11_isSupported_1 : decode cX11_isSupported 1 = .ok (.iload_n 1, 1) := by decide +kernel
theorem dX11_isSupported_2 : decode cX11_isSupported 2 = .ok (.invokevirtual 165, 3) := by decide +kernel
theorem dX11_isSupported_5 : decode cX11_isSupported 5 = .ok (.ifCond .eq 5, 3) := by decide +kernel
theorem dX11_isSupported_8 : decode cX11_isSupported 8 = .ok (.iconst 1, 1) := by decide +kernel
theorem dX11_isSupported_9 : decode cX11_isSupported 9 = .ok (.ireturn, 1) := by decide +kernel
theorem dX11_isSupported_10 : decode cX11_isSupported 10 = .ok (.aload_n 0, 1) := by decide +kernel
theorem dX11_isSupported_11 : decode cX11_isSupported 11 = .ok (.iload_n 1, 1) := by decide +kernel
theorem dX11_isSupported_12 : decode cX11_isSupported 12 = .ok (.invokevirtual 168, 3) := by decide +kernel
theorem dX11_isSupported_15 : decode cX11_isSupported 15 = .ok (.istore_n 2, 1) := by decide +kernel
theorem dX11_isSupported_16 : decode cX11_isSupported 16 = .ok (.iload_n 2, 1) := by decide +kernel
theorem dX11_isSupported_17 : decode cX11_isSupported 17 = .ok (.iconst (-1), 1) := by decide +kernel
theorem dX11_isSupported_18 : decode cX11_isSupported 18 = .ok (.if_icmp .eq 29, 3) := by decide +kernel
theorem dX11_isSupported_21 : decode cX11_isSupported 21 = .ok (.aload_n 0, 1) := by decide +kernel
theorem dX11_isSupported_22 : decode cX11_isSupported 22 = .ok (.iload_n 1, 1) := by decide +kernel
theorem dX11_isSupported_23 : decode cX11_isSupported 23 = .ok (.aload_n 0, 1) := by decide +kernel
theorem dX11_isSupported_24 : decode cX11_isSupported 24 = .ok (.getfield 48, 3) := by decide +kernel
theorem dX11_isSupported_27 : decode cX11_isSupported 27 = .ok (.iload_n 2, 1) := by decide +kernel
theorem dX11_isSupported_28 : decode cX11_isSupported 28 = .ok (.iaload, 1) := by decide +kernel
theorem dX11_isSupported_29 : decode cX11_isSupported 29 = .ok (.aload_n 0, 1) := by decide +kernel
theorem dX11_isSupported_30 : decode cX11_isSupported 30 = .ok (.getfield 48, 3) := by decide +kernel
theorem dX11_isSupported_33 : decode cX11_isSupported 33 = .ok (.iload_n 2, 1) := by decide +kernel
theorem dX11_isSupported_34 : decode cX11_isSupported 34 = .ok (.iconst 1, 1) := by decide +kernel
theorem dX11_isSupported_35 : decode cX11_isSupported 35 = .ok (.iadd, 1) := by decide +kernel
theorem dX11_isSupported_36 : decode cX11_isSupported 36 = .ok (.iaload, 1) := by decide +kernel
theorem dX11_isSupported_37 : decode cX11_isSupported 37 = .ok (.invokevirtual 171, 3) := by decide +kernel
theorem dX11_isSupported_40 : decode cX11_isSupported 40 = .ok (.ifCond .eq 7, 3) := by decide +kernel
theorem dX11_isSupported_43 : decode cX11_isSupported 43 = .ok (.iconst 1, 1) := by decide +kernel
theorem dX11_isSupported_44 : decode cX11_isSupported 44 = .ok (.goto 4, 3) := by decide +kernel
theorem dX11_isSupported_47 : decode cX11_isSupported 47 = .ok (.iconst 0, 1) := by decide +kernel
theorem dX11_isSupported_48 : decode cX11_isSupported 48 = .ok (.ireturn, 1) := by decide +kernel
theorem dX11_layCornersToo_0 : decode cX11_layCornersToo 0 = .ok (.aload_n 0, 1) := by decide +kernel
theorem dX11_layCornersToo_1 : decode cX11_layCornersToo 1 = .ok (.invokevirtual 174, 3) := by decide +kernel
theorem dX11_layCornersToo_4 : decode cX11_layCornersToo 4 = .ok (.aload_n 0, 1) := by decide +kernel
theorem dX11_layCornersToo_5 : decode cX11_layCornersToo 5 = .ok (.invokevirtual 177, 3) := by decide +kernel
theorem dX11_layCornersToo_8 : decode cX11_layCornersToo 8 = .ok (.return_, 1) := by decide +kernel
theorem dX11_enqueue_0 : decode cX11_enqueue 0 = .ok (.aload_n 0, 1) := by decide +kernel
theorem dX11_enqueue_1 : decode cX11_enqueue 1 = .ok (.getfield 51, 3) := by decide +kernel
theorem dX11_enqueue_4 : decode cX11_enqueue 4 = .ok (.iconst 3, 1) := by decide +kernel
theorem dX11_enqueue_5 : decode cX11_enqueue 5 = .ok (.aload_n 0, 1) := by decide +kernel
theorem dX11_enqueue_6 : decode cX11_enqueue 6 = .ok (.getfield 180, 3) := by decide +kernel
theorem dX11_enqueue_9 : decode cX11_enqueue 9 = .ok (.imul, 1) := by decide +kernel
theorem dX11_enqueue_10 : decode cX11_enqueue 10 = .ok (.iconst 0, 1) := by decide +kernel
theorem dX11_enqueue_11 : decode cX11_enqueue 11 = .ok (.iadd, 1) := by decide +kernel
theorem dX11_enqueue_12 : decode cX11_enqueue 12 = .ok (.iload_n 1, 1) := by decide +kernel
theorem dX11_enqueue_13 : decode cX11_enqueue 13 = .ok (.iastore, 1) := by decide +kernel
theorem dX11_enqueue_14 : decode cX11_enqueue 14 = .ok (.aload_n 0, 1) := by decide +kernel
theorem dX11_enqueue_15 : decode cX11_enqueue 15 = .ok (.getfield 51, 3) := by decide +kernel
theorem dX11_enqueue_18 : decode cX11_enqueue 18 = .ok (.iconst 3, 1) := by decide +kernel
theorem dX11_enqueue_19 : decode cX11_enqueue 19 = .ok (.aload_n 0, 1) := by decide +kernel
theorem dX11_enqueue_20 : decode cX11_enqueue 20 = .ok (.getfield 180, 3) := by decide +kernel
theorem dX11_enqueue_23 : decode cX11_enqueue 23 = .ok (.imul, 1) := by decide +kernel
theorem dX11_enqueue_24 : decode cX11_enqueue 24 = .ok (.iconst 1, 1) := by decide +kernel
theorem dX11_enqueue_25 : decode cX11_enqueue 25 = .ok (.iadd, 1) := by decide +kernel
theorem dX11_enqueue_26 : decode cX11_enqueue 26 = .ok (.iload_n 2, 1) := by decide +kernel
theorem dX11_enqueue_27 : decode cX11_enqueue 27 = .ok (.iastore, 1) := by decide +kernel
theorem dX11_enqueue_28 : decode cX11_enqueue 28 = .ok (.aload_n 0, 1) := by decide +kernel
theorem dX11_enqueue_29 : decode cX11_enqueue 29 = .ok (.dup, 1) := by decide +kernel
theorem dX11_enqueue_30 : decode cX11_enqueue 30 = .ok (.getfield 180, 3) := by decide +kernel
theorem dX11_enqueue_33 : decode cX11_enqueue 33 = .ok (.iconst 1, 1) := by decide +kernel
theorem dX11_enqueue_34 : decode cX11_enqueue 34 = .ok (.iadd, 1) := by decide +kernel
theorem dX11_enqueue_35 : decode cX11_enqueue 35 = .ok (.putfield 180, 3) := by decide +kernel
theorem dX11_enqueue_38 : decode cX11_enqueue 38 = .ok (.return_, 1) := by decide +kernel
theorem dX11_stepP_0 : decode cX11_stepP 0 = .ok (.aload_n 0, 1) := by decide +kernel
theorem dX11_stepP_1 : decode cX11_stepP 1 = .ok (.getfield 33, 3) := by decide +kernel
theorem dX11_stepP_4 : decode cX11_stepP 4 = .ok (.aload_n 0, 1) := by decide +kernel
theorem dX11_stepP_5 : decode cX11_stepP 5 = .ok (.getfield 51, 3) := by decide +kernel
theorem dX11_stepP_8 : decode cX11_stepP 8 = .ok (.iconst 3, 1) := by decide +kernel
theorem dX11_stepP_9 : decode cX11_stepP 9 = .ok (.iload_n 1, 1) := by decide +kernel
theorem dX11_stepP_10 : decode cX11_stepP 10 = .ok (.imul, 1) := by decide +kernel
theorem dX11_stepP_11 : decode cX11_stepP 11 = .ok (.iconst 0, 1) := by decide +kernel
theorem dX11_stepP_12 : decode cX11_stepP 12 = .ok (.iadd, 1) := by decide +kernel
theorem dX11_stepP_13 : decode cX11_stepP 13 = .ok (.iaload, 1) := by decide +kernel
theorem dX11_stepP_14 : decode cX11_stepP 14 = .ok (.iaload, 1) := by decide +kernel
theorem dX11_stepP_15 : decode cX11_stepP 15 = .ok (.aload_n 0, 1) := by decide +kernel
theorem dX11_stepP_16 : decode cX11_stepP 16 = .ok (.getfield 33, 3) := by decide +kernel
theorem dX11_stepP_19 : decode cX11_stepP 19 = .ok (.aload_n 0, 1) := by decide +kernel
theorem dX11_stepP_20 : decode cX11_stepP 20 = .ok (.getfield 51, 3) := by decide +kernel
theorem dX11_stepP_23 : decode cX11_stepP 23 = .ok (.iconst 3, 1) := by decide +kernel
theorem dX11_stepP_24 : decode cX11_stepP 24 = .ok (.iload_n 1, 1) := by decide +kernel
theorem dX11_stepP_25 : decode cX11_stepP 25 = .ok (.imul, 1) := by decide +kernel
theorem dX11_stepP_26 : decode cX11_stepP 26 = .ok (.iconst 1, 1) := by decide +kernel
theorem dX11_stepP_27 : decode cX11_stepP 27 = .ok (.iadd, 1) := by decide +kernel
theorem dX11_stepP_28 : decode cX11_stepP 28 = .ok (.iaload, 1) := by decide +kernel
theorem dX11_stepP_29 : decode cX11_stepP 29 = .ok (.iaload, 1) := by decide +kernel
theorem dX11_stepP_30 : decode cX11_stepP 30 = .ok (.isub, 1) := by decide +kernel
theorem dX11_stepP_31 : decode cX11_stepP 31 = .ok (.ireturn, 1) := by decide +kernel
theorem dX11_stepQ_0 : decode cX11_stepQ 0 = .ok (.aload_n 0, 1) := by decide +kernel
theorem dX11_stepQ_1 : decode cX11_stepQ 1 = .ok (.getfield 30, 3) := by decide +kernel
theorem dX11_stepQ_4 : decode cX11_stepQ 4 = .ok (.aload_n 0, 1) := by decide +kernel
theorem dX11_stepQ_5 : decode cX11_stepQ 5 = .ok (.getfield 51, 3) := by decide +kernel
theorem dX11_stepQ_8 : decode cX11_stepQ 8 = .ok (.iconst 3, 1) := by decide +kernel
theorem dX11_stepQ_9 : decode cX11_stepQ 9 = .ok (.iload_n 1, 1) := by decide +kernel
theorem dX11_stepQ_10 : decode cX11_stepQ 10 = .ok (.imul, 1) := by decide +kernel
theorem dX11_stepQ_11 : decode cX11_stepQ 11 = .ok (.iconst 1, 1) := by decide +kernel
theorem dX11_stepQ_12 : decode cX11_stepQ 12 = .ok (.iadd, 1) := by decide +kernel
theorem dX11_stepQ_13 : decode cX11_stepQ 13 = .ok (.iaload, 1) := by decide +kernel
theorem dX11_stepQ_14 : decode cX11_stepQ 14 = .ok (.iaload, 1) := by decide +kernel
theorem dX11_stepQ_15 : decode cX11_stepQ 15 = .ok (.aload_n 0, 1) := by decide +kernel
theorem dX11_stepQ_16 : decode cX11_stepQ 16 = .ok (.getfield 30, 3) := by decide +kernel
theorem dX11_stepQ_19 : decode cX11_stepQ 19 = .ok (.aload_n 0, 1) := by decide +kernel
theorem dX11_stepQ_20 : decode cX11_stepQ 20 = .ok (.getfield 51, 3) := by decide +kernel
theorem dX11_stepQ_23 : decode cX11_stepQ 23 = .ok (.iconst 3, 1) := by decide +kernel
theorem dX11_stepQ_24 : decode cX11_stepQ 24 = .ok (.iload_n 1, 1) := by decide +kernel
theorem dX11_stepQ_25 : decode cX11_stepQ 25 = .ok (.imul, 1) := by decide +kernel
theorem dX11_stepQ_26 : decode cX11_stepQ 26 = .ok (.iconst 0, 1) := by decide +kernel
theorem dX11_stepQ_27 : decode cX11_stepQ 27 = .ok (.iadd, 1) := by decide +kernel
theorem dX11_stepQ_28 : decode cX11_stepQ 28 = .ok (.iaload, 1) := by decide +kernel
theorem dX11_stepQ_29 : decode cX11_stepQ 29 = .ok (.iaload, 1) := by decide +kernel
theorem dX11_stepQ_30 : decode cX11_stepQ 30 = .ok (.isub, 1) := by decide +kernel
theorem dX11_stepQ_31 : decode cX11_stepQ 31 = .ok (.ireturn, 1) := by decide +kernel
theorem dX11_search_0 : decode cX11_search 0 = .ok (.aload_n 0, 1) := by decide +kernel
theorem dX11_search_1 : decode cX11_search 1 = .ok (.invokevirtual 144, 3) := by decide +kernel
theorem dX11_search_4 : decode cX11_search 4 = .ok (.aload_n 0, 1) := by decide +kernel
theorem dX11_search_5 : decode cX11_search 5 = .ok (.iconst 0, 1) := by decide +kernel
theorem dX11_search_6 : decode cX11_search 6 = .ok (.putfield 180, 3) := by decide +kernel
theorem dX11_search_9 : decode cX11_search 9 = .ok (.aload_n 0, 1) := by decide +kernel
theorem dX11_search_10 : decode cX11_search 10 = .ok (.iconst 0, 1) := by decide +kernel
theorem dX11_search_11 : decode cX11_search 11 = .ok (.putfield 183, 3) := by decide +kernel
theorem dX11_search_14 : decode cX11_search 14 = .ok (.aload_n 0, 1) := by decide +kernel
theorem dX11_search_15 : decode cX11_search 15 = .ok (.getfield 130, 3) := by decide +kernel
theorem dX11_search_18 : decode cX11_search 18 = .ok (.iconst 1, 1) := by decide +kernel
theorem dX11_search_19 : decode cX11_search 19 = .ok (.if_icmp .le 14, 3) := by decide +kernel
theorem dX11_search_22 : decode cX11_search 22 = .ok (.aload_n 0, 1) := by decide +kernel
theorem dX11_search_23 : decode cX11_search 23 = .ok (.iconst 0, 1) := by decide +kernel
theorem dX11_search_24 : decode cX11_search 24 = .ok (.aload_n 0, 1) := by decide +kernel
theorem dX11_search_25 : decode cX11_search 25 = .ok (.getfield 130, 3) := by decide +kernel
theorem dX11_search_28 : decode cX11_search 28 = .ok (.iconst 1, 1) := by decide +kernel
theorem dX11_search_29 : decode cX11_search 29 = .ok (.isub, 1) := by decide +kernel
theorem dX11_search_30 : decode cX11_search 30 = .ok (.invokevirtual 186, 3) := by decide +kernel
theorem dX11_search_33 : decode cX11_search 33 = .ok (.aload_n 0, 1) := by decide +kernel
theorem dX11_search_34 : decode cX11_search 34 = .ok (.getfield 183, 3) := by decide +kernel
theorem dX11_search_37 : decode cX11_search 37 = .ok (.aload_n 0, 1) := by decide +kernel
theorem dX11_search_38 : decode cX11_search 38 = .ok (.getfield 180, 3) := by decide +kernel
theorem dX11_search_41 : decode cX11_search 41 = .ok (.if_icmp .ge 145, 3) := by decide +kernel
theorem dX11_search_44 : decode cX11_search 44 = .ok (.aload_n 0, 1) := by decide +kernel
theorem dX11_search_45 : decode cX11_search 45 = .ok (.getfield 51, 3) := by decide +kernel
theorem dX11_search_48 : decode cX11_search 48 = .ok (.iconst 3, 1) := by decide +kernel
theorem dX11_search_49 : decode cX11_search 49 = .ok (.aload_n 0, 1) := by decide +kernel
theorem dX11_search_50 : decode cX11_search 50 = .ok (.getfield 183, 3) := by decide +kernel
theorem dX11_search_53 : decode cX11_search 53 = .ok (.imul, 1) := by decide +kernel
theorem dX11_search_54 : decode cX11_search 54 = .ok (.iconst 0, 1) := by decide +kernel
theorem dX11_search_55 : decode cX11_search 55 = .ok (.iadd, 1) := by decide +kernel
theorem dX11_search_56 : decode cX11_search 56 = .ok (.iaload, 1) := by decide +kernel
theorem dX11_search_57 : decode cX11_search 57 = .ok (.istore_n 1, 1) := by decide +kernel
theorem dX11_search_58 : decode cX11_search 58 = .ok (.aload_n 0, 1) := by decide +kernel
theorem dX11_search_59 : decode cX11_search 59 = .ok (.getfield 51, 3) := by decide +kernel
theorem dX11_search_62 : decode cX11_search 62 = .ok (.iconst 3, 1) := by decide +kernel
theorem dX11_search_63 : decode cX11_search 63 = .ok (.aload_n 0, 1) := by decide +kernel
theorem dX11_search_64 : decode cX11_search 64 = .ok (.getfield 183, 3) := by decide +kernel
theorem dX11_search_67 : decode cX11_search 67 = .ok (.imul, 1) := by decide +kernel
theorem dX11_search_68 : decode cX11_search 68 = .ok (.iconst 1, 1) := by decide +kernel
theorem dX11_search_69 : decode cX11_search 69 = .ok (.iadd, 1) := by decide +kernel
theorem dX11_search_70 : decode cX11_search 70 = .ok (.iaload, 1) := by decide +kernel
theorem dX11_search_71 : decode cX11_search 71 = .ok (.istore_n 2, 1) := by decide +kernel
theorem dX11_search_72 : decode cX11_search 72 = .ok (.aload_n 0, 1) := by decide +kernel
theorem dX11_search_73 : decode cX11_search 73 = .ok (.aload_n 0, 1) := by decide +kernel
theorem dX11_search_74 : decode cX11_search 74 = .ok (.getfield 183, 3) := by decide +kernel
theorem dX11_search_77 : decode cX11_search 77 = .ok (.invokevirtual 189, 3) := by decide +kernel
theorem dX11_search_80 : decode cX11_search 80 = .ok (.istore_n 3, 1) := by decide +kernel
theorem dX11_search_81 : decode cX11_search 81 = .ok (.aload_n 0, 1) := by decide +kernel
theorem dX11_search_82 : decode cX11_search 82 = .ok (.aload_n 0, 1) := by decide +kernel
theorem dX11_search_83 : decode cX11_search 83 = .ok (.getfield 183, 3) := by decide +kernel
theorem dX11_search_86 : decode cX11_search 86 = .ok (.invokevirtual 192, 3) := by decide +kernel
theorem dX11_search_89 : decode cX11_search 89 = .ok (.istore 4, 2) := by decide +kernel
theorem dX11_search_91 : decode cX11_search 91 = .ok (.aload_n 0, 1) := by decide +kernel
theorem dX11_search_92 : decode cX11_search 92 = .ok (.iload_n 3, 1) := by decide +kernel
theorem dX11_search_93 : decode cX11_search 93 = .ok (.iload 4, 2) := by decide +kernel
theorem dX11_search_95 : decode cX11_search 95 = .ok (.invokevirtual 195, 3) := by decide +kernel
theorem dX11_search_98 : decode cX11_search 98 = .ok (.istore 5, 2) := by decide +kernel
theorem dX11_search_100 : decode cX11_search 100 = .ok (.aload_n 0, 1) := by decide +kernel
theorem dX11_search_101 : decode cX11_search 101 = .ok (.iload 5, 2) := by decide +kernel
theorem dX11_search_103 : decode cX11_search 103 = .ok (.iload_n 3, 1) := by decide +kernel
theorem dX11_search_104 : decode cX11_search 104 = .ok (.iload 4, 2) := by decide +kernel
theorem dX11_search_106 : decode cX11_search 106 = .ok (.invokevirtual 154, 3) := by decide +kernel
theorem dX11_search_109 : decode cX11_search 109 = .ok (.aload_n 0, 1) := by decide +kernel
theorem dX11_search_110 : decode cX11_search 110 = .ok (.iload_n 1, 1) := by decide +kernel
theorem dX11_search_111 : decode cX11_search 111 = .ok (.iload_n 3, 1) := by decide +kernel
theorem dX11_search_112 : decode cX11_search 112 = .ok (.iload 4, 2) := by decide +kernel
theorem dX11_search_114 : decode cX11_search 114 = .ok (.invokevirtual 154, 3) := by decide +kernel
theorem dX11_search_117 : decode cX11_search 117 = .ok (.if_icmp .le 7, 3) := by decide +kernel
theorem dX11_search_120 : decode cX11_search 120 = .ok (.iconst 1, 1) := by decide +kernel
theorem dX11_search_121 : decode cX11_search 121 = .ok (.goto 4, 3) := by decide +kernel
theorem dX11_search_124 : decode cX11_search 124 = .ok (.iconst 0, 1) := by decide +kernel
theorem dX11_search_125 : decode cX11_search 125 = .ok (.istore 6, 2) := by decide +kernel
theorem dX11_search_127 : decode cX11_search 127 = .ok (.aload_n 0, 1) := by decide +kernel
theorem dX11_search_128 : decode cX11_search 128 = .ok (.getfield 51, 3) := by decide +kernel
theorem dX11_search_131 : decode cX11_search 131 = .ok (.iconst 3, 1) := by decide +kernel
theorem dX11_search_132 : decode cX11_search 132 = .ok (.aload_n 0, 1) := by decide +kernel
theorem dX11_search_133 : decode cX11_search 133 = .ok (.getfield 183, 3) := by decide +kernel
theorem dX11_search_136 : decode cX11_search 136 = .ok (.imul, 1) := by decide +kernel
theorem dX11_search_137 : decode cX11_search 137 = .ok (.iconst 2, 1) := by decide +kernel
theorem dX11_search_138 : decode cX11_search 138 = .ok (.iadd, 1) := by decide +kernel
theorem dX11_search_139 : decode cX11_search 139 = .ok (.iload 6, 2) := by decide +kernel
theorem dX11_search_141 : decode cX11_search 141 = .ok (.ifCond .eq 8, 3) := by decide +kernel
theorem dX11_search_144 : decode cX11_search 144 = .ok (.iload 5, 2) := by decide +kernel
theorem dX11_search_146 : decode cX11_search 146 = .ok (.goto 4, 3) := by decide +kernel
theorem dX11_search_149 : decode cX11_search 149 = .ok (.iconst (-1), 1) := by decide +kernel
theorem dX11_search_150 : decode cX11_search 150 = .ok (.iastore, 1) := by decide +kernel
theorem dX11_search_151 : decode cX11_search 151 = .ok (.aload_n 0, 1) := by decide +kernel
theorem dX11_search_152 : decode cX11_search 152 = .ok (.dup, 1) := by decide +kernel
theorem dX11_search_153 : decode cX11_search 153 = .ok (.getfield 183, 3) := by decide +kernel
theorem dX11_search_156 : decode cX11_search 156 = .ok (.iconst 1, 1) := by decide +kernel
theorem dX11_search_157 : decode cX11_search 157 = .ok (.iadd, 1) := by decide +kernel
theorem dX11_search_158 : decode cX11_search 158 = .ok (.putfield 183, 3) := by decide +kernel
theorem dX11_search_161 : decode cX11_search 161 = .ok (.iload 6, 2) := by decide +kernel
theorem dX11_search_163 : decode cX11_search 163 = .ok (.ifCond .ne 6, 3) := by decide +kernel
theorem dX11_search_166 : decode cX11_search 166 = .ok (.goto (-133), 3) := by decide +kernel
theorem dX11_search_169 : decode cX11_search 169 = .ok (.aload_n 0, 1) := by decide +kernel
theorem dX11_search_170 : decode cX11_search 170 = .ok (.iload_n 1, 1) := by decide +kernel
theorem dX11_search_171 : decode cX11_search 171 = .ok (.iload 5, 2) := by decide +kernel
theorem dX11_search_173 : decode cX11_search 173 = .ok (.invokevirtual 186, 3) := by decide +kernel
theorem dX11_search_176 : decode cX11_search 176 = .ok (.aload_n 0, 1) := by decide +kernel
theorem dX11_search_177 : decode cX11_search 177 = .ok (.iload 5, 2) := by decide +kernel
theorem dX11_search_179 : decode cX11_search 179 = .ok (.iload_n 2, 1) := by decide +kernel
theorem dX11_search_180 : decode cX11_search 180 = .ok (.invokevirtual 186, 3) := by decide +kernel
theorem dX11_search_183 : decode cX11_search 183 = .ok (.goto (-150), 3) := by decide +kernel
theorem dX11_search_186 : decode cX11_search 186 = .ok (.return_, 1) := by decide +kernel
theorem dX11_pairOf_0 : decode cX11_pairOf 0 = .ok (.sipush 2048, 3) := by decide +kernel
theorem dX11_pairOf_3 : decode cX11_pairOf 3 = .ok (.iload_n 0, 1) := by decide +kernel
theorem dX11_pairOf_4 : decode cX11_pairOf 4 = .ok (.imul, 1) := by decide +kernel
theorem dX11_pairOf_5 : decode cX11_pairOf 5 = .ok (.iload_n 1, 1) := by decide +kernel
theorem dX11_pairOf_6 : decode cX11_pairOf 6 = .ok (.iadd, 1) := by decide +kernel
theorem dX11_pairOf_7 : decode cX11_pairOf 7 = .ok (.ireturn, 1) := by decide +kernel
theorem dX11_sortPairs_0 : decode cX11_sortPairs 0 = .ok (.sipush 1093, 3) := by decide +kernel
theorem dX11_sortPairs_3 : decode cX11_sortPairs 3 = .ok (.istore_n 2, 1) := by decide +kernel
theorem dX11_sortPairs_4 : decode cX11_sortPairs 4 = .ok (.iload_n 2, 1) := by decide +kernel
theorem dX11_sortPairs_5 : decode cX11_sortPairs 5 = .ok (.ifCond .le 88, 3) := by decide +kernel
theorem dX11_sortPairs_8 : decode cX11_sortPairs 8 = .ok (.iload_n 2, 1) := by decide +kernel
theorem dX11_sortPairs_9 : decode cX11_sortPairs 9 = .ok (.istore_n 3, 1) := by decide +kernel
theorem dX11_sortPairs_10 : decode cX11_sortPairs 10 = .ok (.iload_n 3, 1) := by decide +kernel
theorem dX11_sortPairs_11 : decode cX11_sortPairs 11 = .ok (.iload_n 1, 1) := by decide +kernel
theorem dX11_sortPairs_12 : decode cX11_sortPairs 12 = .ok (.if_icmp .ge 74, 3) := by decide +kernel
theorem dX11_sortPairs_15 : decode cX11_sortPairs 15 = .ok (.aload_n 0, 1) := by decide +kernel
theorem dX11_sortPairs_16 : decode cX11_sortPairs 16 = .ok (.getfield 54, 3) := by decide +kernel
theorem dX11_sortPairs_19 : decode cX11_sortPairs 19 = .ok (.iload_n 3, 1) := by decide +kernel
theorem dX11_sortPairs_20 : decode cX11_sortPairs 20 = .ok (.iaload, 1) := by decide +kernel
theorem dX11_sortPairs_21 : decode cX11_sortPairs 21 = .ok (.istore 4, 2) := by decide +kernel
theorem dX11_sortPairs_23 : decode cX11_sortPairs 23 = .ok (.iload_n 3, 1) := by decide +kernel
theorem dX11_sortPairs_24 : decode cX11_sortPairs 24 = .ok (.istore 5, 2) := by decide +kernel
theorem dX11_sortPairs_26 : decode cX11_sortPairs 26 = .ok (.iload 5, 2) := by decide +kernel
theorem dX11_sortPairs_28 : decode cX11_sortPairs 28 = .ok (.iload_n 2, 1) := by decide +kernel
theorem dX11_sortPairs_29 : decode cX11_sortPairs 29 = .ok (.if_icmp .lt 42, 3) := by decide +kernel
theorem dX11_sortPairs_32 : decode cX11_sortPairs 32 = .ok (.aload_n 0, 1) := by decide +kernel
theorem dX11_sortPairs_33 : decode cX11_sortPairs 33 = .ok (.getfield 54, 3) := by decide +kernel
theorem dX11_sortPairs_36 : decode cX11_sortPairs 36 = .ok (.iload 5, 2) := by decide +kernel
theorem dX11_sortPairs_38 : decode cX11_sortPairs 38 = .ok (.iload_n 2, 1) := by decide +kernel
theorem dX11_sortPairs_39 : decode cX11_sortPairs 39 = .ok (.isub, 1) := by decide +kernel
theorem dX11_sortPairs_40 : decode cX11_sortPairs 40 = .ok (.iaload, 1) := by decide +kernel
theorem dX11_sortPairs_41 : decode cX11_sortPairs 41 = .ok (.iload 4, 2) := by decide +kernel
theorem dX11_sortPairs_43 : decode cX11_sortPairs 43 = .ok (.if_icmp .ge 28, 3) := by decide +kernel
theorem dX11_sortPairs_46 : decode cX11_sortPairs 46 = .ok (.aload_n 0, 1) := by decide +kernel
theorem dX11_sortPairs_47 : decode cX11_sortPairs 47 = .ok (.getfield 54, 3) := by decide +kernel
theorem dX11_sortPairs_50 : decode cX11_sortPairs 50 = .ok (.iload 5, 2) := by decide +kernel
theorem dX11_sortPairs_52 : decode cX11_sortPairs 52 = .ok (.aload_n 0, 1) := by decide +kernel
theorem dX11_sortPairs_53 : decode cX11_sortPairs 53 = .ok (.getfield 54, 3) := by decide +kernel
theorem dX11_sortPairs_56 : decode cX11_sortPairs 56 = .ok (.iload 5, 2) := by decide +kernel
theorem dX11_sortPairs_58 : decode cX11_sortPairs 58 = .ok (.iload_n 2, 1) := by decide +kernel
theorem dX11_sortPairs_59 : decode cX11_sortPairs 59 = .ok (.isub, 1) := by decide +kernel
theorem dX11_sortPairs_60 : decode cX11_sortPairs 60 = .ok (.iaload, 1) := by decide +kernel
theorem dX11_sortPairs_61 : decode cX11_sortPairs 61 = .ok (.iastore, 1) := by decide +kernel
theorem dX11_sortPairs_62 : decode cX11_sortPairs 62 = .ok (.iload 5, 2) := by decide +kernel
theorem dX11_sortPairs_64 : decode cX11_sortPairs 64 = .ok (.iload_n 2, 1) := by decide +kernel
theorem dX11_sortPairs_65 : decode cX11_sortPairs 65 = .ok (.isub, 1) := by decide +kernel
theorem dX11_sortPairs_66 : decode cX11_sortPairs 66 = .ok (.istore 5, 2) := by decide +kernel
theorem dX11_sortPairs_68 : decode cX11_sortPairs 68 = .ok (.goto (-42), 3) := by decide +kernel
theorem dX11_sortPairs_71 : decode cX11_sortPairs 71 = .ok (.aload_n 0, 1) := by decide +kernel
theorem dX11_sortPairs_72 : decode cX11_sortPairs 72 = .ok (.getfield 54, 3) := by decide +kernel
theorem dX11_sortPairs_75 : decode cX11_sortPairs 75 = .ok (.iload 5, 2) := by decide +kernel
theorem dX11_sortPairs_77 : decode cX11_sortPairs 77 = .ok (.iload 4, 2) := by decide +kernel
theorem dX11_sortPairs_79 : decode cX11_sortPairs 79 = .ok (.iastore, 1) := by decide +kernel
theorem dX11_sortPairs_80 : decode cX11_sortPairs 80 = .ok (.iinc 3 1, 3) := by decide +kernel
theorem dX11_sortPairs_83 : decode cX11_sortPairs 83 = .ok (.goto (-73), 3) := by decide +kernel
theorem dX11_sortPairs_86 : decode cX11_sortPairs 86 = .ok (.iload_n 2, 1) := by decide +kernel
theorem dX11_sortPairs_87 : decode cX11_sortPairs 87 = .ok (.iconst 3, 1) := by decide +kernel
theorem dX11_sortPairs_88 : decode cX11_sortPairs 88 = .ok (.idiv, 1) := by decide +kernel
theorem dX11_sortPairs_89 : decode cX11_sortPairs 89 = .ok (.istore_n 2, 1) := by decide +kernel
theorem dX11_sortPairs_90 : decode cX11_sortPairs 90 = .ok (.goto (-86), 3) := by decide +kernel
theorem dX11_sortPairs_93 : decode cX11_sortPairs 93 = .ok (.return_, 1) := by decide +kernel
theorem dX11_layPairs_0 : decode cX11_layPairs 0 = .ok (.iconst 0, 1) := by decide +kernel
theorem dX11_layPairs_1 : decode cX11_layPairs 1 = .ok (.istore_n 1, 1) := by decide +kernel
theorem dX11_layPairs_2 : decode cX11_layPairs 2 = .ok (.iconst 0, 1) := by decide +kernel
theorem dX11_layPairs_3 : decode cX11_layPairs 3 = .ok (.istore_n 2, 1) := by decide +kernel
theorem dX11_layPairs_4 : decode cX11_layPairs 4 = .ok (.iload_n 2, 1) := by decide +kernel
theorem dX11_layPairs_5 : decode cX11_layPairs 5 = .ok (.aload_n 0, 1) := by decide +kernel
theorem dX11_layPairs_6 : decode cX11_layPairs 6 = .ok (.invokevirtual 91, 3) := by decide +kernel
theorem dX11_layPairs_9 : decode cX11_layPairs 9 = .ok (.if_icmp .ge 44, 3) := by decide +kernel
theorem dX11_layPairs_12 : decode cX11_layPairs 12 = .ok (.aload_n 0, 1) := by decide +kernel
theorem dX11_layPairs_13 : decode cX11_layPairs 13 = .ok (.iload_n 2, 1) := by decide +kernel
theorem dX11_layPairs_14 : decode cX11_layPairs 14 = .ok (.invokevirtual 122, 3) := by decide +kernel
theorem dX11_layPairs_17 : decode cX11_layPairs 17 = .ok (.ifCond .ne 6, 3) := by decide +kernel
theorem dX11_layPairs_20 : decode cX11_layPairs 20 = .ok (.goto 27, 3) := by decide +kernel
theorem dX11_layPairs_23 : decode cX11_layPairs 23 = .ok (.aload_n 0, 1) := by decide +kernel
theorem dX11_layPairs_24 : decode cX11_layPairs 24 = .ok (.getfield 54, 3) := by decide +kernel
theorem dX11_layPairs_27 : decode cX11_layPairs 27 = .ok (.iload_n 1, 1) := by decide +kernel
theorem dX11_layPairs_28 : decode cX11_layPairs 28 = .ok (.aload_n 0, 1) := by decide +kernel
theorem dX11_layPairs_29 : decode cX11_layPairs 29 = .ok (.iload_n 2, 1) := by decide +kernel
theorem dX11_layPairs_30 : decode cX11_layPairs 30 = .ok (.iconst 1, 1) := by decide +kernel
theorem dX11_layPairs_31 : decode cX11_layPairs 31 = .ok (.invokevirtual 102, 3) := by decide +kernel
theorem dX11_layPairs_34 : decode cX11_layPairs 34 = .ok (.aload_n 0, 1) := by decide +kernel
theorem dX11_layPairs_35 : decode cX11_layPairs 35 = .ok (.iload_n 2, 1) := by decide +kernel
theorem dX11_layPairs_36 : decode cX11_layPairs 36 = .ok (.iconst 2, 1) := by decide +kernel
theorem dX11_layPairs_37 : decode cX11_layPairs 37 = .ok (.invokevirtual 102, 3) := by decide +kernel
theorem dX11_layPairs_40 : decode cX11_layPairs 40 = .ok (.invokestatic 198, 3) := by decide +kernel
theorem dX11_layPairs_43 : decode cX11_layPairs 43 = .ok (.iastore, 1) := by decide +kernel
theorem dX11_layPairs_44 : decode cX11_layPairs 44 = .ok (.iinc 1 1, 3) := by decide +kernel
theorem dX11_layPairs_47 : decode cX11_layPairs 47 = .ok (.iinc 2 1, 3) := by decide +kernel
theorem dX11_layPairs_50 : decode cX11_layPairs 50 = .ok (.goto (-46), 3) := by decide +kernel
theorem dX11_layPairs_53 : decode cX11_layPairs 53 = .ok (.aload_n 0, 1) := by decide +kernel
theorem dX11_layPairs_54 : decode cX11_layPairs 54 = .ok (.iload_n 1, 1) := by decide +kernel
theorem dX11_layPairs_55 : decode cX11_layPairs 55 = .ok (.invokevirtual 201, 3) := by decide +kernel
theorem dX11_layPairs_58 : decode cX11_layPairs 58 = .ok (.aload_n 0, 1) := by decide +kernel
theorem dX11_layPairs_59 : decode cX11_layPairs 59 = .ok (.iconst 0, 1) := by decide +kernel
theorem dX11_layPairs_60 : decode cX11_layPairs 60 = .ok (.putfield 205, 3) := by decide +kernel
theorem dX11_layPairs_63 : decode cX11_layPairs 63 = .ok (.iconst 0, 1) := by decide +kernel
theorem dX11_layPairs_64 : decode cX11_layPairs 64 = .ok (.istore_n 2, 1) := by decide +kernel
theorem dX11_layPairs_65 : decode cX11_layPairs 65 = .ok (.iload_n 2, 1) := by decide +kernel
theorem dX11_layPairs_66 : decode cX11_layPairs 66 = .ok (.iload_n 1, 1) := by decide +kernel
theorem dX11_layPairs_67 : decode cX11_layPairs 67 = .ok (.if_icmp .ge 61, 3) := by decide +kernel
theorem dX11_layPairs_70 : decode cX11_layPairs 70 = .ok (.iload_n 2, 1) := by decide +kernel
theorem dX11_layPairs_71 : decode cX11_layPairs 71 = .ok (.ifCond .le 26, 3) := by decide +kernel
theorem dX11_layPairs_74 : decode cX11_layPairs 74 = .ok (.aload_n 0, 1) := by decide +kernel
theorem dX11_layPairs_75 : decode cX11_layPairs 75 = .ok (.getfield 54, 3) := by decide +kernel
theorem dX11_layPairs_78 : decode cX11_layPairs 78 = .ok (.iload_n 2, 1) := by decide +kernel
theorem dX11_layPairs_79 : decode cX11_layPairs 79 = .ok (.iaload, 1) := by decide +kernel
theorem dX11_layPairs_80 : decode cX11_layPairs 80 = .ok (.aload_n 0, 1) := by decide +kernel
theorem dX11_layPairs_81 : decode cX11_layPairs 81 = .ok (.getfield 54, 3) := by decide +kernel
theorem dX11_layPairs_84 : decode cX11_layPairs 84 = .ok (.aload_n 0, 1) := by decide +kernel
theorem dX11_layPairs_85 : decode cX11_layPairs 85 = .ok (.getfield 205, 3) := by decide +kernel
theorem dX11_layPairs_88 : decode cX11_layPairs 88 = .ok (.iconst 1, 1) := by decide +kernel
theorem dX11_layPairs_89 : decode cX11_layPairs 89 = .ok (.isub, 1) := by decide +kernel
theorem dX11_layPairs_90 : decode cX11_layPairs 90 = .ok (.iaload, 1) := by decide +kernel
theorem dX11_layPairs_91 : decode cX11_layPairs 91 = .ok (.if_icmp .ne 6, 3) := by decide +kernel
theorem dX11_layPairs_94 : decode cX11_layPairs 94 = .ok (.goto 28, 3) := by decide +kernel
theorem dX11_layPairs_97 : decode cX11_layPairs 97 = .ok (.aload_n 0, 1) := by decide +kernel
theorem dX11_layPairs_98 : decode cX11_layPairs 98 = .ok (.getfield 54, 3) := by decide +kernel
theorem dX11_layPairs_101 : decode cX11_layPairs 101 = .ok (.aload_n 0, 1) := by decide +kernel
theorem dX11_layPairs_102 : decode cX11_layPairs 102 = .ok (.getfield 205, 3) := by decide +kernel
theorem dX11_layPairs_105 : decode cX11_layPairs 105 = .ok (.aload_n 0, 1) := by decide +kernel
theorem dX11_layPairs_106 : decode cX11_layPairs 106 = .ok (.getfield 54, 3) := by decide +kernel
theorem dX11_layPairs_109 : decode cX11_layPairs 109 = .ok (.iload_n 2, 1) := by decide +kernel
theorem dX11_layPairs_110 : decode cX11_layPairs 110 = .ok (.iaload, 1) := by decide +kernel
theorem dX11_layPairs_111 : decode cX11_layPairs 111 = .ok (.iastore, 1) := by decide +kernel
theorem dX11_layPairs_112 : decode cX11_layPairs 112 = .ok (.aload_n 0, 1) := by decide +kernel
theorem dX11_layPairs_113 : decode cX11_layPairs 113 = .ok (.dup, 1) := by decide +kernel
theorem dX11_layPairs_114 : decode cX11_layPairs 114 = .ok (.getfield 205, 3) := by decide +kernel
theorem dX11_layPairs_117 : decode cX11_layPairs 117 = .ok (.iconst 1, 1) := by decide +kernel
theorem dX11_layPairs_118 : decode cX11_layPairs 118 = .ok (.iadd, 1) := by decide +kernel
theorem dX11_layPairs_119 : decode cX11_layPairs 119 = .ok (.putfield 205, 3) := by decide +kernel
theorem dX11_layPairs_122 : decode cX11_layPairs 122 = .ok (.iinc 2 1, 3) := by decide +kernel
theorem dX11_layPairs_125 : decode cX11_layPairs 125 = .ok (.goto (-60), 3) := by decide +kernel
theorem dX11_layPairs_128 : decode cX11_layPairs 128 = .ok (.return_, 1) := by decide +kernel
theorem dX11_layLayers_0 : decode cX11_layLayers 0 = .ok (.aload_n 0, 1) := by decide +kernel
theorem dX11_layLayers_1 : decode cX11_layLayers 1 = .ok (.invokevirtual 208, 3) := by decide +kernel
theorem dX11_layLayers_4 : decode cX11_layLayers 4 = .ok (.aload_n 0, 1) := by decide +kernel
theorem dX11_layLayers_5 : decode cX11_layLayers 5 = .ok (.iconst 0, 1) := by decide +kernel
theorem dX11_layLayers_6 : decode cX11_layLayers 6 = .ok (.putfield 211, 3) := by decide +kernel
theorem dX11_layLayers_9 : decode cX11_layLayers 9 = .ok (.iconst 0, 1) := by decide +kernel
theorem dX11_layLayers_10 : decode cX11_layLayers 10 = .ok (.istore_n 1, 1) := by decide +kernel
theorem dX11_layLayers_11 : decode cX11_layLayers 11 = .ok (.iload_n 1, 1) := by decide +kernel
theorem dX11_layLayers_12 : decode cX11_layLayers 12 = .ok (.aload_n 0, 1) := by decide +kernel
theorem dX11_layLayers_13 : decode cX11_layLayers 13 = .ok (.getfield 205, 3) := by decide +kernel
theorem dX11_layLayers_16 : decode cX11_layLayers 16 = .ok (.if_icmp .ge 78, 3) := by decide +kernel
theorem dX11_layLayers_19 : decode cX11_layLayers 19 = .ok (.aload_n 0, 1) := by decide +kernel
theorem dX11_layLayers_20 : decode cX11_layLayers 20 = .ok (.getfield 54, 3) := by decide +kernel
theorem dX11_layLayers_23 : decode cX11_layLayers 23 = .ok (.iload_n 1, 1) := by decide +kernel
theorem dX11_layLayers_24 : decode cX11_layLayers 24 = .ok (.iaload, 1) := by decide +kernel
theorem dX11_layLayers_25 : decode cX11_layLayers 25 = .ok (.sipush 2048, 3) := by decide +kernel
theorem dX11_layLayers_28 : decode cX11_layLayers 28 = .ok (.irem, 1) := by decide +kernel
theorem dX11_layLayers_29 : decode cX11_layLayers 29 = .ok (.istore_n 2, 1) := by decide +kernel
theorem dX11_layLayers_30 : decode cX11_layLayers 30 = .ok (.iconst 0, 1) := by decide +kernel
theorem dX11_layLayers_31 : decode cX11_layLayers 31 = .ok (.istore_n 3, 1) := by decide +kernel
theorem dX11_layLayers_32 : decode cX11_layLayers 32 = .ok (.iload_n 3, 1) := by decide +kernel
theorem dX11_layLayers_33 : decode cX11_layLayers 33 = .ok (.aload_n 0, 1) := by decide +kernel
theorem dX11_layLayers_34 : decode cX11_layLayers 34 = .ok (.getfield 211, 3) := by decide +kernel
theorem dX11_layLayers_37 : decode cX11_layLayers 37 = .ok (.if_icmp .ge 19, 3) := by decide +kernel
theorem dX11_layLayers_40 : decode cX11_layLayers 40 = .ok (.aload_n 0, 1) := by decide +kernel
theorem dX11_layLayers_41 : decode cX11_layLayers 41 = .ok (.getfield 60, 3) := by decide +kernel
theorem dX11_layLayers_44 : decode cX11_layLayers 44 = .ok (.iload_n 3, 1) := by decide +kernel
theorem dX11_layLayers_45 : decode cX11_layLayers 45 = .ok (.iaload, 1) := by decide +kernel
theorem dX11_layLayers_46 : decode cX11_layLayers 46 = .ok (.iload_n 2, 1) := by decide +kernel
theorem dX11_layLayers_47 : decode cX11_layLayers 47 = .ok (.if_icmp .lt 9, 3) := by decide +kernel
theorem dX11_layLayers_50 : decode cX11_layLayers 50 = .ok (.iinc 3 1, 3) := by decide +kernel
theorem dX11_layLayers_53 : decode cX11_layLayers 53 = .ok (.goto (-21), 3) := by decide +kernel
theorem dX11_layLayers_56 : decode cX11_layLayers 56 = .ok (.iload_n 3, 1) := by decide +kernel
theorem dX11_layLayers_57 : decode cX11_layLayers 57 = .ok (.aload_n 0, 1) := by decide +kernel
theorem dX11_layLayers_58 : decode cX11_layLayers 58 = .ok (.getfield 211, 3) := by decide +kernel
theorem dX11_layLayers_61 : decode cX11_layLayers 61 = .ok (.if_icmp .ne 13, 3) := by decide +kernel
theorem dX11_layLayers_64 : decode cX11_layLayers 64 = .ok (.aload_n 0, 1) := by decide +kernel
theorem dX11_layLayers_65 : decode cX11_layLayers 65 = .ok (.dup, 1) := by decide +kernel
theorem dX11_layLayers_66 : decode cX11_layLayers 66 = .ok (.getfield 211, 3) := by decide +kernel
theorem dX11_layLayers_69 : decode cX11_layLayers 69 = .ok (.iconst 1, 1) := by decide +kernel
theorem dX11_layLayers_70 : decode cX11_layLayers 70 = .ok (.iadd, 1) := by decide +kernel
theorem dX11_layLayers_71 : decode cX11_layLayers 71 = .ok (.putfield 211, 3) := by decide +kernel
theorem dX11_layLayers_74 : decode cX11_layLayers 74 = .ok (.aload_n 0, 1) := by decide +kernel
theorem dX11_layLayers_75 : decode cX11_layLayers 75 = .ok (.getfield 60, 3) := by decide +kernel
theorem dX11_layLayers_78 : decode cX11_layLayers 78 = .ok (.iload_n 3, 1) := by decide +kernel
theorem dX11_layLayers_79 : decode cX11_layLayers 79 = .ok (.iload_n 2, 1) := by decide +kernel
theorem dX11_layLayers_80 : decode cX11_layLayers 80 = .ok (.iastore, 1) := by decide +kernel
theorem dX11_layLayers_81 : decode cX11_layLayers 81 = .ok (.aload_n 0, 1) := by decide +kernel
theorem dX11_layLayers_82 : decode cX11_layLayers 82 = .ok (.getfield 57, 3) := by decide +kernel
theorem dX11_layLayers_85 : decode cX11_layLayers 85 = .ok (.iload_n 1, 1) := by decide +kernel
theorem dX11_layLayers_86 : decode cX11_layLayers 86 = .ok (.iload_n 3, 1) := by decide +kernel
theorem dX11_layLayers_87 : decode cX11_layLayers 87 = .ok (.iastore, 1) := by decide +kernel
theorem dX11_layLayers_88 : decode cX11_layLayers 88 = .ok (.iinc 1 1, 3) := by decide +kernel
theorem dX11_layLayers_91 : decode cX11_layLayers 91 = .ok (.goto (-80), 3) := by decide +kernel
theorem dX11_layLayers_94 : decode cX11_layLayers 94 = .ok (.return_, 1) := by decide +kernel
theorem dX11_valueBy_0 : decode cX11_valueBy 0 = .ok (.iload_n 2, 1) := by decide +kernel
theorem dX11_valueBy_1 : decode cX11_valueBy 1 = .ok (.aload_n 0, 1) := by decide +kernel
theorem dX11_valueBy_2 : decode cX11_valueBy 2 = .ok (.iload_n 1, 1) := by decide +kernel
theorem dX11_valueBy_3 : decode cX11_valueBy 3 = .ok (.iconst 1, 1) := by decide +kernel
theorem dX11_valueBy_4 : decode cX11_valueBy 4 = .ok (.invokevirtual 102, 3) := by decide +kernel
theorem dX11_valueBy_7 : decode cX11_valueBy 7 = .ok (.imul, 1) := by decide +kernel
theorem dX11_valueBy_8 : decode cX11_valueBy 8 = .ok (.iload_n 3, 1) := by decide +kernel
theorem dX11_valueBy_9 : decode cX11_valueBy 9 = .ok (.aload_n 0, 1) := by decide +kernel
theorem dX11_valueBy_10 : decode cX11_valueBy 10 = .ok (.iload_n 1, 1) := by decide +kernel
theorem dX11_valueBy_11 : decode cX11_valueBy 11 = .ok (.iconst 2, 1) := by decide +kernel
theorem dX11_valueBy_12 : decode cX11_valueBy 12 = .ok (.invokevirtual 102, 3) := by decide +kernel
theorem dX11_valueBy_15 : decode cX11_valueBy 15 = .ok (.imul, 1) := by decide +kernel
theorem dX11_valueBy_16 : decode cX11_valueBy 16 = .ok (.iadd, 1) := by decide +kernel
theorem dX11_valueBy_17 : decode cX11_valueBy 17 = .ok (.ireturn, 1) := by decide +kernel
theorem dX11_lookAt_0 : decode cX11_lookAt 0 = .ok (.aload_n 0, 1) := by decide +kernel
theorem dX11_lookAt_1 : decode cX11_lookAt 1 = .ok (.iload_n 1, 1) := by decide +kernel
theorem dX11_lookAt_2 : decode cX11_lookAt 2 = .ok (.invokevirtual 122, 3) := by decide +kernel
theorem dX11_lookAt_5 : decode cX11_lookAt 5 = .ok (.ifCond .ne 4, 3) := by decide +kernel
theorem dX11_lookAt_8 : decode cX11_lookAt 8 = .ok (.return_, 1) := by decide +kernel
theorem dX11_lookAt_9 : decode cX11_lookAt 9 = .ok (.aload_n 0, 1) := by decide +kernel
theorem dX11_lookAt_10 : decode cX11_lookAt 10 = .ok (.getfield 214, 3) := by decide +kernel
theorem dX11_lookAt_13 : decode cX11_lookAt 13 = .ok (.iconst (-1), 1) := by decide +kernel
theorem dX11_lookAt_14 : decode cX11_lookAt 14 = .ok (.if_icmp .ne 9, 3) := by decide +kernel
theorem dX11_lookAt_17 : decode cX11_lookAt 17 = .ok (.aload_n 0, 1) := by decide +kernel
theorem dX11_lookAt_18 : decode cX11_lookAt 18 = .ok (.iload_n 1, 1) := by decide +kernel
theorem dX11_lookAt_19 : decode cX11_lookAt 19 = .ok (.putfield 214, 3) := by decide +kernel
theorem dX11_lookAt_22 : decode cX11_lookAt 22 = .ok (.return_, 1) := by decide +kernel
theorem dX11_lookAt_23 : decode cX11_lookAt 23 = .ok (.aload_n 0, 1) := by decide +kernel
theorem dX11_lookAt_24 : decode cX11_lookAt 24 = .ok (.iload_n 1, 1) := by decide +kernel
theorem dX11_lookAt_25 : decode cX11_lookAt 25 = .ok (.iload_n 2, 1) := by decide +kernel
theorem dX11_lookAt_26 : decode cX11_lookAt 26 = .ok (.iload_n 3, 1) := by decide +kernel
theorem dX11_lookAt_27 : decode cX11_lookAt 27 = .ok (.invokevirtual 217, 3) := by decide +kernel
theorem dX11_lookAt_30 : decode cX11_lookAt 30 = .ok (.aload_n 0, 1) := by decide +kernel
theorem dX11_lookAt_31 : decode cX11_lookAt 31 = .ok (.aload_n 0, 1) := by decide +kernel
theorem dX11_lookAt_32 : decode cX11_lookAt 32 = .ok (.getfield 214, 3) := by decide +kernel
theorem dX11_lookAt_35 : decode cX11_lookAt 35 = .ok (.iload_n 2, 1) := by decide +kernel
theorem dX11_lookAt_36 : decode cX11_lookAt 36 = .ok (.iload_n 3, 1) := by decide +kernel
theorem dX11_lookAt_37 : decode cX11_lookAt 37 = .ok (.invokevirtual 217, 3) := by decide +kernel
theorem dX11_lookAt_40 : decode cX11_lookAt 40 = .ok (.isub, 1) := by decide +kernel
theorem dX11_lookAt_41 : decode cX11_lookAt 41 = .ok (.istore 4, 2) := by decide +kernel
theorem dX11_lookAt_43 : decode cX11_lookAt 43 = .ok (.iload 4, 2) := by decide +kernel
theorem dX11_lookAt_45 : decode cX11_lookAt 45 = .ok (.ifCond .gt 16, 3) := by decide +kernel
theorem dX11_lookAt_48 : decode cX11_lookAt 48 = .ok (.iload 4, 2) := by decide +kernel
theorem dX11_lookAt_50 : decode cX11_lookAt 50 = .ok (.ifCond .ne 16, 3) := by decide +kernel
theorem dX11_lookAt_53 : decode cX11_lookAt 53 = .ok (.iload_n 1, 1) := by decide +kernel
theorem dX11_lookAt_54 : decode cX11_lookAt 54 = .ok (.aload_n 0, 1) := by decide +kernel
theorem dX11_lookAt_55 : decode cX11_lookAt 55 = .ok (.getfield 214, 3) := by decide +kernel
theorem dX11_lookAt_58 : decode cX11_lookAt 58 = .ok (.if_icmp .ge 8, 3) := by decide +kernel
theorem dX11_lookAt_61 : decode cX11_lookAt 61 = .ok (.aload_n 0, 1) := by decide +kernel
theorem dX11_lookAt_62 : decode cX11_lookAt 62 = .ok (.iload_n 1, 1) := by decide +kernel
theorem dX11_lookAt_63 : decode cX11_lookAt 63 = .ok (.putfield 214, 3) := by decide +kernel
theorem dX11_lookAt_66 : decode cX11_lookAt 66 = .ok (.return_, 1) := by decide +kernel
theorem dX11_nextFrom_0 : decode cX11_nextFrom 0 = .ok (.aload_n 0, 1) := by decide +kernel
theorem dX11_nextFrom_1 : decode cX11_nextFrom 1 = .ok (.iconst (-1), 1) := by decide +kernel
theorem dX11_nextFrom_2 : decode cX11_nextFrom 2 = .ok (.putfield 214, 3) := by decide +kernel
theorem dX11_nextFrom_5 : decode cX11_nextFrom 5 = .ok (.iconst 0, 1) := by decide +kernel
theorem dX11_nextFrom_6 : decode cX11_nextFrom 6 = .ok (.istore 4, 2) := by decide +kernel
theorem dX11_nextFrom_8 : decode cX11_nextFrom 8 = .ok (.iload 4, 2) := by decide +kernel
theorem dX11_nextFrom_10 : decode cX11_nextFrom 10 = .ok (.aload_n 0, 1) := by decide +kernel
theorem dX11_nextFrom_11 : decode cX11_nextFrom 11 = .ok (.invokevirtual 83, 3) := by decide +kernel
theorem dX11_nextFrom_14 : decode cX11_nextFrom 14 = .ok (.if_icmp .ge 69, 3) := by decide +kernel
theorem dX11_nextFrom_17 : decode cX11_nextFrom 17 = .ok (.aload_n 0, 1) := by decide +kernel
theorem dX11_nextFrom_18 : decode cX11_nextFrom 18 = .ok (.iload_n 1, 1) := by decide +kernel
theorem dX11_nextFrom_19 : decode cX11_nextFrom 19 = .ok (.iconst 1, 1) := by decide +kernel
theorem dX11_nextFrom_20 : decode cX11_nextFrom 20 = .ok (.iload 4, 2) := by decide +kernel
theorem dX11_nextFrom_22 : decode cX11_nextFrom 22 = .ok (.ishl, 1) := by decide +kernel
theorem dX11_nextFrom_23 : decode cX11_nextFrom 23 = .ok (.ixor, 1) := by decide +kernel
theorem dX11_nextFrom_24 : decode cX11_nextFrom 24 = .ok (.iload_n 2, 1) := by decide +kernel
theorem dX11_nextFrom_25 : decode cX11_nextFrom 25 = .ok (.iload_n 3, 1) := by decide +kernel
theorem dX11_nextFrom_26 : decode cX11_nextFrom 26 = .ok (.invokevirtual 220, 3) := by decide +kernel
theorem dX11_nextFrom_29 : decode cX11_nextFrom 29 = .ok (.iconst 0, 1) := by decide +kernel
theorem dX11_nextFrom_30 : decode cX11_nextFrom 30 = .ok (.istore 5, 2) := by decide +kernel
theorem dX11_nextFrom_32 : decode cX11_nextFrom 32 = .ok (.iload 5, 2) := by decide +kernel
theorem dX11_nextFrom_34 : decode cX11_nextFrom 34 = .ok (.iload 4, 2) := by decide +kernel
theorem dX11_nextFrom_36 : decode cX11_nextFrom 36 = .ok (.if_icmp .ge 41, 3) := by decide +kernel
theorem dX11_nextFrom_39 : decode cX11_nextFrom 39 = .ok (.iload_n 1, 1) := by decide +kernel
theorem dX11_nextFrom_40 : decode cX11_nextFrom 40 = .ok (.iload 4, 2) := by decide +kernel
theorem dX11_nextFrom_42 : decode cX11_nextFrom 42 = .ok (.invokestatic 94, 3) := by decide +kernel
theorem dX11_nextFrom_45 : decode cX11_nextFrom 45 = .ok (.iload_n 1, 1) := by decide +kernel
theorem dX11_nextFrom_46 : decode cX11_nextFrom 46 = .ok (.iload 5, 2) := by decide +kernel
theorem dX11_nextFrom_48 : decode cX11_nextFrom 48 = .ok (.invokestatic 94, 3) := by decide +kernel
theorem dX11_nextFrom_51 : decode cX11_nextFrom 51 = .ok (.if_icmp .eq 20, 3) := by decide +kernel
theorem dX11_nextFrom_54 : decode cX11_nextFrom 54 = .ok (.aload_n 0, 1) := by decide +kernel
theorem dX11_nextFrom_55 : decode cX11_nextFrom 55 = .ok (.iload_n 1, 1) := by decide +kernel
theorem dX11_nextFrom_56 : decode cX11_nextFrom 56 = .ok (.iconst 1, 1) := by decide +kernel
theorem dX11_nextFrom_57 : decode cX11_nextFrom 57 = .ok (.iload 4, 2) := by decide +kernel
theorem dX11_nextFrom_59 : decode cX11_nextFrom 59 = .ok (.ishl, 1) := by decide +kernel
theorem dX11_nextFrom_60 : decode cX11_nextFrom 60 = .ok (.ixor, 1) := by decide +kernel
theorem dX11_nextFrom_61 : decode cX11_nextFrom 61 = .ok (.iconst 1, 1) := by decide +kernel
theorem dX11_nextFrom_62 : decode cX11_nextFrom 62 = .ok (.iload 5, 2) := by decide +kernel
theorem dX11_nextFrom_64 : decode cX11_nextFrom 64 = .ok (.ishl, 1) := by decide +kernel
theorem dX11_nextFrom_65 : decode cX11_nextFrom 65 = .ok (.ixor, 1) := by decide +kernel
theorem dX11_nextFrom_66 : decode cX11_nextFrom 66 = .ok (.iload_n 2, 1) := by decide +kernel
theorem dX11_nextFrom_67 : decode cX11_nextFrom 67 = .ok (.iload_n 3, 1) := by decide +kernel
theorem dX11_nextFrom_68 : decode cX11_nextFrom 68 = .ok (.invokevirtual 220, 3) := by decide +kernel
theorem dX11_nextFrom_71 : decode cX11_nextFrom 71 = .ok (.iinc 5 1, 3) := by decide +kernel
theorem dX11_nextFrom_74 : decode cX11_nextFrom 74 = .ok (.goto (-42), 3) := by decide +kernel
theorem dX11_nextFrom_77 : decode cX11_nextFrom 77 = .ok (.iinc 4 1, 3) := by decide +kernel
theorem dX11_nextFrom_80 : decode cX11_nextFrom 80 = .ok (.goto (-72), 3) := by decide +kernel
theorem dX11_nextFrom_83 : decode cX11_nextFrom 83 = .ok (.aload_n 0, 1) := by decide +kernel
theorem dX11_nextFrom_84 : decode cX11_nextFrom 84 = .ok (.getfield 214, 3) := by decide +kernel
theorem dX11_nextFrom_87 : decode cX11_nextFrom 87 = .ok (.ireturn, 1) := by decide +kernel
theorem dX11_climbed_0 : decode cX11_climbed 0 = .ok (.aload_n 0, 1) := by decide +kernel
theorem dX11_climbed_1 : decode cX11_climbed 1 = .ok (.getfield 24, 3) := by decide +kernel
theorem dX11_climbed_4 : decode cX11_climbed 4 = .ok (.iconst 5, 1) := by decide +kernel
theorem dX11_climbed_5 : decode cX11_climbed 5 = .ok (.iaload, 1) := by decide +kernel
theorem dX11_climbed_6 : decode cX11_climbed 6 = .ok (.istore_n 3, 1) := by decide +kernel
theorem dX11_climbed_7 : decode cX11_climbed 7 = .ok (.aload_n 0, 1) := by decide +kernel
theorem dX11_climbed_8 : decode cX11_climbed 8 = .ok (.iconst 0, 1) := by decide +kernel
theorem dX11_climbed_9 : decode cX11_climbed 9 = .ok (.putfield 224, 3) := by decide +kernel
theorem dX11_climbed_12 : decode cX11_climbed 12 = .ok (.aload_n 0, 1) := by decide +kernel
theorem dX11_climbed_13 : decode cX11_climbed 13 = .ok (.iload_n 3, 1) := by decide +kernel
theorem dX11_climbed_14 : decode cX11_climbed 14 = .ok (.iload_n 1, 1) := by decide +kernel
theorem dX11_climbed_15 : decode cX11_climbed 15 = .ok (.iload_n 2, 1) := by decide +kernel
theorem dX11_climbed_16 : decode cX11_climbed 16 = .ok (.invokevirtual 227, 3) := by decide +kernel
theorem dX11_climbed_19 : decode cX11_climbed 19 = .ok (.istore 4, 2) := by decide +kernel
theorem dX11_climbed_21 : decode cX11_climbed 21 = .ok (.iload 4, 2) := by decide +kernel
theorem dX11_climbed_23 : decode cX11_climbed 23 = .ok (.iconst (-1), 1) := by decide +kernel
theorem dX11_climbed_24 : decode cX11_climbed 24 = .ok (.if_icmp .eq 21, 3) := by decide +kernel
theorem dX11_climbed_27 : decode cX11_climbed 27 = .ok (.aload_n 0, 1) := by decide +kernel
theorem dX11_climbed_28 : decode cX11_climbed 28 = .ok (.iload 4, 2) := by decide +kernel
theorem dX11_climbed_30 : decode cX11_climbed 30 = .ok (.iload_n 1, 1) := by decide +kernel
theorem dX11_climbed_31 : decode cX11_climbed 31 = .ok (.iload_n 2, 1) := by decide +kernel
theorem dX11_climbed_32 : decode cX11_climbed 32 = .ok (.invokevirtual 217, 3) := by decide +kernel
theorem dX11_climbed_35 : decode cX11_climbed 35 = .ok (.aload_n 0, 1) := by decide +kernel
theorem dX11_climbed_36 : decode cX11_climbed 36 = .ok (.iload_n 3, 1) := by decide +kernel
theorem dX11_climbed_37 : decode cX11_climbed 37 = .ok (.iload_n 1, 1) := by decide +kernel
theorem dX11_climbed_38 : decode cX11_climbed 38 = .ok (.iload_n 2, 1) := by decide +kernel
theorem dX11_climbed_39 : decode cX11_climbed 39 = .ok (.invokevirtual 217, 3) := by decide +kernel
theorem dX11_climbed_42 : decode cX11_climbed 42 = .ok (.if_icmp .gt 5, 3) := by decide +kernel
theorem dX11_climbed_45 : decode cX11_climbed 45 = .ok (.iload_n 3, 1) := by decide +kernel
theorem dX11_climbed_46 : decode cX11_climbed 46 = .ok (.ireturn, 1) := by decide +kernel
theorem dX11_climbed_47 : decode cX11_climbed 47 = .ok (.iload 4, 2) := by decide +kernel
theorem dX11_climbed_49 : decode cX11_climbed 49 = .ok (.istore_n 3, 1) := by decide +kernel
theorem dX11_climbed_50 : decode cX11_climbed 50 = .ok (.aload_n 0, 1) := by decide +kernel
theorem dX11_climbed_51 : decode cX11_climbed 51 = .ok (.dup, 1) := by decide +kernel
theorem dX11_climbed_52 : decode cX11_climbed 52 = .ok (.getfield 224, 3) := by decide +kernel
theorem dX11_climbed_55 : decode cX11_climbed 55 = .ok (.iconst 1, 1) := by decide +kernel
theorem dX11_climbed_56 : decode cX11_climbed 56 = .ok (.iadd, 1) := by decide +kernel
theorem dX11_climbed_57 : decode cX11_climbed 57 = .ok (.putfield 224, 3) := by decide +kernel
theorem dX11_climbed_60 : decode cX11_climbed 60 = .ok (.goto (-48), 3) := by decide +kernel
theorem dX11_areWeights_0 : decode cX11_areWeights 0 = .ok (.iload_n 0, 1) := by decide +kernel
theorem dX11_areWeights_1 : decode cX11_areWeights 1 = .ok (.i2l, 1) := by decide +kernel
theorem dX11_areWeights_2 : decode cX11_areWeights 2 = .ok (.lconst 0, 1) := by decide +kernel
theorem dX11_areWeights_3 : decode cX11_areWeights 3 = .ok (.ldc2_w 230, 3) := by decide +kernel
theorem dX11_areWeights_6 : decode cX11_areWeights 6 = .ok (.invokestatic 87, 3) := by decide +kernel
theorem dX11_areWeights_9 : decode cX11_areWeights 9 = .ok (.ifCond .eq 25, 3) := by decide +kernel
theorem dX11_areWeights_12 : decode cX11_areWeights 12 = .ok (.iload_n 1, 1) := by decide +kernel
theorem dX11_areWeights_13 : decode cX11_areWeights 13 = .ok (.i2l, 1) := by decide +kernel
theorem dX11_areWeights_14 : decode cX11_areWeights 14 = .ok (.lconst 0, 1) := by decide +kernel
theorem dX11_areWeights_15 : decode cX11_areWeights 15 = .ok (.ldc2_w 230, 3) := by decide +kernel
theorem dX11_areWeights_18 : decode cX11_areWeights 18 = .ok (.invokestatic 87, 3) := by decide +kernel
theorem dX11_areWeights_21 : decode cX11_areWeights 21 = .ok (.ifCond .eq 13, 3) := by decide +kernel
theorem dX11_areWeights_24 : decode cX11_areWeights 24 = .ok (.iload_n 0, 1) := by decide +kernel
theorem dX11_areWeights_25 : decode cX11_areWeights 25 = .ok (.iload_n 1, 1) := by decide +kernel
theorem dX11_areWeights_26 : decode cX11_areWeights 26 = .ok (.iadd, 1) := by decide +kernel
theorem dX11_areWeights_27 : decode cX11_areWeights 27 = .ok (.ifCond .le 7, 3) := by decide +kernel
theorem dX11_areWeights_30 : decode cX11_areWeights 30 = .ok (.iconst 1, 1) := by decide +kernel
theorem dX11_areWeights_31 : decode cX11_areWeights 31 = .ok (.goto 4, 3) := by decide +kernel
theorem dX11_areWeights_34 : decode cX11_areWeights 34 = .ok (.iconst 0, 1) := by decide +kernel
theorem dX11_areWeights_35 : decode cX11_areWeights 35 = .ok (.ireturn, 1) := by decide +kernel
theorem dX11_appendFour_0 : decode cX11_appendFour 0 = .ok (.bipush 24, 2) := by decide +kernel
theorem dX11_appendFour_2 : decode cX11_appendFour 2 = .ok (.istore_n 2, 1) := by decide +kernel
theorem dX11_appendFour_3 : decode cX11_appendFour 3 = .ok (.iload_n 2, 1) := by decide +kernel
theorem dX11_appendFour_4 : decode cX11_appendFour 4 = .ok (.ifCond .lt 32, 3) := by decide +kernel
theorem dX11_appendFour_7 : decode cX11_appendFour 7 = .ok (.aload_n 0, 1) := by decide +kernel
theorem dX11_appendFour_8 : decode cX11_appendFour 8 = .ok (.getfield 63, 3) := by decide +kernel
theorem dX11_appendFour_11 : decode cX11_appendFour 11 = .ok (.aload_n 0, 1) := by decide +kernel
theorem dX11_appendFour_12 : decode cX11_appendFour 12 = .ok (.getfield 232, 3) := by decide +kernel
theorem dX11_appendFour_15 : decode cX11_appendFour 15 = .ok (.iload_n 1, 1) := by decide +kernel
theorem dX11_appendFour_16 : decode cX11_appendFour 16 = .ok (.iload_n 2, 1) := by decide +kernel
theorem dX11_appendFour_17 : decode cX11_appendFour 17 = .ok (.ishr, 1) := by decide +kernel
theorem dX11_appendFour_18 : decode cX11_appendFour 18 = .ok (.i2b, 1) := by decide +kernel
theorem dX11_appendFour_19 : decode cX11_appendFour 19 = .ok (.bastore, 1) := by decide +kernel
theorem dX11_appendFour_20 : decode cX11_appendFour 20 = .ok (.aload_n 0, 1) := by decide +kernel
theorem dX11_appendFour_21 : decode cX11_appendFour 21 = .ok (.dup, 1) := by decide +kernel
theorem dX11_appendFour_22 : decode cX11_appendFour 22 = .ok (.getfield 232, 3) := by decide +kernel
theorem dX11_appendFour_25 : decode cX11_appendFour 25 = .ok (.iconst 1, 1) := by decide +kernel
theorem dX11_appendFour_26 : decode cX11_appendFour 26 = .ok (.iadd, 1) := by decide +kernel
theorem dX11_appendFour_27 : decode cX11_appendFour 27 = .ok (.putfield 232, 3) := by decide +kernel
theorem dX11_appendFour_30 : decode cX11_appendFour 30 = .ok (.iinc 2 (-8), 3) := by decide +kernel
theorem dX11_appendFour_33 : decode cX11_appendFour 33 = .ok (.goto (-30), 3) := by decide +kernel
theorem dX11_appendFour_36 : decode cX11_appendFour 36 = .ok (.return_, 1) := by decide +kernel
theorem dX11_append_0 : decode cX11_append 0 = .ok (.aload_n 0, 1) := by decide +kernel
theorem dX11_append_1 : decode cX11_append 1 = .ok (.aload_n 0, 1) := by decide +kernel
theorem dX11_append_2 : decode cX11_append 2 = .ok (.getfield 232, 3) := by decide +kernel
theorem dX11_append_5 : decode cX11_append 5 = .ok (.bipush 20, 2) := by decide +kernel
theorem dX11_append_7 : decode cX11_append 7 = .ok (.iadd, 1) := by decide +kernel
theorem dX11_append_8 : decode cX11_append 8 = .ok (.sipush 600, 3) := by decide +kernel
theorem dX11_append_11 : decode cX11_append 11 = .ok (.if_icmp .gt 7, 3) := by decide +kernel
theorem dX11_append_14 : decode cX11_append 14 = .ok (.iconst 1, 1) := by decide +kernel
theorem dX11_append_15 : decode cX11_append 15 = .ok (.goto 4, 3) := by decide +kernel
theorem dX11_append_18 : decode cX11_append 18 = .ok (.iconst 0, 1) := by decide +kernel
theorem dX11_append_19 : decode cX11_append 19 = .ok (.invokevirtual 235, 3) := by decide +kernel
theorem dX11_append_22 : decode cX11_append 22 = .ok (.ifCond .ne 5, 3) := by decide +kernel
theorem dX11_append_25 : decode cX11_append 25 = .ok (.iconst 0, 1) := by decide +kernel
theorem dX11_append_26 : decode cX11_append 26 = .ok (.ireturn, 1) := by decide +kernel
theorem dX11_append_27 : decode cX11_append 27 = .ok (.aload_n 0, 1) := by decide +kernel
theorem dX11_append_28 : decode cX11_append 28 = .ok (.iload_n 1, 1) := by decide +kernel
theorem dX11_append_29 : decode cX11_append 29 = .ok (.invokevirtual 239, 3) := by decide +kernel
theorem dX11_append_32 : decode cX11_append 32 = .ok (.aload_n 0, 1) := by decide +kernel
theorem dX11_append_33 : decode cX11_append 33 = .ok (.iload_n 2, 1) := by decide +kernel
theorem dX11_append_34 : decode cX11_append 34 = .ok (.invokevirtual 239, 3) := by decide +kernel
theorem dX11_append_37 : decode cX11_append 37 = .ok (.aload_n 0, 1) := by decide +kernel
theorem dX11_append_38 : decode cX11_append 38 = .ok (.iload_n 3, 1) := by decide +kernel
theorem dX11_append_39 : decode cX11_append 39 = .ok (.invokevirtual 239, 3) := by decide +kernel
theorem dX11_append_42 : decode cX11_append 42 = .ok (.aload_n 0, 1) := by decide +kernel
theorem dX11_append_43 : decode cX11_append 43 = .ok (.iload 4, 2) := by decide +kernel
theorem dX11_append_45 : decode cX11_append 45 = .ok (.invokevirtual 239, 3) := by decide +kernel
theorem dX11_append_48 : decode cX11_append 48 = .ok (.aload_n 0, 1) := by decide +kernel
theorem dX11_append_49 : decode cX11_append 49 = .ok (.iload 5, 2) := by decide +kernel
theorem dX11_append_51 : decode cX11_append 51 = .ok (.invokevirtual 239, 3) := by decide +kernel
theorem dX11_append_54 : decode cX11_append 54 = .ok (.aload_n 0, 1) := by decide +kernel
theorem dX11_append_55 : decode cX11_append 55 = .ok (.getfield 232, 3) := by decide +kernel
theorem dX11_append_58 : decode cX11_append 58 = .ok (.ireturn, 1) := by decide +kernel
theorem dX11_truncate_0 : decode cX11_truncate 0 = .ok (.aload_n 0, 1) := by decide +kernel
theorem dX11_truncate_1 : decode cX11_truncate 1 = .ok (.iload_n 1, 1) := by decide +kernel
theorem dX11_truncate_2 : decode cX11_truncate 2 = .ok (.i2l, 1) := by decide +kernel
theorem dX11_truncate_3 : decode cX11_truncate 3 = .ok (.lconst 0, 1) := by decide +kernel
theorem dX11_truncate_4 : decode cX11_truncate 4 = .ok (.aload_n 0, 1) := by decide +kernel
theorem dX11_truncate_5 : decode cX11_truncate 5 = .ok (.getfield 232, 3) := by decide +kernel
theorem dX11_truncate_8 : decode cX11_truncate 8 = .ok (.i2l, 1) := by decide +kernel
theorem dX11_truncate_9 : decode cX11_truncate 9 = .ok (.invokestatic 87, 3) := by decide +kernel
theorem dX11_truncate_12 : decode cX11_truncate 12 = .ok (.invokevirtual 235, 3) := by decide +kernel
theorem dX11_truncate_15 : decode cX11_truncate 15 = .ok (.ifCond .eq 8, 3) := by decide +kernel
theorem dX11_truncate_18 : decode cX11_truncate 18 = .ok (.aload_n 0, 1) := by decide +kernel
theorem dX11_truncate_19 : decode cX11_truncate 19 = .ok (.iload_n 1, 1) := by decide +kernel
theorem dX11_truncate_20 : decode cX11_truncate 20 = .ok (.putfield 232, 3) := by decide +kernel
theorem dX11_truncate_23 : decode cX11_truncate 23 = .ok (.return_, 1) := by decide +kernel
theorem dX11_good_0 : decode cX11_good 0 = .ok (.aload_n 0, 1) := by decide +kernel
theorem dX11_good_1 : decode cX11_good 1 = .ok (.getfield 242, 3) := by decide +kernel
theorem dX11_good_4 : decode cX11_good 4 = .ok (.ifCond .ne 7, 3) := by decide +kernel
theorem dX11_good_7 : decode cX11_good 7 = .ok (.iconst 1, 1) := by decide +kernel
theorem dX11_good_8 : decode cX11_good 8 = .ok (.goto 4, 3) := by decide +kernel
theorem dX11_good_11 : decode cX11_good 11 = .ok (.iconst 0, 1) := by decide +kernel
theorem dX11_good_12 : decode cX11_good 12 = .ok (.ireturn, 1) := by decide +kernel
theorem dX11_errs_0 : decode cX11_errs 0 = .ok (.aload_n 0, 1) := by decide +kernel
theorem dX11_errs_1 : decode cX11_errs 1 = .ok (.invokevirtual 245, 3) := by decide +kernel
theorem dX11_errs_4 : decode cX11_errs 4 = .ok (.ifCond .ne 4, 3) := by decide +kernel
theorem dX11_errs_7 : decode cX11_errs 7 = .ok (.return_, 1) := by decide +kernel
theorem dX11_errs_8 : decode cX11_errs 8 = .ok (.aload_n 0, 1) := by decide +kernel
theorem dX11_errs_9 : decode cX11_errs 9 = .ok (.iload_n 1, 1) := by decide +kernel
theorem dX11_errs_10 : decode cX11_errs 10 = .ok (.putfield 242, 3) := by decide +kernel
theorem dX11_errs_13 : decode cX11_errs 13 = .ok (.aload_n 0, 1) := by decide +kernel
theorem dX11_errs_14 : decode cX11_errs 14 = .ok (.aload_n 0, 1) := by decide +kernel
theorem dX11_errs_15 : decode cX11_errs 15 = .ok (.getfield 249, 3) := by decide +kernel
theorem dX11_errs_18 : decode cX11_errs 18 = .ok (.putfield 67, 3) := by decide +kernel
theorem dX11_errs_21 : decode cX11_errs 21 = .ok (.return_, 1) := by decide +kernel
theorem dX11_byteAt_0 : decode cX11_byteAt 0 = .ok (.iload_n 1, 1) := by decide +kernel
theorem dX11_byteAt_1 : decode cX11_byteAt 1 = .ok (.aload_n 0, 1) := by decide +kernel
theorem dX11_byteAt_2 : decode cX11_byteAt 2 = .ok (.getfield 252, 3) := by decide +kernel
theorem dX11_byteAt_5 : decode cX11_byteAt 5 = .ok (.if_icmp .ge 16, 3) := by decide +kernel
theorem dX11_byteAt_8 : decode cX11_byteAt 8 = .ok (.aload_n 0, 1) := by decide +kernel
theorem dX11_byteAt_9 : decode cX11_byteAt 9 = .ok (.getfield 63, 3) := by decide +kernel
theorem dX11_byteAt_12 : decode cX11_byteAt 12 = .ok (.iload_n 1, 1) := by decide +kernel
theorem dX11_byteAt_13 : decode cX11_byteAt 13 = .ok (.baload, 1) := by decide +kernel
theorem dX11_byteAt_14 : decode cX11_byteAt 14 = .ok (.sipush 255, 3) := by decide +kernel
theorem dX11_byteAt_17 : decode cX11_byteAt 17 = .ok (.iand, 1) := by decide +kernel
theorem dX11_byteAt_18 : decode cX11_byteAt 18 = .ok (.goto 4, 3) := by decide +kernel
theorem dX11_byteAt_21 : decode cX11_byteAt 21 = .ok (.iconst (-1), 1) := by decide +kernel
theorem dX11_byteAt_22 : decode cX11_byteAt 22 = .ok (.ireturn, 1) := by decide +kernel
theorem dX11_scan_0 : decode cX11_scan 0 = .ok (.aload_n 0, 1) := by decide +kernel
theorem dX11_scan_1 : decode cX11_scan 1 = .ok (.aload_n 0, 1) := by decide +kernel
theorem dX11_scan_2 : decode cX11_scan 2 = .ok (.getfield 255, 3) := by decide +kernel
theorem dX11_scan_5 : decode cX11_scan 5 = .ok (.invokevirtual 258, 3) := by decide +kernel
theorem dX11_scan_8 : decode cX11_scan 8 = .ok (.bipush 32, 2) := by decide +kernel
theorem dX11_scan_10 : decode cX11_scan 10 = .ok (.if_icmp .eq 16, 3) := by decide +kernel
theorem dX11_scan_13 : decode cX11_scan 13 = .ok (.aload_n 0, 1) := by decide +kernel
theorem dX11_scan_14 : decode cX11_scan 14 = .ok (.aload_n 0, 1) := by decide +kernel
theorem dX11_scan_15 : decode cX11_scan 15 = .ok (.getfield 255, 3) := by decide +kernel
theorem dX11_scan_18 : decode cX11_scan 18 = .ok (.invokevirtual 258, 3) := by decide +kernel
theorem dX11_scan_21 : decode cX11_scan 21 = .ok (.bipush 10, 2) := by decide +kernel
theorem dX11_scan_23 : decode cX11_scan 23 = .ok (.if_icmp .ne 16, 3) := by decide +kernel
theorem dX11_scan_26 : decode cX11_scan 26 = .ok (.aload_n 0, 1) := by decide +kernel
theorem dX11_scan_27 : decode cX11_scan 27 = .ok (.dup, 1) := by decide +kernel
theorem dX11_scan_28 : decode cX11_scan 28 = .ok (.getfield 255, 3) := by decide +kernel
theorem dX11_scan_31 : decode cX11_scan 31 = .ok (.iconst 1, 1) := by decide +kernel
theorem dX11_scan_32 : decode cX11_scan 32 = .ok (.iadd, 1) := by decide +kernel
theorem dX11_scan_33 : decode cX11_scan 33 = .ok (.putfield 255, 3) := by decide +kernel
theorem dX11_scan_36 : decode cX11_scan 36 = .ok (.goto (-36), 3) := by decide +kernel
theorem dX11_scan_39 : decode cX11_scan 39 = .ok (.aload_n 0, 1) := by decide +kernel
theorem dX11_scan_40 : decode cX11_scan 40 = .ok (.aload_n 0, 1) := by decide +kernel
theorem dX11_scan_41 : decode cX11_scan 41 = .ok (.getfield 255, 3) := by decide +kernel
theorem dX11_scan_44 : decode cX11_scan 44 = .ok (.putfield 249, 3) := by decide +kernel
theorem dX11_scan_47 : decode cX11_scan 47 = .ok (.aload_n 0, 1) := by decide +kernel
theorem dX11_scan_48 : decode cX11_scan 48 = .ok (.aload_n 0, 1) := by decide +kernel
theorem dX11_scan_49 : decode cX11_scan 49 = .ok (.getfield 255, 3) := by decide +kernel
theorem dX11_scan_52 : decode cX11_scan 52 = .ok (.invokevirtual 258, 3) := by decide +kernel
theorem dX11_scan_55 : decode cX11_scan 55 = .ok (.istore_n 1, 1) := by decide +kernel
theorem dX11_scan_56 : decode cX11_scan 56 = .ok (.iload_n 1, 1) := by decide +kernel
theorem dX11_scan_57 : decode cX11_scan 57 = .ok (.iconst (-1), 1) := by decide +kernel
theorem dX11_scan_58 : decode cX11_scan 58 = .ok (.if_icmp .ne 11, 3) := by decide +kernel
theorem dX11_scan_61 : decode cX11_scan 61 = .ok (.aload_n 0, 1) := by decide +kernel
theorem dX11_scan_62 : decode cX11_scan 62 = .ok (.iconst 0, 1) := by decide +kernel
theorem dX11_scan_63 : decode cX11_scan 63 = .ok (.putfield 261, 3) := by decide +kernel
theorem dX11_scan_66 : decode cX11_scan 66 = .ok (.goto 169, 3) := by decide +kernel
theorem dX11_scan_69 : decode cX11_scan 69 = .ok (.iload_n 1, 1) := by decide +kernel
theorem dX11_scan_70 : decode cX11_scan 70 = .ok (.i2l, 1) := by decide +kernel
theorem dX11_scan_71 : decode cX11_scan 71 = .ok (.ldc2_w 264, 3) := by decide +kernel
theorem dX11_scan_74 : decode cX11_scan 74 = .ok (.ldc2_w 266, 3) := by decide +kernel
theorem dX11_scan_77 : decode cX11_scan 77 = .ok (.invokestatic 87, 3) := by decide +kernel
theorem dX11_scan_80 : decode cX11_scan 80 = .ok (.ifCond .eq 45, 3) := by decide +kernel
theorem dX11_scan_83 : decode cX11_scan 83 = .ok (.aload_n 0, 1) := by decide +kernel
theorem dX11_scan_84 : decode cX11_scan 84 = .ok (.aload_n 0, 1) := by decide +kernel
theorem dX11_scan_85 : decode cX11_scan 85 = .ok (.getfield 255, 3) := by decide +kernel
theorem dX11_scan_88 : decode cX11_scan 88 = .ok (.invokevirtual 258, 3) := by decide +kernel
theorem dX11_scan_91 : decode cX11_scan 91 = .ok (.i2l, 1) := by decide +kernel
theorem dX11_scan_92 : decode cX11_scan 92 = .ok (.ldc2_w 264, 3) := by decide +kernel
theorem dX11_scan_95 : decode cX11_scan 95 = .ok (.ldc2_w 266, 3) := by decide +kernel
theorem dX11_scan_98 : decode cX11_scan 98 = .ok (.invokestatic 87, 3) := by decide +kernel
theorem dX11_scan_101 : decode cX11_scan 101 = .ok (.ifCond .eq 16, 3) := by decide +kernel
theorem dX11_scan_104 : decode cX11_scan 104 = .ok (.aload_n 0, 1) := by decide +kernel
theorem dX11_scan_105 : decode cX11_scan 105 = .ok (.dup, 1) := by decide +kernel
theorem dX11_scan_106 : decode cX11_scan 106 = .ok (.getfield 255, 3) := by decide +kernel
theorem dX11_scan_109 : decode cX11_scan 109 = .ok (.iconst 1, 1) := by decide +kernel
theorem dX11_scan_110 : decode cX11_scan 110 = .ok (.iadd, 1) := by decide +kernel
theorem dX11_scan_111 : decode cX11_scan 111 = .ok (.putfield 255, 3) := by decide +kernel
theorem dX11_scan_114 : decode cX11_scan 114 = .ok (.goto (-31), 3) := by decide +kernel
theorem dX11_scan_117 : decode cX11_scan 117 = .ok (.aload_n 0, 1) := by decide +kernel
theorem dX11_scan_118 : decode cX11_scan 118 = .ok (.iconst 1, 1) := by decide +kernel
theorem dX11_scan_119 : decode cX11_scan 119 = .ok (.putfield 261, 3) := by decide +kernel
theorem dX11_scan_122 : decode cX11_scan 122 = .ok (.goto 113, 3) := by decide +kernel
theorem dX11_scan_125 : decode cX11_scan 125 = .ok (.iload_n 1, 1) := by decide +kernel
theorem dX11_scan_126 : decode cX11_scan 126 = .ok (.i2l, 1) := by decide +kernel
theorem dX11_scan_127 : decode cX11_scan 127 = .ok (.ldc2_w 268, 3) := by decide +kernel
theorem dX11_scan_130 : decode cX11_scan 130 = .ok (.ldc2_w 270, 3) := by decide +kernel
theorem dX11_scan_133 : decode cX11_scan 133 = .ok (.invokestatic 87, 3) := by decide +kernel
theorem dX11_scan_136 : decode cX11_scan 136 = .ok (.ifCond .eq 79, 3) := by decide +kernel
theorem dX11_scan_139 : decode cX11_scan 139 = .ok (.aload_n 0, 1) := by decide +kernel
theorem dX11_scan_140 : decode cX11_scan 140 = .ok (.iconst 0, 1) := by decide +kernel
theorem dX11_scan_141 : decode cX11_scan 141 = .ok (.putfield 272, 3) := by decide +kernel
theorem dX11_scan_144 : decode cX11_scan 144 = .ok (.aload_n 0, 1) := by decide +kernel
theorem dX11_scan_145 : decode cX11_scan 145 = .ok (.aload_n 0, 1) := by decide +kernel
theorem dX11_scan_146 : decode cX11_scan 146 = .ok (.getfield 255, 3) := by decide +kernel
theorem dX11_scan_149 : decode cX11_scan 149 = .ok (.invokevirtual 258, 3) := by decide +kernel
theorem dX11_scan_152 : decode cX11_scan 152 = .ok (.i2l, 1) := by decide +kernel
theorem dX11_scan_153 : decode cX11_scan 153 = .ok (.ldc2_w 268, 3) := by decide +kernel
theorem dX11_scan_156 : decode cX11_scan 156 = .ok (.ldc2_w 270, 3) := by decide +kernel
theorem dX11_scan_159 : decode cX11_scan 159 = .ok (.invokestatic 87, 3) := by decide +kernel
theorem dX11_scan_162 : decode cX11_scan 162 = .ok (.ifCond .eq 45, 3) := by decide +kernel
theorem dX11_scan_165 : decode cX11_scan 165 = .ok (.aload_n 0, 1) := by decide +kernel
theorem dX11_scan_166 : decode cX11_scan 166 = .ok (.sipush 9999, 3) := by decide +kernel
theorem dX11_scan_169 : decode cX11_scan 169 = .ok (.bipush 10, 2) := by decide +kernel
theorem dX11_scan_171 : decode cX11_scan 171 = .ok (.aload_n 0, 1) := by decide +kernel
theorem dX11_scan_172 : decode cX11_scan 172 = .ok (.getfield 272, 3) := by decide +kernel
theorem dX11_scan_175 : decode cX11_scan 175 = .ok (.imul, 1) := by decide +kernel
theorem dX11_scan_176 : decode cX11_scan 176 = .ok (.aload_n 0, 1) := by decide +kernel
theorem dX11_scan_177 : decode cX11_scan 177 = .ok (.aload_n 0, 1) := by decide +kernel
theorem dX11_scan_178 : decode cX11_scan 178 = .ok (.getfield 255, 3) := by decide +kernel
theorem dX11_scan_181 : decode cX11_scan 181 = .ok (.invokevirtual 258, 3) := by decide +kernel
theorem dX11_scan_184 : decode cX11_scan 184 = .ok (.iadd, 1) := by decide +kernel
theorem dX11_scan_185 : decode cX11_scan 185 = .ok (.bipush 48, 2) := by decide +kernel
theorem dX11_scan_187 : decode cX11_scan 187 = .ok (.isub, 1) := by decide +kernel
theorem dX11_scan_188 : decode cX11_scan 188 = .ok (.invokestatic 275, 3) := by decide +kernel
theorem dX11_scan_191 : decode cX11_scan 191 = .ok (.putfield 272, 3) := by decide +kernel
theorem dX11_scan_194 : decode cX11_scan 194 = .ok (.aload_n 0, 1) := by decide +kernel
theorem dX11_scan_195 : decode cX11_scan 195 = .ok (.dup, 1) := by decide +kernel
theorem dX11_scan_196 : decode cX11_scan 196 = .ok (.getfield 255, 3) := by decide +kernel
theorem dX11_scan_199 : decode cX11_scan 199 = .ok (.iconst 1, 1) := by decide +kernel
theorem dX11_scan_200 : decode cX11_scan 200 = .ok (.iadd, 1) := by decide +kernel
theorem dX11_scan_201 : decode cX11_scan 201 = .ok (.putfield 255, 3) := by decide +kernel
theorem dX11_scan_204 : decode cX11_scan 204 = .ok (.goto (-60), 3) := by decide +kernel
theorem dX11_scan_207 : decode cX11_scan 207 = .ok (.aload_n 0, 1) := by decide +kernel
theorem dX11_scan_208 : decode cX11_scan 208 = .ok (.iconst 2, 1) := by decide +kernel
theorem dX11_scan_209 : decode cX11_scan 209 = .ok (.putfield 261, 3) := by decide +kernel
theorem dX11_scan_212 : decode cX11_scan 212 = .ok (.goto 23, 3) := by decide +kernel
theorem dX11_scan_215 : decode cX11_scan 215 = .ok (.aload_n 0, 1) := by decide +kernel
theorem dX11_scan_216 : decode cX11_scan 216 = .ok (.iconst 3, 1) := by decide +kernel
theorem dX11_scan_217 : decode cX11_scan 217 = .ok (.putfield 261, 3) := by decide +kernel
theorem dX11_scan_220 : decode cX11_scan 220 = .ok (.aload_n 0, 1) := by decide +kernel
theorem dX11_scan_221 : decode cX11_scan 221 = .ok (.iload_n 1, 1) := by decide +kernel
theorem dX11_scan_222 : decode cX11_scan 222 = .ok (.putfield 272, 3) := by decide +kernel
theorem dX11_scan_225 : decode cX11_scan 225 = .ok (.aload_n 0, 1) := by decide +kernel
theorem dX11_scan_226 : decode cX11_scan 226 = .ok (.dup, 1) := by decide +kernel
theorem dX11_scan_227 : decode cX11_scan 227 = .ok (.getfield 255, 3) := by decide +kernel
theorem dX11_scan_230 : decode cX11_scan 230 = .ok (.iconst 1, 1) := by decide +kernel
theorem dX11_scan_231 : decode cX11_scan 231 = .ok (.iadd, 1) := by decide +kernel
theorem dX11_scan_232 : decode cX11_scan 232 = .ok (.putfield 255, 3) := by decide +kernel
theorem dX11_scan_235 : decode cX11_scan 235 = .ok (.return_, 1) := by decide +kernel
theorem dX11_goOn_0 : decode cX11_goOn 0 = .ok (.aload_n 0, 1) := by decide +kernel
theorem dX11_goOn_1 : decode cX11_goOn 1 = .ok (.invokevirtual 245, 3) := by decide +kernel
theorem dX11_goOn_4 : decode cX11_goOn 4 = .ok (.ifCond .eq 7, 3) := by decide +kernel
theorem dX11_goOn_7 : decode cX11_goOn 7 = .ok (.aload_n 0, 1) := by decide +kernel
theorem dX11_goOn_8 : decode cX11_goOn 8 = .ok (.invokevirtual 278, 3) := by decide +kernel
theorem dX11_goOn_11 : decode cX11_goOn 11 = .ok (.return_, 1) := by decide +kernel
theorem dX11_isWord_0 : decode cX11_isWord 0 = .ok (.aload_n 0, 1) := by decide +kernel
theorem dX11_isWord_1 : decode cX11_isWord 1 = .ok (.invokevirtual 245, 3) := by decide +kernel
theorem dX11_isWord_4 : decode cX11_isWord 4 = .ok (.ifCond .eq 31, 3) := by decide +kernel
theorem dX11_isWord_7 : decode cX11_isWord 7 = .ok (.aload_n 0, 1) := by decide +kernel
theorem dX11_isWord_8 : decode cX11_isWord 8 = .ok (.getfield 261, 3) := by decide +kernel
theorem dX11_isWord_11 : decode cX11_isWord 11 = .ok (.iconst 1, 1) := by decide +kernel
theorem dX11_isWord_12 : decode cX11_isWord 12 = .ok (.if_icmp .ne 23, 3) := by decide +kernel
theorem dX11_isWord_15 : decode cX11_isWord 15 = .ok (.aload_n 0, 1) := by decide +kernel
theorem dX11_isWord_16 : decode cX11_isWord 16 = .ok (.getfield 255, 3) := by decide +kernel
theorem dX11_isWord_19 : decode cX11_isWord 19 = .ok (.aload_n 0, 1) := by decide +kernel
theorem dX11_isWord_20 : decode cX11_isWord 20 = .ok (.getfield 249, 3) := by decide +kernel
theorem dX11_isWord_23 : decode cX11_isWord 23 = .ok (.isub, 1) := by decide +kernel
theorem dX11_isWord_24 : decode cX11_isWord 24 = .ok (.aload_n 1, 1) := by decide +kernel
theorem dX11_isWord_25 : decode cX11_isWord 25 = .ok (.invokevirtual 281, 3) := by decide +kernel
theorem dX11_isWord_28 : decode cX11_isWord 28 = .ok (.if_icmp .ne 7, 3) := by decide +kernel
theorem dX11_isWord_31 : decode cX11_isWord 31 = .ok (.iconst 1, 1) := by decide +kernel
theorem dX11_isWord_32 : decode cX11_isWord 32 = .ok (.goto 4, 3) := by decide +kernel
theorem dX11_isWord_35 : decode cX11_isWord 35 = .ok (.iconst 0, 1) := by decide +kernel
theorem dX11_isWord_36 : decode cX11_isWord 36 = .ok (.istore_n 2, 1) := by decide +kernel
theorem dX11_isWord_37 : decode cX11_isWord 37 = .ok (.iconst 0, 1) := by decide +kernel
theorem dX11_isWord_38 : decode cX11_isWord 38 = .ok (.istore_n 3, 1) := by decide +kernel
theorem dX11_isWord_39 : decode cX11_isWord 39 = .ok (.iload_n 3, 1) := by decide +kernel
theorem dX11_isWord_40 : decode cX11_isWord 40 = .ok (.aload_n 1, 1) := by decide +kernel
theorem dX11_isWord_41 : decode cX11_isWord 41 = .ok (.invokevirtual 281, 3) := by decide +kernel
theorem dX11_isWord_44 : decode cX11_isWord 44 = .ok (.if_icmp .ge 38, 3) := by decide +kernel
theorem dX11_isWord_47 : decode cX11_isWord 47 = .ok (.iload_n 2, 1) := by decide +kernel
theorem dX11_isWord_48 : decode cX11_isWord 48 = .ok (.ifCond .eq 34, 3) := by decide +kernel
theorem dX11_isWord_51 : decode cX11_isWord 51 = .ok (.aload_n 0, 1) := by decide +kernel
theorem dX11_isWord_52 : decode cX11_isWord 52 = .ok (.getfield 63, 3) := by decide +kernel
theorem dX11_isWord_55 : decode cX11_isWord 55 = .ok (.aload_n 0, 1) := by decide +kernel
theorem dX11_isWord_56 : decode cX11_isWord 56 = .ok (.getfield 249, 3) := by decide +kernel
theorem dX11_isWord_59 : decode cX11_isWord 59 = .ok (.iload_n 3, 1) := by decide +kernel
theorem dX11_isWord_60 : decode cX11_isWord 60 = .ok (.iadd, 1) := by decide +kernel
theorem dX11_isWord_61 : decode cX11_isWord 61 = .ok (.baload, 1) := by decide +kernel
theorem dX11_isWord_62 : decode cX11_isWord 62 = .ok (.aload_n 1, 1) := by decide +kernel
theorem dX11_isWord_63 : decode cX11_isWord 63 = .ok (.iload_n 3, 1) := by decide +kernel
theorem dX11_isWord_64 : decode cX11_isWord 64 = .ok (.invokevirtual 286, 3) := by decide +kernel
theorem dX11_isWord_67 : decode cX11_isWord 67 = .ok (.if_icmp .ne 7, 3) := by decide +kernel
theorem dX11_isWord_70 : decode cX11_isWord 70 = .ok (.iconst 1, 1) := by decide +kernel
theorem dX11_isWord_71 : decode cX11_isWord 71 = .ok (.goto 4, 3) := by decide +kernel
theorem dX11_isWord_74 : decode cX11_isWord 74 = .ok (.iconst 0, 1) := by decide +kernel
theorem dX11_isWord_75 : decode cX11_isWord 75 = .ok (.istore_n 2, 1) := by decide +kernel
theorem dX11_isWord_76 : decode cX11_isWord 76 = .ok (.iinc 3 1, 3) := by decide +kernel
theorem dX11_isWord_79 : decode cX11_isWord 79 = .ok (.goto (-40), 3) := by decide +kernel
theorem dX11_isWord_82 : decode cX11_isWord 82 = .ok (.iload_n 2, 1) := by decide +kernel
theorem dX11_isWord_83 : decode cX11_isWord 83 = .ok (.ireturn, 1) := by decide +kernel
theorem dX11_look_0 : decode cX11_look 0 = .ok (.aload_n 0, 1) := by decide +kernel
theorem dX11_look_1 : decode cX11_look 1 = .ok (.invokevirtual 245, 3) := by decide +kernel
theorem dX11_look_4 : decode cX11_look 4 = .ok (.ifCond .eq 16, 3) := by decide +kernel
theorem dX11_look_7 : decode cX11_look 7 = .ok (.aload_n 0, 1) := by decide +kernel
theorem dX11_look_8 : decode cX11_look 8 = .ok (.getfield 261, 3) := by decide +kernel
theorem dX11_look_11 : decode cX11_look 11 = .ok (.iconst 2, 1) := by decide +kernel
theorem dX11_look_12 : decode cX11_look 12 = .ok (.if_icmp .eq 8, 3) := by decide +kernel
theorem dX11_look_15 : decode cX11_look 15 = .ok (.aload_n 0, 1) := by decide +kernel
theorem dX11_look_16 : decode cX11_look 16 = .ok (.iconst 1, 1) := by decide +kernel
theorem dX11_look_17 : decode cX11_look 17 = .ok (.invokevirtual 290, 3) := by decide +kernel
theorem dX11_look_20 : decode cX11_look 20 = .ok (.aload_n 0, 1) := by decide +kernel
theorem dX11_look_21 : decode cX11_look 21 = .ok (.invokevirtual 245, 3) := by decide +kernel
theorem dX11_look_24 : decode cX11_look 24 = .ok (.ifCond .eq 23, 3) := by decide +kernel
theorem dX11_look_27 : decode cX11_look 27 = .ok (.aload_n 0, 1) := by decide +kernel
theorem dX11_look_28 : decode cX11_look 28 = .ok (.getfield 272, 3) := by decide +kernel
theorem dX11_look_31 : decode cX11_look 31 = .ok (.i2l, 1) := by decide +kernel
theorem dX11_look_32 : decode cX11_look 32 = .ok (.iload_n 1, 1) := by decide +kernel
theorem dX11_look_33 : decode cX11_look 33 = .ok (.i2l, 1) := by decide +kernel
theorem dX11_look_34 : decode cX11_look 34 = .ok (.iload_n 2, 1) := by decide +kernel
theorem dX11_look_35 : decode cX11_look 35 = .ok (.i2l, 1) := by decide +kernel
theorem dX11_look_36 : decode cX11_look 36 = .ok (.invokestatic 87, 3) := by decide +kernel
theorem dX11_look_39 : decode cX11_look 39 = .ok (.ifCond .ne 8, 3) := by decide +kernel
theorem dX11_look_42 : decode cX11_look 42 = .ok (.aload_n 0, 1) := by decide +kernel
theorem dX11_look_43 : decode cX11_look 43 = .ok (.iconst 2, 1) := by decide +kernel
theorem dX11_look_44 : decode cX11_look 44 = .ok (.invokevirtual 290, 3) := by decide +kernel
theorem dX11_look_47 : decode cX11_look 47 = .ok (.return_, 1) := by decide +kernel
theorem dX11_number_0 : decode cX11_number 0 = .ok (.aload_n 0, 1) := by decide +kernel
theorem dX11_number_1 : decode cX11_number 1 = .ok (.iload_n 1, 1) := by decide +kernel
theorem dX11_number_2 : decode cX11_number 2 = .ok (.iload_n 2, 1) := by decide +kernel
theorem dX11_number_3 : decode cX11_number 3 = .ok (.invokevirtual 293, 3) := by decide +kernel
theorem dX11_number_6 : decode cX11_number 6 = .ok (.aload_n 0, 1) := by decide +kernel
theorem dX11_number_7 : decode cX11_number 7 = .ok (.invokevirtual 245, 3) := by decide +kernel
theorem dX11_number_10 : decode cX11_number 10 = .ok (.ifCond .eq 10, 3) := by decide +kernel
theorem dX11_number_13 : decode cX11_number 13 = .ok (.aload_n 0, 1) := by decide +kernel
theorem dX11_number_14 : decode cX11_number 14 = .ok (.getfield 272, 3) := by decide +kernel
theorem dX11_number_17 : decode cX11_number 17 = .ok (.goto 4, 3) := by decide +kernel
theorem dX11_number_20 : decode cX11_number 20 = .ok (.iconst 0, 1) := by decide +kernel
theorem dX11_number_21 : decode cX11_number 21 = .ok (.istore_n 3, 1) := by decide +kernel
theorem dX11_number_22 : decode cX11_number 22 = .ok (.aload_n 0, 1) := by decide +kernel
theorem dX11_number_23 : decode cX11_number 23 = .ok (.invokevirtual 296, 3) := by decide +kernel
theorem dX11_number_26 : decode cX11_number 26 = .ok (.iload_n 3, 1) := by decide +kernel
theorem dX11_number_27 : decode cX11_number 27 = .ok (.ireturn, 1) := by decide +kernel
theorem dX11_numberBehind_0 : decode cX11_numberBehind 0 = .ok (.aload_n 0, 1) := by decide +kernel
theorem dX11_numberBehind_1 : decode cX11_numberBehind 1 = .ok (.aload_n 1, 1) := by decide +kernel
theorem dX11_numberBehind_2 : decode cX11_numberBehind 2 = .ok (.invokevirtual 299, 3) := by decide +kernel
theorem dX11_numberBehind_5 : decode cX11_numberBehind 5 = .ok (.ifCond .ne 8, 3) := by decide +kernel
theorem dX11_numberBehind_8 : decode cX11_numberBehind 8 = .ok (.aload_n 0, 1) := by decide +kernel
theorem dX11_numberBehind_9 : decode cX11_numberBehind 9 = .ok (.iconst 1, 1) := by decide +kernel
theorem dX11_numberBehind_10 : decode cX11_numberBehind 10 = .ok (.invokevirtual 290, 3) := by decide +kernel
theorem dX11_numberBehind_13 : decode cX11_numberBehind 13 = .ok (.aload_n 0, 1) := by decide +kernel
theorem dX11_numberBehind_14 : decode cX11_numberBehind 14 = .ok (.invokevirtual 296, 3) := by decide +kernel
theorem dX11_numberBehind_17 : decode cX11_numberBehind 17 = .ok (.aload_n 0, 1) := by decide +kernel
theorem dX11_numberBehind_18 : decode cX11_numberBehind 18 = .ok (.iload_n 2, 1) := by decide +kernel
theorem dX11_numberBehind_19 : decode cX11_numberBehind 19 = .ok (.iload_n 3, 1) := by decide +kernel
theorem dX11_numberBehind_20 : decode cX11_numberBehind 20 = .ok (.invokevirtual 303, 3) := by decide +kernel
theorem dX11_numberBehind_23 : decode cX11_numberBehind 23 = .ok (.ireturn, 1) := by decide +kernel
theorem dX11_semicolon_0 : decode cX11_semicolon 0 = .ok (.aload_n 0, 1) := by decide +kernel
theorem dX11_semicolon_1 : decode cX11_semicolon 1 = .ok (.invokevirtual 245, 3) := by decide +kernel
theorem dX11_semicolon_4 : decode cX11_semicolon 4 = .ok (.ifCond .eq 25, 3) := by decide +kernel
theorem dX11_semicolon_7 : decode cX11_semicolon 7 = .ok (.aload_n 0, 1) := by decide +kernel
theorem dX11_semicolon_8 : decode cX11_semicolon 8 = .ok (.getfield 261, 3) := by decide +kernel
theorem dX11_semicolon_11 : decode cX11_semicolon 11 = .ok (.iconst 3, 1) := by decide +kernel
theorem dX11_semicolon_12 : decode cX11_semicolon 12 = .ok (.if_icmp .ne 12, 3) := by decide +kernel
theorem dX11_semicolon_15 : decode cX11_semicolon 15 = .ok (.aload_n 0, 1) := by decide +kernel
theorem dX11_semicolon_16 : decode cX11_semicolon 16 = .ok (.getfield 272, 3) := by decide +kernel
theorem dX11_semicolon_19 : decode cX11_semicolon 19 = .ok (.bipush 59, 2) := by decide +kernel
theorem dX11_semicolon_21 : decode cX11_semicolon 21 = .ok (.if_icmp .eq 8, 3) := by decide +kernel
theorem dX11_semicolon_24 : decode cX11_semicolon 24 = .ok (.aload_n 0, 1) := by decide +kernel
theorem dX11_semicolon_25 : decode cX11_semicolon 25 = .ok (.iconst 1, 1) := by decide +kernel
theorem dX11_semicolon_26 : decode cX11_semicolon 26 = .ok (.invokevirtual 290, 3) := by decide +kernel
theorem dX11_semicolon_29 : decode cX11_semicolon 29 = .ok (.aload_n 0, 1) := by decide +kernel
theorem dX11_semicolon_30 : decode cX11_semicolon 30 = .ok (.invokevirtual 296, 3) := by decide +kernel
theorem dX11_semicolon_33 : decode cX11_semicolon 33 = .ok (.return_, 1) := by decide +kernel
theorem dX11_parseFirst_0 : decode cX11_parseFirst 0 = .ok (.aload_n 0, 1) := by decide +kernel
theorem dX11_parseFirst_1 : decode cX11_parseFirst 1 = .ok (.getfield 24, 3) := by decide +kernel
theorem dX11_parseFirst_4 : decode cX11_parseFirst 4 = .ok (.iconst 1, 1) := by decide +kernel
theorem dX11_parseFirst_5 : decode cX11_parseFirst 5 = .ok (.aload_n 0, 1) := by decide +kernel
theorem dX11_parseFirst_6 : decode cX11_parseFirst 6 = .ok (.ldc_w 306, 3) := by decide +kernel
theorem dX11_parseFirst_9 : decode cX11_parseFirst 9 = .ok (.iconst 0, 1) := by decide +kernel
theorem dX11_parseFirst_10 : decode cX11_parseFirst 10 = .ok (.sipush 999, 3) := by decide +kernel
theorem dX11_parseFirst_13 : decode cX11_parseFirst 13 = .ok (.invokevirtual 308, 3) := by decide +kernel
theorem dX11_parseFirst_16 : decode cX11_parseFirst 16 = .ok (.iastore, 1) := by decide +kernel
theorem dX11_parseFirst_17 : decode cX11_parseFirst 17 = .ok (.aload_n 0, 1) := by decide +kernel
theorem dX11_parseFirst_18 : decode cX11_parseFirst 18 = .ok (.getfield 24, 3) := by decide +kernel
theorem dX11_parseFirst_21 : decode cX11_parseFirst 21 = .ok (.iconst 2, 1) := by decide +kernel
theorem dX11_parseFirst_22 : decode cX11_parseFirst 22 = .ok (.aload_n 0, 1) := by decide +kernel
theorem dX11_parseFirst_23 : decode cX11_parseFirst 23 = .ok (.ldc_w 312, 3) := by decide +kernel
theorem dX11_parseFirst_26 : decode cX11_parseFirst 26 = .ok (.iconst 0, 1) := by decide +kernel
theorem dX11_parseFirst_27 : decode cX11_parseFirst 27 = .ok (.bipush 12, 2) := by decide +kernel
theorem dX11_parseFirst_29 : decode cX11_parseFirst 29 = .ok (.invokevirtual 308, 3) := by decide +kernel
theorem dX11_parseFirst_32 : decode cX11_parseFirst 32 = .ok (.iastore, 1) := by decide +kernel
theorem dX11_parseFirst_33 : decode cX11_parseFirst 33 = .ok (.return_, 1) := by decide +kernel
theorem dX11_parseItem_0 : decode cX11_parseItem 0 = .ok (.aload_n 0, 1) := by decide +kernel
theorem dX11_parseItem_1 : decode cX11_parseItem 1 = .ok (.invokevirtual 83, 3) := by decide +kernel
theorem dX11_parseItem_4 : decode cX11_parseItem 4 = .ok (.istore_n 1, 1) := by decide +kernel
theorem dX11_parseItem_5 : decode cX11_parseItem 5 = .ok (.iload_n 1, 1) := by decide +kernel
theorem dX11_parseItem_6 : decode cX11_parseItem 6 = .ok (.bipush 12, 2) := by decide +kernel
theorem dX11_parseItem_8 : decode cX11_parseItem 8 = .ok (.if_icmp .ne 8, 3) := by decide +kernel
theorem dX11_parseItem_11 : decode cX11_parseItem 11 = .ok (.aload_n 0, 1) := by decide +kernel
theorem dX11_parseItem_12 : decode cX11_parseItem 12 = .ok (.iconst 4, 1) := by decide +kernel
theorem dX11_parseItem_13 : decode cX11_parseItem 13 = .ok (.invokevirtual 290, 3) := by decide +kernel
theorem dX11_parseItem_16 : decode cX11_parseItem 16 = .ok (.aload_n 0, 1) := by decide +kernel
theorem dX11_parseItem_17 : decode cX11_parseItem 17 = .ok (.invokevirtual 296, 3) := by decide +kernel
theorem dX11_parseItem_20 : decode cX11_parseItem 20 = .ok (.aload_n 0, 1) := by decide +kernel
theorem dX11_parseItem_21 : decode cX11_parseItem 21 = .ok (.ldc_w 314, 3) := by decide +kernel
theorem dX11_parseItem_24 : decode cX11_parseItem 24 = .ok (.iconst 0, 1) := by decide +kernel
theorem dX11_parseItem_25 : decode cX11_parseItem 25 = .ok (.bipush 99, 2) := by decide +kernel
theorem dX11_parseItem_27 : decode cX11_parseItem 27 = .ok (.invokevirtual 308, 3) := by decide +kernel
theorem dX11_parseItem_30 : decode cX11_parseItem 30 = .ok (.istore_n 2, 1) := by decide +kernel
theorem dX11_parseItem_31 : decode cX11_parseItem 31 = .ok (.aload_n 0, 1) := by decide +kernel
theorem dX11_parseItem_32 : decode cX11_parseItem 32 = .ok (.ldc_w 316, 3) := by decide +kernel
theorem dX11_parseItem_35 : decode cX11_parseItem 35 = .ok (.iconst 0, 1) := by decide +kernel
theorem dX11_parseItem_36 : decode cX11_parseItem 36 = .ok (.bipush 99, 2) := by decide +kernel
theorem dX11_parseItem_38 : decode cX11_parseItem 38 = .ok (.invokevirtual 308, 3) := by decide +kernel
theorem dX11_parseItem_41 : decode cX11_parseItem 41 = .ok (.istore_n 3, 1) := by decide +kernel
theorem dX11_parseItem_42 : decode cX11_parseItem 42 = .ok (.aload_n 0, 1) := by decide +kernel
theorem dX11_parseItem_43 : decode cX11_parseItem 43 = .ok (.ldc_w 318, 3) := by decide +kernel
theorem dX11_parseItem_46 : decode cX11_parseItem 46 = .ok (.iconst 0, 1) := by decide +kernel
theorem dX11_parseItem_47 : decode cX11_parseItem 47 = .ok (.bipush 99, 2) := by decide +kernel
theorem dX11_parseItem_49 : decode cX11_parseItem 49 = .ok (.invokevirtual 308, 3) := by decide +kernel
theorem dX11_parseItem_52 : decode cX11_parseItem 52 = .ok (.istore 4, 2) := by decide +kernel
theorem dX11_parseItem_54 : decode cX11_parseItem 54 = .ok (.aload_n 0, 1) := by decide +kernel
theorem dX11_parseItem_55 : decode cX11_parseItem 55 = .ok (.invokevirtual 245, 3) := by decide +kernel
theorem dX11_parseItem_58 : decode cX11_parseItem 58 = .ok (.ifCond .ne 4, 3) := by decide +kernel
theorem dX11_parseItem_61 : decode cX11_parseItem 61 = .ok (.return_, 1) := by decide +kernel
theorem dX11_parseItem_62 : decode cX11_parseItem 62 = .ok (.aload_n 0, 1) := by decide +kernel
theorem dX11_parseItem_63 : decode cX11_parseItem 63 = .ok (.iload_n 1, 1) := by decide +kernel
theorem dX11_parseItem_64 : decode cX11_parseItem 64 = .ok (.iconst 0, 1) := by decide +kernel
theorem dX11_parseItem_65 : decode cX11_parseItem 65 = .ok (.iload_n 2, 1) := by decide +kernel
theorem dX11_parseItem_66 : decode cX11_parseItem 66 = .ok (.invokevirtual 320, 3) := by decide +kernel
theorem dX11_parseItem_69 : decode cX11_parseItem 69 = .ok (.aload_n 0, 1) := by decide +kernel
theorem dX11_parseItem_70 : decode cX11_parseItem 70 = .ok (.iload_n 1, 1) := by decide +kernel
theorem dX11_parseItem_71 : decode cX11_parseItem 71 = .ok (.iconst 1, 1) := by decide +kernel
theorem dX11_parseItem_72 : decode cX11_parseItem 72 = .ok (.iload_n 3, 1) := by decide +kernel
theorem dX11_parseItem_73 : decode cX11_parseItem 73 = .ok (.invokevirtual 320, 3) := by decide +kernel
theorem dX11_parseItem_76 : decode cX11_parseItem 76 = .ok (.aload_n 0, 1) := by decide +kernel
theorem dX11_parseItem_77 : decode cX11_parseItem 77 = .ok (.iload_n 1, 1) := by decide +kernel
theorem dX11_parseItem_78 : decode cX11_parseItem 78 = .ok (.iconst 2, 1) := by decide +kernel
theorem dX11_parseItem_79 : decode cX11_parseItem 79 = .ok (.iload 4, 2) := by decide +kernel
theorem dX11_parseItem_81 : decode cX11_parseItem 81 = .ok (.invokevirtual 320, 3) := by decide +kernel
theorem dX11_parseItem_84 : decode cX11_parseItem 84 = .ok (.aload_n 0, 1) := by decide +kernel
theorem dX11_parseItem_85 : decode cX11_parseItem 85 = .ok (.getfield 24, 3) := by decide +kernel
theorem dX11_parseItem_88 : decode cX11_parseItem 88 = .ok (.iconst 0, 1) := by decide +kernel
theorem dX11_parseItem_89 : decode cX11_parseItem 89 = .ok (.dup2, 1) := by decide +kernel
theorem dX11_parseItem_90 : decode cX11_parseItem 90 = .ok (.iaload, 1) := by decide +kernel
theorem dX11_parseItem_91 : decode cX11_parseItem 91 = .ok (.iconst 1, 1) := by decide +kernel
theorem dX11_parseItem_92 : decode cX11_parseItem 92 = .ok (.iadd, 1) := by decide +kernel
theorem dX11_parseItem_93 : decode cX11_parseItem 93 = .ok (.iastore, 1) := by decide +kernel
theorem dX11_parseItem_94 : decode cX11_parseItem 94 = .ok (.return_, 1) := by decide +kernel
theorem dX11_parsePair_0 : decode cX11_parsePair 0 = .ok (.aload_n 0, 1) := by decide +kernel
theorem dX11_parsePair_1 : decode cX11_parsePair 1 = .ok (.invokevirtual 296, 3) := by decide +kernel
theorem dX11_parsePair_4 : decode cX11_parsePair 4 = .ok (.aload_n 0, 1) := by decide +kernel
theorem dX11_parsePair_5 : decode cX11_parsePair 5 = .ok (.iconst 0, 1) := by decide +kernel
theorem dX11_parsePair_6 : decode cX11_parsePair 6 = .ok (.aload_n 0, 1) := by decide +kernel
theorem dX11_parsePair_7 : decode cX11_parsePair 7 = .ok (.invokevirtual 83, 3) := by decide +kernel
theorem dX11_parsePair_10 : decode cX11_parsePair 10 = .ok (.iconst 1, 1) := by decide +kernel
theorem dX11_parsePair_11 : decode cX11_parsePair 11 = .ok (.isub, 1) := by decide +kernel
theorem dX11_parsePair_12 : decode cX11_parsePair 12 = .ok (.invokevirtual 303, 3) := by decide +kernel
theorem dX11_parsePair_15 : decode cX11_parsePair 15 = .ok (.istore_n 2, 1) := by decide +kernel
theorem dX11_parsePair_16 : decode cX11_parsePair 16 = .ok (.aload_n 0, 1) := by decide +kernel
theorem dX11_parsePair_17 : decode cX11_parsePair 17 = .ok (.iconst 0, 1) := by decide +kernel
theorem dX11_parsePair_18 : decode cX11_parsePair 18 = .ok (.aload_n 0, 1) := by decide +kernel
theorem dX11_parsePair_19 : decode cX11_parsePair 19 = .ok (.invokevirtual 83, 3) := by decide +kernel
theorem dX11_parsePair_22 : decode cX11_parsePair 22 = .ok (.iconst 1, 1) := by decide +kernel
theorem dX11_parsePair_23 : decode cX11_parsePair 23 = .ok (.isub, 1) := by decide +kernel
theorem dX11_parsePair_24 : decode cX11_parsePair 24 = .ok (.invokevirtual 293, 3) := by decide +kernel
theorem dX11_parsePair_27 : decode cX11_parsePair 27 = .ok (.aload_n 0, 1) := by decide +kernel
theorem dX11_parsePair_28 : decode cX11_parsePair 28 = .ok (.invokevirtual 245, 3) := by decide +kernel
theorem dX11_parsePair_31 : decode cX11_parsePair 31 = .ok (.ifCond .eq 32, 3) := by decide +kernel
theorem dX11_parsePair_34 : decode cX11_parsePair 34 = .ok (.aload_n 0, 1) := by decide +kernel
theorem dX11_parsePair_35 : decode cX11_parsePair 35 = .ok (.getfield 272, 3) := by decide +kernel
theorem dX11_parsePair_38 : decode cX11_parsePair 38 = .ok (.iload_n 2, 1) := by decide +kernel
theorem dX11_parsePair_39 : decode cX11_parsePair 39 = .ok (.if_icmp .eq 19, 3) := by decide +kernel
theorem dX11_parsePair_42 : decode cX11_parsePair 42 = .ok (.aload_n 0, 1) := by decide +kernel
theorem dX11_parsePair_43 : decode cX11_parsePair 43 = .ok (.iload_n 2, 1) := by decide +kernel
theorem dX11_parsePair_44 : decode cX11_parsePair 44 = .ok (.iload_n 1, 1) := by decide +kernel
theorem dX11_parsePair_45 : decode cX11_parsePair 45 = .ok (.invokevirtual 98, 3) := by decide +kernel
theorem dX11_parsePair_48 : decode cX11_parsePair 48 = .ok (.aload_n 0, 1) := by decide +kernel
theorem dX11_parsePair_49 : decode cX11_parsePair 49 = .ok (.getfield 272, 3) := by decide +kernel
theorem dX11_parsePair_52 : decode cX11_parsePair 52 = .ok (.invokestatic 94, 3) := by decide +kernel
theorem dX11_parsePair_55 : decode cX11_parsePair 55 = .ok (.ifCond .eq 8, 3) := by decide +kernel
theorem dX11_parsePair_58 : decode cX11_parsePair 58 = .ok (.aload_n 0, 1) := by decide +kernel
theorem dX11_parsePair_59 : decode cX11_parsePair 59 = .ok (.iconst 3, 1) := by decide +kernel
theorem dX11_parsePair_60 : decode cX11_parsePair 60 = .ok (.invokevirtual 290, 3) := by decide +kernel
theorem dX11_parsePair_63 : decode cX11_parsePair 63 = .ok (.aload_n 0, 1) := by decide +kernel
theorem dX11_parsePair_64 : decode cX11_parsePair 64 = .ok (.invokevirtual 245, 3) := by decide +kernel
theorem dX11_parsePair_67 : decode cX11_parsePair 67 = .ok (.ifCond .eq 10, 3) := by decide +kernel
theorem dX11_parsePair_70 : decode cX11_parsePair 70 = .ok (.aload_n 0, 1) := by decide +kernel
theorem dX11_parsePair_71 : decode cX11_parsePair 71 = .ok (.getfield 272, 3) := by decide +kernel
theorem dX11_parsePair_74 : decode cX11_parsePair 74 = .ok (.goto 4, 3) := by decide +kernel
theorem dX11_parsePair_77 : decode cX11_parsePair 77 = .ok (.iconst 0, 1) := by decide +kernel
theorem dX11_parsePair_78 : decode cX11_parsePair 78 = .ok (.istore_n 3, 1) := by decide +kernel
theorem dX11_parsePair_79 : decode cX11_parsePair 79 = .ok (.aload_n 0, 1) := by decide +kernel
theorem dX11_parsePair_80 : decode cX11_parsePair 80 = .ok (.invokevirtual 296, 3) := by decide +kernel
theorem dX11_parsePair_83 : decode cX11_parsePair 83 = .ok (.aload_n 0, 1) := by decide +kernel
theorem dX11_parsePair_84 : decode cX11_parsePair 84 = .ok (.invokevirtual 245, 3) := by decide +kernel
theorem dX11_parsePair_87 : decode cX11_parsePair 87 = .ok (.ifCond .ne 4, 3) := by decide +kernel
theorem dX11_parsePair_90 : decode cX11_parsePair 90 = .ok (.return_, 1) := by decide +kernel
theorem dX11_parsePair_91 : decode cX11_parsePair 91 = .ok (.aload_n 0, 1) := by decide +kernel
theorem dX11_parsePair_92 : decode cX11_parsePair 92 = .ok (.iload_n 2, 1) := by decide +kernel
theorem dX11_parsePair_93 : decode cX11_parsePair 93 = .ok (.iload_n 1, 1) := by decide +kernel
theorem dX11_parsePair_94 : decode cX11_parsePair 94 = .ok (.aload_n 0, 1) := by decide +kernel
theorem dX11_parsePair_95 : decode cX11_parsePair 95 = .ok (.iload_n 2, 1) := by decide +kernel
theorem dX11_parsePair_96 : decode cX11_parsePair 96 = .ok (.iload_n 1, 1) := by decide +kernel
theorem dX11_parsePair_97 : decode cX11_parsePair 97 = .ok (.invokevirtual 98, 3) := by decide +kernel
theorem dX11_parsePair_100 : decode cX11_parsePair 100 = .ok (.iconst 1, 1) := by decide +kernel
theorem dX11_parsePair_101 : decode cX11_parsePair 101 = .ok (.iload_n 3, 1) := by decide +kernel
theorem dX11_parsePair_102 : decode cX11_parsePair 102 = .ok (.ishl, 1) := by decide +kernel
theorem dX11_parsePair_103 : decode cX11_parsePair 103 = .ok (.ior, 1) := by decide +kernel
theorem dX11_parsePair_104 : decode cX11_parsePair 104 = .ok (.invokevirtual 320, 3) := by decide +kernel
theorem dX11_parsePair_107 : decode cX11_parsePair 107 = .ok (.iload_n 1, 1) := by decide +kernel
theorem dX11_parsePair_108 : decode cX11_parsePair 108 = .ok (.iconst 3, 1) := by decide +kernel
theorem dX11_parsePair_109 : decode cX11_parsePair 109 = .ok (.if_icmp .ne 19, 3) := by decide +kernel
theorem dX11_parsePair_112 : decode cX11_parsePair 112 = .ok (.aload_n 0, 1) := by decide +kernel
theorem dX11_parsePair_113 : decode cX11_parsePair 113 = .ok (.iload_n 3, 1) := by decide +kernel
theorem dX11_parsePair_114 : decode cX11_parsePair 114 = .ok (.iload_n 1, 1) := by decide +kernel
theorem dX11_parsePair_115 : decode cX11_parsePair 115 = .ok (.aload_n 0, 1) := by decide +kernel
theorem dX11_parsePair_116 : decode cX11_parsePair 116 = .ok (.iload_n 3, 1) := by decide +kernel
theorem dX11_parsePair_117 : decode cX11_parsePair 117 = .ok (.iload_n 1, 1) := by decide +kernel
theorem dX11_parsePair_118 : decode cX11_parsePair 118 = .ok (.invokevirtual 98, 3) := by decide +kernel
theorem dX11_parsePair_121 : decode cX11_parsePair 121 = .ok (.iconst 1, 1) := by decide +kernel
theorem dX11_parsePair_122 : decode cX11_parsePair 122 = .ok (.iload_n 2, 1) := by decide +kernel
theorem dX11_parsePair_123 : decode cX11_parsePair 123 = .ok (.ishl, 1) := by decide +kernel
theorem dX11_parsePair_124 : decode cX11_parsePair 124 = .ok (.ior, 1) := by decide +kernel
theorem dX11_parsePair_125 : decode cX11_parsePair 125 = .ok (.invokevirtual 320, 3) := by decide +kernel
theorem dX11_parsePair_128 : decode cX11_parsePair 128 = .ok (.return_, 1) := by decide +kernel
theorem dX11_parseOne_0 : decode cX11_parseOne 0 = .ok (.aload_n 0, 1) := by decide +kernel
theorem dX11_parseOne_1 : decode cX11_parseOne 1 = .ok (.invokevirtual 296, 3) := by decide +kernel
theorem dX11_parseOne_4 : decode cX11_parseOne 4 = .ok (.aload_n 0, 1) := by decide +kernel
theorem dX11_parseOne_5 : decode cX11_parseOne 5 = .ok (.iconst 0, 1) := by decide +kernel
theorem dX11_parseOne_6 : decode cX11_parseOne 6 = .ok (.aload_n 0, 1) := by decide +kernel
theorem dX11_parseOne_7 : decode cX11_parseOne 7 = .ok (.invokevirtual 83, 3) := by decide +kernel
theorem dX11_parseOne_10 : decode cX11_parseOne 10 = .ok (.iconst 1, 1) := by decide +kernel
theorem dX11_parseOne_11 : decode cX11_parseOne 11 = .ok (.isub, 1) := by decide +kernel
theorem dX11_parseOne_12 : decode cX11_parseOne 12 = .ok (.invokevirtual 293, 3) := by decide +kernel
theorem dX11_parseOne_15 : decode cX11_parseOne 15 = .ok (.aload_n 0, 1) := by decide +kernel
theorem dX11_parseOne_16 : decode cX11_parseOne 16 = .ok (.invokevirtual 245, 3) := by decide +kernel
theorem dX11_parseOne_19 : decode cX11_parseOne 19 = .ok (.ifCond .eq 24, 3) := by decide +kernel
theorem dX11_parseOne_22 : decode cX11_parseOne 22 = .ok (.aload_n 0, 1) := by decide +kernel
theorem dX11_parseOne_23 : decode cX11_parseOne 23 = .ok (.getfield 24, 3) := by decide +kernel
theorem dX11_parseOne_26 : decode cX11_parseOne 26 = .ok (.iload_n 1, 1) := by decide +kernel
theorem dX11_parseOne_27 : decode cX11_parseOne 27 = .ok (.iaload, 1) := by decide +kernel
theorem dX11_parseOne_28 : decode cX11_parseOne 28 = .ok (.aload_n 0, 1) := by decide +kernel
theorem dX11_parseOne_29 : decode cX11_parseOne 29 = .ok (.getfield 272, 3) := by decide +kernel
theorem dX11_parseOne_32 : decode cX11_parseOne 32 = .ok (.invokestatic 94, 3) := by decide +kernel
theorem dX11_parseOne_35 : decode cX11_parseOne 35 = .ok (.ifCond .eq 8, 3) := by decide +kernel
theorem dX11_parseOne_38 : decode cX11_parseOne 38 = .ok (.aload_n 0, 1) := by decide +kernel
theorem dX11_parseOne_39 : decode cX11_parseOne 39 = .ok (.iconst 3, 1) := by decide +kernel
theorem dX11_parseOne_40 : decode cX11_parseOne 40 = .ok (.invokevirtual 290, 3) := by decide +kernel
theorem dX11_parseOne_43 : decode cX11_parseOne 43 = .ok (.aload_n 0, 1) := by decide +kernel
theorem dX11_parseOne_44 : decode cX11_parseOne 44 = .ok (.invokevirtual 245, 3) := by decide +kernel
theorem dX11_parseOne_47 : decode cX11_parseOne 47 = .ok (.ifCond .eq 10, 3) := by decide +kernel
theorem dX11_parseOne_50 : decode cX11_parseOne 50 = .ok (.aload_n 0, 1) := by decide +kernel
theorem dX11_parseOne_51 : decode cX11_parseOne 51 = .ok (.getfield 272, 3) := by decide +kernel
theorem dX11_parseOne_54 : decode cX11_parseOne 54 = .ok (.goto 4, 3) := by decide +kernel
theorem dX11_parseOne_57 : decode cX11_parseOne 57 = .ok (.iconst 0, 1) := by decide +kernel
theorem dX11_parseOne_58 : decode cX11_parseOne 58 = .ok (.istore_n 2, 1) := by decide +kernel
theorem dX11_parseOne_59 : decode cX11_parseOne 59 = .ok (.aload_n 0, 1) := by decide +kernel
theorem dX11_parseOne_60 : decode cX11_parseOne 60 = .ok (.invokevirtual 296, 3) := by decide +kernel
theorem dX11_parseOne_63 : decode cX11_parseOne 63 = .ok (.aload_n 0, 1) := by decide +kernel
theorem dX11_parseOne_64 : decode cX11_parseOne 64 = .ok (.invokevirtual 245, 3) := by decide +kernel
theorem dX11_parseOne_67 : decode cX11_parseOne 67 = .ok (.ifCond .eq 15, 3) := by decide +kernel
theorem dX11_parseOne_70 : decode cX11_parseOne 70 = .ok (.aload_n 0, 1) := by decide +kernel
theorem dX11_parseOne_71 : decode cX11_parseOne 71 = .ok (.getfield 24, 3) := by decide +kernel
theorem dX11_parseOne_74 : decode cX11_parseOne 74 = .ok (.iload_n 1, 1) := by decide +kernel
theorem dX11_parseOne_75 : decode cX11_parseOne 75 = .ok (.dup2, 1) := by decide +kernel
theorem dX11_parseOne_76 : decode cX11_parseOne 76 = .ok (.iaload, 1) := by decide +kernel
theorem dX11_parseOne_77 : decode cX11_parseOne 77 = .ok (.iconst 1, 1) := by decide +kernel
theorem dX11_parseOne_78 : decode cX11_parseOne 78 = .ok (.iload_n 2, 1) := by decide +kernel
theorem dX11_parseOne_79 : decode cX11_parseOne 79 = .ok (.ishl, 1) := by decide +kernel
theorem dX11_parseOne_80 : decode cX11_parseOne 80 = .ok (.ior, 1) := by decide +kernel
theorem dX11_parseOne_81 : decode cX11_parseOne 81 = .ok (.iastore, 1) := by decide +kernel
theorem dX11_parseOne_82 : decode cX11_parseOne 82 = .ok (.return_, 1) := by decide +kernel
theorem dX11_parseStatement_0 : decode cX11_parseStatement 0 = .ok (.aload_n 0, 1) := by decide +kernel
theorem dX11_parseStatement_1 : decode cX11_parseStatement 1 = .ok (.ldc_w 323, 3) := by decide +kernel
theorem dX11_parseStatement_4 : decode cX11_parseStatement 4 = .ok (.invokevirtual 299, 3) := by decide +kernel
theorem dX11_parseStatement_7 : decode cX11_parseStatement 7 = .ok (.ifCond .eq 10, 3) := by decide +kernel
theorem dX11_parseStatement_10 : decode cX11_parseStatement 10 = .ok (.aload_n 0, 1) := by decide +kernel
theorem dX11_parseStatement_11 : decode cX11_parseStatement 11 = .ok (.invokevirtual 325, 3) := by decide +kernel
theorem dX11_parseStatement_14 : decode cX11_parseStatement 14 = .ok (.goto 80, 3) := by decide +kernel
theorem dX11_parseStatement_17 : decode cX11_parseStatement 17 = .ok (.aload_n 0, 1) := by decide +kernel
theorem dX11_parseStatement_18 : decode cX11_parseStatement 18 = .ok (.ldc_w 328, 3) := by decide +kernel
theorem dX11_parseStatement_21 : decode cX11_parseStatement 21 = .ok (.invokevirtual 299, 3) := by decide +kernel
theorem dX11_parseStatement_24 : decode cX11_parseStatement 24 = .ok (.ifCond .eq 11, 3) := by decide +kernel
theorem dX11_parseStatement_27 : decode cX11_parseStatement 27 = .ok (.aload_n 0, 1) := by decide +kernel
theorem dX11_parseStatement_28 : decode cX11_parseStatement 28 = .ok (.iconst 3, 1) := by decide +kernel
theorem dX11_parseStatement_29 : decode cX11_parseStatement 29 = .ok (.invokevirtual 330, 3) := by decide +kernel
theorem dX11_parseStatement_32 : decode cX11_parseStatement 32 = .ok (.goto 62, 3) := by decide +kernel
theorem dX11_parseStatement_35 : decode cX11_parseStatement 35 = .ok (.aload_n 0, 1) := by decide +kernel
theorem dX11_parseStatement_36 : decode cX11_parseStatement 36 = .ok (.ldc_w 333, 3) := by decide +kernel
theorem dX11_parseStatement_39 : decode cX11_parseStatement 39 = .ok (.invokevirtual 299, 3) := by decide +kernel
theorem dX11_parseStatement_42 : decode cX11_parseStatement 42 = .ok (.ifCond .eq 11, 3) := by decide +kernel
theorem dX11_parseStatement_45 : decode cX11_parseStatement 45 = .ok (.aload_n 0, 1) := by decide +kernel
theorem dX11_parseStatement_46 : decode cX11_parseStatement 46 = .ok (.iconst 4, 1) := by decide +kernel
theorem dX11_parseStatement_47 : decode cX11_parseStatement 47 = .ok (.invokevirtual 330, 3) := by decide +kernel
theorem dX11_parseStatement_50 : decode cX11_parseStatement 50 = .ok (.goto 44, 3) := by decide +kernel
theorem dX11_parseStatement_53 : decode cX11_parseStatement 53 = .ok (.aload_n 0, 1) := by decide +kernel
theorem dX11_parseStatement_54 : decode cX11_parseStatement 54 = .ok (.ldc_w 335, 3) := by decide +kernel
theorem dX11_parseStatement_57 : decode cX11_parseStatement 57 = .ok (.invokevirtual 299, 3) := by decide +kernel
theorem dX11_parseStatement_60 : decode cX11_parseStatement 60 = .ok (.ifCond .eq 11, 3) := by decide +kernel
theorem dX11_parseStatement_63 : decode cX11_parseStatement 63 = .ok (.aload_n 0, 1) := by decide +kernel
theorem dX11_parseStatement_64 : decode cX11_parseStatement 64 = .ok (.iconst 3, 1) := by decide +kernel
theorem dX11_parseStatement_65 : decode cX11_parseStatement 65 = .ok (.invokevirtual 337, 3) := by decide +kernel
theorem dX11_parseStatement_68 : decode cX11_parseStatement 68 = .ok (.goto 26, 3) := by decide +kernel
theorem dX11_parseStatement_71 : decode cX11_parseStatement 71 = .ok (.aload_n 0, 1) := by decide +kernel
theorem dX11_parseStatement_72 : decode cX11_parseStatement 72 = .ok (.ldc_w 340, 3) := by decide +kernel
theorem dX11_parseStatement_75 : decode cX11_parseStatement 75 = .ok (.invokevirtual 299, 3) := by decide +kernel
theorem dX11_parseStatement_78 : decode cX11_parseStatement 78 = .ok (.ifCond .eq 11, 3) := by decide +kernel
theorem dX11_parseStatement_81 : decode cX11_parseStatement 81 = .ok (.aload_n 0, 1) := by decide +kernel
theorem dX11_parseStatement_82 : decode cX11_parseStatement 82 = .ok (.iconst 4, 1) := by decide +kernel
theorem dX11_parseStatement_83 : decode cX11_parseStatement 83 = .ok (.invokevirtual 337, 3) := by decide +kernel
theorem dX11_parseStatement_86 : decode cX11_parseStatement 86 = .ok (.goto 8, 3) := by decide +kernel
theorem dX11_parseStatement_89 : decode cX11_parseStatement 89 = .ok (.aload_n 0, 1) := by decide +kernel
theorem dX11_parseStatement_90 : decode cX11_parseStatement 90 = .ok (.iconst 1, 1) := by decide +kernel
theorem dX11_parseStatement_91 : decode cX11_parseStatement 91 = .ok (.invokevirtual 290, 3) := by decide +kernel
theorem dX11_parseStatement_94 : decode cX11_parseStatement 94 = .ok (.aload_n 0, 1) := by decide +kernel
theorem dX11_parseStatement_95 : decode cX11_parseStatement 95 = .ok (.invokevirtual 342, 3) := by decide +kernel
theorem dX11_parseStatement_98 : decode cX11_parseStatement 98 = .ok (.return_, 1) := by decide +kernel
theorem dX11_load_0 : decode cX11_load 0 = .ok (.aload_n 0, 1) := by decide +kernel
theorem dX11_load_1 : decode cX11_load 1 = .ok (.iconst 0, 1) := by decide +kernel
theorem dX11_load_2 : decode cX11_load 2 = .ok (.putfield 3, 3) := by decide +kernel
theorem dX11_load_5 : decode cX11_load 5 = .ok (.aload_n 0, 1) := by decide +kernel
theorem dX11_load_6 : decode cX11_load 6 = .ok (.aload_n 0, 1) := by decide +kernel
theorem dX11_load_7 : decode cX11_load 7 = .ok (.getfield 232, 3) := by decide +kernel
theorem dX11_load_10 : decode cX11_load 10 = .ok (.putfield 252, 3) := by decide +kernel
theorem dX11_load_13 : decode cX11_load 13 = .ok (.aload_n 0, 1) := by decide +kernel
theorem dX11_load_14 : decode cX11_load 14 = .ok (.iconst 0, 1) := by decide +kernel
theorem dX11_load_15 : decode cX11_load 15 = .ok (.putfield 232, 3) := by decide +kernel
theorem dX11_load_18 : decode cX11_load 18 = .ok (.aload_n 0, 1) := by decide +kernel
theorem dX11_load_19 : decode cX11_load 19 = .ok (.iconst 0, 1) := by decide +kernel
theorem dX11_load_20 : decode cX11_load 20 = .ok (.putfield 255, 3) := by decide +kernel
theorem dX11_load_23 : decode cX11_load 23 = .ok (.aload_n 0, 1) := by decide +kernel
theorem dX11_load_24 : decode cX11_load 24 = .ok (.iconst 0, 1) := by decide +kernel
theorem dX11_load_25 : decode cX11_load 25 = .ok (.putfield 242, 3) := by decide +kernel
theorem dX11_load_28 : decode cX11_load 28 = .ok (.aload_n 0, 1) := by decide +kernel
theorem dX11_load_29 : decode cX11_load 29 = .ok (.iconst (-1), 1) := by decide +kernel
theorem dX11_load_30 : decode cX11_load 30 = .ok (.putfield 67, 3) := by decide +kernel
theorem dX11_load_33 : decode cX11_load 33 = .ok (.iconst 0, 1) := by decide +kernel
theorem dX11_load_34 : decode cX11_load 34 = .ok (.istore_n 1, 1) := by decide +kernel
theorem dX11_load_35 : decode cX11_load 35 = .ok (.iload_n 1, 1) := by decide +kernel
theorem dX11_load_36 : decode cX11_load 36 = .ok (.bipush 66, 2) := by decide +kernel
theorem dX11_load_38 : decode cX11_load 38 = .ok (.if_icmp .ge 16, 3) := by decide +kernel
theorem dX11_load_41 : decode cX11_load 41 = .ok (.aload_n 0, 1) := by decide +kernel
theorem dX11_load_42 : decode cX11_load 42 = .ok (.getfield 21, 3) := by decide +kernel
theorem dX11_load_45 : decode cX11_load 45 = .ok (.iload_n 1, 1) := by decide +kernel
theorem dX11_load_46 : decode cX11_load 46 = .ok (.iconst 0, 1) := by decide +kernel
theorem dX11_load_47 : decode cX11_load 47 = .ok (.iastore, 1) := by decide +kernel
theorem dX11_load_48 : decode cX11_load 48 = .ok (.iinc 1 1, 3) := by decide +kernel
theorem dX11_load_51 : decode cX11_load 51 = .ok (.goto (-16), 3) := by decide +kernel
theorem dX11_load_54 : decode cX11_load 54 = .ok (.aload_n 0, 1) := by decide +kernel
theorem dX11_load_55 : decode cX11_load 55 = .ok (.aload_n 0, 1) := by decide +kernel
theorem dX11_load_56 : decode cX11_load 56 = .ok (.getfield 21, 3) := by decide +kernel
theorem dX11_load_59 : decode cX11_load 59 = .ok (.putfield 24, 3) := by decide +kernel
theorem dX11_load_62 : decode cX11_load 62 = .ok (.aload_n 0, 1) := by decide +kernel
theorem dX11_load_63 : decode cX11_load 63 = .ok (.invokevirtual 278, 3) := by decide +kernel
theorem dX11_load_66 : decode cX11_load 66 = .ok (.aload_n 0, 1) := by decide +kernel
theorem dX11_load_67 : decode cX11_load 67 = .ok (.invokevirtual 345, 3) := by decide +kernel
theorem dX11_load_70 : decode cX11_load 70 = .ok (.aload_n 0, 1) := by decide +kernel
theorem dX11_load_71 : decode cX11_load 71 = .ok (.invokevirtual 342, 3) := by decide +kernel
theorem dX11_load_74 : decode cX11_load 74 = .ok (.aload_n 0, 1) := by decide +kernel
theorem dX11_load_75 : decode cX11_load 75 = .ok (.invokevirtual 245, 3) := by decide +kernel
theorem dX11_load_78 : decode cX11_load 78 = .ok (.ifCond .eq 17, 3) := by decide +kernel
theorem dX11_load_81 : decode cX11_load 81 = .ok (.aload_n 0, 1) := by decide +kernel
theorem dX11_load_82 : decode cX11_load 82 = .ok (.getfield 261, 3) := by decide +kernel
theorem dX11_load_85 : decode cX11_load 85 = .ok (.ifCond .eq 10, 3) := by decide +kernel
theorem dX11_load_88 : decode cX11_load 88 = .ok (.aload_n 0, 1) := by decide +kernel
theorem dX11_load_89 : decode cX11_load 89 = .ok (.invokevirtual 348, 3) := by decide +kernel
theorem dX11_load_92 : decode cX11_load 92 = .ok (.goto (-18), 3) := by decide +kernel
theorem dX11_load_95 : decode cX11_load 95 = .ok (.aload_n 0, 1) := by decide +kernel
theorem dX11_load_96 : decode cX11_load 96 = .ok (.aload_n 0, 1) := by decide +kernel
theorem dX11_load_97 : decode cX11_load 97 = .ok (.getfield 17, 3) := by decide +kernel
theorem dX11_load_100 : decode cX11_load 100 = .ok (.putfield 24, 3) := by decide +kernel
theorem dX11_load_103 : decode cX11_load 103 = .ok (.aload_n 0, 1) := by decide +kernel
theorem dX11_load_104 : decode cX11_load 104 = .ok (.invokevirtual 245, 3) := by decide +kernel
theorem dX11_load_107 : decode cX11_load 107 = .ok (.ifCond .ne 6, 3) := by decide +kernel
theorem dX11_load_110 : decode cX11_load 110 = .ok (.bipush (-4), 2) := by decide +kernel
theorem dX11_load_112 : decode cX11_load 112 = .ok (.ireturn, 1) := by decide +kernel
theorem dX11_load_113 : decode cX11_load 113 = .ok (.aload_n 0, 1) := by decide +kernel
theorem dX11_load_114 : decode cX11_load 114 = .ok (.invokevirtual 351, 3) := by decide +kernel
theorem dX11_load_117 : decode cX11_load 117 = .ok (.iconst 0, 1) := by decide +kernel
theorem dX11_load_118 : decode cX11_load 118 = .ok (.istore_n 1, 1) := by decide +kernel
theorem dX11_load_119 : decode cX11_load 119 = .ok (.iload_n 1, 1) := by decide +kernel
theorem dX11_load_120 : decode cX11_load 120 = .ok (.bipush 66, 2) := by decide +kernel
theorem dX11_load_122 : decode cX11_load 122 = .ok (.if_icmp .ge 21, 3) := by decide +kernel
theorem dX11_load_125 : decode cX11_load 125 = .ok (.aload_n 0, 1) := by decide +kernel
theorem dX11_load_126 : decode cX11_load 126 = .ok (.getfield 17, 3) := by decide +kernel
theorem dX11_load_129 : decode cX11_load 129 = .ok (.iload_n 1, 1) := by decide +kernel
theorem dX11_load_130 : decode cX11_load 130 = .ok (.aload_n 0, 1) := by decide +kernel
theorem dX11_load_131 : decode cX11_load 131 = .ok (.getfield 21, 3) := by decide +kernel
theorem dX11_load_134 : decode cX11_load 134 = .ok (.iload_n 1, 1) := by decide +kernel
theorem dX11_load_135 : decode cX11_load 135 = .ok (.iaload, 1) := by decide +kernel
theorem dX11_load_136 : decode cX11_load 136 = .ok (.iastore, 1) := by decide +kernel
theorem dX11_load_137 : decode cX11_load 137 = .ok (.iinc 1 1, 3) := by decide +kernel
theorem dX11_load_140 : decode cX11_load 140 = .ok (.goto (-21), 3) := by decide +kernel
theorem dX11_load_143 : decode cX11_load 143 = .ok (.aload_n 0, 1) := by decide +kernel
theorem dX11_load_144 : decode cX11_load 144 = .ok (.invokevirtual 83, 3) := by decide +kernel
theorem dX11_load_147 : decode cX11_load 147 = .ok (.ireturn, 1) := by decide +kernel
theorem dX11_errorCode_0 : decode cX11_errorCode 0 = .ok (.aload_n 0, 1) := by decide +kernel
theorem dX11_errorCode_1 : decode cX11_errorCode 1 = .ok (.iconst 0, 1) := by decide +kernel
theorem dX11_errorCode_2 : decode cX11_errorCode 2 = .ok (.putfield 3, 3) := by decide +kernel
theorem dX11_errorCode_5 : decode cX11_errorCode 5 = .ok (.aload_n 0, 1) := by decide +kernel
theorem dX11_errorCode_6 : decode cX11_errorCode 6 = .ok (.getfield 242, 3) := by decide +kernel
theorem dX11_errorCode_9 : decode cX11_errorCode 9 = .ok (.ireturn, 1) := by decide +kernel
theorem dX11_errorPosition_0 : decode cX11_errorPosition 0 = .ok (.aload_n 0, 1) := by decide +kernel
theorem dX11_errorPosition_1 : decode cX11_errorPosition 1 = .ok (.iconst 0, 1) := by decide +kernel
theorem dX11_errorPosition_2 : decode cX11_errorPosition 2 = .ok (.putfield 3, 3) := by decide +kernel
theorem dX11_errorPosition_5 : decode cX11_errorPosition 5 = .ok (.aload_n 0, 1) := by decide +kernel
theorem dX11_errorPosition_6 : decode cX11_errorPosition 6 = .ok (.getfield 67, 3) := by decide +kernel
theorem dX11_errorPosition_9 : decode cX11_errorPosition 9 = .ok (.ireturn, 1) := by decide +kernel
theorem dX11_pairsOf_0 : decode cX11_pairsOf 0 = .ok (.iconst 0, 1) := by decide +kernel
theorem dX11_pairsOf_1 : decode cX11_pairsOf 1 = .ok (.istore_n 2, 1) := by decide +kernel
theorem dX11_pairsOf_2 : decode cX11_pairsOf 2 = .ok (.iconst 0, 1) := by decide +kernel
theorem dX11_pairsOf_3 : decode cX11_pairsOf 3 = .ok (.istore_n 3, 1) := by decide +kernel
theorem dX11_pairsOf_4 : decode cX11_pairsOf 4 = .ok (.iload_n 3, 1) := by decide +kernel
theorem dX11_pairsOf_5 : decode cX11_pairsOf 5 = .ok (.aload_n 0, 1) := by decide +kernel
theorem dX11_pairsOf_6 : decode cX11_pairsOf 6 = .ok (.invokevirtual 83, 3) := by decide +kernel
theorem dX11_pairsOf_9 : decode cX11_pairsOf 9 = .ok (.if_icmp .ge 21, 3) := by decide +kernel
theorem dX11_pairsOf_12 : decode cX11_pairsOf 12 = .ok (.iload_n 2, 1) := by decide +kernel
theorem dX11_pairsOf_13 : decode cX11_pairsOf 13 = .ok (.aload_n 0, 1) := by decide +kernel
theorem dX11_pairsOf_14 : decode cX11_pairsOf 14 = .ok (.iload_n 3, 1) := by decide +kernel
theorem dX11_pairsOf_15 : decode cX11_pairsOf 15 = .ok (.iload_n 1, 1) := by decide +kernel
theorem dX11_pairsOf_16 : decode cX11_pairsOf 16 = .ok (.invokevirtual 98, 3) := by decide +kernel
theorem dX11_pairsOf_19 : decode cX11_pairsOf 19 = .ok (.invokestatic 105, 3) := by decide +kernel
theorem dX11_pairsOf_22 : decode cX11_pairsOf 22 = .ok (.iadd, 1) := by decide +kernel
theorem dX11_pairsOf_23 : decode cX11_pairsOf 23 = .ok (.istore_n 2, 1) := by decide +kernel
theorem dX11_pairsOf_24 : decode cX11_pairsOf 24 = .ok (.iinc 3 1, 3) := by decide +kernel
theorem dX11_pairsOf_27 : decode cX11_pairsOf 27 = .ok (.goto (-23), 3) := by decide +kernel
theorem dX11_pairsOf_30 : decode cX11_pairsOf 30 = .ok (.iload_n 2, 1) := by decide +kernel
theorem dX11_pairsOf_31 : decode cX11_pairsOf 31 = .ok (.ireturn, 1) := by decide +kernel
theorem dX11_property_0 : decode cX11_property 0 = .ok (.aload_n 0, 1) := by decide +kernel
theorem dX11_property_1 : decode cX11_property 1 = .ok (.iload_n 1, 1) := by decide +kernel
theorem dX11_property_2 : decode cX11_property 2 = .ok (.i2l, 1) := by decide +kernel
theorem dX11_property_3 : decode cX11_property 3 = .ok (.lconst 0, 1) := by decide +kernel
theorem dX11_property_4 : decode cX11_property 4 = .ok (.ldc2_w 354, 3) := by decide +kernel
theorem dX11_property_7 : decode cX11_property 7 = .ok (.invokestatic 87, 3) := by decide +kernel
theorem dX11_property_10 : decode cX11_property 10 = .ok (.invokevirtual 235, 3) := by decide +kernel
theorem dX11_property_13 : decode cX11_property 13 = .ok (.ifCond .ne 5, 3) := by decide +kernel
theorem dX11_property_16 : decode cX11_property 16 = .ok (.iconst 0, 1) := by decide +kernel
theorem dX11_property_17 : decode cX11_property 17 = .ok (.ireturn, 1) := by decide +kernel
theorem dX11_property_18 : decode cX11_property 18 = .ok (.iload_n 1, 1) := by decide +kernel
theorem dX11_property_19 : decode cX11_property 19 = .ok (.tableswitch 88 0 6 #[41, 46, 53, 60, 68, 74, 81], 41) := by decide +kernel
theorem dX11_property_60 : decode cX11_property 60 = .ok (.aload_n 0, 1) := by decide +kernel
theorem dX11_property_61 : decode cX11_property 61 = .ok (.invokevirtual 83, 3) := by decide +kernel
theorem dX11_property_64 : decode cX11_property 64 = .ok (.ireturn, 1) := by decide +kernel
theorem dX11_property_65 : decode cX11_property 65 = .ok (.aload_n 0, 1) := by decide +kernel
theorem dX11_property_66 : decode cX11_property 66 = .ok (.getfield 17, 3) := by decide +kernel
theorem dX11_property_69 : decode cX11_property 69 = .ok (.iconst 1, 1) := by decide +kernel
theorem dX11_property_70 : decode cX11_property 70 = .ok (.iaload, 1) := by decide +kernel
theorem dX11_property_71 : decode cX11_property 71 = .ok (.ireturn, 1) := by decide +kernel
theorem dX11_property_72 : decode cX11_property 72 = .ok (.aload_n 0, 1) := by decide +kernel
theorem dX11_property_73 : decode cX11_property 73 = .ok (.getfield 17, 3) := by decide +kernel
theorem dX11_property_76 : decode cX11_property 76 = .ok (.iconst 2, 1) := by decide +kernel
theorem dX11_property_77 : decode cX11_property 77 = .ok (.iaload, 1) := by decide +kernel
theorem dX11_property_78 : decode cX11_property 78 = .ok (.ireturn, 1) := by decide +kernel
theorem dX11_property_79 : decode cX11_property 79 = .ok (.aload_n 0, 1) := by decide +kernel
theorem dX11_property_80 : decode cX11_property 80 = .ok (.iconst 3, 1) := by decide +kernel
theorem dX11_property_81 : decode cX11_property 81 = .ok (.invokevirtual 356, 3) := by decide +kernel
theorem dX11_property_84 : decode cX11_property 84 = .ok (.iconst 2, 1) := by decide +kernel
theorem dX11_property_85 : decode cX11_property 85 = .ok (.idiv, 1) := by decide +kernel
theorem dX11_property_86 : decode cX11_property 86 = .ok (.ireturn, 1) := by decide +kernel
theorem dX11_property_87 : decode cX11_property 87 = .ok (.aload_n 0, 1) := by decide +kernel
theorem dX11_property_88 : decode cX11_property 88 = .ok (.iconst 4, 1) := by decide +kernel
theorem dX11_property_89 : decode cX11_property 89 = .ok (.invokevirtual 356, 3) := by decide +kernel
theorem dX11_property_92 : decode cX11_property 92 = .ok (.ireturn, 1) := by decide +kernel
theorem dX11_property_93 : decode cX11_property 93 = .ok (.aload_n 0, 1) := by decide +kernel
theorem dX11_property_94 : decode cX11_property 94 = .ok (.getfield 17, 3) := by decide +kernel
theorem dX11_property_97 : decode cX11_property 97 = .ok (.iconst 3, 1) := by decide +kernel
theorem dX11_property_98 : decode cX11_property 98 = .ok (.iaload, 1) := by decide +kernel
theorem dX11_property_99 : decode cX11_property 99 = .ok (.ireturn, 1) := by decide +kernel
theorem dX11_property_100 : decode cX11_property 100 = .ok (.aload_n 0, 1) := by decide +kernel
theorem dX11_property_101 : decode cX11_property 101 = .ok (.getfield 17, 3) := by decide +kernel
theorem dX11_property_104 : decode cX11_property 104 = .ok (.iconst 4, 1) := by decide +kernel
theorem dX11_property_105 : decode cX11_property 105 = .ok (.iaload, 1) := by decide +kernel
theorem dX11_property_106 : decode cX11_property 106 = .ok (.ireturn, 1) := by decide +kernel
theorem dX11_property_107 : decode cX11_property 107 = .ok (.aload_n 0, 1) := by decide +kernel
theorem dX11_property_108 : decode cX11_property 108 = .ok (.getfield 17, 3) := by decide +kernel
theorem dX11_property_111 : decode cX11_property 111 = .ok (.iconst 5, 1) := by decide +kernel
theorem dX11_property_112 : decode cX11_property 112 = .ok (.iaload, 1) := by decide +kernel
theorem dX11_property_113 : decode cX11_property 113 = .ok (.ireturn, 1) := by decide +kernel
theorem dX11_item_0 : decode cX11_item 0 = .ok (.aload_n 0, 1) := by decide +kernel
theorem dX11_item_1 : decode cX11_item 1 = .ok (.aload_n 0, 1) := by decide +kernel
theorem dX11_item_2 : decode cX11_item 2 = .ok (.iload_n 1, 1) := by decide +kernel
theorem dX11_item_3 : decode cX11_item 3 = .ok (.invokevirtual 359, 3) := by decide +kernel
theorem dX11_item_6 : decode cX11_item 6 = .ok (.iload_n 2, 1) := by decide +kernel
theorem dX11_item_7 : decode cX11_item 7 = .ok (.i2l, 1) := by decide +kernel
theorem dX11_item_8 : decode cX11_item 8 = .ok (.lconst 0, 1) := by decide +kernel
theorem dX11_item_9 : decode cX11_item 9 = .ok (.ldc2_w 362, 3) := by decide +kernel
theorem dX11_item_12 : decode cX11_item 12 = .ok (.invokestatic 87, 3) := by decide +kernel
theorem dX11_item_15 : decode cX11_item 15 = .ok (.invokevirtual 7, 3) := by decide +kernel
theorem dX11_item_18 : decode cX11_item 18 = .ok (.ifCond .eq 12, 3) := by decide +kernel
theorem dX11_item_21 : decode cX11_item 21 = .ok (.aload_n 0, 1) := by decide +kernel
theorem dX11_item_22 : decode cX11_item 22 = .ok (.iload_n 1, 1) := by decide +kernel
theorem dX11_item_23 : decode cX11_item 23 = .ok (.iload_n 2, 1) := by decide +kernel
theorem dX11_item_24 : decode cX11_item 24 = .ok (.invokevirtual 98, 3) := by decide +kernel
theorem dX11_item_27 : decode cX11_item 27 = .ok (.goto 4, 3) := by decide +kernel
theorem dX11_item_30 : decode cX11_item 30 = .ok (.iconst 0, 1) := by decide +kernel
theorem dX11_item_31 : decode cX11_item 31 = .ok (.ireturn, 1) := by decide +kernel
theorem dX11_refusal_0 : decode cX11_refusal 0 = .ok (.aload_n 0, 1) := by decide +kernel
theorem dX11_refusal_1 : decode cX11_refusal 1 = .ok (.aload_n 0, 1) := by decide +kernel
theorem dX11_refusal_2 : decode cX11_refusal 2 = .ok (.iload_n 1, 1) := by decide +kernel
theorem dX11_refusal_3 : decode cX11_refusal 3 = .ok (.invokevirtual 364, 3) := by decide +kernel
theorem dX11_refusal_6 : decode cX11_refusal 6 = .ok (.invokevirtual 235, 3) := by decide +kernel
theorem dX11_refusal_9 : decode cX11_refusal 9 = .ok (.ifCond .eq 11, 3) := by decide +kernel
theorem dX11_refusal_12 : decode cX11_refusal 12 = .ok (.aload_n 0, 1) := by decide +kernel
theorem dX11_refusal_13 : decode cX11_refusal 13 = .ok (.iload_n 1, 1) := by decide +kernel
theorem dX11_refusal_14 : decode cX11_refusal 14 = .ok (.invokevirtual 116, 3) := by decide +kernel
theorem dX11_refusal_17 : decode cX11_refusal 17 = .ok (.goto 4, 3) := by decide +kernel
theorem dX11_refusal_20 : decode cX11_refusal 20 = .ok (.iconst 0, 1) := by decide +kernel
theorem dX11_refusal_21 : decode cX11_refusal 21 = .ok (.ireturn, 1) := by decide +kernel
theorem dX11_sum_0 : decode cX11_sum 0 = .ok (.aload_n 0, 1) := by decide +kernel
theorem dX11_sum_1 : decode cX11_sum 1 = .ok (.aload_n 0, 1) := by decide +kernel
theorem dX11_sum_2 : decode cX11_sum 2 = .ok (.iload_n 1, 1) := by decide +kernel
theorem dX11_sum_3 : decode cX11_sum 3 = .ok (.invokevirtual 364, 3) := by decide +kernel
theorem dX11_sum_6 : decode cX11_sum 6 = .ok (.ifCond .eq 19, 3) := by decide +kernel
theorem dX11_sum_9 : decode cX11_sum 9 = .ok (.iload_n 2, 1) := by decide +kernel
theorem dX11_sum_10 : decode cX11_sum 10 = .ok (.i2l, 1) := by decide +kernel
theorem dX11_sum_11 : decode cX11_sum 11 = .ok (.lconst 0, 1) := by decide +kernel
theorem dX11_sum_12 : decode cX11_sum 12 = .ok (.ldc2_w 367, 3) := by decide +kernel
theorem dX11_sum_15 : decode cX11_sum 15 = .ok (.invokestatic 87, 3) := by decide +kernel
theorem dX11_sum_18 : decode cX11_sum 18 = .ok (.ifCond .eq 7, 3) := by decide +kernel
theorem dX11_sum_21 : decode cX11_sum 21 = .ok (.iconst 1, 1) := by decide +kernel
theorem dX11_sum_22 : decode cX11_sum 22 = .ok (.goto 4, 3) := by decide +kernel
theorem dX11_sum_25 : decode cX11_sum 25 = .ok (.iconst 0, 1) := by decide +kernel
theorem dX11_sum_26 : decode cX11_sum 26 = .ok (.invokevirtual 235, 3) := by decide +kernel
theorem dX11_sum_29 : decode cX11_sum 29 = .ok (.ifCond .eq 12, 3) := by decide +kernel
theorem dX11_sum_32 : decode cX11_sum 32 = .ok (.aload_n 0, 1) := by decide +kernel
theorem dX11_sum_33 : decode cX11_sum 33 = .ok (.iload_n 1, 1) := by decide +kernel
theorem dX11_sum_34 : decode cX11_sum 34 = .ok (.iload_n 2, 1) := by decide +kernel
theorem dX11_sum_35 : decode cX11_sum 35 = .ok (.invokevirtual 102, 3) := by decide +kernel
theorem dX11_sum_38 : decode cX11_sum 38 = .ok (.goto 4, 3) := by decide +kernel
theorem dX11_sum_41 : decode cX11_sum 41 = .ok (.iconst 0, 1) := by decide +kernel
theorem dX11_sum_42 : decode cX11_sum 42 = .ok (.ireturn, 1) := by decide +kernel
theorem dX11_allowed_0 : decode cX11_allowed 0 = .ok (.aload_n 0, 1) := by decide +kernel
theorem dX11_allowed_1 : decode cX11_allowed 1 = .ok (.iconst 0, 1) := by decide +kernel
theorem dX11_allowed_2 : decode cX11_allowed 2 = .ok (.putfield 3, 3) := by decide +kernel
theorem dX11_allowed_5 : decode cX11_allowed 5 = .ok (.aload_n 0, 1) := by decide +kernel
theorem dX11_allowed_6 : decode cX11_allowed 6 = .ok (.invokevirtual 133, 3) := by decide +kernel
theorem dX11_allowed_9 : decode cX11_allowed 9 = .ok (.aload_n 0, 1) := by decide +kernel
theorem dX11_allowed_10 : decode cX11_allowed 10 = .ok (.getfield 119, 3) := by decide +kernel
theorem dX11_allowed_13 : decode cX11_allowed 13 = .ok (.ireturn, 1) := by decide +kernel
theorem dX11_points_0 : decode cX11_points 0 = .ok (.aload_n 0, 1) := by decide +kernel
theorem dX11_points_1 : decode cX11_points 1 = .ok (.iconst 0, 1) := by decide +kernel
theorem dX11_points_2 : decode cX11_points 2 = .ok (.putfield 3, 3) := by decide +kernel
theorem dX11_points_5 : decode cX11_points 5 = .ok (.aload_n 0, 1) := by decide +kernel
theorem dX11_points_6 : decode cX11_points 6 = .ok (.invokevirtual 144, 3) := by decide +kernel
theorem dX11_points_9 : decode cX11_points 9 = .ok (.aload_n 0, 1) := by decide +kernel
theorem dX11_points_10 : decode cX11_points 10 = .ok (.getfield 130, 3) := by decide +kernel
theorem dX11_points_13 : decode cX11_points 13 = .ok (.ireturn, 1) := by decide +kernel
theorem dX11_point_0 : decode cX11_point 0 = .ok (.aload_n 0, 1) := by decide +kernel
theorem dX11_point_1 : decode cX11_point 1 = .ok (.invokevirtual 369, 3) := by decide +kernel
theorem dX11_point_4 : decode cX11_point 4 = .ok (.aload_n 0, 1) := by decide +kernel
theorem dX11_point_5 : decode cX11_point 5 = .ok (.aload_n 0, 1) := by decide +kernel
theorem dX11_point_6 : decode cX11_point 6 = .ok (.iload_n 1, 1) := by decide +kernel
theorem dX11_point_7 : decode cX11_point 7 = .ok (.invokevirtual 372, 3) := by decide +kernel
theorem dX11_point_10 : decode cX11_point 10 = .ok (.iload_n 2, 1) := by decide +kernel
theorem dX11_point_11 : decode cX11_point 11 = .ok (.i2l, 1) := by decide +kernel
theorem dX11_point_12 : decode cX11_point 12 = .ok (.lconst 0, 1) := by decide +kernel
theorem dX11_point_13 : decode cX11_point 13 = .ok (.ldc2_w 375, 3) := by decide +kernel
theorem dX11_point_16 : decode cX11_point 16 = .ok (.invokestatic 87, 3) := by decide +kernel
theorem dX11_point_19 : decode cX11_point 19 = .ok (.invokevirtual 7, 3) := by decide +kernel
theorem dX11_point_22 : decode cX11_point 22 = .ok (.ifCond .ne 5, 3) := by decide +kernel
theorem dX11_point_25 : decode cX11_point 25 = .ok (.iconst 0, 1) := by decide +kernel
theorem dX11_point_26 : decode cX11_point 26 = .ok (.ireturn, 1) := by decide +kernel
theorem dX11_point_27 : decode cX11_point 27 = .ok (.iload_n 2, 1) := by decide +kernel
theorem dX11_point_28 : decode cX11_point 28 = .ok (.tableswitch 94 0 5 #[40, 47, 54, 61, 68, 80], 40) := by decide +kernel
theorem dX11_point_68 : decode cX11_point 68 = .ok (.aload_n 0, 1) := by decide +kernel
theorem dX11_point_69 : decode cX11_point 69 = .ok (.getfield 30, 3) := by decide +kernel
theorem dX11_point_72 : decode cX11_point 72 = .ok (.iload_n 1, 1) := by decide +kernel
theorem dX11_point_73 : decode cX11_point 73 = .ok (.iaload, 1) := by decide +kernel
theorem dX11_point_74 : decode cX11_point 74 = .ok (.ireturn, 1) := by decide +kernel
theorem dX11_point_75 : decode cX11_point 75 = .ok (.aload_n 0, 1) := by decide +kernel
theorem dX11_point_76 : decode cX11_point 76 = .ok (.getfield 33, 3) := by decide +kernel
theorem dX11_point_79 : decode cX11_point 79 = .ok (.iload_n 1, 1) := by decide +kernel
theorem dX11_point_80 : decode cX11_point 80 = .ok (.iaload, 1) := by decide +kernel
theorem dX11_point_81 : decode cX11_point 81 = .ok (.ireturn, 1) := by decide +kernel
theorem dX11_point_82 : decode cX11_point 82 = .ok (.aload_n 0, 1) := by decide +kernel
theorem dX11_point_83 : decode cX11_point 83 = .ok (.getfield 36, 3) := by decide +kernel
theorem dX11_point_86 : decode cX11_point 86 = .ok (.iload_n 1, 1) := by decide +kernel
theorem dX11_point_87 : decode cX11_point 87 = .ok (.iaload, 1) := by decide +kernel
theorem dX11_point_88 : decode cX11_point 88 = .ok (.ireturn, 1) := by decide +kernel
theorem dX11_point_89 : decode cX11_point 89 = .ok (.aload_n 0, 1) := by decide +kernel
theorem dX11_point_90 : decode cX11_point 90 = .ok (.getfield 39, 3) := by decide +kernel
theorem dX11_point_93 : decode cX11_point 93 = .ok (.iload_n 1, 1) := by decide +kernel
theorem dX11_point_94 : decode cX11_point 94 = .ok (.iaload, 1) := by decide +kernel
theorem dX11_point_95 : decode cX11_point 95 = .ok (.ireturn, 1) := by decide +kernel
theorem dX11_point_96 : decode cX11_point 96 = .ok (.aload_n 0, 1) := by decide +kernel
theorem dX11_point_97 : decode cX11_point 97 = .ok (.aload_n 0, 1) := by decide +kernel
theorem dX11_point_98 : decode cX11_point 98 = .ok (.getfield 36, 3) := by decide +kernel
theorem dX11_point_101 : decode cX11_point 101 = .ok (.iload_n 1, 1) := by decide +kernel
theorem dX11_point_102 : decode cX11_point 102 = .ok (.iaload, 1) := by decide +kernel
theorem dX11_point_103 : decode cX11_point 103 = .ok (.iconst 0, 1) := by decide +kernel
theorem dX11_point_104 : decode cX11_point 104 = .ok (.invokevirtual 102, 3) := by decide +kernel
theorem dX11_point_107 : decode cX11_point 107 = .ok (.ireturn, 1) := by decide +kernel
theorem dX11_point_108 : decode cX11_point 108 = .ok (.aload_n 0, 1) := by decide +kernel
theorem dX11_point_109 : decode cX11_point 109 = .ok (.iload_n 1, 1) := by decide +kernel
theorem dX11_point_110 : decode cX11_point 110 = .ok (.invokevirtual 377, 3) := by decide +kernel
theorem dX11_point_113 : decode cX11_point 113 = .ok (.ifCond .eq 7, 3) := by decide +kernel
theorem dX11_point_116 : decode cX11_point 116 = .ok (.iconst 1, 1) := by decide +kernel
theorem dX11_point_117 : decode cX11_point 117 = .ok (.goto 4, 3) := by decide +kernel
theorem dX11_point_120 : decode cX11_point 120 = .ok (.iconst 0, 1) := by decide +kernel
theorem dX11_point_121 : decode cX11_point 121 = .ok (.ireturn, 1) := by decide +kernel
theorem dX11_point_122 : decode cX11_point 122 = .ok (.aload_n 0, 1) := by decide +kernel
theorem dX11_point_123 : decode cX11_point 123 = .ok (.iload_n 1, 1) := by decide +kernel
theorem dX11_point_124 : decode cX11_point 124 = .ok (.invokevirtual 165, 3) := by decide +kernel
theorem dX11_point_127 : decode cX11_point 127 = .ok (.ifCond .eq 7, 3) := by decide +kernel
theorem dX11_point_130 : decode cX11_point 130 = .ok (.iconst 1, 1) := by decide +kernel
theorem dX11_point_131 : decode cX11_point 131 = .ok (.goto 4, 3) := by decide +kernel
theorem dX11_point_134 : decode cX11_point 134 = .ok (.iconst 0, 1) := by decide +kernel
theorem dX11_point_135 : decode cX11_point 135 = .ok (.ireturn, 1) := by decide +kernel
theorem dX11_lightest_0 : decode cX11_lightest 0 = .ok (.aload_n 0, 1) := by decide +kernel
theorem dX11_lightest_1 : decode cX11_lightest 1 = .ok (.invokevirtual 174, 3) := by decide +kernel
theorem dX11_lightest_4 : decode cX11_lightest 4 = .ok (.aload_n 0, 1) := by decide +kernel
theorem dX11_lightest_5 : decode cX11_lightest 5 = .ok (.aload_n 0, 1) := by decide +kernel
theorem dX11_lightest_6 : decode cX11_lightest 6 = .ok (.iload_n 1, 1) := by decide +kernel
theorem dX11_lightest_7 : decode cX11_lightest 7 = .ok (.invokevirtual 372, 3) := by decide +kernel
theorem dX11_lightest_10 : decode cX11_lightest 10 = .ok (.invokevirtual 235, 3) := by decide +kernel
theorem dX11_lightest_13 : decode cX11_lightest 13 = .ok (.ifCond .eq 12, 3) := by decide +kernel
theorem dX11_lightest_16 : decode cX11_lightest 16 = .ok (.aload_n 0, 1) := by decide +kernel
theorem dX11_lightest_17 : decode cX11_lightest 17 = .ok (.getfield 42, 3) := by decide +kernel
theorem dX11_lightest_20 : decode cX11_lightest 20 = .ok (.iload_n 1, 1) := by decide +kernel
theorem dX11_lightest_21 : decode cX11_lightest 21 = .ok (.iaload, 1) := by decide +kernel
theorem dX11_lightest_22 : decode cX11_lightest 22 = .ok (.goto 4, 3) := by decide +kernel
theorem dX11_lightest_25 : decode cX11_lightest 25 = .ok (.iconst 0, 1) := by decide +kernel
theorem dX11_lightest_26 : decode cX11_lightest 26 = .ok (.ireturn, 1) := by decide +kernel
theorem dX11_pointOf_0 : decode cX11_pointOf 0 = .ok (.aload_n 0, 1) := by decide +kernel
theorem dX11_pointOf_1 : decode cX11_pointOf 1 = .ok (.aload_n 0, 1) := by decide +kernel
theorem dX11_pointOf_2 : decode cX11_pointOf 2 = .ok (.iload_n 1, 1) := by decide +kernel
theorem dX11_pointOf_3 : decode cX11_pointOf 3 = .ok (.invokevirtual 364, 3) := by decide +kernel
theorem dX11_pointOf_6 : decode cX11_pointOf 6 = .ok (.invokevirtual 235, 3) := by decide +kernel
theorem dX11_pointOf_9 : decode cX11_pointOf 9 = .ok (.ifCond .ne 5, 3) := by decide +kernel
theorem dX11_pointOf_12 : decode cX11_pointOf 12 = .ok (.iconst 0, 1) := by decide +kernel
theorem dX11_pointOf_13 : decode cX11_pointOf 13 = .ok (.ireturn, 1) := by decide +kernel
theorem dX11_pointOf_14 : decode cX11_pointOf 14 = .ok (.aload_n 0, 1) := by decide +kernel
theorem dX11_pointOf_15 : decode cX11_pointOf 15 = .ok (.invokevirtual 144, 3) := by decide +kernel
theorem dX11_pointOf_18 : decode cX11_pointOf 18 = .ok (.aload_n 0, 1) := by decide +kernel
theorem dX11_pointOf_19 : decode cX11_pointOf 19 = .ok (.iload_n 1, 1) := by decide +kernel
theorem dX11_pointOf_20 : decode cX11_pointOf 20 = .ok (.invokevirtual 147, 3) := by decide +kernel
theorem dX11_pointOf_23 : decode cX11_pointOf 23 = .ok (.ireturn, 1) := by decide +kernel
theorem dX11_beatenBy_0 : decode cX11_beatenBy 0 = .ok (.aload_n 0, 1) := by decide +kernel
theorem dX11_beatenBy_1 : decode cX11_beatenBy 1 = .ok (.aload_n 0, 1) := by decide +kernel
theorem dX11_beatenBy_2 : decode cX11_beatenBy 2 = .ok (.iload_n 1, 1) := by decide +kernel
theorem dX11_beatenBy_3 : decode cX11_beatenBy 3 = .ok (.invokevirtual 364, 3) := by decide +kernel
theorem dX11_beatenBy_6 : decode cX11_beatenBy 6 = .ok (.invokevirtual 235, 3) := by decide +kernel
theorem dX11_beatenBy_9 : decode cX11_beatenBy 9 = .ok (.ifCond .ne 5, 3) := by decide +kernel
theorem dX11_beatenBy_12 : decode cX11_beatenBy 12 = .ok (.iconst 0, 1) := by decide +kernel
theorem dX11_beatenBy_13 : decode cX11_beatenBy 13 = .ok (.ireturn, 1) := by decide +kernel
theorem dX11_beatenBy_14 : decode cX11_beatenBy 14 = .ok (.aload_n 0, 1) := by decide +kernel
theorem dX11_beatenBy_15 : decode cX11_beatenBy 15 = .ok (.invokevirtual 144, 3) := by decide +kernel
theorem dX11_beatenBy_18 : decode cX11_beatenBy 18 = .ok (.iconst 0, 1) := by decide +kernel
theorem dX11_beatenBy_19 : decode cX11_beatenBy 19 = .ok (.istore_n 2, 1) := by decide +kernel
theorem dX11_beatenBy_20 : decode cX11_beatenBy 20 = .ok (.iload_n 2, 1) := by decide +kernel
theorem dX11_beatenBy_21 : decode cX11_beatenBy 21 = .ok (.aload_n 0, 1) := by decide +kernel
theorem dX11_beatenBy_22 : decode cX11_beatenBy 22 = .ok (.getfield 130, 3) := by decide +kernel
theorem dX11_beatenBy_25 : decode cX11_beatenBy 25 = .ok (.if_icmp .ge 31, 3) := by decide +kernel
theorem dX11_beatenBy_28 : decode cX11_beatenBy 28 = .ok (.aload_n 0, 1) := by decide +kernel
theorem dX11_beatenBy_29 : decode cX11_beatenBy 29 = .ok (.iload_n 2, 1) := by decide +kernel
theorem dX11_beatenBy_30 : decode cX11_beatenBy 30 = .ok (.aload_n 0, 1) := by decide +kernel
theorem dX11_beatenBy_31 : decode cX11_beatenBy 31 = .ok (.iload_n 1, 1) := by decide +kernel
theorem dX11_beatenBy_32 : decode cX11_beatenBy 32 = .ok (.iconst 1, 1) := by decide +kernel
theorem dX11_beatenBy_33 : decode cX11_beatenBy 33 = .ok (.invokevirtual 102, 3) := by decide +kernel
theorem dX11_beatenBy_36 : decode cX11_beatenBy 36 = .ok (.aload_n 0, 1) := by decide +kernel
theorem dX11_beatenBy_37 : decode cX11_beatenBy 37 = .ok (.iload_n 1, 1) := by decide +kernel
theorem dX11_beatenBy_38 : decode cX11_beatenBy 38 = .ok (.iconst 2, 1) := by decide +kernel
theorem dX11_beatenBy_39 : decode cX11_beatenBy 39 = .ok (.invokevirtual 102, 3) := by decide +kernel
theorem dX11_beatenBy_42 : decode cX11_beatenBy 42 = .ok (.invokevirtual 380, 3) := by decide +kernel
theorem dX11_beatenBy_45 : decode cX11_beatenBy 45 = .ok (.ifCond .eq 5, 3) := by decide +kernel
theorem dX11_beatenBy_48 : decode cX11_beatenBy 48 = .ok (.iload_n 2, 1) := by decide +kernel
theorem dX11_beatenBy_49 : decode cX11_beatenBy 49 = .ok (.ireturn, 1) := by decide +kernel
theorem dX11_beatenBy_50 : decode cX11_beatenBy 50 = .ok (.iinc 2 1, 3) := by decide +kernel
theorem dX11_beatenBy_53 : decode cX11_beatenBy 53 = .ok (.goto (-33), 3) := by decide +kernel
theorem dX11_beatenBy_56 : decode cX11_beatenBy 56 = .ok (.iconst (-1), 1) := by decide +kernel
theorem dX11_beatenBy_57 : decode cX11_beatenBy 57 = .ok (.ireturn, 1) := by decide +kernel
theorem dX11_beating_0 : decode cX11_beating 0 = .ok (.aload_n 0, 1) := by decide +kernel
theorem dX11_beating_1 : decode cX11_beating 1 = .ok (.iconst 0, 1) := by decide +kernel
theorem dX11_beating_2 : decode cX11_beating 2 = .ok (.putfield 3, 3) := by decide +kernel
theorem dX11_beating_5 : decode cX11_beating 5 = .ok (.aload_n 0, 1) := by decide +kernel
theorem dX11_beating_6 : decode cX11_beating 6 = .ok (.invokevirtual 144, 3) := by decide +kernel
theorem dX11_beating_9 : decode cX11_beating 9 = .ok (.iconst 0, 1) := by decide +kernel
theorem dX11_beating_10 : decode cX11_beating 10 = .ok (.istore_n 3, 1) := by decide +kernel
theorem dX11_beating_11 : decode cX11_beating 11 = .ok (.iconst 0, 1) := by decide +kernel
theorem dX11_beating_12 : decode cX11_beating 12 = .ok (.istore 4, 2) := by decide +kernel
theorem dX11_beating_14 : decode cX11_beating 14 = .ok (.iload 4, 2) := by decide +kernel
theorem dX11_beating_16 : decode cX11_beating 16 = .ok (.aload_n 0, 1) := by decide +kernel
theorem dX11_beating_17 : decode cX11_beating 17 = .ok (.getfield 130, 3) := by decide +kernel
theorem dX11_beating_20 : decode cX11_beating 20 = .ok (.if_icmp .ge 28, 3) := by decide +kernel
theorem dX11_beating_23 : decode cX11_beating 23 = .ok (.iload_n 3, 1) := by decide +kernel
theorem dX11_beating_24 : decode cX11_beating 24 = .ok (.aload_n 0, 1) := by decide +kernel
theorem dX11_beating_25 : decode cX11_beating 25 = .ok (.iload 4, 2) := by decide +kernel
theorem dX11_beating_27 : decode cX11_beating 27 = .ok (.iload_n 1, 1) := by decide +kernel
theorem dX11_beating_28 : decode cX11_beating 28 = .ok (.iload_n 2, 1) := by decide +kernel
theorem dX11_beating_29 : decode cX11_beating 29 = .ok (.invokevirtual 380, 3) := by decide +kernel
theorem dX11_beating_32 : decode cX11_beating 32 = .ok (.ifCond .eq 7, 3) := by decide +kernel
theorem dX11_beating_35 : decode cX11_beating 35 = .ok (.iconst 1, 1) := by decide +kernel
theorem dX11_beating_36 : decode cX11_beating 36 = .ok (.goto 4, 3) := by decide +kernel
theorem dX11_beating_39 : decode cX11_beating 39 = .ok (.iconst 0, 1) := by decide +kernel
theorem dX11_beating_40 : decode cX11_beating 40 = .ok (.iadd, 1) := by decide +kernel
theorem dX11_beating_41 : decode cX11_beating 41 = .ok (.istore_n 3, 1) := by decide +kernel
theorem dX11_beating_42 : decode cX11_beating 42 = .ok (.iinc 4 1, 3) := by decide +kernel
theorem dX11_beating_45 : decode cX11_beating 45 = .ok (.goto (-31), 3) := by decide +kernel
theorem dX11_beating_48 : decode cX11_beating 48 = .ok (.iload_n 3, 1) := by decide +kernel
theorem dX11_beating_49 : decode cX11_beating 49 = .ok (.ireturn, 1) := by decide +kernel
theorem dX11_joyFor_0 : decode cX11_joyFor 0 = .ok (.aload_n 0, 1) := by decide +kernel
theorem dX11_joyFor_1 : decode cX11_joyFor 1 = .ok (.iconst 0, 1) := by decide +kernel
theorem dX11_joyFor_2 : decode cX11_joyFor 2 = .ok (.putfield 3, 3) := by decide +kernel
theorem dX11_joyFor_5 : decode cX11_joyFor 5 = .ok (.aload_n 0, 1) := by decide +kernel
theorem dX11_joyFor_6 : decode cX11_joyFor 6 = .ok (.invokevirtual 144, 3) := by decide +kernel
theorem dX11_joyFor_9 : decode cX11_joyFor 9 = .ok (.iconst 0, 1) := by decide +kernel
theorem dX11_joyFor_10 : decode cX11_joyFor 10 = .ok (.istore_n 2, 1) := by decide +kernel
theorem dX11_joyFor_11 : decode cX11_joyFor 11 = .ok (.iload_n 2, 1) := by decide +kernel
theorem dX11_joyFor_12 : decode cX11_joyFor 12 = .ok (.aload_n 0, 1) := by decide +kernel
theorem dX11_joyFor_13 : decode cX11_joyFor 13 = .ok (.getfield 130, 3) := by decide +kernel
theorem dX11_joyFor_16 : decode cX11_joyFor 16 = .ok (.if_icmp .ge 26, 3) := by decide +kernel
theorem dX11_joyFor_19 : decode cX11_joyFor 19 = .ok (.aload_n 0, 1) := by decide +kernel
theorem dX11_joyFor_20 : decode cX11_joyFor 20 = .ok (.getfield 30, 3) := by decide +kernel
theorem dX11_joyFor_23 : decode cX11_joyFor 23 = .ok (.iload_n 2, 1) := by decide +kernel
theorem dX11_joyFor_24 : decode cX11_joyFor 24 = .ok (.iaload, 1) := by decide +kernel
theorem dX11_joyFor_25 : decode cX11_joyFor 25 = .ok (.iload_n 1, 1) := by decide +kernel
theorem dX11_joyFor_26 : decode cX11_joyFor 26 = .ok (.if_icmp .lt 10, 3) := by decide +kernel
theorem dX11_joyFor_29 : decode cX11_joyFor 29 = .ok (.aload_n 0, 1) := by decide +kernel
theorem dX11_joyFor_30 : decode cX11_joyFor 30 = .ok (.getfield 33, 3) := by decide +kernel
theorem dX11_joyFor_33 : decode cX11_joyFor 33 = .ok (.iload_n 2, 1) := by decide +kernel
theorem dX11_joyFor_34 : decode cX11_joyFor 34 = .ok (.iaload, 1) := by decide +kernel
theorem dX11_joyFor_35 : decode cX11_joyFor 35 = .ok (.ireturn, 1) := by decide +kernel
theorem dX11_joyFor_36 : decode cX11_joyFor 36 = .ok (.iinc 2 1, 3) := by decide +kernel
theorem dX11_joyFor_39 : decode cX11_joyFor 39 = .ok (.goto (-28), 3) := by decide +kernel
theorem dX11_joyFor_42 : decode cX11_joyFor 42 = .ok (.iconst (-1), 1) := by decide +kernel
theorem dX11_joyFor_43 : decode cX11_joyFor 43 = .ok (.ireturn, 1) := by decide +kernel
theorem dX11_gainFor_0 : decode cX11_gainFor 0 = .ok (.aload_n 0, 1) := by decide +kernel
theorem dX11_gainFor_1 : decode cX11_gainFor 1 = .ok (.iconst 0, 1) := by decide +kernel
theorem dX11_gainFor_2 : decode cX11_gainFor 2 = .ok (.putfield 3, 3) := by decide +kernel
theorem dX11_gainFor_5 : decode cX11_gainFor 5 = .ok (.aload_n 0, 1) := by decide +kernel
theorem dX11_gainFor_6 : decode cX11_gainFor 6 = .ok (.invokevirtual 144, 3) := by decide +kernel
theorem dX11_gainFor_9 : decode cX11_gainFor 9 = .ok (.aload_n 0, 1) := by decide +kernel
theorem dX11_gainFor_10 : decode cX11_gainFor 10 = .ok (.getfield 130, 3) := by decide +kernel
theorem dX11_gainFor_13 : decode cX11_gainFor 13 = .ok (.iconst 1, 1) := by decide +kernel
theorem dX11_gainFor_14 : decode cX11_gainFor 14 = .ok (.isub, 1) := by decide +kernel
theorem dX11_gainFor_15 : decode cX11_gainFor 15 = .ok (.istore_n 2, 1) := by decide +kernel
theorem dX11_gainFor_16 : decode cX11_gainFor 16 = .ok (.iload_n 2, 1) := by decide +kernel
theorem dX11_gainFor_17 : decode cX11_gainFor 17 = .ok (.ifCond .lt 26, 3) := by decide +kernel
theorem dX11_gainFor_20 : decode cX11_gainFor 20 = .ok (.aload_n 0, 1) := by decide +kernel
theorem dX11_gainFor_21 : decode cX11_gainFor 21 = .ok (.getfield 33, 3) := by decide +kernel
theorem dX11_gainFor_24 : decode cX11_gainFor 24 = .ok (.iload_n 2, 1) := by decide +kernel
theorem dX11_gainFor_25 : decode cX11_gainFor 25 = .ok (.iaload, 1) := by decide +kernel
theorem dX11_gainFor_26 : decode cX11_gainFor 26 = .ok (.iload_n 1, 1) := by decide +kernel
theorem dX11_gainFor_27 : decode cX11_gainFor 27 = .ok (.if_icmp .lt 10, 3) := by decide +kernel
theorem dX11_gainFor_30 : decode cX11_gainFor 30 = .ok (.aload_n 0, 1) := by decide +kernel
theorem dX11_gainFor_31 : decode cX11_gainFor 31 = .ok (.getfield 30, 3) := by decide +kernel
theorem dX11_gainFor_34 : decode cX11_gainFor 34 = .ok (.iload_n 2, 1) := by decide +kernel
theorem dX11_gainFor_35 : decode cX11_gainFor 35 = .ok (.iaload, 1) := by decide +kernel
theorem dX11_gainFor_36 : decode cX11_gainFor 36 = .ok (.ireturn, 1) := by decide +kernel
theorem dX11_gainFor_37 : decode cX11_gainFor 37 = .ok (.iinc 2 (-1), 3) := by decide +kernel
theorem dX11_gainFor_40 : decode cX11_gainFor 40 = .ok (.goto (-24), 3) := by decide +kernel
theorem dX11_gainFor_43 : decode cX11_gainFor 43 = .ok (.iconst (-1), 1) := by decide +kernel
theorem dX11_gainFor_44 : decode cX11_gainFor 44 = .ok (.ireturn, 1) := by decide +kernel
theorem dX11_best_0 : decode cX11_best 0 = .ok (.aload_n 0, 1) := by decide +kernel
theorem dX11_best_1 : decode cX11_best 1 = .ok (.iload_n 1, 1) := by decide +kernel
theorem dX11_best_2 : decode cX11_best 2 = .ok (.iload_n 2, 1) := by decide +kernel
theorem dX11_best_3 : decode cX11_best 3 = .ok (.invokestatic 383, 3) := by decide +kernel
theorem dX11_best_6 : decode cX11_best 6 = .ok (.invokevirtual 235, 3) := by decide +kernel
theorem dX11_best_9 : decode cX11_best 9 = .ok (.ifCond .ne 5, 3) := by decide +kernel
theorem dX11_best_12 : decode cX11_best 12 = .ok (.iconst 0, 1) := by decide +kernel
theorem dX11_best_13 : decode cX11_best 13 = .ok (.ireturn, 1) := by decide +kernel
theorem dX11_best_14 : decode cX11_best 14 = .ok (.aload_n 0, 1) := by decide +kernel
theorem dX11_best_15 : decode cX11_best 15 = .ok (.invokevirtual 144, 3) := by decide +kernel
theorem dX11_best_18 : decode cX11_best 18 = .ok (.aload_n 0, 1) := by decide +kernel
theorem dX11_best_19 : decode cX11_best 19 = .ok (.iload_n 1, 1) := by decide +kernel
theorem dX11_best_20 : decode cX11_best 20 = .ok (.iload_n 2, 1) := by decide +kernel
theorem dX11_best_21 : decode cX11_best 21 = .ok (.invokevirtual 195, 3) := by decide +kernel
theorem dX11_best_24 : decode cX11_best 24 = .ok (.ireturn, 1) := by decide +kernel
theorem dX11_lackOf_0 : decode cX11_lackOf 0 = .ok (.iload_n 2, 1) := by decide +kernel
theorem dX11_lackOf_1 : decode cX11_lackOf 1 = .ok (.aload_n 0, 1) := by decide +kernel
theorem dX11_lackOf_2 : decode cX11_lackOf 2 = .ok (.getfield 30, 3) := by decide +kernel
theorem dX11_lackOf_5 : decode cX11_lackOf 5 = .ok (.aload_n 0, 1) := by decide +kernel
theorem dX11_lackOf_6 : decode cX11_lackOf 6 = .ok (.getfield 130, 3) := by decide +kernel
theorem dX11_lackOf_9 : decode cX11_lackOf 9 = .ok (.iconst 1, 1) := by decide +kernel
theorem dX11_lackOf_10 : decode cX11_lackOf 10 = .ok (.isub, 1) := by decide +kernel
theorem dX11_lackOf_11 : decode cX11_lackOf 11 = .ok (.iaload, 1) := by decide +kernel
theorem dX11_lackOf_12 : decode cX11_lackOf 12 = .ok (.aload_n 0, 1) := by decide +kernel
theorem dX11_lackOf_13 : decode cX11_lackOf 13 = .ok (.getfield 30, 3) := by decide +kernel
theorem dX11_lackOf_16 : decode cX11_lackOf 16 = .ok (.iload_n 1, 1) := by decide +kernel
theorem dX11_lackOf_17 : decode cX11_lackOf 17 = .ok (.iaload, 1) := by decide +kernel
theorem dX11_lackOf_18 : decode cX11_lackOf 18 = .ok (.isub, 1) := by decide +kernel
theorem dX11_lackOf_19 : decode cX11_lackOf 19 = .ok (.imul, 1) := by decide +kernel
theorem dX11_lackOf_20 : decode cX11_lackOf 20 = .ok (.istore 4, 2) := by decide +kernel
theorem dX11_lackOf_22 : decode cX11_lackOf 22 = .ok (.iload 4, 2) := by decide +kernel
theorem dX11_lackOf_24 : decode cX11_lackOf 24 = .ok (.iload_n 3, 1) := by decide +kernel
theorem dX11_lackOf_25 : decode cX11_lackOf 25 = .ok (.aload_n 0, 1) := by decide +kernel
theorem dX11_lackOf_26 : decode cX11_lackOf 26 = .ok (.getfield 33, 3) := by decide +kernel
theorem dX11_lackOf_29 : decode cX11_lackOf 29 = .ok (.iconst 0, 1) := by decide +kernel
theorem dX11_lackOf_30 : decode cX11_lackOf 30 = .ok (.iaload, 1) := by decide +kernel
theorem dX11_lackOf_31 : decode cX11_lackOf 31 = .ok (.aload_n 0, 1) := by decide +kernel
theorem dX11_lackOf_32 : decode cX11_lackOf 32 = .ok (.getfield 33, 3) := by decide +kernel
theorem dX11_lackOf_35 : decode cX11_lackOf 35 = .ok (.iload_n 1, 1) := by decide +kernel
theorem dX11_lackOf_36 : decode cX11_lackOf 36 = .ok (.iaload, 1) := by decide +kernel
theorem dX11_lackOf_37 : decode cX11_lackOf 37 = .ok (.isub, 1) := by decide +kernel
theorem dX11_lackOf_38 : decode cX11_lackOf 38 = .ok (.imul, 1) := by decide +kernel
theorem dX11_lackOf_39 : decode cX11_lackOf 39 = .ok (.invokestatic 125, 3) := by decide +kernel
theorem dX11_lackOf_42 : decode cX11_lackOf 42 = .ok (.ireturn, 1) := by decide +kernel
theorem dX11_nearest_0 : decode cX11_nearest 0 = .ok (.aload_n 0, 1) := by decide +kernel
theorem dX11_nearest_1 : decode cX11_nearest 1 = .ok (.iload_n 1, 1) := by decide +kernel
theorem dX11_nearest_2 : decode cX11_nearest 2 = .ok (.iload_n 2, 1) := by decide +kernel
theorem dX11_nearest_3 : decode cX11_nearest 3 = .ok (.invokestatic 383, 3) := by decide +kernel
theorem dX11_nearest_6 : decode cX11_nearest 6 = .ok (.invokevirtual 235, 3) := by decide +kernel
theorem dX11_nearest_9 : decode cX11_nearest 9 = .ok (.ifCond .ne 5, 3) := by decide +kernel
theorem dX11_nearest_12 : decode cX11_nearest 12 = .ok (.iconst 0, 1) := by decide +kernel
theorem dX11_nearest_13 : decode cX11_nearest 13 = .ok (.ireturn, 1) := by decide +kernel
theorem dX11_nearest_14 : decode cX11_nearest 14 = .ok (.aload_n 0, 1) := by decide +kernel
theorem dX11_nearest_15 : decode cX11_nearest 15 = .ok (.invokevirtual 144, 3) := by decide +kernel
theorem dX11_nearest_18 : decode cX11_nearest 18 = .ok (.iconst (-1), 1) := by decide +kernel
theorem dX11_nearest_19 : decode cX11_nearest 19 = .ok (.istore_n 3, 1) := by decide +kernel
theorem dX11_nearest_20 : decode cX11_nearest 20 = .ok (.iconst 0, 1) := by decide +kernel
theorem dX11_nearest_21 : decode cX11_nearest 21 = .ok (.istore 4, 2) := by decide +kernel
theorem dX11_nearest_23 : decode cX11_nearest 23 = .ok (.iload 4, 2) := by decide +kernel
theorem dX11_nearest_25 : decode cX11_nearest 25 = .ok (.aload_n 0, 1) := by decide +kernel
theorem dX11_nearest_26 : decode cX11_nearest 26 = .ok (.getfield 130, 3) := by decide +kernel
theorem dX11_nearest_29 : decode cX11_nearest 29 = .ok (.if_icmp .ge 35, 3) := by decide +kernel
theorem dX11_nearest_32 : decode cX11_nearest 32 = .ok (.iload_n 3, 1) := by decide +kernel
theorem dX11_nearest_33 : decode cX11_nearest 33 = .ok (.iconst (-1), 1) := by decide +kernel
theorem dX11_nearest_34 : decode cX11_nearest 34 = .ok (.if_icmp .eq 21, 3) := by decide +kernel
theorem dX11_nearest_37 : decode cX11_nearest 37 = .ok (.aload_n 0, 1) := by decide +kernel
theorem dX11_nearest_38 : decode cX11_nearest 38 = .ok (.iload 4, 2) := by decide +kernel
theorem dX11_nearest_40 : decode cX11_nearest 40 = .ok (.iload_n 1, 1) := by decide +kernel
theorem dX11_nearest_41 : decode cX11_nearest 41 = .ok (.iload_n 2, 1) := by decide +kernel
theorem dX11_nearest_42 : decode cX11_nearest 42 = .ok (.invokevirtual 386, 3) := by decide +kernel
theorem dX11_nearest_45 : decode cX11_nearest 45 = .ok (.aload_n 0, 1) := by decide +kernel
theorem dX11_nearest_46 : decode cX11_nearest 46 = .ok (.iload_n 3, 1) := by decide +kernel
theorem dX11_nearest_47 : decode cX11_nearest 47 = .ok (.iload_n 1, 1) := by decide +kernel
theorem dX11_nearest_48 : decode cX11_nearest 48 = .ok (.iload_n 2, 1) := by decide +kernel
theorem dX11_nearest_49 : decode cX11_nearest 49 = .ok (.invokevirtual 386, 3) := by decide +kernel
theorem dX11_nearest_52 : decode cX11_nearest 52 = .ok (.if_icmp .ge 6, 3) := by decide +kernel
theorem dX11_nearest_55 : decode cX11_nearest 55 = .ok (.iload 4, 2) := by decide +kernel
theorem dX11_nearest_57 : decode cX11_nearest 57 = .ok (.istore_n 3, 1) := by decide +kernel
theorem dX11_nearest_58 : decode cX11_nearest 58 = .ok (.iinc 4 1, 3) := by decide +kernel
theorem dX11_nearest_61 : decode cX11_nearest 61 = .ok (.goto (-38), 3) := by decide +kernel
theorem dX11_nearest_64 : decode cX11_nearest 64 = .ok (.iload_n 3, 1) := by decide +kernel
theorem dX11_nearest_65 : decode cX11_nearest 65 = .ok (.ireturn, 1) := by decide +kernel
theorem dX11_vertices_0 : decode cX11_vertices 0 = .ok (.aload_n 0, 1) := by decide +kernel
theorem dX11_vertices_1 : decode cX11_vertices 1 = .ok (.iconst 0, 1) := by decide +kernel
theorem dX11_vertices_2 : decode cX11_vertices 2 = .ok (.putfield 3, 3) := by decide +kernel
theorem dX11_vertices_5 : decode cX11_vertices 5 = .ok (.aload_n 0, 1) := by decide +kernel
theorem dX11_vertices_6 : decode cX11_vertices 6 = .ok (.invokevirtual 369, 3) := by decide +kernel
theorem dX11_vertices_9 : decode cX11_vertices 9 = .ok (.aload_n 0, 1) := by decide +kernel
theorem dX11_vertices_10 : decode cX11_vertices 10 = .ok (.getfield 158, 3) := by decide +kernel
theorem dX11_vertices_13 : decode cX11_vertices 13 = .ok (.ireturn, 1) := by decide +kernel
theorem dX11_vertex_0 : decode cX11_vertex 0 = .ok (.aload_n 0, 1) := by decide +kernel
theorem dX11_vertex_1 : decode cX11_vertex 1 = .ok (.invokevirtual 369, 3) := by decide +kernel
theorem dX11_vertex_4 : decode cX11_vertex 4 = .ok (.aload_n 0, 1) := by decide +kernel
theorem dX11_vertex_5 : decode cX11_vertex 5 = .ok (.iload_n 1, 1) := by decide +kernel
theorem dX11_vertex_6 : decode cX11_vertex 6 = .ok (.i2l, 1) := by decide +kernel
theorem dX11_vertex_7 : decode cX11_vertex 7 = .ok (.lconst 0, 1) := by decide +kernel
theorem dX11_vertex_8 : decode cX11_vertex 8 = .ok (.aload_n 0, 1) := by decide +kernel
theorem dX11_vertex_9 : decode cX11_vertex 9 = .ok (.getfield 158, 3) := by decide +kernel
theorem dX11_vertex_12 : decode cX11_vertex 12 = .ok (.iconst 1, 1) := by decide +kernel
theorem dX11_vertex_13 : decode cX11_vertex 13 = .ok (.isub, 1) := by decide +kernel
theorem dX11_vertex_14 : decode cX11_vertex 14 = .ok (.i2l, 1) := by decide +kernel
theorem dX11_vertex_15 : decode cX11_vertex 15 = .ok (.invokestatic 87, 3) := by decide +kernel
theorem dX11_vertex_18 : decode cX11_vertex 18 = .ok (.invokevirtual 235, 3) := by decide +kernel
theorem dX11_vertex_21 : decode cX11_vertex 21 = .ok (.ifCond .eq 12, 3) := by decide +kernel
theorem dX11_vertex_24 : decode cX11_vertex 24 = .ok (.aload_n 0, 1) := by decide +kernel
theorem dX11_vertex_25 : decode cX11_vertex 25 = .ok (.getfield 48, 3) := by decide +kernel
theorem dX11_vertex_28 : decode cX11_vertex 28 = .ok (.iload_n 1, 1) := by decide +kernel
theorem dX11_vertex_29 : decode cX11_vertex 29 = .ok (.iaload, 1) := by decide +kernel
theorem dX11_vertex_30 : decode cX11_vertex 30 = .ok (.goto 4, 3) := by decide +kernel
theorem dX11_vertex_33 : decode cX11_vertex 33 = .ok (.iconst 0, 1) := by decide +kernel
theorem dX11_vertex_34 : decode cX11_vertex 34 = .ok (.ireturn, 1) := by decide +kernel
theorem dX11_supported_0 : decode cX11_supported 0 = .ok (.aload_n 0, 1) := by decide +kernel
theorem dX11_supported_1 : decode cX11_supported 1 = .ok (.iconst 0, 1) := by decide +kernel
theorem dX11_supported_2 : decode cX11_supported 2 = .ok (.putfield 3, 3) := by decide +kernel
theorem dX11_supported_5 : decode cX11_supported 5 = .ok (.aload_n 0, 1) := by decide +kernel
theorem dX11_supported_6 : decode cX11_supported 6 = .ok (.invokevirtual 369, 3) := by decide +kernel
theorem dX11_supported_9 : decode cX11_supported 9 = .ok (.iconst 0, 1) := by decide +kernel
theorem dX11_supported_10 : decode cX11_supported 10 = .ok (.istore_n 1, 1) := by decide +kernel
theorem dX11_supported_11 : decode cX11_supported 11 = .ok (.iconst 0, 1) := by decide +kernel
theorem dX11_supported_12 : decode cX11_supported 12 = .ok (.istore_n 2, 1) := by decide +kernel
theorem dX11_supported_13 : decode cX11_supported 13 = .ok (.iload_n 2, 1) := by decide +kernel
theorem dX11_supported_14 : decode cX11_supported 14 = .ok (.aload_n 0, 1) := by decide +kernel
theorem dX11_supported_15 : decode cX11_supported 15 = .ok (.getfield 130, 3) := by decide +kernel
theorem dX11_supported_18 : decode cX11_supported 18 = .ok (.if_icmp .ge 25, 3) := by decide +kernel
theorem dX11_supported_21 : decode cX11_supported 21 = .ok (.iload_n 1, 1) := by decide +kernel
theorem dX11_supported_22 : decode cX11_supported 22 = .ok (.aload_n 0, 1) := by decide +kernel
theorem dX11_supported_23 : decode cX11_supported 23 = .ok (.iload_n 2, 1) := by decide +kernel
theorem dX11_supported_24 : decode cX11_supported 24 = .ok (.invokevirtual 377, 3) := by decide +kernel
theorem dX11_supported_27 : decode cX11_supported 27 = .ok (.ifCond .eq 7, 3) := by decide +kernel
theorem dX11_supported_30 : decode cX11_supported 30 = .ok (.iconst 1, 1) := by decide +kernel
theorem dX11_supported_31 : decode cX11_supported 31 = .ok (.goto 4, 3) := by decide +kernel
theorem dX11_supported_34 : decode cX11_supported 34 = .ok (.iconst 0, 1) := by decide +kernel
theorem dX11_supported_35 : decode cX11_supported 35 = .ok (.iadd, 1) := by decide +kernel
theorem dX11_supported_36 : decode cX11_supported 36 = .ok (.istore_n 1, 1) := by decide +kernel
theorem dX11_supported_37 : decode cX11_supported 37 = .ok (.iinc 2 1, 3) := by decide +kernel
theorem dX11_supported_40 : decode cX11_supported 40 = .ok (.goto (-27), 3) := by decide +kernel
theorem dX11_supported_43 : decode cX11_supported 43 = .ok (.iload_n 1, 1) := by decide +kernel
theorem dX11_supported_44 : decode cX11_supported 44 = .ok (.ireturn, 1) := by decide +kernel
theorem dX11_between_0 : decode cX11_between 0 = .ok (.aload_n 0, 1) := by decide +kernel
theorem dX11_between_1 : decode cX11_between 1 = .ok (.getfield 48, 3) := by decide +kernel
theorem dX11_between_4 : decode cX11_between 4 = .ok (.iload_n 1, 1) := by decide +kernel
theorem dX11_between_5 : decode cX11_between 5 = .ok (.iconst 1, 1) := by decide +kernel
theorem dX11_between_6 : decode cX11_between 6 = .ok (.iadd, 1) := by decide +kernel
theorem dX11_between_7 : decode cX11_between 7 = .ok (.iaload, 1) := by decide +kernel
theorem dX11_between_8 : decode cX11_between 8 = .ok (.aload_n 0, 1) := by decide +kernel
theorem dX11_between_9 : decode cX11_between 9 = .ok (.getfield 48, 3) := by decide +kernel
theorem dX11_between_12 : decode cX11_between 12 = .ok (.iload_n 1, 1) := by decide +kernel
theorem dX11_between_13 : decode cX11_between 13 = .ok (.iaload, 1) := by decide +kernel
theorem dX11_between_14 : decode cX11_between 14 = .ok (.isub, 1) := by decide +kernel
theorem dX11_between_15 : decode cX11_between 15 = .ok (.iconst 1, 1) := by decide +kernel
theorem dX11_between_16 : decode cX11_between 16 = .ok (.isub, 1) := by decide +kernel
theorem dX11_between_17 : decode cX11_between 17 = .ok (.ireturn, 1) := by decide +kernel
theorem dX11_supportedIn_0 : decode cX11_supportedIn 0 = .ok (.iconst 0, 1) := by decide +kernel
theorem dX11_supportedIn_1 : decode cX11_supportedIn 1 = .ok (.istore_n 2, 1) := by decide +kernel
theorem dX11_supportedIn_2 : decode cX11_supportedIn 2 = .ok (.aload_n 0, 1) := by decide +kernel
theorem dX11_supportedIn_3 : decode cX11_supportedIn 3 = .ok (.getfield 48, 3) := by decide +kernel
theorem dX11_supportedIn_6 : decode cX11_supportedIn 6 = .ok (.iload_n 1, 1) := by decide +kernel
theorem dX11_supportedIn_7 : decode cX11_supportedIn 7 = .ok (.iaload, 1) := by decide +kernel
theorem dX11_supportedIn_8 : decode cX11_supportedIn 8 = .ok (.iconst 1, 1) := by decide +kernel
theorem dX11_supportedIn_9 : decode cX11_supportedIn 9 = .ok (.iadd, 1) := by decide +kernel
theorem dX11_supportedIn_10 : decode cX11_supportedIn 10 = .ok (.istore_n 3, 1) := by decide +kernel
theorem dX11_supportedIn_11 : decode cX11_supportedIn 11 = .ok (.iload_n 3, 1) := by decide +kernel
theorem dX11_supportedIn_12 : decode cX11_supportedIn 12 = .ok (.aload_n 0, 1) := by decide +kernel
theorem dX11_supportedIn_13 : decode cX11_supportedIn 13 = .ok (.getfield 48, 3) := by decide +kernel
theorem dX11_supportedIn_16 : decode cX11_supportedIn 16 = .ok (.iload_n 1, 1) := by decide +kernel
theorem dX11_supportedIn_17 : decode cX11_supportedIn 17 = .ok (.iconst 1, 1) := by decide +kernel
theorem dX11_supportedIn_18 : decode cX11_supportedIn 18 = .ok (.iadd, 1) := by decide +kernel
theorem dX11_supportedIn_19 : decode cX11_supportedIn 19 = .ok (.iaload, 1) := by decide +kernel
theorem dX11_supportedIn_20 : decode cX11_supportedIn 20 = .ok (.if_icmp .ge 25, 3) := by decide +kernel
theorem dX11_supportedIn_23 : decode cX11_supportedIn 23 = .ok (.iload_n 2, 1) := by decide +kernel
theorem dX11_supportedIn_24 : decode cX11_supportedIn 24 = .ok (.aload_n 0, 1) := by decide +kernel
theorem dX11_supportedIn_25 : decode cX11_supportedIn 25 = .ok (.iload_n 3, 1) := by decide +kernel
theorem dX11_supportedIn_26 : decode cX11_supportedIn 26 = .ok (.invokevirtual 377, 3) := by decide +kernel
theorem dX11_supportedIn_29 : decode cX11_supportedIn 29 = .ok (.ifCond .eq 7, 3) := by decide +kernel
theorem dX11_supportedIn_32 : decode cX11_supportedIn 32 = .ok (.iconst 1, 1) := by decide +kernel
theorem dX11_supportedIn_33 : decode cX11_supportedIn 33 = .ok (.goto 4, 3) := by decide +kernel
theorem dX11_supportedIn_36 : decode cX11_supportedIn 36 = .ok (.iconst 0, 1) := by decide +kernel
theorem dX11_supportedIn_37 : decode cX11_supportedIn 37 = .ok (.iadd, 1) := by decide +kernel
theorem dX11_supportedIn_38 : decode cX11_supportedIn 38 = .ok (.istore_n 2, 1) := by decide +kernel
theorem dX11_supportedIn_39 : decode cX11_supportedIn 39 = .ok (.iinc 3 1, 3) := by decide +kernel
theorem dX11_supportedIn_42 : decode cX11_supportedIn 42 = .ok (.goto (-31), 3) := by decide +kernel
theorem dX11_supportedIn_45 : decode cX11_supportedIn 45 = .ok (.iload_n 2, 1) := by decide +kernel
theorem dX11_supportedIn_46 : decode cX11_supportedIn 46 = .ok (.ireturn, 1) := by decide +kernel
theorem dX11_box_0 : decode cX11_box 0 = .ok (.aload_n 0, 1) := by decide +kernel
theorem dX11_box_1 : decode cX11_box 1 = .ok (.invokevirtual 369, 3) := by decide +kernel
theorem dX11_box_4 : decode cX11_box 4 = .ok (.aload_n 0, 1) := by decide +kernel
theorem dX11_box_5 : decode cX11_box 5 = .ok (.iload_n 1, 1) := by decide +kernel
theorem dX11_box_6 : decode cX11_box 6 = .ok (.i2l, 1) := by decide +kernel
theorem dX11_box_7 : decode cX11_box 7 = .ok (.lconst 0, 1) := by decide +kernel
theorem dX11_box_8 : decode cX11_box 8 = .ok (.aload_n 0, 1) := by decide +kernel
theorem dX11_box_9 : decode cX11_box 9 = .ok (.getfield 158, 3) := by decide +kernel
theorem dX11_box_12 : decode cX11_box 12 = .ok (.iconst 2, 1) := by decide +kernel
theorem dX11_box_13 : decode cX11_box 13 = .ok (.isub, 1) := by decide +kernel
theorem dX11_box_14 : decode cX11_box 14 = .ok (.i2l, 1) := by decide +kernel
theorem dX11_box_15 : decode cX11_box 15 = .ok (.invokestatic 87, 3) := by decide +kernel
theorem dX11_box_18 : decode cX11_box 18 = .ok (.iload_n 2, 1) := by decide +kernel
theorem dX11_box_19 : decode cX11_box 19 = .ok (.i2l, 1) := by decide +kernel
theorem dX11_box_20 : decode cX11_box 20 = .ok (.lconst 0, 1) := by decide +kernel
theorem dX11_box_21 : decode cX11_box 21 = .ok (.ldc2_w 362, 3) := by decide +kernel
theorem dX11_box_24 : decode cX11_box 24 = .ok (.invokestatic 87, 3) := by decide +kernel
theorem dX11_box_27 : decode cX11_box 27 = .ok (.invokevirtual 7, 3) := by decide +kernel
theorem dX11_box_30 : decode cX11_box 30 = .ok (.ifCond .ne 5, 3) := by decide +kernel
theorem dX11_box_33 : decode cX11_box 33 = .ok (.iconst 0, 1) := by decide +kernel
theorem dX11_box_34 : decode cX11_box 34 = .ok (.ireturn, 1) := by decide +kernel
theorem dX11_box_35 : decode cX11_box 35 = .ok (.iload_n 2, 1) := by decide +kernel
theorem dX11_box_36 : decode cX11_box 36 = .ok (.tableswitch 60 0 3 #[32, 39, 48, 54], 32) := by decide +kernel
theorem dX11_box_68 : decode cX11_box 68 = .ok (.aload_n 0, 1) := by decide +kernel
theorem dX11_box_69 : decode cX11_box 69 = .ok (.getfield 48, 3) := by decide +kernel
theorem dX11_box_72 : decode cX11_box 72 = .ok (.iload_n 1, 1) := by decide +kernel
theorem dX11_box_73 : decode cX11_box 73 = .ok (.iaload, 1) := by decide +kernel
theorem dX11_box_74 : decode cX11_box 74 = .ok (.ireturn, 1) := by decide +kernel
theorem dX11_box_75 : decode cX11_box 75 = .ok (.aload_n 0, 1) := by decide +kernel
theorem dX11_box_76 : decode cX11_box 76 = .ok (.getfield 48, 3) := by decide +kernel
theorem dX11_box_79 : decode cX11_box 79 = .ok (.iload_n 1, 1) := by decide +kernel
theorem dX11_box_80 : decode cX11_box 80 = .ok (.iconst 1, 1) := by decide +kernel
theorem dX11_box_81 : decode cX11_box 81 = .ok (.iadd, 1) := by decide +kernel
theorem dX11_box_82 : decode cX11_box 82 = .ok (.iaload, 1) := by decide +kernel
theorem dX11_box_83 : decode cX11_box 83 = .ok (.ireturn, 1) := by decide +kernel
theorem dX11_box_84 : decode cX11_box 84 = .ok (.aload_n 0, 1) := by decide +kernel
theorem dX11_box_85 : decode cX11_box 85 = .ok (.iload_n 1, 1) := by decide +kernel
theorem dX11_box_86 : decode cX11_box 86 = .ok (.invokevirtual 389, 3) := by decide +kernel
theorem dX11_box_89 : decode cX11_box 89 = .ok (.ireturn, 1) := by decide +kernel
theorem dX11_box_90 : decode cX11_box 90 = .ok (.aload_n 0, 1) := by decide +kernel
theorem dX11_box_91 : decode cX11_box 91 = .ok (.iload_n 1, 1) := by decide +kernel
theorem dX11_box_92 : decode cX11_box 92 = .ok (.invokevirtual 392, 3) := by decide +kernel
theorem dX11_box_95 : decode cX11_box 95 = .ok (.ireturn, 1) := by decide +kernel
theorem dX11_box_96 : decode cX11_box 96 = .ok (.aload_n 0, 1) := by decide +kernel
theorem dX11_box_97 : decode cX11_box 97 = .ok (.iload_n 1, 1) := by decide +kernel
theorem dX11_box_98 : decode cX11_box 98 = .ok (.invokevirtual 389, 3) := by decide +kernel
theorem dX11_box_101 : decode cX11_box 101 = .ok (.ifCond .ne 7, 3) := by decide +kernel
theorem dX11_box_104 : decode cX11_box 104 = .ok (.iconst (-1), 1) := by decide +kernel
theorem dX11_box_105 : decode cX11_box 105 = .ok (.goto 18, 3) := by decide +kernel
theorem dX11_box_108 : decode cX11_box 108 = .ok (.aload_n 0, 1) := by decide +kernel
theorem dX11_box_109 : decode cX11_box 109 = .ok (.getfield 30, 3) := by decide +kernel
theorem dX11_box_112 : decode cX11_box 112 = .ok (.aload_n 0, 1) := by decide +kernel
theorem dX11_box_113 : decode cX11_box 113 = .ok (.getfield 48, 3) := by decide +kernel
theorem dX11_box_116 : decode cX11_box 116 = .ok (.iload_n 1, 1) := by decide +kernel
theorem dX11_box_117 : decode cX11_box 117 = .ok (.iconst 1, 1) := by decide +kernel
theorem dX11_box_118 : decode cX11_box 118 = .ok (.iadd, 1) := by decide +kernel
theorem dX11_box_119 : decode cX11_box 119 = .ok (.iaload, 1) := by decide +kernel
theorem dX11_box_120 : decode cX11_box 120 = .ok (.iconst 1, 1) := by decide +kernel
theorem dX11_box_121 : decode cX11_box 121 = .ok (.isub, 1) := by decide +kernel
theorem dX11_box_122 : decode cX11_box 122 = .ok (.iaload, 1) := by decide +kernel
theorem dX11_box_123 : decode cX11_box 123 = .ok (.ireturn, 1) := by decide +kernel
theorem dX11_fullest_0 : decode cX11_fullest 0 = .ok (.aload_n 0, 1) := by decide +kernel
theorem dX11_fullest_1 : decode cX11_fullest 1 = .ok (.iconst 0, 1) := by decide +kernel
theorem dX11_fullest_2 : decode cX11_fullest 2 = .ok (.putfield 3, 3) := by decide +kernel
theorem dX11_fullest_5 : decode cX11_fullest 5 = .ok (.aload_n 0, 1) := by decide +kernel
theorem dX11_fullest_6 : decode cX11_fullest 6 = .ok (.invokevirtual 369, 3) := by decide +kernel
theorem dX11_fullest_9 : decode cX11_fullest 9 = .ok (.iconst (-1), 1) := by decide +kernel
theorem dX11_fullest_10 : decode cX11_fullest 10 = .ok (.istore_n 1, 1) := by decide +kernel
theorem dX11_fullest_11 : decode cX11_fullest 11 = .ok (.iconst 0, 1) := by decide +kernel
theorem dX11_fullest_12 : decode cX11_fullest 12 = .ok (.istore_n 2, 1) := by decide +kernel
theorem dX11_fullest_13 : decode cX11_fullest 13 = .ok (.iload_n 2, 1) := by decide +kernel
theorem dX11_fullest_14 : decode cX11_fullest 14 = .ok (.iconst 1, 1) := by decide +kernel
theorem dX11_fullest_15 : decode cX11_fullest 15 = .ok (.iadd, 1) := by decide +kernel
theorem dX11_fullest_16 : decode cX11_fullest 16 = .ok (.aload_n 0, 1) := by decide +kernel
theorem dX11_fullest_17 : decode cX11_fullest 17 = .ok (.getfield 158, 3) := by decide +kernel
theorem dX11_fullest_20 : decode cX11_fullest 20 = .ok (.if_icmp .ge 29, 3) := by decide +kernel
theorem dX11_fullest_23 : decode cX11_fullest 23 = .ok (.iload_n 1, 1) := by decide +kernel
theorem dX11_fullest_24 : decode cX11_fullest 24 = .ok (.iconst (-1), 1) := by decide +kernel
theorem dX11_fullest_25 : decode cX11_fullest 25 = .ok (.if_icmp .eq 16, 3) := by decide +kernel
theorem dX11_fullest_28 : decode cX11_fullest 28 = .ok (.aload_n 0, 1) := by decide +kernel
theorem dX11_fullest_29 : decode cX11_fullest 29 = .ok (.iload_n 2, 1) := by decide +kernel
theorem dX11_fullest_30 : decode cX11_fullest 30 = .ok (.invokevirtual 389, 3) := by decide +kernel
theorem dX11_fullest_33 : decode cX11_fullest 33 = .ok (.aload_n 0, 1) := by decide +kernel
theorem dX11_fullest_34 : decode cX11_fullest 34 = .ok (.iload_n 1, 1) := by decide +kernel
theorem dX11_fullest_35 : decode cX11_fullest 35 = .ok (.invokevirtual 389, 3) := by decide +kernel
theorem dX11_fullest_38 : decode cX11_fullest 38 = .ok (.if_icmp .le 5, 3) := by decide +kernel
theorem dX11_fullest_41 : decode cX11_fullest 41 = .ok (.iload_n 2, 1) := by decide +kernel
theorem dX11_fullest_42 : decode cX11_fullest 42 = .ok (.istore_n 1, 1) := by decide +kernel
theorem dX11_fullest_43 : decode cX11_fullest 43 = .ok (.iinc 2 1, 3) := by decide +kernel
theorem dX11_fullest_46 : decode cX11_fullest 46 = .ok (.goto (-33), 3) := by decide +kernel
theorem dX11_fullest_49 : decode cX11_fullest 49 = .ok (.iload_n 1, 1) := by decide +kernel
theorem dX11_fullest_50 : decode cX11_fullest 50 = .ok (.ireturn, 1) := by decide +kernel
theorem dX11_steps_0 : decode cX11_steps 0 = .ok (.aload_n 0, 1) := by decide +kernel
theorem dX11_steps_1 : decode cX11_steps 1 = .ok (.iconst 0, 1) := by decide +kernel
theorem dX11_steps_2 : decode cX11_steps 2 = .ok (.putfield 3, 3) := by decide +kernel
theorem dX11_steps_5 : decode cX11_steps 5 = .ok (.aload_n 0, 1) := by decide +kernel
theorem dX11_steps_6 : decode cX11_steps 6 = .ok (.invokevirtual 395, 3) := by decide +kernel
theorem dX11_steps_9 : decode cX11_steps 9 = .ok (.aload_n 0, 1) := by decide +kernel
theorem dX11_steps_10 : decode cX11_steps 10 = .ok (.getfield 183, 3) := by decide +kernel
theorem dX11_steps_13 : decode cX11_steps 13 = .ok (.ireturn, 1) := by decide +kernel
theorem dX11_step_0 : decode cX11_step 0 = .ok (.aload_n 0, 1) := by decide +kernel
theorem dX11_step_1 : decode cX11_step 1 = .ok (.invokevirtual 395, 3) := by decide +kernel
theorem dX11_step_4 : decode cX11_step 4 = .ok (.aload_n 0, 1) := by decide +kernel
theorem dX11_step_5 : decode cX11_step 5 = .ok (.iload_n 2, 1) := by decide +kernel
theorem dX11_step_6 : decode cX11_step 6 = .ok (.i2l, 1) := by decide +kernel
theorem dX11_step_7 : decode cX11_step 7 = .ok (.lconst 0, 1) := by decide +kernel
theorem dX11_step_8 : decode cX11_step 8 = .ok (.ldc2_w 362, 3) := by decide +kernel
theorem dX11_step_11 : decode cX11_step 11 = .ok (.invokestatic 87, 3) := by decide +kernel
theorem dX11_step_14 : decode cX11_step 14 = .ok (.iload_n 1, 1) := by decide +kernel
theorem dX11_step_15 : decode cX11_step 15 = .ok (.i2l, 1) := by decide +kernel
theorem dX11_step_16 : decode cX11_step 16 = .ok (.lconst 0, 1) := by decide +kernel
theorem dX11_step_17 : decode cX11_step 17 = .ok (.aload_n 0, 1) := by decide +kernel
theorem dX11_step_18 : decode cX11_step 18 = .ok (.getfield 183, 3) := by decide +kernel
theorem dX11_step_21 : decode cX11_step 21 = .ok (.iconst 1, 1) := by decide +kernel
theorem dX11_step_22 : decode cX11_step 22 = .ok (.isub, 1) := by decide +kernel
theorem dX11_step_23 : decode cX11_step 23 = .ok (.i2l, 1) := by decide +kernel
theorem dX11_step_24 : decode cX11_step 24 = .ok (.invokestatic 87, 3) := by decide +kernel
theorem dX11_step_27 : decode cX11_step 27 = .ok (.invokevirtual 7, 3) := by decide +kernel
theorem dX11_step_30 : decode cX11_step 30 = .ok (.ifCond .ne 5, 3) := by decide +kernel
theorem dX11_step_33 : decode cX11_step 33 = .ok (.iconst 0, 1) := by decide +kernel
theorem dX11_step_34 : decode cX11_step 34 = .ok (.ireturn, 1) := by decide +kernel
theorem dX11_step_35 : decode cX11_step 35 = .ok (.iload_n 2, 1) := by decide +kernel
theorem dX11_step_36 : decode cX11_step 36 = .ok (.tableswitch 66 0 3 #[32, 43, 54, 60], 32) := by decide +kernel
theorem dX11_step_68 : decode cX11_step 68 = .ok (.aload_n 0, 1) := by decide +kernel
theorem dX11_step_69 : decode cX11_step 69 = .ok (.getfield 51, 3) := by decide +kernel
theorem dX11_step_72 : decode cX11_step 72 = .ok (.iconst 3, 1) := by decide +kernel
theorem dX11_step_73 : decode cX11_step 73 = .ok (.iload_n 1, 1) := by decide +kernel
theorem dX11_step_74 : decode cX11_step 74 = .ok (.imul, 1) := by decide +kernel
theorem dX11_step_75 : decode cX11_step 75 = .ok (.iconst 0, 1) := by decide +kernel
theorem dX11_step_76 : decode cX11_step 76 = .ok (.iadd, 1) := by decide +kernel
theorem dX11_step_77 : decode cX11_step 77 = .ok (.iaload, 1) := by decide +kernel
theorem dX11_step_78 : decode cX11_step 78 = .ok (.ireturn, 1) := by decide +kernel
theorem dX11_step_79 : decode cX11_step 79 = .ok (.aload_n 0, 1) := by decide +kernel
theorem dX11_step_80 : decode cX11_step 80 = .ok (.getfield 51, 3) := by decide +kernel
theorem dX11_step_83 : decode cX11_step 83 = .ok (.iconst 3, 1) := by decide +kernel
theorem dX11_step_84 : decode cX11_step 84 = .ok (.iload_n 1, 1) := by decide +kernel
theorem dX11_step_85 : decode cX11_step 85 = .ok (.imul, 1) := by decide +kernel
theorem dX11_step_86 : decode cX11_step 86 = .ok (.iconst 1, 1) := by decide +kernel
theorem dX11_step_87 : decode cX11_step 87 = .ok (.iadd, 1) := by decide +kernel
theorem dX11_step_88 : decode cX11_step 88 = .ok (.iaload, 1) := by decide +kernel
theorem dX11_step_89 : decode cX11_step 89 = .ok (.ireturn, 1) := by decide +kernel
theorem dX11_step_90 : decode cX11_step 90 = .ok (.aload_n 0, 1) := by decide +kernel
theorem dX11_step_91 : decode cX11_step 91 = .ok (.iload_n 1, 1) := by decide +kernel
theorem dX11_step_92 : decode cX11_step 92 = .ok (.invokevirtual 189, 3) := by decide +kernel
theorem dX11_step_95 : decode cX11_step 95 = .ok (.ireturn, 1) := by decide +kernel
theorem dX11_step_96 : decode cX11_step 96 = .ok (.aload_n 0, 1) := by decide +kernel
theorem dX11_step_97 : decode cX11_step 97 = .ok (.iload_n 1, 1) := by decide +kernel
theorem dX11_step_98 : decode cX11_step 98 = .ok (.invokevirtual 192, 3) := by decide +kernel
theorem dX11_step_101 : decode cX11_step 101 = .ok (.ireturn, 1) := by decide +kernel
theorem dX11_step_102 : decode cX11_step 102 = .ok (.aload_n 0, 1) := by decide +kernel
theorem dX11_step_103 : decode cX11_step 103 = .ok (.getfield 51, 3) := by decide +kernel
theorem dX11_step_106 : decode cX11_step 106 = .ok (.iconst 3, 1) := by decide +kernel
theorem dX11_step_107 : decode cX11_step 107 = .ok (.iload_n 1, 1) := by decide +kernel
theorem dX11_step_108 : decode cX11_step 108 = .ok (.imul, 1) := by decide +kernel
theorem dX11_step_109 : decode cX11_step 109 = .ok (.iconst 2, 1) := by decide +kernel
theorem dX11_step_110 : decode cX11_step 110 = .ok (.iadd, 1) := by decide +kernel
theorem dX11_step_111 : decode cX11_step 111 = .ok (.iaload, 1) := by decide +kernel
theorem dX11_step_112 : decode cX11_step 112 = .ok (.ireturn, 1) := by decide +kernel
theorem dX11_knee_0 : decode cX11_knee 0 = .ok (.aload_n 0, 1) := by decide +kernel
theorem dX11_knee_1 : decode cX11_knee 1 = .ok (.iconst 0, 1) := by decide +kernel
theorem dX11_knee_2 : decode cX11_knee 2 = .ok (.putfield 3, 3) := by decide +kernel
theorem dX11_knee_5 : decode cX11_knee 5 = .ok (.aload_n 0, 1) := by decide +kernel
theorem dX11_knee_6 : decode cX11_knee 6 = .ok (.invokevirtual 395, 3) := by decide +kernel
theorem dX11_knee_9 : decode cX11_knee 9 = .ok (.aload_n 0, 1) := by decide +kernel
theorem dX11_knee_10 : decode cX11_knee 10 = .ok (.getfield 183, 3) := by decide +kernel
theorem dX11_knee_13 : decode cX11_knee 13 = .ok (.ifCond .ne 7, 3) := by decide +kernel
theorem dX11_knee_16 : decode cX11_knee 16 = .ok (.iconst (-1), 1) := by decide +kernel
theorem dX11_knee_17 : decode cX11_knee 17 = .ok (.goto 9, 3) := by decide +kernel
theorem dX11_knee_20 : decode cX11_knee 20 = .ok (.aload_n 0, 1) := by decide +kernel
theorem dX11_knee_21 : decode cX11_knee 21 = .ok (.getfield 51, 3) := by decide +kernel
theorem dX11_knee_24 : decode cX11_knee 24 = .ok (.iconst 2, 1) := by decide +kernel
theorem dX11_knee_25 : decode cX11_knee 25 = .ok (.iaload, 1) := by decide +kernel
theorem dX11_knee_26 : decode cX11_knee 26 = .ok (.ireturn, 1) := by decide +kernel
theorem dX11_area_0 : decode cX11_area 0 = .ok (.aload_n 0, 1) := by decide +kernel
theorem dX11_area_1 : decode cX11_area 1 = .ok (.iconst 0, 1) := by decide +kernel
theorem dX11_area_2 : decode cX11_area 2 = .ok (.putfield 3, 3) := by decide +kernel
theorem dX11_area_5 : decode cX11_area 5 = .ok (.aload_n 0, 1) := by decide +kernel
theorem dX11_area_6 : decode cX11_area 6 = .ok (.invokevirtual 144, 3) := by decide +kernel
theorem dX11_area_9 : decode cX11_area 9 = .ok (.aload_n 0, 1) := by decide +kernel
theorem dX11_area_10 : decode cX11_area 10 = .ok (.invokevirtual 398, 3) := by decide +kernel
theorem dX11_area_13 : decode cX11_area 13 = .ok (.ireturn, 1) := by decide +kernel
theorem dX11_gapBehind_0 : decode cX11_gapBehind 0 = .ok (.aload_n 0, 1) := by decide +kernel
theorem dX11_gapBehind_1 : decode cX11_gapBehind 1 = .ok (.getfield 30, 3) := by decide +kernel
theorem dX11_gapBehind_4 : decode cX11_gapBehind 4 = .ok (.iload_n 1, 1) := by decide +kernel
theorem dX11_gapBehind_5 : decode cX11_gapBehind 5 = .ok (.iconst 1, 1) := by decide +kernel
theorem dX11_gapBehind_6 : decode cX11_gapBehind 6 = .ok (.iadd, 1) := by decide +kernel
theorem dX11_gapBehind_7 : decode cX11_gapBehind 7 = .ok (.iaload, 1) := by decide +kernel
theorem dX11_gapBehind_8 : decode cX11_gapBehind 8 = .ok (.aload_n 0, 1) := by decide +kernel
theorem dX11_gapBehind_9 : decode cX11_gapBehind 9 = .ok (.getfield 30, 3) := by decide +kernel
theorem dX11_gapBehind_12 : decode cX11_gapBehind 12 = .ok (.iload_n 1, 1) := by decide +kernel
theorem dX11_gapBehind_13 : decode cX11_gapBehind 13 = .ok (.iaload, 1) := by decide +kernel
theorem dX11_gapBehind_14 : decode cX11_gapBehind 14 = .ok (.isub, 1) := by decide +kernel
theorem dX11_gapBehind_15 : decode cX11_gapBehind 15 = .ok (.aload_n 0, 1) := by decide +kernel
theorem dX11_gapBehind_16 : decode cX11_gapBehind 16 = .ok (.getfield 33, 3) := by decide +kernel
theorem dX11_gapBehind_19 : decode cX11_gapBehind 19 = .ok (.iload_n 1, 1) := by decide +kernel
theorem dX11_gapBehind_20 : decode cX11_gapBehind 20 = .ok (.iaload, 1) := by decide +kernel
theorem dX11_gapBehind_21 : decode cX11_gapBehind 21 = .ok (.aload_n 0, 1) := by decide +kernel
theorem dX11_gapBehind_22 : decode cX11_gapBehind 22 = .ok (.getfield 33, 3) := by decide +kernel
theorem dX11_gapBehind_25 : decode cX11_gapBehind 25 = .ok (.iload_n 1, 1) := by decide +kernel
theorem dX11_gapBehind_26 : decode cX11_gapBehind 26 = .ok (.iconst 1, 1) := by decide +kernel
theorem dX11_gapBehind_27 : decode cX11_gapBehind 27 = .ok (.iadd, 1) := by decide +kernel
theorem dX11_gapBehind_28 : decode cX11_gapBehind 28 = .ok (.iaload, 1) := by decide +kernel
theorem dX11_gapBehind_29 : decode cX11_gapBehind 29 = .ok (.isub, 1) := by decide +kernel
theorem dX11_gapBehind_30 : decode cX11_gapBehind 30 = .ok (.imul, 1) := by decide +kernel
theorem dX11_gapBehind_31 : decode cX11_gapBehind 31 = .ok (.ireturn, 1) := by decide +kernel
theorem dX11_gap_0 : decode cX11_gap 0 = .ok (.aload_n 0, 1) := by decide +kernel
theorem dX11_gap_1 : decode cX11_gap 1 = .ok (.iconst 0, 1) := by decide +kernel
theorem dX11_gap_2 : decode cX11_gap 2 = .ok (.putfield 3, 3) := by decide +kernel
theorem dX11_gap_5 : decode cX11_gap 5 = .ok (.aload_n 0, 1) := by decide +kernel
theorem dX11_gap_6 : decode cX11_gap 6 = .ok (.invokevirtual 144, 3) := by decide +kernel
theorem dX11_gap_9 : decode cX11_gap 9 = .ok (.iconst (-1), 1) := by decide +kernel
theorem dX11_gap_10 : decode cX11_gap 10 = .ok (.istore_n 1, 1) := by decide +kernel
theorem dX11_gap_11 : decode cX11_gap 11 = .ok (.iconst 0, 1) := by decide +kernel
theorem dX11_gap_12 : decode cX11_gap 12 = .ok (.istore_n 2, 1) := by decide +kernel
theorem dX11_gap_13 : decode cX11_gap 13 = .ok (.iload_n 2, 1) := by decide +kernel
theorem dX11_gap_14 : decode cX11_gap 14 = .ok (.iconst 1, 1) := by decide +kernel
theorem dX11_gap_15 : decode cX11_gap 15 = .ok (.iadd, 1) := by decide +kernel
theorem dX11_gap_16 : decode cX11_gap 16 = .ok (.aload_n 0, 1) := by decide +kernel
theorem dX11_gap_17 : decode cX11_gap 17 = .ok (.getfield 130, 3) := by decide +kernel
theorem dX11_gap_20 : decode cX11_gap 20 = .ok (.if_icmp .ge 29, 3) := by decide +kernel
theorem dX11_gap_23 : decode cX11_gap 23 = .ok (.iload_n 1, 1) := by decide +kernel
theorem dX11_gap_24 : decode cX11_gap 24 = .ok (.iconst (-1), 1) := by decide +kernel
theorem dX11_gap_25 : decode cX11_gap 25 = .ok (.if_icmp .eq 16, 3) := by decide +kernel
theorem dX11_gap_28 : decode cX11_gap 28 = .ok (.aload_n 0, 1) := by decide +kernel
theorem dX11_gap_29 : decode cX11_gap 29 = .ok (.iload_n 2, 1) := by decide +kernel
theorem dX11_gap_30 : decode cX11_gap 30 = .ok (.invokevirtual 401, 3) := by decide +kernel
theorem dX11_gap_33 : decode cX11_gap 33 = .ok (.aload_n 0, 1) := by decide +kernel
theorem dX11_gap_34 : decode cX11_gap 34 = .ok (.iload_n 1, 1) := by decide +kernel
theorem dX11_gap_35 : decode cX11_gap 35 = .ok (.invokevirtual 401, 3) := by decide +kernel
theorem dX11_gap_38 : decode cX11_gap 38 = .ok (.if_icmp .le 5, 3) := by decide +kernel
theorem dX11_gap_41 : decode cX11_gap 41 = .ok (.iload_n 2, 1) := by decide +kernel
theorem dX11_gap_42 : decode cX11_gap 42 = .ok (.istore_n 1, 1) := by decide +kernel
theorem dX11_gap_43 : decode cX11_gap 43 = .ok (.iinc 2 1, 3) := by decide +kernel
theorem dX11_gap_46 : decode cX11_gap 46 = .ok (.goto (-33), 3) := by decide +kernel
theorem dX11_gap_49 : decode cX11_gap 49 = .ok (.iload_n 1, 1) := by decide +kernel
theorem dX11_gap_50 : decode cX11_gap 50 = .ok (.ireturn, 1) := by decide +kernel
theorem dX11_core_0 : decode cX11_core 0 = .ok (.aload_n 0, 1) := by decide +kernel
theorem dX11_core_1 : decode cX11_core 1 = .ok (.iconst 0, 1) := by decide +kernel
theorem dX11_core_2 : decode cX11_core 2 = .ok (.putfield 3, 3) := by decide +kernel
theorem dX11_core_5 : decode cX11_core 5 = .ok (.aload_n 0, 1) := by decide +kernel
theorem dX11_core_6 : decode cX11_core 6 = .ok (.invokevirtual 174, 3) := by decide +kernel
theorem dX11_core_9 : decode cX11_core 9 = .ok (.aload_n 0, 1) := by decide +kernel
theorem dX11_core_10 : decode cX11_core 10 = .ok (.getfield 130, 3) := by decide +kernel
theorem dX11_core_13 : decode cX11_core 13 = .ok (.ifCond .ne 7, 3) := by decide +kernel
theorem dX11_core_16 : decode cX11_core 16 = .ok (.iconst 0, 1) := by decide +kernel
theorem dX11_core_17 : decode cX11_core 17 = .ok (.goto 9, 3) := by decide +kernel
theorem dX11_core_20 : decode cX11_core 20 = .ok (.aload_n 0, 1) := by decide +kernel
theorem dX11_core_21 : decode cX11_core 21 = .ok (.invokevirtual 91, 3) := by decide +kernel
theorem dX11_core_24 : decode cX11_core 24 = .ok (.iconst 1, 1) := by decide +kernel
theorem dX11_core_25 : decode cX11_core 25 = .ok (.isub, 1) := by decide +kernel
theorem dX11_core_26 : decode cX11_core 26 = .ok (.istore_n 1, 1) := by decide +kernel
theorem dX11_core_27 : decode cX11_core 27 = .ok (.iconst 0, 1) := by decide +kernel
theorem dX11_core_28 : decode cX11_core 28 = .ok (.istore_n 2, 1) := by decide +kernel
theorem dX11_core_29 : decode cX11_core 29 = .ok (.iload_n 2, 1) := by decide +kernel
theorem dX11_core_30 : decode cX11_core 30 = .ok (.aload_n 0, 1) := by decide +kernel
theorem dX11_core_31 : decode cX11_core 31 = .ok (.getfield 130, 3) := by decide +kernel
theorem dX11_core_34 : decode cX11_core 34 = .ok (.if_icmp .ge 18, 3) := by decide +kernel
theorem dX11_core_37 : decode cX11_core 37 = .ok (.iload_n 1, 1) := by decide +kernel
theorem dX11_core_38 : decode cX11_core 38 = .ok (.aload_n 0, 1) := by decide +kernel
theorem dX11_core_39 : decode cX11_core 39 = .ok (.getfield 36, 3) := by decide +kernel
theorem dX11_core_42 : decode cX11_core 42 = .ok (.iload_n 2, 1) := by decide +kernel
theorem dX11_core_43 : decode cX11_core 43 = .ok (.iaload, 1) := by decide +kernel
theorem dX11_core_44 : decode cX11_core 44 = .ok (.iand, 1) := by decide +kernel
theorem dX11_core_45 : decode cX11_core 45 = .ok (.istore_n 1, 1) := by decide +kernel
theorem dX11_core_46 : decode cX11_core 46 = .ok (.iinc 2 1, 3) := by decide +kernel
theorem dX11_core_49 : decode cX11_core 49 = .ok (.goto (-20), 3) := by decide +kernel
theorem dX11_core_52 : decode cX11_core 52 = .ok (.iload_n 1, 1) := by decide +kernel
theorem dX11_core_53 : decode cX11_core 53 = .ok (.ireturn, 1) := by decide +kernel
theorem dX11_unused_0 : decode cX11_unused 0 = .ok (.aload_n 0, 1) := by decide +kernel
theorem dX11_unused_1 : decode cX11_unused 1 = .ok (.iconst 0, 1) := by decide +kernel
theorem dX11_unused_2 : decode cX11_unused 2 = .ok (.putfield 3, 3) := by decide +kernel
theorem dX11_unused_5 : decode cX11_unused 5 = .ok (.aload_n 0, 1) := by decide +kernel
theorem dX11_unused_6 : decode cX11_unused 6 = .ok (.invokevirtual 174, 3) := by decide +kernel
theorem dX11_unused_9 : decode cX11_unused 9 = .ok (.aload_n 0, 1) := by decide +kernel
theorem dX11_unused_10 : decode cX11_unused 10 = .ok (.invokevirtual 91, 3) := by decide +kernel
theorem dX11_unused_13 : decode cX11_unused 13 = .ok (.iconst 1, 1) := by decide +kernel
theorem dX11_unused_14 : decode cX11_unused 14 = .ok (.isub, 1) := by decide +kernel
theorem dX11_unused_15 : decode cX11_unused 15 = .ok (.istore_n 1, 1) := by decide +kernel
theorem dX11_unused_16 : decode cX11_unused 16 = .ok (.iconst 0, 1) := by decide +kernel
theorem dX11_unused_17 : decode cX11_unused 17 = .ok (.istore_n 2, 1) := by decide +kernel
theorem dX11_unused_18 : decode cX11_unused 18 = .ok (.iload_n 2, 1) := by decide +kernel
