theorem dX11_layPoints_66 : decode cX11_layPoints 66 = .ok (.getfield 27, 3) := by decide +kernel
theorem dX11_layPoints_69 : decode cX11_layPoints 69 = .ok (.iload_n 2, 1) := by decide +kernel
theorem dX11_layPoints_70 : decode cX11_layPoints 70 = .ok (.iaload, 1) := by decide +kernel
theorem dX11_layPoints_71 : decode cX11_layPoints 71 = .ok (.iastore, 1) := by decide +kernel
theorem dX11_layPoints_72 : decode cX11_layPoints 72 = .ok (.aload_n 0, 1) := by decide +kernel
theorem dX11_layPoints_73 : decode cX11_layPoints 73 = .ok (.getfield 39, 3) := by decide +kernel
theorem dX11_layPoints_76 : decode cX11_layPoints 76 = .ok (.iload_n 1, 1) := by decide +kernel
theorem dX11_layPoints_77 : decode cX11_layPoints 77 = .ok (.iconst 0, 1) := by decide +kernel
theorem dX11_layPoints_78 : decode cX11_layPoints 78 = .ok (.iastore, 1) := by decide +kernel
theorem dX11_layPoints_79 : decode cX11_layPoints 79 = .ok (.iinc 1 1, 3) := by decide +kernel
theorem dX11_layPoints_82 : decode cX11_layPoints 82 = .ok (.iinc 2 1, 3) := by decide +kernel
theorem dX11_layPoints_85 : decode cX11_layPoints 85 = .ok (.goto (-73), 3) := by decide +kernel
theorem dX11_layPoints_88 : decode cX11_layPoints 88 = .ok (.return_, 1) := by decide +kernel
set_option maxRecDepth 20000 in
theorem ggX11_pointWith_X11_in : GoodIn wsX11_pointWith wsX11_in := goodIn_r _ [7] (by decide +kernel) (by decide +kernel)
set_option maxRecDepth 20000 in
theorem gX11_pointWith_X11_in : GoodIn wsX11_pointWith (va_wsS RX11 87 yX11_in wsX11_in) := goodIn_app (goodIn_of _ (by decide +kernel)) ggX11_pointWith_X11_in
theorem dX11_pointWith_0 : decode cX11_pointWith 0 = .ok (.iload_n 1, 1) := by decide +kernel
theorem dX11_pointWith_1 : decode cX11_pointWith 1 = .ok (.i2l, 1) := by decide +kernel
theorem dX11_pointWith_2 : decode cX11_pointWith 2 = .ok (.lconst 0, 1) := by decide +kernel
theorem dX11_pointWith_3 : decode cX11_pointWith 3 = .ok (.ldc2_w 139, 3) := by decide +kernel
theorem dX11_pointWith_6 : decode cX11_pointWith 6 = .ok (.invokestatic 87, 3) := by decide +kernel
theorem dX11_pointWith_9 : decode cX11_pointWith 9 = .ok (.ifCond .eq 13, 3) := by decide +kernel
theorem dX11_pointWith_12 : decode cX11_pointWith 12 = .ok (.aload_n 0, 1) := by decide +kernel
theorem dX11_pointWith_13 : decode cX11_pointWith 13 = .ok (.getfield 45, 3) := by decide +kernel
theorem dX11_pointWith_16 : decode cX11_pointWith 16 = .ok (.iload_n 1, 1) := by decide +kernel
theorem dX11_pointWith_17 : decode cX11_pointWith 17 = .ok (.iaload, 1) := by decide +kernel
theorem dX11_pointWith_18 : decode cX11_pointWith 18 = .ok (.iconst (-1), 1) := by decide +kernel
theorem dX11_pointWith_19 : decode cX11_pointWith 19 = .ok (.if_icmp .ne 5, 3) := by decide +kernel
theorem dX11_pointWith_22 : decode cX11_pointWith 22 = .ok (.iconst (-1), 1) := by decide +kernel
theorem dX11_pointWith_23 : decode cX11_pointWith 23 = .ok (.ireturn, 1) := by decide +kernel
theorem dX11_pointWith_24 : decode cX11_pointWith 24 = .ok (.aload_n 0, 1) := by decide +kernel
theorem dX11_pointWith_25 : decode cX11_pointWith 25 = .ok (.getfield 33, 3) := by decide +kernel
theorem dX11_pointWith_28 : decode cX11_pointWith 28 = .ok (.aload_n 0, 1) := by decide +kernel
theorem dX11_pointWith_29 : decode cX11_pointWith 29 = .ok (.getfield 45, 3) := by decide +kernel
theorem dX11_pointWith_32 : decode cX11_pointWith 32 = .ok (.iload_n 1, 1) := by decide +kernel
theorem dX11_pointWith_33 : decode cX11_pointWith 33 = .ok (.iaload, 1) := by decide +kernel
theorem dX11_pointWith_34 : decode cX11_pointWith 34 = .ok (.iaload, 1) := by decide +kernel
theorem dX11_pointWith_35 : decode cX11_pointWith 35 = .ok (.iload_n 2, 1) := by decide +kernel
theorem dX11_pointWith_36 : decode cX11_pointWith 36 = .ok (.if_icmp .ne 12, 3) := by decide +kernel
theorem dX11_pointWith_39 : decode cX11_pointWith 39 = .ok (.aload_n 0, 1) := by decide +kernel
theorem dX11_pointWith_40 : decode cX11_pointWith 40 = .ok (.getfield 45, 3) := by decide +kernel
theorem dX11_pointWith_43 : decode cX11_pointWith 43 = .ok (.iload_n 1, 1) := by decide +kernel
theorem dX11_pointWith_44 : decode cX11_pointWith 44 = .ok (.iaload, 1) := by decide +kernel
theorem dX11_pointWith_45 : decode cX11_pointWith 45 = .ok (.goto 4, 3) := by decide +kernel
theorem dX11_pointWith_48 : decode cX11_pointWith 48 = .ok (.iconst (-1), 1) := by decide +kernel
theorem dX11_pointWith_49 : decode cX11_pointWith 49 = .ok (.ireturn, 1) := by decide +kernel
set_option maxRecDepth 20000 in
theorem ggX11_pointBy_X11_sumOf : GoodIn wsX11_pointBy wsX11_sumOf := goodIn_r _ [5, 6, 7, 8, 4, 9, 10, 11, 12, 13, 14, 15, 16, 17, 28, 29, 30, 31, 32, 33, 34, 35, 36, 37, 38, 39, 40, 41, 42, 43, 44, 45, 46, 47, 48, 49, 50, 51, 52, 53, 54, 55, 56, 57, 58, 59, 60, 61, 62, 63, 64, 65, 66, 67] (by decide +kernel) (by decide +kernel)
set_option maxRecDepth 20000 in
theorem gX11_pointBy_X11_sumOf : GoodIn wsX11_pointBy (wsV RX11 102 RX11 yX11_sumOf wsX11_sumOf) := goodIn_app (goodIn_of _ (by decide +kernel)) ggX11_pointBy_X11_sumOf
set_option maxRecDepth 20000 in
theorem ggX11_pointBy_X11_pointWith : GoodIn wsX11_pointBy wsX11_pointWith := goodIn_r _ [21, 22, 23, 24, 25, 26, 4, 27, 28, 29, 30, 31, 32, 33, 34, 35, 36, 37, 38, 39, 40, 41, 42, 43, 44, 45, 46, 47, 48, 49, 50, 51, 52, 53, 54, 55, 56, 57, 58, 59, 60, 61, 62, 63, 64, 65, 66, 67] (by decide +kernel) (by decide +kernel)
set_option maxRecDepth 20000 in
theorem gX11_pointBy_X11_pointWith : GoodIn wsX11_pointBy (wsV RX11 141 RX11 yX11_pointWith wsX11_pointWith) := goodIn_app (goodIn_of _ (by decide +kernel)) ggX11_pointBy_X11_pointWith
theorem dX11_pointBy_0 : decode cX11_pointBy 0 = .ok (.aload_n 0, 1) := by decide +kernel
theorem dX11_pointBy_1 : decode cX11_pointBy 1 = .ok (.aload_n 0, 1) := by decide +kernel
theorem dX11_pointBy_2 : decode cX11_pointBy 2 = .ok (.iload_n 1, 1) := by decide +kernel
theorem dX11_pointBy_3 : decode cX11_pointBy 3 = .ok (.iconst 1, 1) := by decide +kernel
theorem dX11_pointBy_4 : decode cX11_pointBy 4 = .ok (.invokevirtual 102, 3) := by decide +kernel
theorem dX11_pointBy_7 : decode cX11_pointBy 7 = .ok (.aload_n 0, 1) := by decide +kernel
theorem dX11_pointBy_8 : decode cX11_pointBy 8 = .ok (.iload_n 1, 1) := by decide +kernel
theorem dX11_pointBy_9 : decode cX11_pointBy 9 = .ok (.iconst 2, 1) := by decide +kernel
theorem dX11_pointBy_10 : decode cX11_pointBy 10 = .ok (.invokevirtual 102, 3) := by decide +kernel
theorem dX11_pointBy_13 : decode cX11_pointBy 13 = .ok (.invokevirtual 141, 3) := by decide +kernel
theorem dX11_pointBy_16 : decode cX11_pointBy 16 = .ok (.ireturn, 1) := by decide +kernel
set_option maxRecDepth 20000 in
theorem ggX11_noteChoice_X11_sumOf : GoodIn wsX11_noteChoice wsX11_sumOf := goodIn_r _ [8, 9, 10, 11, 7, 12, 13, 14, 15, 16, 17, 18, 19, 20, 21, 22, 23, 24, 25, 26, 27, 28, 29, 30, 31, 32, 33, 34, 35, 36, 37, 38, 39, 40, 41, 42, 43, 44, 45, 46, 47, 48, 49, 50, 51, 52, 53, 54, 55, 56, 57, 58, 59, 60] (by decide +kernel) (by decide +kernel)
set_option maxRecDepth 20000 in
theorem gX11_noteChoice_X11_sumOf : GoodIn wsX11_noteChoice (wsV RX11 102 RX11 yX11_sumOf wsX11_sumOf) := goodIn_app (goodIn_of _ (by decide +kernel)) ggX11_noteChoice_X11_sumOf
theorem dX11_noteChoice_0 : decode cX11_noteChoice 0 = .ok (.aload_n 0, 1) := by decide +kernel
theorem dX11_noteChoice_1 : decode cX11_noteChoice 1 = .ok (.getfield 39, 3) := by decide +kernel
theorem dX11_noteChoice_4 : decode cX11_noteChoice 4 = .ok (.iload_n 1, 1) := by decide +kernel
theorem dX11_noteChoice_5 : decode cX11_noteChoice 5 = .ok (.iaload, 1) := by decide +kernel
theorem dX11_noteChoice_6 : decode cX11_noteChoice 6 = .ok (.ifCond .ne 7, 3) := by decide +kernel
theorem dX11_noteChoice_9 : decode cX11_noteChoice 9 = .ok (.iconst 1, 1) := by decide +kernel
theorem dX11_noteChoice_10 : decode cX11_noteChoice 10 = .ok (.goto 4, 3) := by decide +kernel
theorem dX11_noteChoice_13 : decode cX11_noteChoice 13 = .ok (.iconst 0, 1) := by decide +kernel
theorem dX11_noteChoice_14 : decode cX11_noteChoice 14 = .ok (.istore_n 3, 1) := by decide +kernel
theorem dX11_noteChoice_15 : decode cX11_noteChoice 15 = .ok (.iload_n 3, 1) := by decide +kernel
theorem dX11_noteChoice_16 : decode cX11_noteChoice 16 = .ok (.ifCond .eq 10, 3) := by decide +kernel
theorem dX11_noteChoice_19 : decode cX11_noteChoice 19 = .ok (.aload_n 0, 1) := by decide +kernel
theorem dX11_noteChoice_20 : decode cX11_noteChoice 20 = .ok (.getfield 36, 3) := by decide +kernel
theorem dX11_noteChoice_23 : decode cX11_noteChoice 23 = .ok (.iload_n 1, 1) := by decide +kernel
theorem dX11_noteChoice_24 : decode cX11_noteChoice 24 = .ok (.iload_n 2, 1) := by decide +kernel
theorem dX11_noteChoice_25 : decode cX11_noteChoice 25 = .ok (.iastore, 1) := by decide +kernel
theorem dX11_noteChoice_26 : decode cX11_noteChoice 26 = .ok (.iload_n 3, 1) := by decide +kernel
theorem dX11_noteChoice_27 : decode cX11_noteChoice 27 = .ok (.ifCond .ne 23, 3) := by decide +kernel
theorem dX11_noteChoice_30 : decode cX11_noteChoice 30 = .ok (.aload_n 0, 1) := by decide +kernel
theorem dX11_noteChoice_31 : decode cX11_noteChoice 31 = .ok (.iload_n 2, 1) := by decide +kernel
theorem dX11_noteChoice_32 : decode cX11_noteChoice 32 = .ok (.iconst 0, 1) := by decide +kernel
theorem dX11_noteChoice_33 : decode cX11_noteChoice 33 = .ok (.invokevirtual 102, 3) := by decide +kernel
theorem dX11_noteChoice_36 : decode cX11_noteChoice 36 = .ok (.aload_n 0, 1) := by decide +kernel
theorem dX11_noteChoice_37 : decode cX11_noteChoice 37 = .ok (.aload_n 0, 1) := by decide +kernel
theorem dX11_noteChoice_38 : decode cX11_noteChoice 38 = .ok (.getfield 42, 3) := by decide +kernel
theorem dX11_noteChoice_41 : decode cX11_noteChoice 41 = .ok (.iload_n 1, 1) := by decide +kernel
theorem dX11_noteChoice_42 : decode cX11_noteChoice 42 = .ok (.iaload, 1) := by decide +kernel
theorem dX11_noteChoice_43 : decode cX11_noteChoice 43 = .ok (.iconst 0, 1) := by decide +kernel
theorem dX11_noteChoice_44 : decode cX11_noteChoice 44 = .ok (.invokevirtual 102, 3) := by decide +kernel
theorem dX11_noteChoice_47 : decode cX11_noteChoice 47 = .ok (.if_icmp .ge 10, 3) := by decide +kernel
theorem dX11_noteChoice_50 : decode cX11_noteChoice 50 = .ok (.aload_n 0, 1) := by decide +kernel
theorem dX11_noteChoice_51 : decode cX11_noteChoice 51 = .ok (.getfield 42, 3) := by decide +kernel
theorem dX11_noteChoice_54 : decode cX11_noteChoice 54 = .ok (.iload_n 1, 1) := by decide +kernel
theorem dX11_noteChoice_55 : decode cX11_noteChoice 55 = .ok (.iload_n 2, 1) := by decide +kernel
theorem dX11_noteChoice_56 : decode cX11_noteChoice 56 = .ok (.iastore, 1) := by decide +kernel
theorem dX11_noteChoice_57 : decode cX11_noteChoice 57 = .ok (.aload_n 0, 1) := by decide +kernel
theorem dX11_noteChoice_58 : decode cX11_noteChoice 58 = .ok (.getfield 39, 3) := by decide +kernel
theorem dX11_noteChoice_61 : decode cX11_noteChoice 61 = .ok (.iload_n 1, 1) := by decide +kernel
theorem dX11_noteChoice_62 : decode cX11_noteChoice 62 = .ok (.dup2, 1) := by decide +kernel
theorem dX11_noteChoice_63 : decode cX11_noteChoice 63 = .ok (.iaload, 1) := by decide +kernel
theorem dX11_noteChoice_64 : decode cX11_noteChoice 64 = .ok (.iconst 1, 1) := by decide +kernel
theorem dX11_noteChoice_65 : decode cX11_noteChoice 65 = .ok (.iadd, 1) := by decide +kernel
theorem dX11_noteChoice_66 : decode cX11_noteChoice 66 = .ok (.iastore, 1) := by decide +kernel
theorem dX11_noteChoice_67 : decode cX11_noteChoice 67 = .ok (.return_, 1) := by decide +kernel
set_option maxRecDepth 20000 in
theorem ggX11_layAll_X11_layPoints : GoodIn wsX11_layAll wsX11_layPoints := goodIn_r _ [5, 6, 7, 8, 9, 10, 11, 12, 13, 4, 14, 15, 16, 17, 18, 19, 20, 21, 22, 23, 24, 25, 26, 27, 28, 29, 30, 31, 32, 33, 34, 35, 36, 37, 38, 39, 40, 41, 42, 43, 44, 45, 46, 47, 48, 49, 50, 51, 52, 53, 54, 55, 56, 57, 58, 59, 60, 61, 62, 63, 82, 83, 84, 85, 86, 87, 88, 89, 90, 91, 92, 93, 94, 95, 96, 97, 98, 99, 100, 101, 102, 103, 104, 105, 106, 107, 108, 109, 110, 111, 112, 113, 114, 115, 116, 117, 118, 119, 120, 121] (by decide +kernel) (by decide +kernel)
set_option maxRecDepth 20000 in
theorem gX11_layAll_X11_layPoints : GoodIn wsX11_layAll (wsV RX11 144 RX11 yX11_layPoints wsX11_layPoints) := goodIn_app (goodIn_of _ (by decide +kernel)) ggX11_layAll_X11_layPoints
set_option maxRecDepth 20000 in
theorem ggX11_layAll_X11_allSets : GoodIn wsX11_layAll wsX11_allSets := goodIn_r _ [23, 24, 25, 26, 4, 27, 28, 82, 83, 84, 85, 86, 87, 88, 89, 90, 91, 92, 93, 94, 95, 96, 97, 98, 99, 100, 101, 102, 103, 104, 105, 106, 107, 108, 109, 110, 111, 112, 113, 114, 115, 116, 117, 118, 119, 120, 121] (by decide +kernel) (by decide +kernel)
set_option maxRecDepth 20000 in
theorem gX11_layAll_X11_allSets : GoodIn wsX11_layAll (wsV RX11 91 RX11 yX11_allSets wsX11_allSets) := goodIn_app (goodIn_of _ (by decide +kernel)) ggX11_layAll_X11_allSets
set_option maxRecDepth 20000 in
theorem ggX11_layAll_X11_pointBy : GoodIn wsX11_layAll wsX11_pointBy := goodIn_r _ [67, 37, 38, 39, 4, 40, 24, 25, 26, 27, 28, 41, 42, 43, 44, 45, 46, 47, 68, 69, 70, 71, 72, 6, 9, 73, 74, 75, 82, 83, 84, 85, 86, 87, 88, 89, 90, 91, 92, 93, 94, 95, 96, 97, 98, 99, 100, 101, 102, 103, 104, 105, 106, 107, 108, 109, 110, 111, 112, 113, 114, 115, 116, 117, 118, 119, 120, 121] (by decide +kernel) (by decide +kernel)
set_option maxRecDepth 20000 in
theorem gX11_layAll_X11_pointBy : GoodIn wsX11_layAll (wsV RX11 147 RX11 yX11_pointBy wsX11_pointBy) := goodIn_app (goodIn_of _ (by decide +kernel)) ggX11_layAll_X11_pointBy
set_option maxRecDepth 20000 in
theorem ggX11_layAll_X11_isAllowed : GoodIn wsX11_layAll wsX11_isAllowed := goodIn_r _ [32, 33, 34, 35, 4, 36, 28, 37, 38, 39, 40, 24, 25, 26, 27, 41, 42, 43, 44, 45, 46, 47, 48, 49, 50, 51, 52, 53, 54, 55, 56, 57, 58, 82, 83, 84, 85, 86, 87, 88, 89, 90, 91, 92, 93, 94, 95, 96, 97, 98, 99, 100, 101, 102, 103, 104, 105, 106, 107, 108, 109, 110, 111, 112, 113, 114, 115, 116, 117, 118, 119, 120, 121] (by decide +kernel) (by decide +kernel)
set_option maxRecDepth 20000 in
theorem gX11_layAll_X11_isAllowed : GoodIn wsX11_layAll (wsV RX11 122 RX11 yX11_isAllowed wsX11_isAllowed) := goodIn_app (goodIn_of _ (by decide +kernel)) ggX11_layAll_X11_isAllowed
set_option maxRecDepth 20000 in
theorem ggX11_layAll_X11_noteChoice : GoodIn wsX11_layAll wsX11_noteChoice := goodIn_r _ [79, 10, 80, 81, 37, 38, 39, 4, 40, 24, 25, 26, 27, 28, 41, 42, 43, 44, 45, 46, 47, 82, 83, 84, 85, 86, 87, 88, 89, 90, 91, 92, 93, 94, 95, 96, 97, 98, 99, 100, 101, 102, 103, 104, 105, 106, 107, 108, 109, 110, 111, 112, 113, 114, 115, 116, 117, 118, 119, 120, 121] (by decide +kernel) (by decide +kernel)
set_option maxRecDepth 20000 in
theorem gX11_layAll_X11_noteChoice : GoodIn wsX11_layAll (wsV RX11 150 RX11 yX11_noteChoice wsX11_noteChoice) := goodIn_app (goodIn_of _ (by decide +kernel)) ggX11_layAll_X11_noteChoice
theorem dX11_layAll_0 : decode cX11_layAll 0 = .ok (.aload_n 0, 1) := by decide +kernel
theorem dX11_layAll_1 : decode cX11_layAll 1 = .ok (.invokevirtual 144, 3) := by decide +kernel
theorem dX11_layAll_4 : decode cX11_layAll 4 = .ok (.iconst 0, 1) := by decide +kernel
theorem dX11_layAll_5 : decode cX11_layAll 5 = .ok (.istore_n 1, 1) := by decide +kernel
theorem dX11_layAll_6 : decode cX11_layAll 6 = .ok (.iload_n 1, 1) := by decide +kernel
theorem dX11_layAll_7 : decode cX11_layAll 7 = .ok (.aload_n 0, 1) := by decide +kernel
theorem dX11_layAll_8 : decode cX11_layAll 8 = .ok (.invokevirtual 91, 3) := by decide +kernel
theorem dX11_layAll_11 : decode cX11_layAll 11 = .ok (.if_icmp .ge 34, 3) := by decide +kernel
theorem dX11_layAll_14 : decode cX11_layAll 14 = .ok (.aload_n 0, 1) := by decide +kernel
theorem dX11_layAll_15 : decode cX11_layAll 15 = .ok (.iload_n 1, 1) := by decide +kernel
theorem dX11_layAll_16 : decode cX11_layAll 16 = .ok (.invokevirtual 147, 3) := by decide +kernel
theorem dX11_layAll_19 : decode cX11_layAll 19 = .ok (.istore_n 2, 1) := by decide +kernel
theorem dX11_layAll_20 : decode cX11_layAll 20 = .ok (.iload_n 2, 1) := by decide +kernel
theorem dX11_layAll_21 : decode cX11_layAll 21 = .ok (.iconst (-1), 1) := by decide +kernel
theorem dX11_layAll_22 : decode cX11_layAll 22 = .ok (.if_icmp .eq 17, 3) := by decide +kernel
theorem dX11_layAll_25 : decode cX11_layAll 25 = .ok (.aload_n 0, 1) := by decide +kernel
theorem dX11_layAll_26 : decode cX11_layAll 26 = .ok (.iload_n 1, 1) := by decide +kernel
theorem dX11_layAll_27 : decode cX11_layAll 27 = .ok (.invokevirtual 122, 3) := by decide +kernel
theorem dX11_layAll_30 : decode cX11_layAll 30 = .ok (.ifCond .eq 9, 3) := by decide +kernel
theorem dX11_layAll_33 : decode cX11_layAll 33 = .ok (.aload_n 0, 1) := by decide +kernel
theorem dX11_layAll_34 : decode cX11_layAll 34 = .ok (.iload_n 2, 1) := by decide +kernel
theorem dX11_layAll_35 : decode cX11_layAll 35 = .ok (.iload_n 1, 1) := by decide +kernel
theorem dX11_layAll_36 : decode cX11_layAll 36 = .ok (.invokevirtual 150, 3) := by decide +kernel
theorem dX11_layAll_39 : decode cX11_layAll 39 = .ok (.iinc 1 1, 3) := by decide +kernel
theorem dX11_layAll_42 : decode cX11_layAll 42 = .ok (.goto (-36), 3) := by decide +kernel
theorem dX11_layAll_45 : decode cX11_layAll 45 = .ok (.return_, 1) := by decide +kernel
set_option maxRecDepth 20000 in
theorem ggX11_isPoint_X11_in : GoodIn wsX11_isPoint wsX11_in := goodIn_r _ [5] (by decide +kernel) (by decide +kernel)
set_option maxRecDepth 20000 in
theorem gX11_isPoint_X11_in : GoodIn wsX11_isPoint (va_wsS RX11 87 yX11_in wsX11_in) := goodIn_app (goodIn_of _ (by decide +kernel)) ggX11_isPoint_X11_in
theorem dX11_isPoint_0 : decode cX11_isPoint 0 = .ok (.iload_n 1, 1) := by decide +kernel
theorem dX11_isPoint_1 : decode cX11_isPoint 1 = .ok (.i2l, 1) := by decide +kernel
theorem dX11_isPoint_2 : decode cX11_isPoint 2 = .ok (.lconst 0, 1) := by decide +kernel
theorem dX11_isPoint_3 : decode cX11_isPoint 3 = .ok (.aload_n 0, 1) := by decide +kernel
theorem dX11_isPoint_4 : decode cX11_isPoint 4 = .ok (.getfield 130, 3) := by decide +kernel
theorem dX11_isPoint_7 : decode cX11_isPoint 7 = .ok (.iconst 1, 1) := by decide +kernel
theorem dX11_isPoint_8 : decode cX11_isPoint 8 = .ok (.isub, 1) := by decide +kernel
theorem dX11_isPoint_9 : decode cX11_isPoint 9 = .ok (.i2l, 1) := by decide +kernel
theorem dX11_isPoint_10 : decode cX11_isPoint 10 = .ok (.invokestatic 87, 3) := by decide +kernel
theorem dX11_isPoint_13 : decode cX11_isPoint 13 = .ok (.ireturn, 1) := by decide +kernel
theorem dX11_valueOf_0 : decode cX11_valueOf 0 = .ok (.iload_n 2, 1) := by decide +kernel
theorem dX11_valueOf_1 : decode cX11_valueOf 1 = .ok (.aload_n 0, 1) := by decide +kernel
theorem dX11_valueOf_2 : decode cX11_valueOf 2 = .ok (.getfield 30, 3) := by decide +kernel
theorem dX11_valueOf_5 : decode cX11_valueOf 5 = .ok (.iload_n 1, 1) := by decide +kernel
theorem dX11_valueOf_6 : decode cX11_valueOf 6 = .ok (.iaload, 1) := by decide +kernel
theorem dX11_valueOf_7 : decode cX11_valueOf 7 = .ok (.imul, 1) := by decide +kernel
theorem dX11_valueOf_8 : decode cX11_valueOf 8 = .ok (.iload_n 3, 1) := by decide +kernel
theorem dX11_valueOf_9 : decode cX11_valueOf 9 = .ok (.aload_n 0, 1) := by decide +kernel
theorem dX11_valueOf_10 : decode cX11_valueOf 10 = .ok (.getfield 33, 3) := by decide +kernel
theorem dX11_valueOf_13 : decode cX11_valueOf 13 = .ok (.iload_n 1, 1) := by decide +kernel
theorem dX11_valueOf_14 : decode cX11_valueOf 14 = .ok (.iaload, 1) := by decide +kernel
theorem dX11_valueOf_15 : decode cX11_valueOf 15 = .ok (.imul, 1) := by decide +kernel
theorem dX11_valueOf_16 : decode cX11_valueOf 16 = .ok (.iadd, 1) := by decide +kernel
theorem dX11_valueOf_17 : decode cX11_valueOf 17 = .ok (.ireturn, 1) := by decide +kernel
set_option maxRecDepth 20000 in
theorem ggX11_bestBy_X11_valueOf : GoodIn wsX11_bestBy wsX11_valueOf := goodIn_r _ [6, 7, 8, 9, 10, 11, 12, 13, 14, 15, 16, 17, 18, 19, 20, 21, 22, 23, 24, 25, 26, 27, 28, 29, 30, 31, 32, 33, 34, 35, 36, 37, 38, 39, 40, 41, 42, 43, 44, 45, 46, 47, 48] (by decide +kernel) (by decide +kernel)
set_option maxRecDepth 20000 in
theorem gX11_bestBy_X11_valueOf : GoodIn wsX11_bestBy (wsV RX11 154 RX11 yX11_valueOf wsX11_valueOf) := goodIn_app (goodIn_of _ (by decide +kernel)) ggX11_bestBy_X11_valueOf
theorem dX11_bestBy_0 : decode cX11_bestBy 0 = .ok (.iconst (-1), 1) := by decide +kernel
theorem dX11_bestBy_1 : decode cX11_bestBy 1 = .ok (.istore_n 3, 1) := by decide +kernel
theorem dX11_bestBy_2 : decode cX11_bestBy 2 = .ok (.iconst 0, 1) := by decide +kernel
theorem dX11_bestBy_3 : decode cX11_bestBy 3 = .ok (.istore 4, 2) := by decide +kernel
theorem dX11_bestBy_5 : decode cX11_bestBy 5 = .ok (.iload 4, 2) := by decide +kernel
theorem dX11_bestBy_7 : decode cX11_bestBy 7 = .ok (.aload_n 0, 1) := by decide +kernel
theorem dX11_bestBy_8 : decode cX11_bestBy 8 = .ok (.getfield 130, 3) := by decide +kernel
theorem dX11_bestBy_11 : decode cX11_bestBy 11 = .ok (.if_icmp .ge 35, 3) := by decide +kernel
theorem dX11_bestBy_14 : decode cX11_bestBy 14 = .ok (.iload_n 3, 1) := by decide +kernel
theorem dX11_bestBy_15 : decode cX11_bestBy 15 = .ok (.iconst (-1), 1) := by decide +kernel
theorem dX11_bestBy_16 : decode cX11_bestBy 16 = .ok (.if_icmp .eq 21, 3) := by decide +kernel
theorem dX11_bestBy_19 : decode cX11_bestBy 19 = .ok (.aload_n 0, 1) := by decide +kernel
theorem dX11_bestBy_20 : decode cX11_bestBy 20 = .ok (.iload 4, 2) := by decide +kernel
theorem dX11_bestBy_22 : decode cX11_bestBy 22 = .ok (.iload_n 1, 1) := by decide +kernel
theorem dX11_bestBy_23 : decode cX11_bestBy 23 = .ok (.iload_n 2, 1) := by decide +kernel
theorem dX11_bestBy_24 : decode cX11_bestBy 24 = .ok (.invokevirtual 154, 3) := by decide +kernel
theorem dX11_bestBy_27 : decode cX11_bestBy 27 = .ok (.aload_n 0, 1) := by decide +kernel
theorem dX11_bestBy_28 : decode cX11_bestBy 28 = .ok (.iload_n 3, 1) := by decide +kernel
theorem dX11_bestBy_29 : decode cX11_bestBy 29 = .ok (.iload_n 1, 1) := by decide +kernel
theorem dX11_bestBy_30 : decode cX11_bestBy 30 = .ok (.iload_n 2, 1) := by decide +kernel
theorem dX11_bestBy_31 : decode cX11_bestBy 31 = .ok (.invokevirtual 154, 3) := by decide +kernel
theorem dX11_bestBy_34 : decode cX11_bestBy 34 = .ok (.if_icmp .le 6, 3) := by decide +kernel
theorem dX11_bestBy_37 : decode cX11_bestBy 37 = .ok (.iload 4, 2) := by decide +kernel
theorem dX11_bestBy_39 : decode cX11_bestBy 39 = .ok (.istore_n 3, 1) := by decide +kernel
theorem dX11_bestBy_40 : decode cX11_bestBy 40 = .ok (.iinc 4 1, 3) := by decide +kernel
theorem dX11_bestBy_43 : decode cX11_bestBy 43 = .ok (.goto (-38), 3) := by decide +kernel
theorem dX11_bestBy_46 : decode cX11_bestBy 46 = .ok (.iload_n 3, 1) := by decide +kernel
theorem dX11_bestBy_47 : decode cX11_bestBy 47 = .ok (.ireturn, 1) := by decide +kernel
theorem dX11_doesBeat_0 : decode cX11_doesBeat 0 = .ok (.aload_n 0, 1) := by decide +kernel
theorem dX11_doesBeat_1 : decode cX11_doesBeat 1 = .ok (.getfield 30, 3) := by decide +kernel
theorem dX11_doesBeat_4 : decode cX11_doesBeat 4 = .ok (.iload_n 1, 1) := by decide +kernel
theorem dX11_doesBeat_5 : decode cX11_doesBeat 5 = .ok (.iaload, 1) := by decide +kernel
theorem dX11_doesBeat_6 : decode cX11_doesBeat 6 = .ok (.iload_n 2, 1) := by decide +kernel
theorem dX11_doesBeat_7 : decode cX11_doesBeat 7 = .ok (.if_icmp .lt 37, 3) := by decide +kernel
theorem dX11_doesBeat_10 : decode cX11_doesBeat 10 = .ok (.aload_n 0, 1) := by decide +kernel
theorem dX11_doesBeat_11 : decode cX11_doesBeat 11 = .ok (.getfield 33, 3) := by decide +kernel
theorem dX11_doesBeat_14 : decode cX11_doesBeat 14 = .ok (.iload_n 1, 1) := by decide +kernel
theorem dX11_doesBeat_15 : decode cX11_doesBeat 15 = .ok (.iaload, 1) := by decide +kernel
theorem dX11_doesBeat_16 : decode cX11_doesBeat 16 = .ok (.iload_n 3, 1) := by decide +kernel
theorem dX11_doesBeat_17 : decode cX11_doesBeat 17 = .ok (.if_icmp .lt 27, 3) := by decide +kernel
theorem dX11_doesBeat_20 : decode cX11_doesBeat 20 = .ok (.aload_n 0, 1) := by decide +kernel
theorem dX11_doesBeat_21 : decode cX11_doesBeat 21 = .ok (.getfield 30, 3) := by decide +kernel
theorem dX11_doesBeat_24 : decode cX11_doesBeat 24 = .ok (.iload_n 1, 1) := by decide +kernel
theorem dX11_doesBeat_25 : decode cX11_doesBeat 25 = .ok (.iaload, 1) := by decide +kernel
theorem dX11_doesBeat_26 : decode cX11_doesBeat 26 = .ok (.iload_n 2, 1) := by decide +kernel
theorem dX11_doesBeat_27 : decode cX11_doesBeat 27 = .ok (.if_icmp .gt 13, 3) := by decide +kernel
theorem dX11_doesBeat_30 : decode cX11_doesBeat 30 = .ok (.aload_n 0, 1) := by decide +kernel
theorem dX11_doesBeat_31 : decode cX11_doesBeat 31 = .ok (.getfield 33, 3) := by decide +kernel
theorem dX11_doesBeat_34 : decode cX11_doesBeat 34 = .ok (.iload_n 1, 1) := by decide +kernel
theorem dX11_doesBeat_35 : decode cX11_doesBeat 35 = .ok (.iaload, 1) := by decide +kernel
theorem dX11_doesBeat_36 : decode cX11_doesBeat 36 = .ok (.iload_n 3, 1) := by decide +kernel
theorem dX11_doesBeat_37 : decode cX11_doesBeat 37 = .ok (.if_icmp .le 7, 3) := by decide +kernel
theorem dX11_doesBeat_40 : decode cX11_doesBeat 40 = .ok (.iconst 1, 1) := by decide +kernel
theorem dX11_doesBeat_41 : decode cX11_doesBeat 41 = .ok (.goto 4, 3) := by decide +kernel
theorem dX11_doesBeat_44 : decode cX11_doesBeat 44 = .ok (.iconst 0, 1) := by decide +kernel
theorem dX11_doesBeat_45 : decode cX11_doesBeat 45 = .ok (.ireturn, 1) := by decide +kernel
theorem dX11_areaNow_0 : decode cX11_areaNow 0 = .ok (.iconst 0, 1) := by decide +kernel
theorem dX11_areaNow_1 : decode cX11_areaNow 1 = .ok (.istore_n 1, 1) := by decide +kernel
theorem dX11_areaNow_2 : decode cX11_areaNow 2 = .ok (.iconst 0, 1) := by decide +kernel
theorem dX11_areaNow_3 : decode cX11_areaNow 3 = .ok (.istore_n 2, 1) := by decide +kernel
theorem dX11_areaNow_4 : decode cX11_areaNow 4 = .ok (.iload_n 2, 1) := by decide +kernel
theorem dX11_areaNow_5 : decode cX11_areaNow 5 = .ok (.aload_n 0, 1) := by decide +kernel
theorem dX11_areaNow_6 : decode cX11_areaNow 6 = .ok (.getfield 130, 3) := by decide +kernel
theorem dX11_areaNow_9 : decode cX11_areaNow 9 = .ok (.if_icmp .ge 42, 3) := by decide +kernel
theorem dX11_areaNow_12 : decode cX11_areaNow 12 = .ok (.iload_n 1, 1) := by decide +kernel
theorem dX11_areaNow_13 : decode cX11_areaNow 13 = .ok (.aload_n 0, 1) := by decide +kernel
theorem dX11_areaNow_14 : decode cX11_areaNow 14 = .ok (.getfield 30, 3) := by decide +kernel
theorem dX11_areaNow_17 : decode cX11_areaNow 17 = .ok (.iload_n 2, 1) := by decide +kernel
theorem dX11_areaNow_18 : decode cX11_areaNow 18 = .ok (.iaload, 1) := by decide +kernel
theorem dX11_areaNow_19 : decode cX11_areaNow 19 = .ok (.iload_n 2, 1) := by decide +kernel
theorem dX11_areaNow_20 : decode cX11_areaNow 20 = .ok (.ifCond .ne 7, 3) := by decide +kernel
theorem dX11_areaNow_23 : decode cX11_areaNow 23 = .ok (.iconst 0, 1) := by decide +kernel
theorem dX11_areaNow_24 : decode cX11_areaNow 24 = .ok (.goto 11, 3) := by decide +kernel
theorem dX11_areaNow_27 : decode cX11_areaNow 27 = .ok (.aload_n 0, 1) := by decide +kernel
theorem dX11_areaNow_28 : decode cX11_areaNow 28 = .ok (.getfield 30, 3) := by decide +kernel
theorem dX11_areaNow_31 : decode cX11_areaNow 31 = .ok (.iload_n 2, 1) := by decide +kernel
theorem dX11_areaNow_32 : decode cX11_areaNow 32 = .ok (.iconst 1, 1) := by decide +kernel
theorem dX11_areaNow_33 : decode cX11_areaNow 33 = .ok (.isub, 1) := by decide +kernel
theorem dX11_areaNow_34 : decode cX11_areaNow 34 = .ok (.iaload, 1) := by decide +kernel
theorem dX11_areaNow_35 : decode cX11_areaNow 35 = .ok (.isub, 1) := by decide +kernel
theorem dX11_areaNow_36 : decode cX11_areaNow 36 = .ok (.aload_n 0, 1) := by decide +kernel
theorem dX11_areaNow_37 : decode cX11_areaNow 37 = .ok (.getfield 33, 3) := by decide +kernel
theorem dX11_areaNow_40 : decode cX11_areaNow 40 = .ok (.iload_n 2, 1) := by decide +kernel
theorem dX11_areaNow_41 : decode cX11_areaNow 41 = .ok (.iaload, 1) := by decide +kernel
theorem dX11_areaNow_42 : decode cX11_areaNow 42 = .ok (.imul, 1) := by decide +kernel
theorem dX11_areaNow_43 : decode cX11_areaNow 43 = .ok (.iadd, 1) := by decide +kernel
theorem dX11_areaNow_44 : decode cX11_areaNow 44 = .ok (.istore_n 1, 1) := by decide +kernel
theorem dX11_areaNow_45 : decode cX11_areaNow 45 = .ok (.iinc 2 1, 3) := by decide +kernel
theorem dX11_areaNow_48 : decode cX11_areaNow 48 = .ok (.goto (-44), 3) := by decide +kernel
theorem dX11_areaNow_51 : decode cX11_areaNow 51 = .ok (.iload_n 1, 1) := by decide +kernel
theorem dX11_areaNow_52 : decode cX11_areaNow 52 = .ok (.ireturn, 1) := by decide +kernel
set_option maxRecDepth 20000 in
theorem ggX11_isAbove_X11_valueOf : GoodIn wsX11_isAbove wsX11_valueOf := goodIn_r _ [7, 2, 1, 8, 9, 10, 11, 12, 13, 14, 15, 16, 17, 18, 19, 20, 21, 22, 23, 24, 25, 26, 27, 28, 29, 30, 31, 32, 33, 34, 35, 36, 37, 38, 39, 40, 41, 42, 43, 44, 45, 46, 47] (by decide +kernel) (by decide +kernel)
set_option maxRecDepth 20000 in
theorem gX11_isAbove_X11_valueOf : GoodIn wsX11_isAbove (wsV RX11 154 RX11 yX11_valueOf wsX11_valueOf) := goodIn_app (goodIn_of _ (by decide +kernel)) ggX11_isAbove_X11_valueOf
theorem dX11_isAbove_0 : decode cX11_isAbove 0 = .ok (.aload_n 0, 1) := by decide +kernel
theorem dX11_isAbove_1 : decode cX11_isAbove 1 = .ok (.getfield 33, 3) := by decide +kernel
theorem dX11_isAbove_4 : decode cX11_isAbove 4 = .ok (.iload_n 2, 1) := by decide +kernel
theorem dX11_isAbove_5 : decode cX11_isAbove 5 = .ok (.iaload, 1) := by decide +kernel
theorem dX11_isAbove_6 : decode cX11_isAbove 6 = .ok (.aload_n 0, 1) := by decide +kernel
theorem dX11_isAbove_7 : decode cX11_isAbove 7 = .ok (.getfield 33, 3) := by decide +kernel
theorem dX11_isAbove_10 : decode cX11_isAbove 10 = .ok (.iload_n 3, 1) := by decide +kernel
theorem dX11_isAbove_11 : decode cX11_isAbove 11 = .ok (.iaload, 1) := by decide +kernel
theorem dX11_isAbove_12 : decode cX11_isAbove 12 = .ok (.isub, 1) := by decide +kernel
theorem dX11_isAbove_13 : decode cX11_isAbove 13 = .ok (.istore 4, 2) := by decide +kernel
theorem dX11_isAbove_15 : decode cX11_isAbove 15 = .ok (.aload_n 0, 1) := by decide +kernel
theorem dX11_isAbove_16 : decode cX11_isAbove 16 = .ok (.getfield 30, 3) := by decide +kernel
theorem dX11_isAbove_19 : decode cX11_isAbove 19 = .ok (.iload_n 3, 1) := by decide +kernel
theorem dX11_isAbove_20 : decode cX11_isAbove 20 = .ok (.iaload, 1) := by decide +kernel
theorem dX11_isAbove_21 : decode cX11_isAbove 21 = .ok (.aload_n 0, 1) := by decide +kernel
theorem dX11_isAbove_22 : decode cX11_isAbove 22 = .ok (.getfield 30, 3) := by decide +kernel
theorem dX11_isAbove_25 : decode cX11_isAbove 25 = .ok (.iload_n 2, 1) := by decide +kernel
theorem dX11_isAbove_26 : decode cX11_isAbove 26 = .ok (.iaload, 1) := by decide +kernel
theorem dX11_isAbove_27 : decode cX11_isAbove 27 = .ok (.isub, 1) := by decide +kernel
theorem dX11_isAbove_28 : decode cX11_isAbove 28 = .ok (.istore 5, 2) := by decide +kernel
theorem dX11_isAbove_30 : decode cX11_isAbove 30 = .ok (.aload_n 0, 1) := by decide +kernel
theorem dX11_isAbove_31 : decode cX11_isAbove 31 = .ok (.iload_n 1, 1) := by decide +kernel
theorem dX11_isAbove_32 : decode cX11_isAbove 32 = .ok (.iload 4, 2) := by decide +kernel
theorem dX11_isAbove_34 : decode cX11_isAbove 34 = .ok (.iload 5, 2) := by decide +kernel
theorem dX11_isAbove_36 : decode cX11_isAbove 36 = .ok (.invokevirtual 154, 3) := by decide +kernel
theorem dX11_isAbove_39 : decode cX11_isAbove 39 = .ok (.aload_n 0, 1) := by decide +kernel
theorem dX11_isAbove_40 : decode cX11_isAbove 40 = .ok (.iload_n 2, 1) := by decide +kernel
theorem dX11_isAbove_41 : decode cX11_isAbove 41 = .ok (.iload 4, 2) := by decide +kernel
theorem dX11_isAbove_43 : decode cX11_isAbove 43 = .ok (.iload 5, 2) := by decide +kernel
theorem dX11_isAbove_45 : decode cX11_isAbove 45 = .ok (.invokevirtual 154, 3) := by decide +kernel
theorem dX11_isAbove_48 : decode cX11_isAbove 48 = .ok (.if_icmp .le 7, 3) := by decide +kernel
theorem dX11_isAbove_51 : decode cX11_isAbove 51 = .ok (.iconst 1, 1) := by decide +kernel
theorem dX11_isAbove_52 : decode cX11_isAbove 52 = .ok (.goto 4, 3) := by decide +kernel
theorem dX11_isAbove_55 : decode cX11_isAbove 55 = .ok (.iconst 0, 1) := by decide +kernel
theorem dX11_isAbove_56 : decode cX11_isAbove 56 = .ok (.ireturn, 1) := by decide +kernel
set_option maxRecDepth 20000 in
theorem ggX11_isOn_X11_valueOf : GoodIn wsX11_isOn wsX11_valueOf := goodIn_r _ [7, 2, 1, 8, 9, 10, 11, 12, 13, 14, 15, 16, 17, 18, 19, 20, 21, 22, 23, 24, 25, 26, 27, 28, 29, 30, 31, 32, 33, 34, 35, 36, 37, 38, 39, 40, 41, 42, 43, 44, 45, 46, 47] (by decide +kernel) (by decide +kernel)
set_option maxRecDepth 20000 in
theorem gX11_isOn_X11_valueOf : GoodIn wsX11_isOn (wsV RX11 154 RX11 yX11_valueOf wsX11_valueOf) := goodIn_app (goodIn_of _ (by decide +kernel)) ggX11_isOn_X11_valueOf
theorem dX11_isOn_0 : decode cX11_isOn 0 = .ok (.aload_n 0, 1) := by decide +kernel
theorem dX11_isOn_1 : decode cX11_isOn 1 = .ok (.getfield 33, 3) := by decide +kernel
theorem dX11_isOn_4 : decode cX11_isOn 4 = .ok (.iload_n 2, 1) := by decide +kernel
theorem dX11_isOn_5 : decode cX11_isOn 5 = .ok (.iaload, 1) := by decide +kernel
theorem dX11_isOn_6 : decode cX11_isOn 6 = .ok (.aload_n 0, 1) := by decide +kernel
theorem dX11_isOn_7 : decode cX11_isOn 7 = .ok (.getfield 33, 3) := by decide +kernel
theorem dX11_isOn_10 : decode cX11_isOn 10 = .ok (.iload_n 3, 1) := by decide +kernel
theorem dX11_isOn_11 : decode cX11_isOn 11 = .ok (.iaload, 1) := by decide +kernel
theorem dX11_isOn_12 : decode cX11_isOn 12 = .ok (.isub, 1) := by decide +kernel
theorem dX11_isOn_13 : decode cX11_isOn 13 = .ok (.istore 4, 2) := by decide +kernel
theorem dX11_isOn_15 : decode cX11_isOn 15 = .ok (.aload_n 0, 1) := by decide +kernel
theorem dX11_isOn_16 : decode cX11_isOn 16 = .ok (.getfield 30, 3) := by decide +kernel
theorem dX11_isOn_19 : decode cX11_isOn 19 = .ok (.iload_n 3, 1) := by decide +kernel
theorem dX11_isOn_20 : decode cX11_isOn 20 = .ok (.iaload, 1) := by decide +kernel
theorem dX11_isOn_21 : decode cX11_isOn 21 = .ok (.aload_n 0, 1) := by decide +kernel
theorem dX11_isOn_22 : decode cX11_isOn 22 = .ok (.getfield 30, 3) := by decide +kernel
theorem dX11_isOn_25 : decode cX11_isOn 25 = .ok (.iload_n 2, 1) := by decide +kernel
theorem dX11_isOn_26 : decode cX11_isOn 26 = .ok (.iaload, 1) := by decide +kernel
theorem dX11_isOn_27 : decode cX11_isOn 27 = .ok (.isub, 1) := by decide +kernel
theorem dX11_isOn_28 : decode cX11_isOn 28 = .ok (.istore 5, 2) := by decide +kernel
theorem dX11_isOn_30 : decode cX11_isOn 30 = .ok (.aload_n 0, 1) := by decide +kernel
theorem dX11_isOn_31 : decode cX11_isOn 31 = .ok (.iload_n 1, 1) := by decide +kernel
theorem dX11_isOn_32 : decode cX11_isOn 32 = .ok (.iload 4, 2) := by decide +kernel
theorem dX11_isOn_34 : decode cX11_isOn 34 = .ok (.iload 5, 2) := by decide +kernel
theorem dX11_isOn_36 : decode cX11_isOn 36 = .ok (.invokevirtual 154, 3) := by decide +kernel
theorem dX11_isOn_39 : decode cX11_isOn 39 = .ok (.aload_n 0, 1) := by decide +kernel
theorem dX11_isOn_40 : decode cX11_isOn 40 = .ok (.iload_n 2, 1) := by decide +kernel
theorem dX11_isOn_41 : decode cX11_isOn 41 = .ok (.iload 4, 2) := by decide +kernel
theorem dX11_isOn_43 : decode cX11_isOn 43 = .ok (.iload 5, 2) := by decide +kernel
theorem dX11_isOn_45 : decode cX11_isOn 45 = .ok (.invokevirtual 154, 3) := by decide +kernel
theorem dX11_isOn_48 : decode cX11_isOn 48 = .ok (.if_icmp .ne 7, 3) := by decide +kernel
theorem dX11_isOn_51 : decode cX11_isOn 51 = .ok (.iconst 1, 1) := by decide +kernel
theorem dX11_isOn_52 : decode cX11_isOn 52 = .ok (.goto 4, 3) := by decide +kernel
theorem dX11_isOn_55 : decode cX11_isOn 55 = .ok (.iconst 0, 1) := by decide +kernel
theorem dX11_isOn_56 : decode cX11_isOn 56 = .ok (.ireturn, 1) := by decide +kernel
set_option maxRecDepth 20000 in
theorem ggX11_layCorners_X11_isAbove : GoodIn wsX11_layCorners wsX11_isAbove := goodIn_r _ [8, 9, 10, 11, 12, 13, 7, 14, 15, 16, 17, 18, 19, 20, 21, 22, 23, 24, 25, 26, 27, 28, 29, 30, 31, 32, 33, 34, 35, 36, 37, 38, 39, 40, 41, 42, 43, 44, 45, 46, 47, 48, 49, 50, 51, 52, 53, 54] (by decide +kernel) (by decide +kernel)
set_option maxRecDepth 20000 in
theorem gX11_layCorners_X11_isAbove : GoodIn wsX11_layCorners (wsV RX11 161 RX11 yX11_isAbove wsX11_isAbove) := goodIn_app (goodIn_of _ (by decide +kernel)) ggX11_layCorners_X11_isAbove
theorem dX11_layCorners_0 : decode cX11_layCorners 0 = .ok (.aload_n 0, 1) := by decide +kernel
theorem dX11_layCorners_1 : decode cX11_layCorners 1 = .ok (.iconst 0, 1) := by decide +kernel
theorem dX11_layCorners_2 : decode cX11_layCorners 2 = .ok (.putfield 158, 3) := by decide +kernel
theorem dX11_layCorners_5 : decode cX11_layCorners 5 = .ok (.iconst 0, 1) := by decide +kernel
theorem dX11_layCorners_6 : decode cX11_layCorners 6 = .ok (.istore_n 1, 1) := by decide +kernel
theorem dX11_layCorners_7 : decode cX11_layCorners 7 = .ok (.iload_n 1, 1) := by decide +kernel
theorem dX11_layCorners_8 : decode cX11_layCorners 8 = .ok (.aload_n 0, 1) := by decide +kernel
theorem dX11_layCorners_9 : decode cX11_layCorners 9 = .ok (.getfield 130, 3) := by decide +kernel
theorem dX11_layCorners_12 : decode cX11_layCorners 12 = .ok (.if_icmp .ge 80, 3) := by decide +kernel
theorem dX11_layCorners_15 : decode cX11_layCorners 15 = .ok (.aload_n 0, 1) := by decide +kernel
theorem dX11_layCorners_16 : decode cX11_layCorners 16 = .ok (.getfield 158, 3) := by decide +kernel
theorem dX11_layCorners_19 : decode cX11_layCorners 19 = .ok (.iconst 1, 1) := by decide +kernel
theorem dX11_layCorners_20 : decode cX11_layCorners 20 = .ok (.if_icmp .le 46, 3) := by decide +kernel
theorem dX11_layCorners_23 : decode cX11_layCorners 23 = .ok (.aload_n 0, 1) := by decide +kernel
theorem dX11_layCorners_24 : decode cX11_layCorners 24 = .ok (.aload_n 0, 1) := by decide +kernel
theorem dX11_layCorners_25 : decode cX11_layCorners 25 = .ok (.getfield 48, 3) := by decide +kernel
theorem dX11_layCorners_28 : decode cX11_layCorners 28 = .ok (.aload_n 0, 1) := by decide +kernel
theorem dX11_layCorners_29 : decode cX11_layCorners 29 = .ok (.getfield 158, 3) := by decide +kernel
theorem dX11_layCorners_32 : decode cX11_layCorners 32 = .ok (.iconst 1, 1) := by decide +kernel
theorem dX11_layCorners_33 : decode cX11_layCorners 33 = .ok (.isub, 1) := by decide +kernel
theorem dX11_layCorners_34 : decode cX11_layCorners 34 = .ok (.iaload, 1) := by decide +kernel
theorem dX11_layCorners_35 : decode cX11_layCorners 35 = .ok (.aload_n 0, 1) := by decide +kernel
theorem dX11_layCorners_36 : decode cX11_layCorners 36 = .ok (.getfield 48, 3) := by decide +kernel
theorem dX11_layCorners_39 : decode cX11_layCorners 39 = .ok (.aload_n 0, 1) := by decide +kernel
theorem dX11_layCorners_40 : decode cX11_layCorners 40 = .ok (.getfield 158, 3) := by decide +kernel
theorem dX11_layCorners_43 : decode cX11_layCorners 43 = .ok (.iconst 2, 1) := by decide +kernel
theorem dX11_layCorners_44 : decode cX11_layCorners 44 = .ok (.isub, 1) := by decide +kernel
theorem dX11_layCorners_45 : decode cX11_layCorners 45 = .ok (.iaload, 1) := by decide +kernel
theorem dX11_layCorners_46 : decode cX11_layCorners 46 = .ok (.iload_n 1, 1) := by decide +kernel
theorem dX11_layCorners_47 : decode cX11_layCorners 47 = .ok (.invokevirtual 161, 3) := by decide +kernel
theorem dX11_layCorners_50 : decode cX11_layCorners 50 = .ok (.ifCond .ne 16, 3) := by decide +kernel
theorem dX11_layCorners_53 : decode cX11_layCorners 53 = .ok (.aload_n 0, 1) := by decide +kernel
theorem dX11_layCorners_54 : decode cX11_layCorners 54 = .ok (.dup, 1) := by decide +kernel
theorem dX11_layCorners_55 : decode cX11_layCorners 55 = .ok (.getfield 158, 3) := by decide +kernel
theorem dX11_layCorners_58 : decode cX11_layCorners 58 = .ok (.iconst 1, 1) := by decide +kernel
theorem dX11_layCorners_59 : decode cX11_layCorners 59 = .ok (.isub, 1) := by decide +kernel
theorem dX11_layCorners_60 : decode cX11_layCorners 60 = .ok (.putfield 158, 3) := by decide +kernel
theorem dX11_layCorners_63 : decode cX11_layCorners 63 = .ok (.goto (-48), 3) := by decide +kernel
theorem dX11_layCorners_66 : decode cX11_layCorners 66 = .ok (.aload_n 0, 1) := by decide +kernel
theorem dX11_layCorners_67 : decode cX11_layCorners 67 = .ok (.getfield 48, 3) := by decide +kernel
theorem dX11_layCorners_70 : decode cX11_layCorners 70 = .ok (.aload_n 0, 1) := by decide +kernel
theorem dX11_layCorners_71 : decode cX11_layCorners 71 = .ok (.getfield 158, 3) := by decide +kernel
theorem dX11_layCorners_74 : decode cX11_layCorners 74 = .ok (.iload_n 1, 1) := by decide +kernel
theorem dX11_layCorners_75 : decode cX11_layCorners 75 = .ok (.iastore, 1) := by decide +kernel
theorem dX11_layCorners_76 : decode cX11_layCorners 76 = .ok (.aload_n 0, 1) := by decide +kernel
theorem dX11_layCorners_77 : decode cX11_layCorners 77 = .ok (.dup, 1) := by decide +kernel
theorem dX11_layCorners_78 : decode cX11_layCorners 78 = .ok (.getfield 158, 3) := by decide +kernel
theorem dX11_layCorners_81 : decode cX11_layCorners 81 = .ok (.iconst 1, 1) := by decide +kernel
theorem dX11_layCorners_82 : decode cX11_layCorners 82 = .ok (.iadd, 1) := by decide +kernel
theorem dX11_layCorners_83 : decode cX11_layCorners 83 = .ok (.putfield 158, 3) := by decide +kernel
theorem dX11_layCorners_86 : decode cX11_layCorners 86 = .ok (.iinc 1 1, 3) := by decide +kernel
theorem dX11_layCorners_89 : decode cX11_layCorners 89 = .ok (.goto (-82), 3) := by decide +kernel
theorem dX11_layCorners_92 : decode cX11_layCorners 92 = .ok (.return_, 1) := by decide +kernel
theorem dX11_isCorner_0 : decode cX11_isCorner 0 = .ok (.iconst 0, 1) := by decide +kernel
theorem dX11_isCorner_1 : decode cX11_isCorner 1 = .ok (.istore_n 2, 1) := by decide +kernel
theorem dX11_isCorner_2 : decode cX11_isCorner 2 = .ok (.iconst 0, 1) := by decide +kernel
theorem dX11_isCorner_3 : decode cX11_isCorner 3 = .ok (.istore_n 3, 1) := by decide +kernel
theorem dX11_isCorner_4 : decode cX11_isCorner 4 = .ok (.iload_n 3, 1) := by decide +kernel
theorem dX11_isCorner_5 : decode cX11_isCorner 5 = .ok (.aload_n 0, 1) := by decide +kernel
theorem dX11_isCorner_6 : decode cX11_isCorner 6 = .ok (.getfield 158, 3) := by decide +kernel
theorem dX11_isCorner_9 : decode cX11_isCorner 9 = .ok (.if_icmp .ge 29, 3) := by decide +kernel
theorem dX11_isCorner_12 : decode cX11_isCorner 12 = .ok (.iload_n 2, 1) := by decide +kernel
theorem dX11_isCorner_13 : decode cX11_isCorner 13 = .ok (.ifCond .ne 13, 3) := by decide +kernel
theorem dX11_isCorner_16 : decode cX11_isCorner 16 = .ok (.aload_n 0, 1) := by decide +kernel
theorem dX11_isCorner_17 : decode cX11_isCorner 17 = .ok (.getfield 48, 3) := by decide +kernel
theorem dX11_isCorner_20 : decode cX11_isCorner 20 = .ok (.iload_n 3, 1) := by decide +kernel
theorem dX11_isCorner_21 : decode cX11_isCorner 21 = .ok (.iaload, 1) := by decide +kernel
theorem dX11_isCorner_22 : decode cX11_isCorner 22 = .ok (.iload_n 1, 1) := by decide +kernel
theorem dX11_isCorner_23 : decode cX11_isCorner 23 = .ok (.if_icmp .ne 7, 3) := by decide +kernel
theorem dX11_isCorner_26 : decode cX11_isCorner 26 = .ok (.iconst 1, 1) := by decide +kernel
theorem dX11_isCorner_27 : decode cX11_isCorner 27 = .ok (.goto 4, 3) := by decide +kernel
theorem dX11_isCorner_30 : decode cX11_isCorner 30 = .ok (.iconst 0, 1) := by decide +kernel
theorem dX11_isCorner_31 : decode cX11_isCorner 31 = .ok (.istore_n 2, 1) := by decide +kernel
theorem dX11_isCorner_32 : decode cX11_isCorner 32 = .ok (.iinc 3 1, 3) := by decide +kernel
theorem dX11_isCorner_35 : decode cX11_isCorner 35 = .ok (.goto (-31), 3) := by decide +kernel
theorem dX11_isCorner_38 : decode cX11_isCorner 38 = .ok (.iload_n 2, 1) := by decide +kernel
theorem dX11_isCorner_39 : decode cX11_isCorner 39 = .ok (.ireturn, 1) := by decide +kernel
theorem dX11_boxOf_0 : decode cX11_boxOf 0 = .ok (.iconst 0, 1) := by decide +kernel
theorem dX11_boxOf_1 : decode cX11_boxOf 1 = .ok (.istore_n 2, 1) := by decide +kernel
theorem dX11_boxOf_2 : decode cX11_boxOf 2 = .ok (.iload_n 2, 1) := by decide +kernel
theorem dX11_boxOf_3 : decode cX11_boxOf 3 = .ok (.iconst 1, 1) := by decide +kernel
theorem dX11_boxOf_4 : decode cX11_boxOf 4 = .ok (.iadd, 1) := by decide +kernel
theorem dX11_boxOf_5 : decode cX11_boxOf 5 = .ok (.aload_n 0, 1) := by decide +kernel
theorem dX11_boxOf_6 : decode cX11_boxOf 6 = .ok (.getfield 158, 3) := by decide +kernel
theorem dX11_boxOf_9 : decode cX11_boxOf 9 = .ok (.if_icmp .ge 33, 3) := by decide +kernel
theorem dX11_boxOf_12 : decode cX11_boxOf 12 = .ok (.aload_n 0, 1) := by decide +kernel
theorem dX11_boxOf_13 : decode cX11_boxOf 13 = .ok (.getfield 48, 3) := by decide +kernel
theorem dX11_boxOf_16 : decode cX11_boxOf 16 = .ok (.iload_n 2, 1) := by decide +kernel
theorem dX11_boxOf_17 : decode cX11_boxOf 17 = .ok (.iaload, 1) := by decide +kernel
theorem dX11_boxOf_18 : decode cX11_boxOf 18 = .ok (.iload_n 1, 1) := by decide +kernel
theorem dX11_boxOf_19 : decode cX11_boxOf 19 = .ok (.if_icmp .ge 17, 3) := by decide +kernel
theorem dX11_boxOf_22 : decode cX11_boxOf 22 = .ok (.iload_n 1, 1) := by decide +kernel
theorem dX11_boxOf_23 : decode cX11_boxOf 23 = .ok (.aload_n 0, 1) := by decide +kernel
theorem dX11_boxOf_24 : decode cX11_boxOf 24 = .ok (.getfield 48, 3) := by decide +kernel
theorem dX11_boxOf_27 : decode cX11_boxOf 27 = .ok (.iload_n 2, 1) := by decide +kernel
theorem dX11_boxOf_28 : decode cX11_boxOf 28 = .ok (.iconst 1, 1) := by decide +kernel
theorem dX11_boxOf_29 : decode cX11_boxOf 29 = .ok (.iadd, 1) := by decide +kernel
theorem dX11_boxOf_30 : decode cX11_boxOf 30 = .ok (.iaload, 1) := by decide +kernel
theorem dX11_boxOf_31 : decode cX11_boxOf 31 = .ok (.if_icmp .ge 5, 3) := by decide +kernel
theorem dX11_boxOf_34 : decode cX11_boxOf 34 = .ok (.iload_n 2, 1) := by decide +kernel
theorem dX11_boxOf_35 : decode cX11_boxOf 35 = .ok (.ireturn, 1) := by decide +kernel
theorem dX11_boxOf_36 : decode cX11_boxOf 36 = .ok (.iinc 2 1, 3) := by decide +kernel
theorem dX11_boxOf_39 : decode cX11_boxOf 39 = .ok (.goto (-37), 3) := by decide +kernel
theorem dX11_boxOf_42 : decode cX11_boxOf 42 = .ok (.iconst (-1), 1) := by decide +kernel
theorem dX11_boxOf_43 : decode cX11_boxOf 43 = .ok (.ireturn, 1) := by decide +kernel
set_option maxRecDepth 20000 in
theorem ggX11_isSupported_X11_isCorner : GoodIn wsX11_isSupported wsX11_isCorner := goodIn_r _ [6, 7, 1, 22, 23, 24, 25, 26, 27, 28, 29, 30, 31, 32, 33, 34, 35, 36, 37, 38, 39, 40, 41, 42, 43, 44, 45, 46, 47, 48, 49, 50, 51, 52, 53, 54, 55, 56, 57, 58, 59, 60, 61] (by decide +kernel) (by decide +kernel)
set_option maxRecDepth 20000 in
theorem gX11_isSupported_X11_isCorner : GoodIn wsX11_isSupported (wsV RX11 165 RX11 yX11_isCorner wsX11_isCorner) := goodIn_app (goodIn_of _ (by decide +kernel)) ggX11_isSupported_X11_isCorner
set_option maxRecDepth 20000 in
theorem ggX11_isSupported_X11_boxOf : GoodIn wsX11_isSupported wsX11_boxOf := goodIn_r _ [11, 7, 1, 22, 23, 24, 25, 26, 27, 28, 29, 30, 31, 32, 33, 34, 35, 36, 37, 38, 39, 40, 41, 42, 43, 44, 45, 46, 47, 48, 49, 50, 51, 52, 53, 54, 55, 56, 57, 58, 59, 60, 61] (by decide +kernel) (by decide +kernel)
set_option maxRecDepth 20000 in
theorem gX11_isSupported_X11_boxOf : GoodIn wsX11_isSupported (wsV RX11 168 RX11 yX11_boxOf wsX11_boxOf) := goodIn_app (goodIn_of _ (by decide +kernel)) ggX11_isSupported_X11_boxOf
set_option maxRecDepth 20000 in
theorem ggX11_isSupported_X11_isOn : GoodIn wsX11_isSupported wsX11_isOn := goodIn_r _ [15, 16, 17, 18, 19, 20, 5, 21, 22, 23, 24, 25, 26, 27, 28, 29, 30, 31, 32, 33, 34, 35, 36, 37, 38, 39, 40, 41, 42, 43, 44, 45, 46, 47, 48, 49, 50, 51, 52, 53, 54, 55, 56, 57, 58, 59, 60, 61] (by decide +kernel) (by decide +kernel)
set_option maxRecDepth 20000 in
theorem gX11_isSupported_X11_isOn : GoodIn wsX11_isSupported (wsV RX11 171 RX11 yX11_isOn wsX11_isOn) := goodIn_app (goodIn_of _ (by decide +kernel)) ggX11_isSupported_X11_isOn
theorem dX11_isSupported_0 : decode cX11_isSupported 0 = .ok (.aload_n 0, 1) := by decide +kernel
theorem dX11_isSupported_1 : decode cX11_isSupported 1 = .ok (.iload_n 1, 1) := by decide +kernel
theorem dX11_isSupported_2 : decode cX11_isSupported 2 = .ok (.invokevirtual 165, 3) := by decide +kernel
theorem dX11_isSupported_5 : decode cX11_isSupported 5 = .ok (.ifCond .eq 5, 3) := by decide +kernel
theorem dX11_isSupported_8 : decode cX11_isSupported 8 = .ok (.iconst 1, 1) := by decide +kernel
theorem dX11_isSupported_9 : decode cX11_isSupported 9 = .ok (.ireturn, 1) := by decide +kernel
theorem dX11_isSupported_10 : decode cX11_isSupported 10 = .ok (.aload_n 0, 1) := by decide +kernel
theorem dX11_isSupported_11 : decode cX11_isSupported 11 = .ok (.iload_n 1, 1) := by decide +kernel
theorem dX11_isSupported_12 : decode cX11_isSupported 12 = .ok (.invokevirtual 168, 3) := by decide +kernel
theorem dX11_isSupported_15 : decode cX11_isSupported 15 = .ok (.istore_n 2, 1) := by decide +kernel
theorem dX11_isSupported_16 : decode cX11_isSupported 16 = .ok (.iload_n 2, 1) := by decide +kernel
theorem dX11_isSupported_17 : decode cX11_isSupported 17 = .ok (.iconst (-1), 1) := by decide +kernel
theorem dX11_isSupported_18 : decode cX11_isSupported 18 = .ok (.if_icmp .eq 29, 3) := by decide +kernel
theorem dX11_isSupported_21 : decode cX11_isSupported 21 = .ok (.aload_n 0, 1) := by decide +kernel
theorem dX11_isSupported_22 : decode cX11_isSupported 22 = .ok (.iload_n 1, 1) := by decide +kernel
theorem dX11_isSupported_23 : decode cX11_isSupported 23 = .ok (.aload_n 0, 1) := by decide +kernel
theorem dX11_isSupported_24 : decode cX11_isSupported 24 = .ok (.getfield 48, 3) := by decide +kernel
theorem dX11_isSupported_27 : decode cX11_isSupported 27 = .ok (.iload_n 2, 1) := by decide +kernel
theorem dX11_isSupported_28 : decode cX11_isSupported 28 = .ok (.iaload, 1) := by decide +kernel
theorem dX11_isSupported_29 : decode cX11_isSupported 29 = .ok (.aload_n 0, 1) := by decide +kernel
theorem dX11_isSupported_30 : decode cX11_isSupported 30 = .ok (.getfield 48, 3) := by decide +kernel
theorem dX11_isSupported_33 : decode cX11_isSupported 33 = .ok (.iload_n 2, 1) := by decide +kernel
theorem dX11_isSupported_34 : decode cX11_isSupported 34 = .ok (.iconst 1, 1) := by decide +kernel
theorem dX11_isSupported_35 : decode cX11_isSupported 35 = .ok (.iadd, 1) := by decide +kernel
theorem dX11_isSupported_36 : decode cX11_isSupported 36 = .ok (.iaload, 1) := by decide +kernel
theorem dX11_isSupported_37 : decode cX11_isSupported 37 = .ok (.invokevirtual 171, 3) := by decide +kernel
theorem dX11_isSupported_40 : decode cX11_isSupported 40 = .ok (.ifCond .eq 7, 3) := by decide +kernel
theorem dX11_isSupported_43 : decode cX11_isSupported 43 = .ok (.iconst 1, 1) := by decide +kernel
theorem dX11_isSupported_44 : decode cX11_isSupported 44 = .ok (.goto 4, 3) := by decide +kernel
theorem dX11_isSupported_47 : decode cX11_isSupported 47 = .ok (.iconst 0, 1) := by decide +kernel
theorem dX11_isSupported_48 : decode cX11_isSupported 48 = .ok (.ireturn, 1) := by decide +kernel
set_option maxRecDepth 20000 in
theorem ggX11_layCornersToo_X11_layAll : GoodIn wsX11_layCornersToo wsX11_layAll := goodIn_r _ [5, 6, 7, 8, 4, 9, 10, 11, 12, 13, 14, 15, 16, 17, 18, 19, 20, 21, 22, 23, 24, 25, 26, 27, 28, 29, 30, 31, 32, 33, 34, 35, 36, 37, 38, 39, 40, 41, 42, 43, 44, 45, 46, 47, 48, 49, 50, 51, 52, 53, 54, 55, 56, 57, 58, 59, 60, 61, 62, 63, 64, 65, 66, 67, 68, 69, 70, 71, 72, 73, 74, 75, 76, 77, 78, 79, 80, 81, 82, 83, 84, 85, 100, 101, 102, 103, 104, 105, 106, 107, 108, 109, 110, 111, 112, 113, 114, 115, 116, 117, 118, 119, 120, 121, 122, 123, 124, 125, 126, 127, 128, 129, 130, 131, 132, 133, 134, 135, 136, 137, 138, 139] (by decide +kernel) (by decide +kernel)
set_option maxRecDepth 20000 in
theorem gX11_layCornersToo_X11_layAll : GoodIn wsX11_layCornersToo (wsV RX11 174 RX11 yX11_layAll wsX11_layAll) := goodIn_app (goodIn_of _ (by decide +kernel)) ggX11_layCornersToo_X11_layAll
set_option maxRecDepth 20000 in
theorem ggX11_layCornersToo_X11_layCorners : GoodIn wsX11_layCornersToo wsX11_layCorners := goodIn_r _ [89, 90, 67, 91, 92, 93, 94, 4, 95, 13, 12, 96, 97, 98, 99, 100, 101, 102, 103, 104, 105, 106, 107, 108, 109, 110, 111, 112, 113, 114, 115, 116, 117, 118, 119, 120, 121, 122, 123, 124, 125, 126, 127, 128, 129, 130, 131, 132, 133, 134, 135, 136, 137, 138, 139] (by decide +kernel) (by decide +kernel)
set_option maxRecDepth 20000 in
theorem gX11_layCornersToo_X11_layCorners : GoodIn wsX11_layCornersToo (wsV RX11 177 RX11 yX11_layCorners wsX11_layCorners) := goodIn_app (goodIn_of _ (by decide +kernel)) ggX11_layCornersToo_X11_layCorners
theorem dX11_layCornersToo_0 : decode cX11_layCornersToo 0 = .ok (.aload_n 0, 1) := by decide +kernel
theorem dX11_layCornersToo_1 : decode cX11_layCornersToo 1 = .ok (.invokevirtual 174, 3) := by decide +kernel
theorem dX11_layCornersToo_4 : decode cX11_layCornersToo 4 = .ok (.aload_n 0, 1) := by decide +kernel
theorem dX11_layCornersToo_5 : decode cX11_layCornersToo 5 = .ok (.invokevirtual 177, 3) := by decide +kernel
theorem dX11_layCornersToo_8 : decode cX11_layCornersToo 8 = .ok (.return_, 1) := by decide +kernel
theorem dX11_enqueue_0 : decode cX11_enqueue 0 = .ok (.aload_n 0, 1) := by decide +kernel
theorem dX11_enqueue_1 : decode cX11_enqueue 1 = .ok (.getfield 51, 3) := by decide +kernel
theorem dX11_enqueue_4 : decode cX11_enqueue 4 = .ok (.iconst 3, 1) := by decide +kernel
theorem dX11_enqueue_5 : decode cX11_enqueue 5 = .ok (.aload_n 0, 1) := by decide +kernel
theorem dX11_enqueue_6 : decode cX11_enqueue 6 = .ok (.getfield 180, 3) := by decide +kernel
theorem dX11_enqueue_9 : decode cX11_enqueue 9 = .ok (.imul, 1) := by decide +kernel
theorem dX11_enqueue_10 : decode cX11_enqueue 10 = .ok (.iconst 0, 1) := by decide +kernel
theorem dX11_enqueue_11 : decode cX11_enqueue 11 = .ok (.iadd, 1) := by decide +kernel
theorem dX11_enqueue_12 : decode cX11_enqueue 12 = .ok (.iload_n 1, 1) := by decide +kernel
theorem dX11_enqueue_13 : decode cX11_enqueue 13 = .ok (.iastore, 1) := by decide +kernel
theorem dX11_enqueue_14 : decode cX11_enqueue 14 = .ok (.aload_n 0, 1) := by decide +kernel
theorem dX11_enqueue_15 : decode cX11_enqueue 15 = .ok (.getfield 51, 3) := by decide +kernel
theorem dX11_enqueue_18 : decode cX11_enqueue 18 = .ok (.iconst 3, 1) := by decide +kernel
theorem dX11_enqueue_19 : decode cX11_enqueue 19 = .ok (.aload_n 0, 1) := by decide +kernel
theorem dX11_enqueue_20 : decode cX11_enqueue 20 = .ok (.getfield 180, 3) := by decide +kernel
theorem dX11_enqueue_23 : decode cX11_enqueue 23 = .ok (.imul, 1) := by decide +kernel
theorem dX11_enqueue_24 : decode cX11_enqueue 24 = .ok (.iconst 1, 1) := by decide +kernel
theorem dX11_enqueue_25 : decode cX11_enqueue 25 = .ok (.iadd, 1) := by decide +kernel
theorem dX11_enqueue_26 : decode cX11_enqueue 26 = .ok (.iload_n 2, 1) := by decide +kernel
theorem dX11_enqueue_27 : decode cX11_enqueue 27 = .ok (.iastore, 1) := by decide +kernel
theorem dX11_enqueue_28 : decode cX11_enqueue 28 = .ok (.aload_n 0, 1) := by decide +kernel
theorem dX11_enqueue_29 : decode cX11_enqueue 29 = .ok (.dup, 1) := by decide +kernel
theorem dX11_enqueue_30 : decode cX11_enqueue 30 = .ok (.getfield 180, 3) := by decide +kernel
theorem dX11_enqueue_33 : decode cX11_enqueue 33 = .ok (.iconst 1, 1) := by decide +kernel
theorem dX11_enqueue_34 : decode cX11_enqueue 34 = .ok (.iadd, 1) := by decide +kernel
theorem dX11_enqueue_35 : decode cX11_enqueue 35 = .ok (.putfield 180, 3) := by decide +kernel
theorem dX11_enqueue_38 : decode cX11_enqueue 38 = .ok (.return_, 1) := by decide +kernel
theorem dX11_stepP_0 : decode cX11_stepP 0 = .ok (.aload_n 0, 1) := by decide +kernel
theorem dX11_stepP_1 : decode cX11_stepP 1 = .ok (.getfield 33, 3) := by decide +kernel
theorem dX11_stepP_4 : decode cX11_stepP 4 = .ok (.aload_n 0, 1) := by decide +kernel
theorem dX11_stepP_5 : decode cX11_stepP 5 = .ok (.getfield 51, 3) := by decide +kernel
theorem dX11_stepP_8 : decode cX11_stepP 8 = .ok (.iconst 3, 1) := by decide +kernel
theorem dX11_stepP_9 : decode cX11_stepP 9 = .ok (.iload_n 1, 1) := by decide +kernel
theorem dX11_stepP_10 : decode cX11_stepP 10 = .ok (.imul, 1) := by decide +kernel
theorem dX11_stepP_11 : decode cX11_stepP 11 = .ok (.iconst 0, 1) := by decide +kernel
theorem dX11_stepP_12 : decode cX11_stepP 12 = .ok (.iadd, 1) := by decide +kernel
theorem dX11_stepP_13 : decode cX11_stepP 13 = .ok (.iaload, 1) := by decide +kernel
theorem dX11_stepP_14 : decode cX11_stepP 14 = .ok (.iaload, 1) := by decide +kernel
theorem dX11_stepP_15 : decode cX11_stepP 15 = .ok (.aload_n 0, 1) := by decide +kernel
theorem dX11_stepP_16 : decode cX11_stepP 16 = .ok (.getfield 33, 3) := by decide +kernel
theorem dX11_stepP_19 : decode cX11_stepP 19 = .ok (.aload_n 0, 1) := by decide +kernel
theorem dX11_stepP_20 : decode cX11_stepP 20 = .ok (.getfield 51, 3) := by decide +kernel
theorem dX11_stepP_23 : decode cX11_stepP 23 = .ok (.iconst 3, 1) := by decide +kernel
theorem dX11_stepP_24 : decode cX11_stepP 24 = .ok (.iload_n 1, 1) := by decide +kernel
theorem dX11_stepP_25 : decode cX11_stepP 25 = .ok (.imul, 1) := by decide +kernel
theorem dX11_stepP_26 : decode cX11_stepP 26 = .ok (.iconst 1, 1) := by decide +kernel
theorem dX11_stepP_27 : decode cX11_stepP 27 = .ok (.iadd, 1) := by decide +kernel
theorem dX11_stepP_28 : decode cX11_stepP 28 = .ok (.iaload, 1) := by decide +kernel
theorem dX11_stepP_29 : decode cX11_stepP 29 = .ok (.iaload, 1) := by decide +kernel
theorem dX11_stepP_30 : decode cX11_stepP 30 = .ok (.isub, 1) := by decide +kernel
theorem dX11_stepP_31 : decode cX11_stepP 31 = .ok (.ireturn, 1) := by decide +kernel
theorem dX11_stepQ_0 : decode cX11_stepQ 0 = .ok (.aload_n 0, 1) := by decide +kernel
theorem dX11_stepQ_1 : decode cX11_stepQ 1 = .ok (.getfield 30, 3) := by decide +kernel
theorem dX11_stepQ_4 : decode cX11_stepQ 4 = .ok (.aload_n 0, 1) := by decide +kernel
theorem dX11_stepQ_5 : decode cX11_stepQ 5 = .ok (.getfield 51, 3) := by decide +kernel
theorem dX11_stepQ_8 : decode cX11_stepQ 8 = .ok (.iconst 3, 1) := by decide +kernel
theorem dX11_stepQ_9 : decode cX11_stepQ 9 = .ok (.iload_n 1, 1) := by decide +kernel
theorem dX11_stepQ_10 : decode cX11_stepQ 10 = .ok (.imul, 1) := by decide +kernel
theorem dX11_stepQ_11 : decode cX11_stepQ 11 = .ok (.iconst 1, 1) := by decide +kernel
theorem dX11_stepQ_12 : decode cX11_stepQ 12 = .ok (.iadd, 1) := by decide +kernel
theorem dX11_stepQ_13 : decode cX11_stepQ 13 = .ok (.iaload, 1) := by decide +kernel
theorem dX11_stepQ_14 : decode cX11_stepQ 14 = .ok (.iaload, 1) := by decide +kernel
theorem dX11_stepQ_15 : decode cX11_stepQ 15 = .ok (.aload_n 0, 1) := by decide +kernel
theorem dX11_stepQ_16 : decode cX11_stepQ 16 = .ok (.getfield 30, 3) := by decide +kernel
theorem dX11_stepQ_19 : decode cX11_stepQ 19 = .ok (.aload_n 0, 1) := by decide +kernel
theorem dX11_stepQ_20 : decode cX11_stepQ 20 = .ok (.getfield 51, 3) := by decide +kernel
theorem dX11_stepQ_23 : decode cX11_stepQ 23 = .ok (.iconst 3, 1) := by decide +kernel
theorem dX11_stepQ_24 : decode cX11_stepQ 24 = .ok (.iload_n 1, 1) := by decide +kernel
theorem dX11_stepQ_25 : decode cX11_stepQ 25 = .ok (.imul, 1) := by decide +kernel
theorem dX11_stepQ_26 : decode cX11_stepQ 26 = .ok (.iconst 0, 1) := by decide +kernel
theorem dX11_stepQ_27 : decode cX11_stepQ 27 = .ok (.iadd, 1) := by decide +kernel
theorem dX11_stepQ_28 : decode cX11_stepQ 28 = .ok (.iaload, 1) := by decide +kernel
theorem dX11_stepQ_29 : decode cX11_stepQ 29 = .ok (.iaload, 1) := by decide +kernel
theorem dX11_stepQ_30 : decode cX11_stepQ 30 = .ok (.isub, 1) := by decide +kernel
theorem dX11_stepQ_31 : decode cX11_stepQ 31 = .ok (.ireturn, 1) := by decide +kernel
set_option maxRecDepth 20000 in
theorem ggX11_search_X11_layPoints : GoodIn wsX11_search wsX11_layPoints := goodIn_r _ [9, 10, 11, 12, 13, 14, 15, 16, 17, 8, 18, 19, 20, 21, 22, 23, 24, 25, 26, 27, 28, 29, 30, 31, 32, 33, 34, 35, 36, 37, 38, 39, 40, 41, 42, 43, 44, 45, 46, 47, 48, 49, 50, 51, 52, 53, 54, 55, 56, 57, 58, 59, 60, 61, 62, 63, 64, 65, 66, 3, 87, 88, 89, 90, 91, 92, 93, 94, 95, 96, 97, 98, 99, 100, 101, 102, 103, 104, 105, 106, 107, 108, 109, 110, 111, 112, 113, 114, 115, 116, 117, 118, 119, 120, 121, 122, 123, 124, 125, 126] (by decide +kernel) (by decide +kernel)
set_option maxRecDepth 20000 in
theorem gX11_search_X11_layPoints : GoodIn wsX11_search (wsV RX11 144 RX11 yX11_layPoints wsX11_layPoints) := goodIn_app (goodIn_of _ (by decide +kernel)) ggX11_search_X11_layPoints
set_option maxRecDepth 20000 in
theorem ggX11_search_X11_enqueue : GoodIn wsX11_search wsX11_enqueue := goodIn_r _ [70, 4, 1, 87, 88, 89, 90, 91, 92, 93, 94, 95, 96, 97, 98, 99, 100, 101, 102, 103, 104, 105, 106, 107, 108, 109, 110, 111, 112, 113, 114, 115, 116, 117, 118, 119, 120, 121, 122, 123, 124, 125, 126] (by decide +kernel) (by decide +kernel)
set_option maxRecDepth 20000 in
theorem gX11_search_X11_enqueue : GoodIn wsX11_search (wsV RX11 186 RX11 yX11_enqueue wsX11_enqueue) := goodIn_app (goodIn_of _ (by decide +kernel)) ggX11_search_X11_enqueue
set_option maxRecDepth 20000 in
theorem ggX11_search_X11_stepP : GoodIn wsX11_search wsX11_stepP := goodIn_r _ [74, 13, 4, 87, 88, 89, 90, 91, 92, 93, 94, 95, 96, 97, 98, 99, 100, 101, 102, 103, 104, 105, 106, 107, 108, 109, 110, 111, 112, 113, 114, 115, 116, 117, 118, 119, 120, 121, 122, 123, 124, 125, 126] (by decide +kernel) (by decide +kernel)
set_option maxRecDepth 20000 in
theorem gX11_search_X11_stepP : GoodIn wsX11_search (wsV RX11 189 RX11 yX11_stepP wsX11_stepP) := goodIn_app (goodIn_of _ (by decide +kernel)) ggX11_search_X11_stepP
set_option maxRecDepth 20000 in
theorem ggX11_search_X11_stepQ : GoodIn wsX11_search wsX11_stepQ := goodIn_r _ [78, 12, 4, 87, 88, 89, 90, 91, 92, 93, 94, 95, 96, 97, 98, 99, 100, 101, 102, 103, 104, 105, 106, 107, 108, 109, 110, 111, 112, 113, 114, 115, 116, 117, 118, 119, 120, 121, 122, 123, 124, 125, 126] (by decide +kernel) (by decide +kernel)
set_option maxRecDepth 20000 in
theorem gX11_search_X11_stepQ : GoodIn wsX11_search (wsV RX11 192 RX11 yX11_stepQ wsX11_stepQ) := goodIn_app (goodIn_of _ (by decide +kernel)) ggX11_search_X11_stepQ
set_option maxRecDepth 20000 in
theorem ggX11_search_X11_bestBy : GoodIn wsX11_search wsX11_bestBy := goodIn_r _ [82, 3, 83, 84, 85, 8, 86, 12, 13, 87, 88, 89, 90, 91, 92, 93, 94, 95, 96, 97, 98, 99, 100, 101, 102, 103, 104, 105, 106, 107, 108, 109, 110, 111, 112, 113, 114, 115, 116, 117, 118, 119, 120, 121, 122, 123, 124, 125, 126] (by decide +kernel) (by decide +kernel)
set_option maxRecDepth 20000 in
theorem gX11_search_X11_bestBy : GoodIn wsX11_search (wsV RX11 195 RX11 yX11_bestBy wsX11_bestBy) := goodIn_app (goodIn_of _ (by decide +kernel)) ggX11_search_X11_bestBy
set_option maxRecDepth 20000 in
theorem ggX11_search_X11_valueOf : GoodIn wsX11_search wsX11_valueOf := goodIn_r _ [86, 12, 13, 87, 88, 89, 90, 91, 92, 93, 94, 95, 96, 97, 98, 99, 100, 101, 102, 103, 104, 105, 106, 107, 108, 109, 110, 111, 112, 113, 114, 115, 116, 117, 118, 119, 120, 121, 122, 123, 124, 125, 126] (by decide +kernel) (by decide +kernel)
set_option maxRecDepth 20000 in
theorem gX11_search_X11_valueOf : GoodIn wsX11_search (wsV RX11 154 RX11 yX11_valueOf wsX11_valueOf) := goodIn_app (goodIn_of _ (by decide +kernel)) ggX11_search_X11_valueOf
theorem dX11_search_0 : decode cX11_search 0 = .ok (.aload_n 0, 1) := by decide +kernel
theorem dX11_search_1 : decode cX11_search 1 = .ok (.invokevirtual 144, 3) := by decide +kernel
theorem dX11_search_4 : decode cX11_search 4 = .ok (.aload_n 0, 1) := by decide +kernel
theorem dX11_search_5 : decode cX11_search 5 = .ok (.iconst 0, 1) := by decide +kernel
theorem dX11_search_6 : decode cX11_search 6 = .ok (.putfield 180, 3) := by decide +kernel
theorem dX11_search_9 : decode cX11_search 9 = .ok (.aload_n 0, 1) := by decide +kernel
theorem dX11_search_10 : decode cX11_search 10 = .ok (.iconst 0, 1) := by decide +kernel
theorem dX11_search_11 : decode cX11_search 11 = .ok (.putfield 183, 3) := by decide +kernel
theorem dX11_search_14 : decode cX11_search 14 = .ok (.aload_n 0, 1) := by decide +kernel
theorem dX11_search_15 : decode cX11_search 15 = .ok (.getfield 130, 3) := by decide +kernel
theorem dX11_search_18 : decode cX11_search 18 = .ok (.iconst 1, 1) := by decide +kernel
theorem dX11_search_19 : decode cX11_search 19 = .ok (.if_icmp .le 14, 3) := by decide +kernel
theorem dX11_search_22 : decode cX11_search 22 = .ok (.aload_n 0, 1) := by decide +kernel
theorem dX11_search_23 : decode cX11_search 23 = .ok (.iconst 0, 1) := by decide +kernel
theorem dX11_search_24 : decode cX11_search 24 = .ok (.aload_n 0, 1) := by decide +kernel
theorem dX11_search_25 : decode cX11_search 25 = .ok (.getfield 130, 3) := by decide +kernel
theorem dX11_search_28 : decode cX11_search 28 = .ok (.iconst 1, 1) := by decide +kernel
theorem dX11_search_29 : decode cX11_search 29 = .ok (.isub, 1) := by decide +kernel
theorem dX11_search_30 : decode cX11_search 30 = .ok (.invokevirtual 186, 3) := by decide +kernel
theorem dX11_search_33 : decode cX11_search 33 = .ok (.aload_n 0, 1) := by decide +kernel
theorem dX11_search_34 : decode cX11_search 34 = .ok (.getfield 183, 3) := by decide +kernel
theorem dX11_search_37 : decode cX11_search 37 = .ok (.aload_n 0, 1) := by decide +kernel
theorem dX11_search_38 : decode cX11_search 38 = .ok (.getfield 180, 3) := by decide +kernel
theorem dX11_search_41 : decode cX11_search 41 = .ok (.if_icmp .ge 145, 3) := by decide +kernel
theorem dX11_search_44 : decode cX11_search 44 = .ok (.aload_n 0, 1) := by decide +kernel
theorem dX11_search_45 : decode cX11_search 45 = .ok (.getfield 51, 3) := by decide +kernel
theorem dX11_search_48 : decode cX11_search 48 = .ok (.iconst 3, 1) := by decide +kernel
theorem dX11_search_49 : decode cX11_search 49 = .ok (.aload_n 0, 1) := by decide +kernel
theorem dX11_search_50 : decode cX11_search 50 = .ok (.getfield 183, 3) := by decide +kernel
theorem dX11_search_53 : decode cX11_search 53 = .ok (.imul, 1) := by decide +kernel
theorem dX11_search_54 : decode cX11_search 54 = .ok (.iconst 0, 1) := by decide +kernel
theorem dX11_search_55 : decode cX11_search 55 = .ok (.iadd, 1) := by decide +kernel
theorem dX11_search_56 : decode cX11_search 56 = .ok (.iaload, 1) := by decide +kernel
theorem dX11_search_57 : decode cX11_search 57 = .ok (.istore_n 1, 1) := by decide +kernel
theorem dX11_search_58 : decode cX11_search 58 = .ok (.aload_n 0, 1) := by decide +kernel
theorem dX11_search_59 : decode cX11_search 59 = .ok (.getfield 51, 3) := by decide +kernel
theorem dX11_search_62 : decode cX11_search 62 = .ok (.iconst 3, 1) := by decide +kernel
theorem dX11_search_63 : decode cX11_search 63 = .ok (.aload_n 0, 1) := by decide +kernel
theorem dX11_search_64 : decode cX11_search 64 = .ok (.getfield 183, 3) := by decide +kernel
theorem dX11_search_67 : decode cX11_search 67 = .ok (.imul, 1) := by decide +kernel
theorem dX11_search_68 : decode cX11_search 68 = .ok (.iconst 1, 1) := by decide +kernel
theorem dX11_search_69 : decode cX11_search 69 = .ok (.iadd, 1) := by decide +kernel
theorem dX11_search_70 : decode cX11_search 70 = .ok (.iaload, 1) := by decide +kernel
theorem dX11_search_71 : decode cX11_search 71 = .ok (.istore_n 2, 1) := by decide +kernel
theorem dX11_search_72 : decode cX11_search 72 = .ok (.aload_n 0, 1) := by decide +kernel
theorem dX11_search_73 : decode cX11_search 73 = .ok (.aload_n 0, 1) := by decide +kernel
theorem dX11_search_74 : decode cX11_search 74 = .ok (.getfield 183, 3) := by decide +kernel
theorem dX11_search_77 : decode cX11_search 77 = .ok (.invokevirtual 189, 3) := by decide +kernel
theorem dX11_search_80 : decode cX11_search 80 = .ok (.istore_n 3, 1) := by decide +kernel
theorem dX11_search_81 : decode cX11_search 81 = .ok (.aload_n 0, 1) := by decide +kernel
theorem dX11_search_82 : decode cX11_search 82 = .ok (.aload_n 0, 1) := by decide +kernel
theorem dX11_search_83 : decode cX11_search 83 = .ok (.getfield 183, 3) := by decide +kernel
theorem dX11_search_86 : decode cX11_search 86 = .ok (.invokevirtual 192, 3) := by decide +kernel
theorem dX11_search_89 : decode cX11_search 89 = .ok (.istore 4, 2) := by decide +kernel
theorem dX11_search_91 : decode cX11_search 91 = .ok (.aload_n 0, 1) := by decide +kernel
theorem dX11_search_92 : decode cX11_search 92 = .ok (.iload_n 3, 1) := by decide +kernel
theorem dX11_search_93 : decode cX11_search 93 = .ok (.iload 4, 2) := by decide +kernel
theorem dX11_search_95 : decode cX11_search 95 = .ok (.invokevirtual 195, 3) := by decide +kernel
theorem dX11_search_98 : decode cX11_search 98 = .ok (.istore 5, 2) := by decide +kernel
theorem dX11_search_100 : decode cX11_search 100 = .ok (.aload_n 0, 1) := by decide +kernel
theorem dX11_search_101 : decode cX11_search 101 = .ok (.iload 5, 2) := by decide +kernel
theorem dX11_search_103 : decode cX11_search 103 = .ok (.iload_n 3, 1) := by decide +kernel
theorem dX11_search_104 : decode cX11_search 104 = .ok (.iload 4, 2) := by decide +kernel
theorem dX11_search_106 : decode cX11_search 106 = .ok (.invokevirtual 154, 3) := by decide +kernel
theorem dX11_search_109 : decode cX11_search 109 = .ok (.aload_n 0, 1) := by decide +kernel
theorem dX11_search_110 : decode cX11_search 110 = .ok (.iload_n 1, 1) := by decide +kernel
theorem dX11_search_111 : decode cX11_search 111 = .ok (.iload_n 3, 1) := by decide +kernel
theorem dX11_search_112 : decode cX11_search 112 = .ok (.iload 4, 2) := by decide +kernel
theorem dX11_search_114 : decode cX11_search 114 = .ok (.invokevirtual 154, 3) := by decide +kernel
theorem dX11_search_117 : decode cX11_search 117 = .ok (.if_icmp .le 7, 3) := by decide +kernel
theorem dX11_search_120 : decode cX11_search 120 = .ok (.iconst 1, 1) := by decide +kernel
theorem dX11_search_121 : decode cX11_search 121 = .ok (.goto 4, 3) := by decide +kernel
theorem dX11_search_124 : decode cX11_search 124 = .ok (.iconst 0, 1) := by decide +kernel
theorem dX11_search_125 : decode cX11_search 125 = .ok (.istore 6, 2) := by decide +kernel
theorem dX11_search_127 : decode cX11_search 127 = .ok (.aload_n 0, 1) := by decide +kernel
theorem dX11_search_128 : decode cX11_search 128 = .ok (.getfield 51, 3) := by decide +kernel
theorem dX11_search_131 : decode cX11_search 131 = .ok (.iconst 3, 1) := by decide +kernel
theorem dX11_search_132 : decode cX11_search 132 = .ok (.aload_n 0, 1) := by decide +kernel
theorem dX11_search_133 : decode cX11_search 133 = .ok (.getfield 183, 3) := by decide +kernel
theorem dX11_search_136 : decode cX11_search 136 = .ok (.imul, 1) := by decide +kernel
theorem dX11_search_137 : decode cX11_search 137 = .ok (.iconst 2, 1) := by decide +kernel
theorem dX11_search_138 : decode cX11_search 138 = .ok (.iadd, 1) := by decide +kernel
theorem dX11_search_139 : decode cX11_search 139 = .ok (.iload 6, 2) := by decide +kernel
theorem dX11_search_141 : decode cX11_search 141 = .ok (.ifCond .eq 8, 3) := by decide +kernel
theorem dX11_search_144 : decode cX11_search 144 = .ok (.iload 5, 2) := by decide +kernel
theorem dX11_search_146 : decode cX11_search 146 = .ok (.goto 4, 3) := by decide +kernel
theorem dX11_search_149 : decode cX11_search 149 = .ok (.iconst (-1), 1) := by decide +kernel
theorem dX11_search_150 : decode cX11_search 150 = .ok (.iastore, 1) := by decide +kernel
theorem dX11_search_151 : decode cX11_search 151 = .ok (.aload_n 0, 1) := by decide +kernel
theorem dX11_search_152 : decode cX11_search 152 = .ok (.dup, 1) := by decide +kernel
theorem dX11_search_153 : decode cX11_search 153 = .ok (.getfield 183, 3) := by decide +kernel
theorem dX11_search_156 : decode cX11_search 156 = .ok (.iconst 1, 1) := by decide +kernel
theorem dX11_search_157 : decode cX11_search 157 = .ok (.iadd, 1) := by decide +kernel
theorem dX11_search_158 : decode cX11_search 158 = .ok (.putfield 183, 3) := by decide +kernel
theorem dX11_search_161 : decode cX11_search 161 = .ok (.iload 6, 2) := by decide +kernel
theorem dX11_search_163 : decode cX11_search 163 = .ok (.ifCond .ne 6, 3) := by decide +kernel
theorem dX11_search_166 : decode cX11_search 166 = .ok (.goto (-133), 3) := by decide +kernel
theorem dX11_search_169 : decode cX11_search 169 = .ok (.aload_n 0, 1) := by decide +kernel
theorem dX11_search_170 : decode cX11_search 170 = .ok (.iload_n 1, 1) := by decide +kernel
theorem dX11_search_171 : decode cX11_search 171 = .ok (.iload 5, 2) := by decide +kernel
theorem dX11_search_173 : decode cX11_search 173 = .ok (.invokevirtual 186, 3) := by decide +kernel
theorem dX11_search_176 : decode cX11_search 176 = .ok (.aload_n 0, 1) := by decide +kernel
theorem dX11_search_177 : decode cX11_search 177 = .ok (.iload 5, 2) := by decide +kernel
theorem dX11_search_179 : decode cX11_search 179 = .ok (.iload_n 2, 1) := by decide +kernel
theorem dX11_search_180 : decode cX11_search 180 = .ok (.invokevirtual 186, 3) := by decide +kernel
theorem dX11_search_183 : decode cX11_search 183 = .ok (.goto (-150), 3) := by decide +kernel
theorem dX11_search_186 : decode cX11_search 186 = .ok (.return_, 1) := by decide +kernel
theorem dX11_pairOf_0 : decode cX11_pairOf 0 = .ok (.sipush 2048, 3) := by decide +kernel
theorem dX11_pairOf_3 : decode cX11_pairOf 3 = .ok (.iload_n 0, 1) := by decide +kernel
theorem dX11_pairOf_4 : decode cX11_pairOf 4 = .ok (.imul, 1) := by decide +kernel
theorem dX11_pairOf_5 : decode cX11_pairOf 5 = .ok (.iload_n 1, 1) := by decide +kernel
theorem dX11_pairOf_6 : decode cX11_pairOf 6 = .ok (.iadd, 1) := by decide +kernel
theorem dX11_pairOf_7 : decode cX11_pairOf 7 = .ok (.ireturn, 1) := by decide +kernel
theorem dX11_sortPairs_0 : decode cX11_sortPairs 0 = .ok (.sipush 1093, 3) := by decide +kernel
theorem dX11_sortPairs_3 : decode cX11_sortPairs 3 = .ok (.istore_n 2, 1) := by decide +kernel
theorem dX11_sortPairs_4 : decode cX11_sortPairs 4 = .ok (.iload_n 2, 1) := by decide +kernel
theorem dX11_sortPairs_5 : decode cX11_sortPairs 5 = .ok (.ifCond .le 88, 3) := by decide +kernel
theorem dX11_sortPairs_8 : decode cX11_sortPairs 8 = .ok (.iload_n 2, 1) := by decide +kernel
theorem dX11_sortPairs_9 : decode cX11_sortPairs 9 = .ok (.istore_n 3, 1) := by decide +kernel
theorem dX11_sortPairs_10 : decode cX11_sortPairs 10 = .ok (.iload_n 3, 1) := by decide +kernel
theorem dX11_sortPairs_11 : decode cX11_sortPairs 11 = .ok (.iload_n 1, 1) := by decide +kernel
theorem dX11_sortPairs_12 : decode cX11_sortPairs 12 = .ok (.if_icmp .ge 74, 3) := by decide +kernel
theorem dX11_sortPairs_15 : decode cX11_sortPairs 15 = .ok (.aload_n 0, 1) := by decide +kernel
theorem dX11_sortPairs_16 : decode cX11_sortPairs 16 = .ok (.getfield 54, 3) := by decide +kernel
theorem dX11_sortPairs_19 : decode cX11_sortPairs 19 = .ok (.iload_n 3, 1) := by decide +kernel
theorem dX11_sortPairs_20 : decode cX11_sortPairs 20 = .ok (.iaload, 1) := by decide +kernel
theorem dX11_sortPairs_21 : decode cX11_sortPairs 21 = .ok (.istore 4, 2) := by decide +kernel
theorem dX11_sortPairs_23 : decode cX11_sortPairs 23 = .ok (.iload_n 3, 1) := by decide +kernel
theorem dX11_sortPairs_24 : decode cX11_sortPairs 24 = .ok (.istore 5, 2) := by decide +kernel
theorem dX11_sortPairs_26 : decode cX11_sortPairs 26 = .ok (.iload 5, 2) := by decide +kernel
theorem dX11_sortPairs_28 : decode cX11_sortPairs 28 = .ok (.iload_n 2, 1) := by decide +kernel
theorem dX11_sortPairs_29 : decode cX11_sortPairs 29 = .ok (.if_icmp .lt 42, 3) := by decide +kernel
theorem dX11_sortPairs_32 : decode cX11_sortPairs 32 = .ok (.aload_n 0, 1) := by decide +kernel
theorem dX11_sortPairs_33 : decode cX11_sortPairs 33 = .ok (.getfield 54, 3) := by decide +kernel
theorem dX11_sortPairs_36 : decode cX11_sortPairs 36 = .ok (.iload 5, 2) := by decide +kernel
theorem dX11_sortPairs_38 : decode cX11_sortPairs 38 = .ok (.iload_n 2, 1) := by decide +kernel
theorem dX11_sortPairs_39 : decode cX11_sortPairs 39 = .ok (.isub, 1) := by decide +kernel
theorem dX11_sortPairs_40 : decode cX11_sortPairs 40 = .ok (.iaload, 1) := by decide +kernel
theorem dX11_sortPairs_41 : decode cX11_sortPairs 41 = .ok (.iload 4, 2) := by decide +kernel
theorem dX11_sortPairs_43 : decode cX11_sortPairs 43 = .ok (.if_icmp .ge 28, 3) := by decide +kernel
theorem dX11_sortPairs_46 : decode cX11_sortPairs 46 = .ok (.aload_n 0, 1) := by decide +kernel
theorem dX11_sortPairs_47 : decode cX11_sortPairs 47 = .ok (.getfield 54, 3) := by decide +kernel
theorem dX11_sortPairs_50 : decode cX11_sortPairs 50 = .ok (.iload 5, 2) := by decide +kernel
theorem dX11_sortPairs_52 : decode cX11_sortPairs 52 = .ok (.aload_n 0, 1) := by decide +kernel
theorem dX11_sortPairs_53 : decode cX11_sortPairs 53 = .ok (.getfield 54, 3) := by decide +kernel
theorem dX11_sortPairs_56 : decode cX11_sortPairs 56 = .ok (.iload 5, 2) := by decide +kernel
theorem dX11_sortPairs_58 : decode cX11_sortPairs 58 = .ok (.iload_n 2, 1) := by decide +kernel
theorem dX11_sortPairs_59 : decode cX11_sortPairs 59 = .ok (.isub, 1) := by decide +kernel
theorem dX11_sortPairs_60 : decode cX11_sortPairs 60 = .ok (.iaload, 1) := by decide +kernel
theorem dX11_sortPairs_61 : decode cX11_sortPairs 61 = .ok (.iastore, 1) := by decide +kernel
theorem dX11_sortPairs_62 : decode cX11_sortPairs 62 = .ok (.iload 5, 2) := by decide +kernel
theorem dX11_sortPairs_64 : decode cX11_sortPairs 64 = .ok (.iload_n 2, 1) := by decide +kernel
theorem dX11_sortPairs_65 : decode cX11_sortPairs 65 = .ok (.isub, 1) := by decide +kernel
theorem dX11_sortPairs_66 : decode cX11_sortPairs 66 = .ok (.istore 5, 2) := by decide +kernel
theorem dX11_sortPairs_68 : decode cX11_sortPairs 68 = .ok (.goto (-42), 3) := by decide +kernel
theorem dX11_sortPairs_71 : decode cX11_sortPairs 71 = .ok (.aload_n 0, 1) := by decide +kernel
theorem dX11_sortPairs_72 : decode cX11_sortPairs 72 = .ok (.getfield 54, 3) := by decide +kernel
theorem dX11_sortPairs_75 : decode cX11_sortPairs 75 = .ok (.iload 5, 2) := by decide +kernel
theorem dX11_sortPairs_77 : decode cX11_sortPairs 77 = .ok (.iload 4, 2) := by decide +kernel
theorem dX11_sortPairs_79 : decode cX11_sortPairs 79 = .ok (.iastore, 1) := by decide +kernel
theorem dX11_sortPairs_80 : decode cX11_sortPairs 80 = .ok (.iinc 3 1, 3) := by decide +kernel
theorem dX11_sortPairs_83 : decode cX11_sortPairs 83 = .ok (.goto (-73), 3) := by decide +kernel
theorem dX11_sortPairs_86 : decode cX11_sortPairs 86 = .ok (.iload_n 2, 1) := by decide +kernel
theorem dX11_sortPairs_87 : decode cX11_sortPairs 87 = .ok (.iconst 3, 1) := by decide +kernel
theorem dX11_sortPairs_88 : decode cX11_sortPairs 88 = .ok (.idiv, 1) := by decide +kernel
theorem dX11_sortPairs_89 : decode cX11_sortPairs 89 = .ok (.istore_n 2, 1) := by decide +kernel
theorem dX11_sortPairs_90 : decode cX11_sortPairs 90 = .ok (.goto (-86), 3) := by decide +kernel
theorem dX11_sortPairs_93 : decode cX11_sortPairs 93 = .ok (.return_, 1) := by decide +kernel
set_option maxRecDepth 20000 in
theorem ggX11_layPairs_X11_allSets : GoodIn wsX11_layPairs wsX11_allSets := goodIn_r _ [7, 8, 9, 10, 6, 11, 12, 50, 51, 52, 53, 54, 55, 56, 57, 58, 59, 60, 61, 62, 63, 64, 65, 66, 67, 68, 69, 70, 71, 72, 73, 74, 75, 76, 77, 78, 79, 80, 81, 82, 83, 84, 85, 86, 87, 88, 89] (by decide +kernel) (by decide +kernel)
set_option maxRecDepth 20000 in
theorem gX11_layPairs_X11_allSets : GoodIn wsX11_layPairs (wsV RX11 91 RX11 yX11_allSets wsX11_allSets) := goodIn_app (goodIn_of _ (by decide +kernel)) ggX11_layPairs_X11_allSets
set_option maxRecDepth 20000 in
theorem ggX11_layPairs_X11_isAllowed : GoodIn wsX11_layPairs wsX11_isAllowed := goodIn_r _ [16, 17, 18, 19, 6, 20, 12, 21, 22, 23, 24, 8, 9, 10, 11, 25, 26, 27, 28, 29, 30, 31, 32, 33, 34, 35, 36, 37, 38, 39, 40, 41, 42, 50, 51, 52, 53, 54, 55, 56, 57, 58, 59, 60, 61, 62, 63, 64, 65, 66, 67, 68, 69, 70, 71, 72, 73, 74, 75, 76, 77, 78, 79, 80, 81, 82, 83, 84, 85, 86, 87, 88, 89] (by decide +kernel) (by decide +kernel)
set_option maxRecDepth 20000 in
theorem gX11_layPairs_X11_isAllowed : GoodIn wsX11_layPairs (wsV RX11 122 RX11 yX11_isAllowed wsX11_isAllowed) := goodIn_app (goodIn_of _ (by decide +kernel)) ggX11_layPairs_X11_isAllowed
set_option maxRecDepth 20000 in
theorem ggX11_layPairs_X11_sumOf : GoodIn wsX11_layPairs wsX11_sumOf := goodIn_r _ [24, 8, 9, 10, 6, 11, 12, 25, 26, 27, 28, 29, 30, 31, 50, 51, 52, 53, 54, 55, 56, 57, 58, 59, 60, 61, 62, 63, 64, 65, 66, 67, 68, 69, 70, 71, 72, 73, 74, 75, 76, 77, 78, 79, 80, 81, 82, 83, 84, 85, 86, 87, 88, 89] (by decide +kernel) (by decide +kernel)
set_option maxRecDepth 20000 in
theorem gX11_layPairs_X11_sumOf : GoodIn wsX11_layPairs (wsV RX11 102 RX11 yX11_sumOf wsX11_sumOf) := goodIn_app (goodIn_of _ (by decide +kernel)) ggX11_layPairs_X11_sumOf
set_option maxRecDepth 20000 in
theorem ggX11_layPairs_X11_pairOf : GoodIn wsX11_layPairs wsX11_pairOf := goodIn_r _ [45] (by decide +kernel) (by decide +kernel)
set_option maxRecDepth 20000 in
theorem gX11_layPairs_X11_pairOf : GoodIn wsX11_layPairs (va_wsS RX11 198 yX11_pairOf wsX11_pairOf) := goodIn_app (goodIn_of _ (by decide +kernel)) ggX11_layPairs_X11_pairOf
set_option maxRecDepth 20000 in
theorem ggX11_layPairs_X11_sortPairs : GoodIn wsX11_layPairs wsX11_sortPairs := goodIn_r _ [49, 1, 50, 51, 52, 53, 54, 55, 56, 57, 58, 59, 60, 61, 62, 63, 64, 65, 66, 67, 68, 69, 70, 71, 72, 73, 74, 75, 76, 77, 78, 79, 80, 81, 82, 83, 84, 85, 86, 87, 88, 89] (by decide +kernel) (by decide +kernel)
set_option maxRecDepth 20000 in
theorem gX11_layPairs_X11_sortPairs : GoodIn wsX11_layPairs (wsV RX11 201 RX11 yX11_sortPairs wsX11_sortPairs) := goodIn_app (goodIn_of _ (by decide +kernel)) ggX11_layPairs_X11_sortPairs
theorem dX11_layPairs_0 : decode cX11_layPairs 0 = .ok (.iconst 0, 1) := by decide +kernel
theorem dX11_layPairs_1 : decode cX11_layPairs 1 = .ok (.istore_n 1, 1) := by decide +kernel
theorem dX11_layPairs_2 : decode cX11_layPairs 2 = .ok (.iconst 0, 1) := by decide +kernel
theorem dX11_layPairs_3 : decode cX11_layPairs 3 = .ok (.istore_n 2, 1) := by decide +kernel
theorem dX11_layPairs_4 : decode cX11_layPairs 4 = .ok (.iload_n 2, 1) := by decide +kernel
theorem dX11_layPairs_5 : decode cX11_layPairs 5 = .ok (.aload_n 0, 1) := by decide +kernel
theorem dX11_layPairs_6 : decode cX11_layPairs 6 = .ok (.invokevirtual 91, 3) := by decide +kernel
theorem dX11_layPairs_9 : decode cX11_layPairs 9 = .ok (.if_icmp .ge 44, 3) := by decide +kernel
theorem dX11_layPairs_12 : decode cX11_layPairs 12 = .ok (.aload_n 0, 1) := by decide +kernel
theorem dX11_layPairs_13 : decode cX11_layPairs 13 = .ok (.iload_n 2, 1) := by decide +kernel
theorem dX11_layPairs_14 : decode cX11_layPairs 14 = .ok (.invokevirtual 122, 3) := by decide +kernel
theorem dX11_layPairs_17 : decode cX11_layPairs 17 = .ok (.ifCond .ne 6, 3) := by decide +kernel
theorem dX11_layPairs_20 : decode cX11_layPairs 20 = .ok (.goto 27, 3) := by decide +kernel
theorem dX11_layPairs_23 : decode cX11_layPairs 23 = .ok (.aload_n 0, 1) := by decide +kernel
theorem dX11_layPairs_24 : decode cX11_layPairs 24 = .ok (.getfield 54, 3) := by decide +kernel
theorem dX11_layPairs_27 : decode cX11_layPairs 27 = .ok (.iload_n 1, 1) := by decide +kernel
theorem dX11_layPairs_28 : decode cX11_layPairs 28 = .ok (.aload_n 0, 1) := by decide +kernel
theorem dX11_layPairs_29 : decode cX11_layPairs 29 = .ok (.iload_n 2, 1) := by decide +kernel
theorem dX11_layPairs_30 : decode cX11_layPairs 30 = .ok (.iconst 1, 1) := by decide +kernel
theorem dX11_layPairs_31 : decode cX11_layPairs 31 = .ok (.invokevirtual 102, 3) := by decide +kernel
theorem dX11_layPairs_34 : decode cX11_layPairs 34 = .ok (.aload_n 0, 1) := by decide +kernel
theorem dX11_layPairs_35 : decode cX11_layPairs 35 = .ok (.iload_n 2, 1) := by decide +kernel
theorem dX11_layPairs_36 : decode cX11_layPairs 36 = .ok (.iconst 2, 1) := by decide +kernel
theorem dX11_layPairs_37 : decode cX11_layPairs 37 = .ok (.invokevirtual 102, 3) := by decide +kernel
theorem dX11_layPairs_40 : decode cX11_layPairs 40 = .ok (.invokestatic 198, 3) := by decide +kernel
theorem dX11_layPairs_43 : decode cX11_layPairs 43 = .ok (.iastore, 1) := by decide +kernel
theorem dX11_layPairs_44 : decode cX11_layPairs 44 = .ok (.iinc 1 1, 3) := by decide +kernel
theorem dX11_layPairs_47 : decode cX11_layPairs 47 = .ok (.iinc 2 1, 3) := by decide +kernel
theorem dX11_layPairs_50 : decode cX11_layPairs 50 = .ok (.goto (-46), 3) := by decide +kernel
theorem dX11_layPairs_53 : decode cX11_layPairs 53 = .ok (.aload_n 0, 1) := by decide +kernel
theorem dX11_layPairs_54 : decode cX11_layPairs 54 = .ok (.iload_n 1, 1) := by decide +kernel
theorem dX11_layPairs_55 : decode cX11_layPairs 55 = .ok (.invokevirtual 201, 3) := by decide +kernel
theorem dX11_layPairs_58 : decode cX11_layPairs 58 = .ok (.aload_n 0, 1) := by decide +kernel
theorem dX11_layPairs_59 : decode cX11_layPairs 59 = .ok (.iconst 0, 1) := by decide +kernel
theorem dX11_layPairs_60 : decode cX11_layPairs 60 = .ok (.putfield 205, 3) := by decide +kernel
theorem dX11_layPairs_63 : decode cX11_layPairs 63 = .ok (.iconst 0, 1) := by decide +kernel
theorem dX11_layPairs_64 : decode cX11_layPairs 64 = .ok (.istore_n 2, 1) := by decide +kernel
theorem dX11_layPairs_65 : decode cX11_layPairs 65 = .ok (.iload_n 2, 1) := by decide +kernel
theorem dX11_layPairs_66 : decode cX11_layPairs 66 = .ok (.iload_n 1, 1) := by decide +kernel
theorem dX11_layPairs_67 : decode cX11_layPairs 67 = .ok (.if_icmp .ge 61, 3) := by decide +kernel
theorem dX11_layPairs_70 : decode cX11_layPairs 70 = .ok (.iload_n 2, 1) := by decide +kernel
theorem dX11_layPairs_71 : decode cX11_layPairs 71 = .ok (.ifCond .le 26, 3) := by decide +kernel
theorem dX11_layPairs_74 : decode cX11_layPairs 74 = .ok (.aload_n 0, 1) := by decide +kernel
theorem dX11_layPairs_75 : decode cX11_layPairs 75 = .ok (.getfield 54, 3) := by decide +kernel
theorem dX11_layPairs_78 : decode cX11_layPairs 78 = .ok (.iload_n 2, 1) := by decide +kernel
theorem dX11_layPairs_79 : decode cX11_layPairs 79 = .ok (.iaload, 1) := by decide +kernel
theorem dX11_layPairs_80 : decode cX11_layPairs 80 = .ok (.aload_n 0, 1) := by decide +kernel
theorem dX11_layPairs_81 : decode cX11_layPairs 81 = .ok (.getfield 54, 3) := by decide +kernel
theorem dX11_layPairs_84 : decode cX11_layPairs 84 = .ok (.aload_n 0, 1) := by decide +kernel
theorem dX11_layPairs_85 : decode cX11_layPairs 85 = .ok (.getfield 205, 3) := by decide +kernel
theorem dX11_layPairs_88 : decode cX11_layPairs 88 = .ok (.iconst 1, 1) := by decide +kernel
theorem dX11_layPairs_89 : decode cX11_layPairs 89 = .ok (.isub, 1) := by decide +kernel
theorem dX11_layPairs_90 : decode cX11_layPairs 90 = .ok (.iaload, 1) := by decide +kernel
theorem dX11_layPairs_91 : decode cX11_layPairs 91 = .ok (.if_icmp .ne 6, 3) := by decide +kernel
theorem dX11_layPairs_94 : decode cX11_layPairs 94 = .ok (.goto 28, 3) := by decide +kernel
theorem dX11_layPairs_97 : decode cX11_layPairs 97 = .ok (.aload_n 0, 1) := by decide +kernel
theorem dX11_layPairs_98 : decode cX11_layPairs 98 = .ok (.getfield 54, 3) := by decide +kernel
theorem dX11_layPairs_101 : decode cX11_layPairs 101 = .ok (.aload_n 0, 1) := by decide +kernel
theorem dX11_layPairs_102 : decode cX11_layPairs 102 = .ok (.getfield 205, 3) := by decide +kernel
theorem dX11_layPairs_105 : decode cX11_layPairs 105 = .ok (.aload_n 0, 1) := by decide +kernel
theorem dX11_layPairs_106 : decode cX11_layPairs 106 = .ok (.getfield 54, 3) := by decide +kernel
theorem dX11_layPairs_109 : decode cX11_layPairs 109 = .ok (.iload_n 2, 1) := by decide +kernel
theorem dX11_layPairs_110 : decode cX11_layPairs 110 = .ok (.iaload, 1) := by decide +kernel
theorem dX11_layPairs_111 : decode cX11_layPairs 111 = .ok (.iastore, 1) := by decide +kernel
theorem dX11_layPairs_112 : decode cX11_layPairs 112 = .ok (.aload_n 0, 1) := by decide +kernel
theorem dX11_layPairs_113 : decode cX11_layPairs 113 = .ok (.dup, 1) := by decide +kernel
theorem dX11_layPairs_114 : decode cX11_layPairs 114 = .ok (.getfield 205, 3) := by decide +kernel
theorem dX11_layPairs_117 : decode cX11_layPairs 117 = .ok (.iconst 1, 1) := by decide +kernel
theorem dX11_layPairs_118 : decode cX11_layPairs 118 = .ok (.iadd, 1) := by decide +kernel
theorem dX11_layPairs_119 : decode cX11_layPairs 119 = .ok (.putfield 205, 3) := by decide +kernel
theorem dX11_layPairs_122 : decode cX11_layPairs 122 = .ok (.iinc 2 1, 3) := by decide +kernel
theorem dX11_layPairs_125 : decode cX11_layPairs 125 = .ok (.goto (-60), 3) := by decide +kernel
theorem dX11_layPairs_128 : decode cX11_layPairs 128 = .ok (.return_, 1) := by decide +kernel
set_option maxRecDepth 20000 in
theorem ggX11_layLayers_X11_layPairs : GoodIn wsX11_layLayers wsX11_layPairs := goodIn_r _ [10, 3, 2, 11, 12, 13, 9, 14, 15, 16, 17, 18, 19, 20, 21, 22, 23, 24, 25, 26, 27, 28, 29, 30, 31, 32, 33, 34, 35, 36, 37, 38, 39, 40, 41, 42, 43, 44, 45, 46, 47, 48, 49, 50, 51, 52, 53, 54, 55, 56, 57, 58, 59, 60, 61, 62, 63, 64, 65, 66, 67, 68, 69, 70, 71, 72, 73, 74, 75, 76, 77, 78, 79, 80, 81, 82, 83, 84, 85, 86, 87, 88, 89, 90, 91, 92, 93, 94, 95, 96] (by decide +kernel) (by decide +kernel)
set_option maxRecDepth 20000 in
theorem gX11_layLayers_X11_layPairs : GoodIn wsX11_layLayers (wsV RX11 208 RX11 yX11_layPairs wsX11_layPairs) := goodIn_app (goodIn_of _ (by decide +kernel)) ggX11_layLayers_X11_layPairs
theorem dX11_layLayers_0 : decode cX11_layLayers 0 = .ok (.aload_n 0, 1) := by decide +kernel
theorem dX11_layLayers_1 : decode cX11_layLayers 1 = .ok (.invokevirtual 208, 3) := by decide +kernel
theorem dX11_layLayers_4 : decode cX11_layLayers 4 = .ok (.aload_n 0, 1) := by decide +kernel
theorem dX11_layLayers_5 : decode cX11_layLayers 5 = .ok (.iconst 0, 1) := by decide +kernel
theorem dX11_layLayers_6 : decode cX11_layLayers 6 = .ok (.putfield 211, 3) := by decide +kernel
theorem dX11_layLayers_9 : decode cX11_layLayers 9 = .ok (.iconst 0, 1) := by decide +kernel
theorem dX11_layLayers_10 : decode cX11_layLayers 10 = .ok (.istore_n 1, 1) := by decide +kernel
theorem dX11_layLayers_11 : decode cX11_layLayers 11 = .ok (.iload_n 1, 1) := by decide +kernel
theorem dX11_layLayers_12 : decode cX11_layLayers 12 = .ok (.aload_n 0, 1) := by decide +kernel
theorem dX11_layLayers_13 : decode cX11_layLayers 13 = .ok (.getfield 205, 3) := by decide +kernel
theorem dX11_layLayers_16 : decode cX11_layLayers 16 = .ok (.if_icmp .ge 78, 3) := by decide +kernel
theorem dX11_layLayers_19 : decode cX11_layLayers 19 = .ok (.aload_n 0, 1) := by decide +kernel
theorem dX11_layLayers_20 : decode cX11_layLayers 20 = .ok (.getfield 54, 3) := by decide +kernel
theorem dX11_layLayers_23 : decode cX11_layLayers 23 = .ok (.iload_n 1, 1) := by decide +kernel
theorem dX11_layLayers_24 : decode cX11_layLayers 24 = .ok (.iaload, 1) := by decide +kernel
theorem dX11_layLayers_25 : decode cX11_layLayers 25 = .ok (.sipush 2048, 3) := by decide +kernel
theorem dX11_layLayers_28 : decode cX11_layLayers 28 = .ok (.irem, 1) := by decide +kernel
theorem dX11_layLayers_29 : decode cX11_layLayers 29 = .ok (.istore_n 2, 1) := by decide +kernel
theorem dX11_layLayers_30 : decode cX11_layLayers 30 = .ok (.iconst 0, 1) := by decide +kernel
theorem dX11_layLayers_31 : decode cX11_layLayers 31 = .ok (.istore_n 3, 1) := by decide +kernel
theorem dX11_layLayers_32 : decode cX11_layLayers 32 = .ok (.iload_n 3, 1) := by decide +kernel
theorem dX11_layLayers_33 : decode cX11_layLayers 33 = .ok (.aload_n 0, 1) := by decide +kernel
theorem dX11_layLayers_34 : decode cX11_layLayers 34 = .ok (.getfield 211, 3) := by decide +kernel
theorem dX11_layLayers_37 : decode cX11_layLayers 37 = .ok (.if_icmp .ge 19, 3) := by decide +kernel
theorem dX11_layLayers_40 : decode cX11_layLayers 40 = .ok (.aload_n 0, 1) := by decide +kernel
theorem dX11_layLayers_41 : decode cX11_layLayers 41 = .ok (.getfield 60, 3) := by decide +kernel
theorem dX11_layLayers_44 : decode cX11_layLayers 44 = .ok (.iload_n 3, 1) := by decide +kernel
theorem dX11_layLayers_45 : decode cX11_layLayers 45 = .ok (.iaload, 1) := by decide +kernel
theorem dX11_layLayers_46 : decode cX11_layLayers 46 = .ok (.iload_n 2, 1) := by decide +kernel
theorem dX11_layLayers_47 : decode cX11_layLayers 47 = .ok (.if_icmp .lt 9, 3) := by decide +kernel
theorem dX11_layLayers_50 : decode cX11_layLayers 50 = .ok (.iinc 3 1, 3) := by decide +kernel
theorem dX11_layLayers_53 : decode cX11_layLayers 53 = .ok (.goto (-21), 3) := by decide +kernel
theorem dX11_layLayers_56 : decode cX11_layLayers 56 = .ok (.iload_n 3, 1) := by decide +kernel
theorem dX11_layLayers_57 : decode cX11_layLayers 57 = .ok (.aload_n 0, 1) := by decide +kernel
theorem dX11_layLayers_58 : decode cX11_layLayers 58 = .ok (.getfield 211, 3) := by decide +kernel
theorem dX11_layLayers_61 : decode cX11_layLayers 61 = .ok (.if_icmp .ne 13, 3) := by decide +kernel
theorem dX11_layLayers_64 : decode cX11_layLayers 64 = .ok (.aload_n 0, 1) := by decide +kernel
theorem dX11_layLayers_65 : decode cX11_layLayers 65 = .ok (.dup, 1) := by decide +kernel
theorem dX11_layLayers_66 : decode cX11_layLayers 66 = .ok (.getfield 211, 3) := by decide +kernel
theorem dX11_layLayers_69 : decode cX11_layLayers 69 = .ok (.iconst 1, 1) := by decide +kernel
theorem dX11_layLayers_70 : decode cX11_layLayers 70 = .ok (.iadd, 1) := by decide +kernel
theorem dX11_layLayers_71 : decode cX11_layLayers 71 = .ok (.putfield 211, 3) := by decide +kernel
theorem dX11_layLayers_74 : decode cX11_layLayers 74 = .ok (.aload_n 0, 1) := by decide +kernel
theorem dX11_layLayers_75 : decode cX11_layLayers 75 = .ok (.getfield 60, 3) := by decide +kernel
theorem dX11_layLayers_78 : decode cX11_layLayers 78 = .ok (.iload_n 3, 1) := by decide +kernel
theorem dX11_layLayers_79 : decode cX11_layLayers 79 = .ok (.iload_n 2, 1) := by decide +kernel
theorem dX11_layLayers_80 : decode cX11_layLayers 80 = .ok (.iastore, 1) := by decide +kernel
theorem dX11_layLayers_81 : decode cX11_layLayers 81 = .ok (.aload_n 0, 1) := by decide +kernel
theorem dX11_layLayers_82 : decode cX11_layLayers 82 = .ok (.getfield 57, 3) := by decide +kernel
theorem dX11_layLayers_85 : decode cX11_layLayers 85 = .ok (.iload_n 1, 1) := by decide +kernel
theorem dX11_layLayers_86 : decode cX11_layLayers 86 = .ok (.iload_n 3, 1) := by decide +kernel
theorem dX11_layLayers_87 : decode cX11_layLayers 87 = .ok (.iastore, 1) := by decide +kernel
theorem dX11_layLayers_88 : decode cX11_layLayers 88 = .ok (.iinc 1 1, 3) := by decide +kernel
theorem dX11_layLayers_91 : decode cX11_layLayers 91 = .ok (.goto (-80), 3) := by decide +kernel
theorem dX11_layLayers_94 : decode cX11_layLayers 94 = .ok (.return_, 1) := by decide +kernel
set_option maxRecDepth 20000 in
theorem ggX11_valueBy_X11_sumOf : GoodIn wsX11_valueBy wsX11_sumOf := goodIn_r _ [5, 6, 7, 8, 4, 9, 10, 11, 12, 13, 14, 15, 16, 17, 18, 19, 20, 21, 22, 23, 24, 25, 26, 27, 28, 29, 30, 31, 32, 33, 34, 35, 36, 37, 38, 39, 40, 41, 42, 43, 44, 45, 46, 47, 48, 49, 50, 51, 52, 53, 54, 55, 56, 57] (by decide +kernel) (by decide +kernel)
set_option maxRecDepth 20000 in
theorem gX11_valueBy_X11_sumOf : GoodIn wsX11_valueBy (wsV RX11 102 RX11 yX11_sumOf wsX11_sumOf) := goodIn_app (goodIn_of _ (by decide +kernel)) ggX11_valueBy_X11_sumOf
theorem dX11_valueBy_0 : decode cX11_valueBy 0 = .ok (.iload_n 2, 1) := by decide +kernel
theorem dX11_valueBy_1 : decode cX11_valueBy 1 = .ok (.aload_n 0, 1) := by decide +kernel
theorem dX11_valueBy_2 : decode cX11_valueBy 2 = .ok (.iload_n 1, 1) := by decide +kernel
theorem dX11_valueBy_3 : decode cX11_valueBy 3 = .ok (.iconst 1, 1) := by decide +kernel
theorem dX11_valueBy_4 : decode cX11_valueBy 4 = .ok (.invokevirtual 102, 3) := by decide +kernel
theorem dX11_valueBy_7 : decode cX11_valueBy 7 = .ok (.imul, 1) := by decide +kernel
theorem dX11_valueBy_8 : decode cX11_valueBy 8 = .ok (.iload_n 3, 1) := by decide +kernel
theorem dX11_valueBy_9 : decode cX11_valueBy 9 = .ok (.aload_n 0, 1) := by decide +kernel
theorem dX11_valueBy_10 : decode cX11_valueBy 10 = .ok (.iload_n 1, 1) := by decide +kernel
theorem dX11_valueBy_11 : decode cX11_valueBy 11 = .ok (.iconst 2, 1) := by decide +kernel
theorem dX11_valueBy_12 : decode cX11_valueBy 12 = .ok (.invokevirtual 102, 3) := by decide +kernel
theorem dX11_valueBy_15 : decode cX11_valueBy 15 = .ok (.imul, 1) := by decide +kernel
theorem dX11_valueBy_16 : decode cX11_valueBy 16 = .ok (.iadd, 1) := by decide +kernel
theorem dX11_valueBy_17 : decode cX11_valueBy 17 = .ok (.ireturn, 1) := by decide +kernel
set_option maxRecDepth 20000 in
theorem ggX11_lookAt_X11_isAllowed : GoodIn wsX11_lookAt wsX11_isAllowed := goodIn_r _ [6, 7, 8, 9, 5, 10, 11, 12, 13, 14, 15, 16, 17, 18, 19, 20, 21, 22, 23, 24, 25, 26, 27, 28, 29, 30, 31, 32, 33, 34, 35, 36, 37, 42, 43, 44, 45, 46, 47, 48, 49, 50, 51, 52, 53, 54, 55, 56, 57, 58, 59, 60, 61, 62, 63, 64, 65, 66, 67, 68, 69, 70, 71, 72, 73, 74, 75, 76, 77, 78, 79, 80, 81] (by decide +kernel) (by decide +kernel)
set_option maxRecDepth 20000 in
theorem gX11_lookAt_X11_isAllowed : GoodIn wsX11_lookAt (wsV RX11 122 RX11 yX11_isAllowed wsX11_isAllowed) := goodIn_app (goodIn_of _ (by decide +kernel)) ggX11_lookAt_X11_isAllowed
set_option maxRecDepth 20000 in
theorem ggX11_lookAt_X11_valueBy : GoodIn wsX11_lookAt wsX11_valueBy := goodIn_r _ [41, 12, 13, 14, 5, 15, 16, 17, 18, 19, 11, 20, 21, 22, 23, 24, 25, 26, 42, 43, 44, 45, 46, 47, 48, 49, 50, 51, 52, 53, 54, 55, 56, 57, 58, 59, 60, 61, 62, 63, 64, 65, 66, 67, 68, 69, 70, 71, 72, 73, 74, 75, 76, 77, 78, 79, 80, 81] (by decide +kernel) (by decide +kernel)
set_option maxRecDepth 20000 in
theorem gX11_lookAt_X11_valueBy : GoodIn wsX11_lookAt (wsV RX11 217 RX11 yX11_valueBy wsX11_valueBy) := goodIn_app (goodIn_of _ (by decide +kernel)) ggX11_lookAt_X11_valueBy
theorem dX11_lookAt_0 : decode cX11_lookAt 0 = .ok (.aload_n 0, 1) := by decide +kernel
theorem dX11_lookAt_1 : decode cX11_lookAt 1 = .ok (.iload_n 1, 1) := by decide +kernel
theorem dX11_lookAt_2 : decode cX11_lookAt 2 = .ok (.invokevirtual 122, 3) := by decide +kernel
theorem dX11_lookAt_5 : decode cX11_lookAt 5 = .ok (.ifCond .ne 4, 3) := by decide +kernel
theorem dX11_lookAt_8 : decode cX11_lookAt 8 = .ok (.return_, 1) := by decide +kernel
theorem dX11_lookAt_9 : decode cX11_lookAt 9 = .ok (.aload_n 0, 1) := by decide +kernel
theorem dX11_lookAt_10 : decode cX11_lookAt 10 = .ok (.getfield 214, 3) := by decide +kernel
theorem dX11_lookAt_13 : decode cX11_lookAt 13 = .ok (.iconst (-1), 1) := by decide +kernel
theorem dX11_lookAt_14 : decode cX11_lookAt 14 = .ok (.if_icmp .ne 9, 3) := by decide +kernel
theorem dX11_lookAt_17 : decode cX11_lookAt 17 = .ok (.aload_n 0, 1) := by decide +kernel
theorem dX11_lookAt_18 : decode cX11_lookAt 18 = .ok (.iload_n 1, 1) := by decide +kernel
theorem dX11_lookAt_19 : decode cX11_lookAt 19 = .ok (.putfield 214, 3) := by decide +kernel
theorem dX11_lookAt_22 : decode cX11_lookAt 22 = .ok (.return_, 1) := by decide +kernel
theorem dX11_lookAt_23 : decode cX11_lookAt 23 = .ok (.aload_n 0, 1) := by decide +kernel
theorem dX11_lookAt_24 : decode cX11_lookAt 24 = .ok (.iload_n 1, 1) := by decide +kernel
theorem dX11_lookAt_25 : decode cX11_lookAt 25 = .ok (.iload_n 2, 1) := by decide +kernel
theorem dX11_lookAt_26 : decode cX11_lookAt 26 = .ok (.iload_n 3, 1) := by decide +kernel
theorem dX11_lookAt_27 : decode cX11_lookAt 27 = .ok (.invokevirtual 217, 3) := by decide +kernel
theorem dX11_lookAt_30 : decode cX11_lookAt 30 = .ok (.aload_n 0, 1) := by decide +kernel
theorem dX11_lookAt_31 : decode cX11_lookAt 31 = .ok (.aload_n 0, 1) := by decide +kernel
theorem dX11_lookAt_32 : decode cX11_lookAt 32 = .ok (.getfield 214, 3) := by decide +kernel
theorem dX11_lookAt_35 : decode cX11_lookAt 35 = .ok (.iload_n 2, 1) := by decide +kernel
theorem dX11_lookAt_36 : decode cX11_lookAt 36 = .ok (.iload_n 3, 1) := by decide +kernel
theorem dX11_lookAt_37 : decode cX11_lookAt 37 = .ok (.invokevirtual 217, 3) := by decide +kernel
theorem dX11_lookAt_40 : decode cX11_lookAt 40 = .ok (.isub, 1) := by decide +kernel
theorem dX11_lookAt_41 : decode cX11_lookAt 41 = .ok (.istore 4, 2) := by decide +kernel
theorem dX11_lookAt_43 : decode cX11_lookAt 43 = .ok (.iload 4, 2) := by decide +kernel
theorem dX11_lookAt_45 : decode cX11_lookAt 45 = .ok (.ifCond .gt 16, 3) := by decide +kernel
theorem dX11_lookAt_48 : decode cX11_lookAt 48 = .ok (.iload 4, 2) := by decide +kernel
theorem dX11_lookAt_50 : decode cX11_lookAt 50 = .ok (.ifCond .ne 16, 3) := by decide +kernel
theorem dX11_lookAt_53 : decode cX11_lookAt 53 = .ok (.iload_n 1, 1) := by decide +kernel
theorem dX11_lookAt_54 : decode cX11_lookAt 54 = .ok (.aload_n 0, 1) := by decide +kernel
theorem dX11_lookAt_55 : decode cX11_lookAt 55 = .ok (.getfield 214, 3) := by decide +kernel
theorem dX11_lookAt_58 : decode cX11_lookAt 58 = .ok (.if_icmp .ge 8, 3) := by decide +kernel
theorem dX11_lookAt_61 : decode cX11_lookAt 61 = .ok (.aload_n 0, 1) := by decide +kernel
theorem dX11_lookAt_62 : decode cX11_lookAt 62 = .ok (.iload_n 1, 1) := by decide +kernel
theorem dX11_lookAt_63 : decode cX11_lookAt 63 = .ok (.putfield 214, 3) := by decide +kernel
theorem dX11_lookAt_66 : decode cX11_lookAt 66 = .ok (.return_, 1) := by decide +kernel
set_option maxRecDepth 20000 in
theorem ggX11_nextFrom_X11_many : GoodIn wsX11_nextFrom wsX11_many := goodIn_r _ [6, 7, 46, 47, 48, 49, 50, 51, 52, 53, 54, 55, 56, 57, 58, 59, 60, 61, 62, 63, 64, 65, 66, 67, 68, 69, 70, 71, 72, 73, 74, 75, 76, 77, 78, 79, 80, 81, 82, 83, 84, 85] (by decide +kernel) (by decide +kernel)
set_option maxRecDepth 20000 in
theorem gX11_nextFrom_X11_many : GoodIn wsX11_nextFrom (wsV RX11 83 RX11 yX11_many wsX11_many) := goodIn_app (goodIn_of _ (by decide +kernel)) ggX11_nextFrom_X11_many
set_option maxRecDepth 20000 in
theorem ggX11_nextFrom_X11_lookAt : GoodIn wsX11_nextFrom wsX11_lookAt := goodIn_r _ [11, 1, 12, 13, 14, 5, 15, 16, 17, 18, 19, 7, 20, 21, 22, 23, 2, 3, 4, 6, 24, 25, 26, 27, 28, 29, 30, 31, 32, 33, 34, 35, 36, 37, 38, 39, 40, 41, 42, 43, 44, 45, 46, 47, 48, 49, 50, 51, 52, 53, 54, 55, 56, 57, 58, 59, 60, 61, 62, 63, 64, 65, 66, 67, 68, 69, 70, 71, 72, 73, 74, 75, 76, 77, 78, 79, 80, 81, 82, 83, 84, 85] (by decide +kernel) (by decide +kernel)
set_option maxRecDepth 20000 in
theorem gX11_nextFrom_X11_lookAt : GoodIn wsX11_nextFrom (wsV RX11 220 RX11 yX11_lookAt wsX11_lookAt) := goodIn_app (goodIn_of _ (by decide +kernel)) ggX11_nextFrom_X11_lookAt
set_option maxRecDepth 20000 in
theorem ggX11_nextFrom_X11_has : GoodIn wsX11_nextFrom wsX11_has := goodIn_r _ [26] (by decide +kernel) (by decide +kernel)
set_option maxRecDepth 20000 in
theorem gX11_nextFrom_X11_has : GoodIn wsX11_nextFrom (va_wsS RX11 94 yX11_has wsX11_has) := goodIn_app (goodIn_of _ (by decide +kernel)) ggX11_nextFrom_X11_has
theorem dX11_nextFrom_0 : decode cX11_nextFrom 0 = .ok (.aload_n 0, 1) := by decide +kernel
theorem dX11_nextFrom_1 : decode cX11_nextFrom 1 = .ok (.iconst (-1), 1) := by decide +kernel
theorem dX11_nextFrom_2 : decode cX11_nextFrom 2 = .ok (.putfield 214, 3) := by decide +kernel
theorem dX11_nextFrom_5 : decode cX11_nextFrom 5 = .ok (.iconst 0, 1) := by decide +kernel
theorem dX11_nextFrom_6 : decode cX11_nextFrom 6 = .ok (.istore 4, 2) := by decide +kernel
theorem dX11_nextFrom_8 : decode cX11_nextFrom 8 = .ok (.iload 4, 2) := by decide +kernel
theorem dX11_nextFrom_10 : decode cX11_nextFrom 10 = .ok (.aload_n 0, 1) := by decide +kernel
theorem dX11_nextFrom_11 : decode cX11_nextFrom 11 = .ok (.invokevirtual 83, 3) := by decide +kernel
theorem dX11_nextFrom_14 : decode cX11_nextFrom 14 = .ok (.if_icmp .ge 69, 3) := by decide +kernel
theorem dX11_nextFrom_17 : decode cX11_nextFrom 17 = .ok (.aload_n 0, 1) := by decide +kernel
theorem dX11_nextFrom_18 : decode cX11_nextFrom 18 = .ok (.iload_n 1, 1) := by decide +kernel
theorem dX11_nextFrom_19 : decode cX11_nextFrom 19 = .ok (.iconst 1, 1) := by decide +kernel
theorem dX11_nextFrom_20 : decode cX11_nextFrom 20 = .ok (.iload 4, 2) := by decide +kernel
theorem dX11_nextFrom_22 : decode cX11_nextFrom 22 = .ok (.ishl, 1) := by decide +kernel
theorem dX11_nextFrom_23 : decode cX11_nextFrom 23 = .ok (.ixor, 1) := by decide +kernel
theorem dX11_nextFrom_24 : decode cX11_nextFrom 24 = .ok (.iload_n 2, 1) := by decide +kernel
theorem dX11_nextFrom_25 : decode cX11_nextFrom 25 = .ok (.iload_n 3, 1) := by decide +kernel
theorem dX11_nextFrom_26 : decode cX11_nextFrom 26 = .ok (.invokevirtual 220, 3) := by decide +kernel
theorem dX11_nextFrom_29 : decode cX11_nextFrom 29 = .ok (.iconst 0, 1) := by decide +kernel
theorem dX11_nextFrom_30 : decode cX11_nextFrom 30 = .ok (.istore 5, 2) := by decide +kernel
theorem dX11_nextFrom_32 : decode cX11_nextFrom 32 = .ok (.iload 5, 2) := by decide +kernel
theorem dX11_nextFrom_34 : decode cX11_nextFrom 34 = .ok (.iload 4, 2) := by decide +kernel
theorem dX11_nextFrom_36 : decode cX11_nextFrom 36 = .ok (.if_icmp .ge 41, 3) := by decide +kernel
theorem dX11_nextFrom_39 : decode cX11_nextFrom 39 = .ok (.iload_n 1, 1) := by decide +kernel
theorem dX11_nextFrom_40 : decode cX11_nextFrom 40 = .ok (.iload 4, 2) := by decide +kernel
theorem dX11_nextFrom_42 : decode cX11_nextFrom 42 = .ok (.invokestatic 94, 3) := by decide +kernel
theorem dX11_nextFrom_45 : decode cX11_nextFrom 45 = .ok (.iload_n 1, 1) := by decide +kernel
theorem dX11_nextFrom_46 : decode cX11_nextFrom 46 = .ok (.iload 5, 2) := by decide +kernel
theorem dX11_nextFrom_48 : decode cX11_nextFrom 48 = .ok (.invokestatic 94, 3) := by decide +kernel
theorem dX11_nextFrom_51 : decode cX11_nextFrom 51 = .ok (.if_icmp .eq 20, 3) := by decide +kernel
theorem dX11_nextFrom_54 : decode cX11_nextFrom 54 = .ok (.aload_n 0, 1) := by decide +kernel
theorem dX11_nextFrom_55 : decode cX11_nextFrom 55 = .ok (.iload_n 1, 1) := by decide +kernel
theorem dX11_nextFrom_56 : decode cX11_nextFrom 56 = .ok (.iconst 1, 1) := by decide +kernel
theorem dX11_nextFrom_57 : decode cX11_nextFrom 57 = .ok (.iload 4, 2) := by decide +kernel
theorem dX11_nextFrom_59 : decode cX11_nextFrom 59 = .ok (.ishl, 1) := by decide +kernel
theorem dX11_nextFrom_60 : decode cX11_nextFrom 60 = .ok (.ixor, 1) := by decide +kernel
theorem dX11_nextFrom_61 : decode cX11_nextFrom 61 = .ok (.iconst 1, 1) := by decide +kernel
theorem dX11_nextFrom_62 : decode cX11_nextFrom 62 = .ok (.iload 5, 2) := by decide +kernel
theorem dX11_nextFrom_64 : decode cX11_nextFrom 64 = .ok (.ishl, 1) := by decide +kernel
theorem dX11_nextFrom_65 : decode cX11_nextFrom 65 = .ok (.ixor, 1) := by decide +kernel
theorem dX11_nextFrom_66 : decode cX11_nextFrom 66 = .ok (.iload_n 2, 1) := by decide +kernel
theorem dX11_nextFrom_67 : decode cX11_nextFrom 67 = .ok (.iload_n 3, 1) := by decide +kernel
theorem dX11_nextFrom_68 : decode cX11_nextFrom 68 = .ok (.invokevirtual 220, 3) := by decide +kernel
theorem dX11_nextFrom_71 : decode cX11_nextFrom 71 = .ok (.iinc 5 1, 3) := by decide +kernel
theorem dX11_nextFrom_74 : decode cX11_nextFrom 74 = .ok (.goto (-42), 3) := by decide +kernel
theorem dX11_nextFrom_77 : decode cX11_nextFrom 77 = .ok (.iinc 4 1, 3) := by decide +kernel
theorem dX11_nextFrom_80 : decode cX11_nextFrom 80 = .ok (.goto (-72), 3) := by decide +kernel
theorem dX11_nextFrom_83 : decode cX11_nextFrom 83 = .ok (.aload_n 0, 1) := by decide +kernel
theorem dX11_nextFrom_84 : decode cX11_nextFrom 84 = .ok (.getfield 214, 3) := by decide +kernel
theorem dX11_nextFrom_87 : decode cX11_nextFrom 87 = .ok (.ireturn, 1) := by decide +kernel
set_option maxRecDepth 20000 in
theorem ggX11_climbed_X11_nextFrom : GoodIn wsX11_climbed wsX11_nextFrom := goodIn_r _ [7, 8, 9, 10, 11, 6, 12, 1, 13, 14, 15, 16, 17, 18, 19, 20, 21, 22, 23, 24, 25, 26, 27, 28, 29, 30, 31, 32, 33, 34, 35, 36, 37, 38, 39, 40, 41, 42, 43, 44, 45, 46, 47, 48, 49, 50, 51, 52, 53, 54, 55, 56, 57, 58, 59, 60, 61, 62, 63, 64, 65, 66, 67, 68, 69, 70, 71, 72, 73, 74, 75, 76, 77, 78, 79, 80, 81, 82, 83, 84, 85, 86, 87, 88, 89, 90] (by decide +kernel) (by decide +kernel)
set_option maxRecDepth 20000 in
theorem gX11_climbed_X11_nextFrom : GoodIn wsX11_climbed (wsV RX11 227 RX11 yX11_nextFrom wsX11_nextFrom) := goodIn_app (goodIn_of _ (by decide +kernel)) ggX11_climbed_X11_nextFrom
set_option maxRecDepth 20000 in
theorem ggX11_climbed_X11_valueBy : GoodIn wsX11_climbed wsX11_valueBy := goodIn_r _ [50, 25, 26, 27, 6, 28, 9, 10, 11, 12, 1, 29, 30, 31, 32, 33, 34, 35, 51, 52, 53, 54, 55, 56, 57, 58, 59, 60, 61, 62, 63, 64, 65, 66, 67, 68, 69, 70, 71, 72, 73, 74, 75, 76, 77, 78, 79, 80, 81, 82, 83, 84, 85, 86, 87, 88, 89, 90] (by decide +kernel) (by decide +kernel)
set_option maxRecDepth 20000 in
theorem gX11_climbed_X11_valueBy : GoodIn wsX11_climbed (wsV RX11 217 RX11 yX11_valueBy wsX11_valueBy) := goodIn_app (goodIn_of _ (by decide +kernel)) ggX11_climbed_X11_valueBy
theorem dX11_climbed_0 : decode cX11_climbed 0 = .ok (.aload_n 0, 1) := by decide +kernel
theorem dX11_climbed_1 : decode cX11_climbed 1 = .ok (.getfield 24, 3) := by decide +kernel
theorem dX11_climbed_4 : decode cX11_climbed 4 = .ok (.iconst 5, 1) := by decide +kernel
theorem dX11_climbed_5 : decode cX11_climbed 5 = .ok (.iaload, 1) := by decide +kernel
theorem dX11_climbed_6 : decode cX11_climbed 6 = .ok (.istore_n 3, 1) := by decide +kernel
theorem dX11_climbed_7 : decode cX11_climbed 7 = .ok (.aload_n 0, 1) := by decide +kernel
theorem dX11_climbed_8 : decode cX11_climbed 8 = .ok (.iconst 0, 1) := by decide +kernel
theorem dX11_climbed_9 : decode cX11_climbed 9 = .ok (.putfield 224, 3) := by decide +kernel
theorem dX11_climbed_12 : decode cX11_climbed 12 = .ok (.aload_n 0, 1) := by decide +kernel
theorem dX11_climbed_13 : decode cX11_climbed 13 = .ok (.iload_n 3, 1) := by decide +kernel
theorem dX11_climbed_14 : decode cX11_climbed 14 = .ok (.iload_n 1, 1) := by decide +kernel
theorem dX11_climbed_15 : decode cX11_climbed 15 = .ok (.iload_n 2, 1) := by decide +kernel
theorem dX11_climbed_16 : decode cX11_climbed 16 = .ok (.invokevirtual 227, 3) := by decide +kernel
theorem dX11_climbed_19 : decode cX11_climbed 19 = .ok (.istore 4, 2) := by decide +kernel
theorem dX11_climbed_21 : decode cX11_climbed 21 = .ok (.iload 4, 2) := by decide +kernel
theorem dX11_climbed_23 : decode cX11_climbed 23 = .ok (.iconst (-1), 1) := by decide +kernel
theorem dX11_climbed_24 : decode cX11_climbed 24 = .ok (.if_icmp .eq 21, 3) := by decide +kernel
theorem dX11_climbed_27 : decode cX11_climbed 27 = .ok (.aload_n 0, 1) := by decide +kernel
theorem dX11_climbed_28 : decode cX11_climbed 28 = .ok (.iload 4, 2) := by decide +kernel
theorem dX11_climbed_30 : decode cX11_climbed 30 = .ok (.iload_n 1, 1) := by decide +kernel
theorem dX11_climbed_31 : decode cX11_climbed 31 = .ok (.iload_n 2, 1) := by decide +kernel
theorem dX11_climbed_32 : decode cX11_climbed 32 = .ok (.invokevirtual 217, 3) := by decide +kernel
theorem dX11_climbed_35 : decode cX11_climbed 35 = .ok (.aload_n 0, 1) := by decide +kernel
theorem dX11_climbed_36 : decode cX11_climbed 36 = .ok (.iload_n 3, 1) := by decide +kernel
theorem dX11_climbed_37 : decode cX11_climbed 37 = .ok (.iload_n 1, 1) := by decide +kernel
theorem dX11_climbed_38 : decode cX11_climbed 38 = .ok (.iload_n 2, 1) := by decide +kernel
theorem dX11_climbed_39 : decode cX11_climbed 39 = .ok (.invokevirtual 217, 3) := by decide +kernel
theorem dX11_climbed_42 : decode cX11_climbed 42 = .ok (.if_icmp .gt 5, 3) := by decide +kernel
theorem dX11_climbed_45 : decode cX11_climbed 45 = .ok (.iload_n 3, 1) := by decide +kernel
theorem dX11_climbed_46 : decode cX11_climbed 46 = .ok (.ireturn, 1) := by decide +kernel
theorem dX11_climbed_47 : decode cX11_climbed 47 = .ok (.iload 4, 2) := by decide +kernel
theorem dX11_climbed_49 : decode cX11_climbed 49 = .ok (.istore_n 3, 1) := by decide +kernel
theorem dX11_climbed_50 : decode cX11_climbed 50 = .ok (.aload_n 0, 1) := by decide +kernel
theorem dX11_climbed_51 : decode cX11_climbed 51 = .ok (.dup, 1) := by decide +kernel
theorem dX11_climbed_52 : decode cX11_climbed 52 = .ok (.getfield 224, 3) := by decide +kernel
theorem dX11_climbed_55 : decode cX11_climbed 55 = .ok (.iconst 1, 1) := by decide +kernel
theorem dX11_climbed_56 : decode cX11_climbed 56 = .ok (.iadd, 1) := by decide +kernel
theorem dX11_climbed_57 : decode cX11_climbed 57 = .ok (.putfield 224, 3) := by decide +kernel
theorem dX11_climbed_60 : decode cX11_climbed 60 = .ok (.goto (-48), 3) := by decide +kernel
set_option maxRecDepth 20000 in
theorem ggX11_areWeights_X11_in : GoodIn wsX11_areWeights wsX11_in := goodIn_r _ [5] (by decide +kernel) (by decide +kernel)
set_option maxRecDepth 20000 in
theorem gX11_areWeights_X11_in : GoodIn wsX11_areWeights (va_wsS RX11 87 yX11_in wsX11_in) := goodIn_app (goodIn_of _ (by decide +kernel)) ggX11_areWeights_X11_in
theorem dX11_areWeights_0 : decode cX11_areWeights 0 = .ok (.iload_n 0, 1) := by decide +kernel
theorem dX11_areWeights_1 : decode cX11_areWeights 1 = .ok (.i2l, 1) := by decide +kernel
theorem dX11_areWeights_2 : decode cX11_areWeights 2 = .ok (.lconst 0, 1) := by decide +kernel
theorem dX11_areWeights_3 : decode cX11_areWeights 3 = .ok (.ldc2_w 230, 3) := by decide +kernel
theorem dX11_areWeights_6 : decode cX11_areWeights 6 = .ok (.invokestatic 87, 3) := by decide +kernel
theorem dX11_areWeights_9 : decode cX11_areWeights 9 = .ok (.ifCond .eq 25, 3) := by decide +kernel
theorem dX11_areWeights_12 : decode cX11_areWeights 12 = .ok (.iload_n 1, 1) := by decide +kernel
theorem dX11_areWeights_13 : decode cX11_areWeights 13 = .ok (.i2l, 1) := by decide +kernel
theorem dX11_areWeights_14 : decode cX11_areWeights 14 = .ok (.lconst 0, 1) := by decide +kernel
theorem dX11_areWeights_15 : decode cX11_areWeights 15 = .ok (.ldc2_w 230, 3) := by decide +kernel
theorem dX11_areWeights_18 : decode cX11_areWeights 18 = .ok (.invokestatic 87, 3) := by decide +kernel
theorem dX11_areWeights_21 : decode cX11_areWeights 21 = .ok (.ifCond .eq 13, 3) := by decide +kernel
theorem dX11_areWeights_24 : decode cX11_areWeights 24 = .ok (.iload_n 0, 1) := by decide +kernel
theorem dX11_areWeights_25 : decode cX11_areWeights 25 = .ok (.iload_n 1, 1) := by decide +kernel
theorem dX11_areWeights_26 : decode cX11_areWeights 26 = .ok (.iadd, 1) := by decide +kernel
theorem dX11_areWeights_27 : decode cX11_areWeights 27 = .ok (.ifCond .le 7, 3) := by decide +kernel
theorem dX11_areWeights_30 : decode cX11_areWeights 30 = .ok (.iconst 1, 1) := by decide +kernel
theorem dX11_areWeights_31 : decode cX11_areWeights 31 = .ok (.goto 4, 3) := by decide +kernel
theorem dX11_areWeights_34 : decode cX11_areWeights 34 = .ok (.iconst 0, 1) := by decide +kernel
theorem dX11_areWeights_35 : decode cX11_areWeights 35 = .ok (.ireturn, 1) := by decide +kernel
theorem dX11_appendFour_0 : decode cX11_appendFour 0 = .ok (.bipush 24, 2) := by decide +kernel
theorem dX11_appendFour_2 : decode cX11_appendFour 2 = .ok (.istore_n 2, 1) := by decide +kernel
theorem dX11_appendFour_3 : decode cX11_appendFour 3 = .ok (.iload_n 2, 1) := by decide +kernel
theorem dX11_appendFour_4 : decode cX11_appendFour 4 = .ok (.ifCond .lt 32, 3) := by decide +kernel
theorem dX11_appendFour_7 : decode cX11_appendFour 7 = .ok (.aload_n 0, 1) := by decide +kernel
theorem dX11_appendFour_8 : decode cX11_appendFour 8 = .ok (.getfield 63, 3) := by decide +kernel
theorem dX11_appendFour_11 : decode cX11_appendFour 11 = .ok (.aload_n 0, 1) := by decide +kernel
theorem dX11_appendFour_12 : decode cX11_appendFour 12 = .ok (.getfield 232, 3) := by decide +kernel
theorem dX11_appendFour_15 : decode cX11_appendFour 15 = .ok (.iload_n 1, 1) := by decide +kernel
theorem dX11_appendFour_16 : decode cX11_appendFour 16 = .ok (.iload_n 2, 1) := by decide +kernel
theorem dX11_appendFour_17 : decode cX11_appendFour 17 = .ok (.ishr, 1) := by decide +kernel
theorem dX11_appendFour_18 : decode cX11_appendFour 18 = .ok (.i2b, 1) := by decide +kernel
theorem dX11_appendFour_19 : decode cX11_appendFour 19 = .ok (.bastore, 1) := by decide +kernel
theorem dX11_appendFour_20 : decode cX11_appendFour 20 = .ok (.aload_n 0, 1) := by decide +kernel
theorem dX11_appendFour_21 : decode cX11_appendFour 21 = .ok (.dup, 1) := by decide +kernel
theorem dX11_appendFour_22 : decode cX11_appendFour 22 = .ok (.getfield 232, 3) := by decide +kernel
theorem dX11_appendFour_25 : decode cX11_appendFour 25 = .ok (.iconst 1, 1) := by decide +kernel
theorem dX11_appendFour_26 : decode cX11_appendFour 26 = .ok (.iadd, 1) := by decide +kernel
theorem dX11_appendFour_27 : decode cX11_appendFour 27 = .ok (.putfield 232, 3) := by decide +kernel
theorem dX11_appendFour_30 : decode cX11_appendFour 30 = .ok (.iinc 2 (-8), 3) := by decide +kernel
theorem dX11_appendFour_33 : decode cX11_appendFour 33 = .ok (.goto (-30), 3) := by decide +kernel
theorem dX11_appendFour_36 : decode cX11_appendFour 36 = .ok (.return_, 1) := by decide +kernel
set_option maxRecDepth 20000 in
theorem ggX11_append_X11_passes : GoodIn wsX11_append wsX11_passes := goodIn_r _ [6, 7, 8, 9, 5, 10, 11, 17, 18, 19, 20, 21, 22, 23, 24, 25, 26, 27, 28, 29, 30, 31, 32, 33, 34, 35, 36, 37, 38, 39, 40, 41, 42, 43, 44, 45, 46, 47, 48, 49, 50, 51, 52, 53, 54, 55, 56] (by decide +kernel) (by decide +kernel)
set_option maxRecDepth 20000 in
theorem gX11_append_X11_passes : GoodIn wsX11_append (wsV RX11 235 RX11 yX11_passes wsX11_passes) := goodIn_app (goodIn_of _ (by decide +kernel)) ggX11_append_X11_passes
set_option maxRecDepth 20000 in
theorem ggX11_append_X11_appendFour : GoodIn wsX11_append wsX11_appendFour := goodIn_r _ [15, 16, 1, 17, 18, 19, 20, 21, 22, 23, 24, 25, 26, 27, 28, 29, 30, 31, 32, 33, 34, 35, 36, 37, 38, 39, 40, 41, 42, 43, 44, 45, 46, 47, 48, 49, 50, 51, 52, 53, 54, 55, 56] (by decide +kernel) (by decide +kernel)
set_option maxRecDepth 20000 in
theorem gX11_append_X11_appendFour : GoodIn wsX11_append (wsV RX11 239 RX11 yX11_appendFour wsX11_appendFour) := goodIn_app (goodIn_of _ (by decide +kernel)) ggX11_append_X11_appendFour
theorem dX11_append_0 : decode cX11_append 0 = .ok (.aload_n 0, 1) := by decide +kernel
theorem dX11_append_1 : decode cX11_append 1 = .ok (.aload_n 0, 1) := by decide +kernel
theorem dX11_append_2 : decode cX11_append 2 = .ok (.getfield 232, 3) := by decide +kernel
theorem dX11_append_5 : decode cX11_append 5 = .ok (.bipush 20, 2) := by decide +kernel
theorem dX11_append_7 : decode cX11_append 7 = .ok (.iadd, 1) := by decide +kernel
theorem dX11_append_8 : decode cX11_append 8 = .ok (.sipush 600, 3) := by decide +kernel
theorem dX11_append_11 : decode cX11_append 11 = .ok (.if_icmp .gt 7, 3) := by decide +kernel
theorem dX11_append_14 : decode cX11_append 14 = .ok (.iconst 1, 1) := by decide +kernel
theorem dX11_append_15 : decode cX11_append 15 = .ok (.goto 4, 3) := by decide +kernel
theorem dX11_append_18 : decode cX11_append 18 = .ok (.iconst 0, 1) := by decide +kernel
theorem dX11_append_19 : decode cX11_append 19 = .ok (.invokevirtual 235, 3) := by decide +kernel
theorem dX11_append_22 : decode cX11_append 22 = .ok (.ifCond .ne 5, 3) := by decide +kernel
theorem dX11_append_25 : decode cX11_append 25 = .ok (.iconst 0, 1) := by decide +kernel
theorem dX11_append_26 : decode cX11_append 26 = .ok (.ireturn, 1) := by decide +kernel
theorem dX11_append_27 : decode cX11_append 27 = .ok (.aload_n 0, 1) := by decide +kernel
theorem dX11_append_28 : decode cX11_append 28 = .ok (.iload_n 1, 1) := by decide +kernel
theorem dX11_append_29 : decode cX11_append 29 = .ok (.invokevirtual 239, 3) := by decide +kernel
theorem dX11_append_32 : decode cX11_append 32 = .ok (.aload_n 0, 1) := by decide +kernel
theorem dX11_append_33 : decode cX11_append 33 = .ok (.iload_n 2, 1) := by decide +kernel
theorem dX11_append_34 : decode cX11_append 34 = .ok (.invokevirtual 239, 3) := by decide +kernel
theorem dX11_append_37 : decode cX11_append 37 = .ok (.aload_n 0, 1) := by decide +kernel
theorem dX11_append_38 : decode cX11_append 38 = .ok (.iload_n 3, 1) := by decide +kernel
theorem dX11_append_39 : decode cX11_append 39 = .ok (.invokevirtual 239, 3) := by decide +kernel
theorem dX11_append_42 : decode cX11_append 42 = .ok (.aload_n 0, 1) := by decide +kernel
theorem dX11_append_43 : decode cX11_append 43 = .ok (.iload 4, 2) := by decide +kernel
theorem dX11_append_45 : decode cX11_append 45 = .ok (.invokevirtual 239, 3) := by decide +kernel
theorem dX11_append_48 : decode cX11_append 48 = .ok (.aload_n 0, 1) := by decide +kernel
theorem dX11_append_49 : decode cX11_append 49 = .ok (.iload 5, 2) := by decide +kernel
theorem dX11_append_51 : decode cX11_append 51 = .ok (.invokevirtual 239, 3) := by decide +kernel
theorem dX11_append_54 : decode cX11_append 54 = .ok (.aload_n 0, 1) := by decide +kernel
theorem dX11_append_55 : decode cX11_append 55 = .ok (.getfield 232, 3) := by decide +kernel
theorem dX11_append_58 : decode cX11_append 58 = .ok (.ireturn, 1) := by decide +kernel
set_option maxRecDepth 20000 in
theorem ggX11_truncate_X11_in : GoodIn wsX11_truncate wsX11_in := goodIn_r _ [5] (by decide +kernel) (by decide +kernel)
set_option maxRecDepth 20000 in
theorem gX11_truncate_X11_in : GoodIn wsX11_truncate (va_wsS RX11 87 yX11_in wsX11_in) := goodIn_app (goodIn_of _ (by decide +kernel)) ggX11_truncate_X11_in
set_option maxRecDepth 20000 in
theorem ggX11_truncate_X11_passes : GoodIn wsX11_truncate wsX11_passes := goodIn_r _ [9, 10, 11, 12, 4, 13, 14, 15, 16, 17, 18, 19, 20, 21, 22, 23, 24, 25, 26, 27, 28, 29, 30, 31, 32, 33, 34, 35, 36, 37, 38, 39, 40, 41, 42, 43, 44, 45, 46, 47, 48, 49, 50, 51, 52, 53, 54] (by decide +kernel) (by decide +kernel)
set_option maxRecDepth 20000 in
theorem gX11_truncate_X11_passes : GoodIn wsX11_truncate (wsV RX11 235 RX11 yX11_passes wsX11_passes) := goodIn_app (goodIn_of _ (by decide +kernel)) ggX11_truncate_X11_passes
theorem dX11_truncate_0 : decode cX11_truncate 0 = .ok (.aload_n 0, 1) := by decide +kernel
theorem dX11_truncate_1 : decode cX11_truncate 1 = .ok (.iload_n 1, 1) := by decide +kernel
theorem dX11_truncate_2 : decode cX11_truncate 2 = .ok (.i2l, 1) := by decide +kernel
theorem dX11_truncate_3 : decode cX11_truncate 3 = .ok (.lconst 0, 1) := by decide +kernel
theorem dX11_truncate_4 : decode cX11_truncate 4 = .ok (.aload_n 0, 1) := by decide +kernel
theorem dX11_truncate_5 : decode cX11_truncate 5 = .ok (.getfield 232, 3) := by decide +kernel
theorem dX11_truncate_8 : decode cX11_truncate 8 = .ok (.i2l, 1) := by decide +kernel
theorem dX11_truncate_9 : decode cX11_truncate 9 = .ok (.invokestatic 87, 3) := by decide +kernel
theorem dX11_truncate_12 : decode cX11_truncate 12 = .ok (.invokevirtual 235, 3) := by decide +kernel
theorem dX11_truncate_15 : decode cX11_truncate 15 = .ok (.ifCond .eq 8, 3) := by decide +kernel
theorem dX11_truncate_18 : decode cX11_truncate 18 = .ok (.aload_n 0, 1) := by decide +kernel
theorem dX11_truncate_19 : decode cX11_truncate 19 = .ok (.iload_n 1, 1) := by decide +kernel
theorem dX11_truncate_20 : decode cX11_truncate 20 = .ok (.putfield 232, 3) := by decide +kernel
theorem dX11_truncate_23 : decode cX11_truncate 23 = .ok (.return_, 1) := by decide +kernel
theorem dX11_good_0 : decode cX11_good 0 = .ok (.aload_n 0, 1) := by decide +kernel
theorem dX11_good_1 : decode cX11_good 1 = .ok (.getfield 242, 3) := by decide +kernel
theorem dX11_good_4 : decode cX11_good 4 = .ok (.ifCond .ne 7, 3) := by decide +kernel
theorem dX11_good_7 : decode cX11_good 7 = .ok (.iconst 1, 1) := by decide +kernel
theorem dX11_good_8 : decode cX11_good 8 = .ok (.goto 4, 3) := by decide +kernel
theorem dX11_good_11 : decode cX11_good 11 = .ok (.iconst 0, 1) := by decide +kernel
theorem dX11_good_12 : decode cX11_good 12 = .ok (.ireturn, 1) := by decide +kernel
set_option maxRecDepth 20000 in
theorem ggX11_errs_X11_good : GoodIn wsX11_errs wsX11_good := goodIn_r _ [8, 1, 9, 10, 11, 12, 13, 14, 15, 16, 17, 18, 19, 20, 21, 22, 23, 24, 25, 26, 27, 28, 29, 30, 31, 32, 33, 34, 35, 36, 37, 38, 39, 40, 41, 42, 43, 44, 45, 46, 47, 48] (by decide +kernel) (by decide +kernel)
set_option maxRecDepth 20000 in
theorem gX11_errs_X11_good : GoodIn wsX11_errs (wsV RX11 245 RX11 yX11_good wsX11_good) := goodIn_app (goodIn_of _ (by decide +kernel)) ggX11_errs_X11_good
theorem dX11_errs_0 : decode cX11_errs 0 = .ok (.aload_n 0, 1) := by decide +kernel
theorem dX11_errs_1 : decode cX11_errs 1 = .ok (.invokevirtual 245, 3) := by decide +kernel
theorem dX11_errs_4 : decode cX11_errs 4 = .ok (.ifCond .ne 4, 3) := by decide +kernel
theorem dX11_errs_7 : decode cX11_errs 7 = .ok (.return_, 1) := by decide +kernel
theorem dX11_errs_8 : decode cX11_errs 8 = .ok (.aload_n 0, 1) := by decide +kernel
theorem dX11_errs_9 : decode cX11_errs 9 = .ok (.iload_n 1, 1) := by decide +kernel
theorem dX11_errs_10 : decode cX11_errs 10 = .ok (.putfield 242, 3) := by decide +kernel
theorem dX11_errs_13 : decode cX11_errs 13 = .ok (.aload_n 0, 1) := by decide +kernel
theorem dX11_errs_14 : decode cX11_errs 14 = .ok (.aload_n 0, 1) := by decide +kernel
theorem dX11_errs_15 : decode cX11_errs 15 = .ok (.getfield 249, 3) := by decide +kernel
theorem dX11_errs_18 : decode cX11_errs 18 = .ok (.putfield 67, 3) := by decide +kernel
theorem dX11_errs_21 : decode cX11_errs 21 = .ok (.return_, 1) := by decide +kernel
theorem dX11_byteAt_0 : decode cX11_byteAt 0 = .ok (.iload_n 1, 1) := by decide +kernel
theorem dX11_byteAt_1 : decode cX11_byteAt 1 = .ok (.aload_n 0, 1) := by decide +kernel
theorem dX11_byteAt_2 : decode cX11_byteAt 2 = .ok (.getfield 252, 3) := by decide +kernel
theorem dX11_byteAt_5 : decode cX11_byteAt 5 = .ok (.if_icmp .ge 16, 3) := by decide +kernel
theorem dX11_byteAt_8 : decode cX11_byteAt 8 = .ok (.aload_n 0, 1) := by decide +kernel
theorem dX11_byteAt_9 : decode cX11_byteAt 9 = .ok (.getfield 63, 3) := by decide +kernel
theorem dX11_byteAt_12 : decode cX11_byteAt 12 = .ok (.iload_n 1, 1) := by decide +kernel
theorem dX11_byteAt_13 : decode cX11_byteAt 13 = .ok (.baload, 1) := by decide +kernel
theorem dX11_byteAt_14 : decode cX11_byteAt 14 = .ok (.sipush 255, 3) := by decide +kernel
theorem dX11_byteAt_17 : decode cX11_byteAt 17 = .ok (.iand, 1) := by decide +kernel
theorem dX11_byteAt_18 : decode cX11_byteAt 18 = .ok (.goto 4, 3) := by decide +kernel
theorem dX11_byteAt_21 : decode cX11_byteAt 21 = .ok (.iconst (-1), 1) := by decide +kernel
theorem dX11_byteAt_22 : decode cX11_byteAt 22 = .ok (.ireturn, 1) := by decide +kernel
set_option maxRecDepth 20000 in
theorem ggX11_scan_X11_byteAt : GoodIn wsX11_scan wsX11_byteAt := goodIn_r _ [17, 18, 19, 23, 24, 25, 26, 27, 28, 29, 30, 31, 32, 33, 34, 35, 36, 37, 38, 39, 40, 41, 42, 43, 44, 45, 46, 47, 48, 49, 50, 51, 52, 53, 54, 55, 56, 57, 58, 59, 60, 61, 62] (by decide +kernel) (by decide +kernel)
set_option maxRecDepth 20000 in
theorem gX11_scan_X11_byteAt : GoodIn wsX11_scan (wsV RX11 258 RX11 yX11_byteAt wsX11_byteAt) := goodIn_app (goodIn_of _ (by decide +kernel)) ggX11_scan_X11_byteAt
set_option maxRecDepth 20000 in
theorem ggX11_scan_X11_in : GoodIn wsX11_scan wsX11_in := goodIn_r _ [22] (by decide +kernel) (by decide +kernel)
set_option maxRecDepth 20000 in
theorem gX11_scan_X11_in : GoodIn wsX11_scan (va_wsS RX11 87 yX11_in wsX11_in) := goodIn_app (goodIn_of _ (by decide +kernel)) ggX11_scan_X11_in
theorem dX11_scan_0 : decode cX11_scan 0 = .ok (.aload_n 0, 1) := by decide +kernel
theorem dX11_scan_1 : decode cX11_scan 1 = .ok (.aload_n 0, 1) := by decide +kernel
theorem dX11_scan_2 : decode cX11_scan 2 = .ok (.getfield 255, 3) := by decide +kernel
theorem dX11_scan_5 : decode cX11_scan 5 = .ok (.invokevirtual 258, 3) := by decide +kernel
theorem dX11_scan_8 : decode cX11_scan 8 = .ok (.bipush 32, 2) := by decide +kernel
theorem dX11_scan_10 : decode cX11_scan 10 = .ok (.if_icmp .eq 16, 3) := by decide +kernel
theorem dX11_scan_13 : decode cX11_scan 13 = .ok (.aload_n 0, 1) := by decide +kernel
theorem dX11_scan_14 : decode cX11_scan 14 = .ok (.aload_n 0, 1) := by decide +kernel
theorem dX11_scan_15 : decode cX11_scan 15 = .ok (.getfield 255, 3) := by decide +kernel
theorem dX11_scan_18 : decode cX11_scan 18 = .ok (.invokevirtual 258, 3) := by decide +kernel
theorem dX11_scan_21 : decode cX11_scan 21 = .ok (.bipush 10, 2) := by decide +kernel
theorem dX11_scan_23 : decode cX11_scan 23 = .ok (.if_icmp .ne 16, 3) := by decide +kernel
theorem dX11_scan_26 : decode cX11_scan 26 = .ok (.aload_n 0, 1) := by decide +kernel
theorem dX11_scan_27 : decode cX11_scan 27 = .ok (.dup, 1) := by decide +kernel
theorem dX11_scan_28 : decode cX11_scan 28 = .ok (.getfield 255, 3) := by decide +kernel
theorem dX11_scan_31 : decode cX11_scan 31 = .ok (.iconst 1, 1) := by decide +kernel
theorem dX11_scan_32 : decode cX11_scan 32 = .ok (.iadd, 1) := by decide +kernel
theorem dX11_scan_33 : decode cX11_scan 33 = .ok (.putfield 255, 3) := by decide +kernel
theorem dX11_scan_36 : decode cX11_scan 36 = .ok (.goto (-36), 3) := by decide +kernel
theorem dX11_scan_39 : decode cX11_scan 39 = .ok (.aload_n 0, 1) := by decide +kernel
theorem dX11_scan_40 : decode cX11_scan 40 = .ok (.aload_n 0, 1) := by decide +kernel
theorem dX11_scan_41 : decode cX11_scan 41 = .ok (.getfield 255, 3) := by decide +kernel
theorem dX11_scan_44 : decode cX11_scan 44 = .ok (.putfield 249, 3) := by decide +kernel
theorem dX11_scan_47 : decode cX11_scan 47 = .ok (.aload_n 0, 1) := by decide +kernel
theorem dX11_scan_48 : decode cX11_scan 48 = .ok (.aload_n 0, 1) := by decide +kernel
theorem dX11_scan_49 : decode cX11_scan 49 = .ok (.getfield 255, 3) := by decide +kernel
theorem dX11_scan_52 : decode cX11_scan 52 = .ok (.invokevirtual 258, 3) := by decide +kernel
theorem dX11_scan_55 : decode cX11_scan 55 = .ok (.istore_n 1, 1) := by decide +kernel
theorem dX11_scan_56 : decode cX11_scan 56 = .ok (.iload_n 1, 1) := by decide +kernel
theorem dX11_scan_57 : decode cX11_scan 57 = .ok (.iconst (-1), 1) := by decide +kernel
theorem dX11_scan_58 : decode cX11_scan 58 = .ok (.if_icmp .ne 11, 3) := by decide +kernel
theorem dX11_scan_61 : decode cX11_scan 61 = .ok (.aload_n 0, 1) := by decide +kernel
theorem dX11_scan_62 : decode cX11_scan 62 = .ok (.iconst 0, 1) := by decide +kernel
theorem dX11_scan_63 : decode cX11_scan 63 = .ok (.putfield 261, 3) := by decide +kernel
theorem dX11_scan_66 : decode cX11_scan 66 = .ok (.goto 169, 3) := by decide +kernel
theorem dX11_scan_69 : decode cX11_scan 69 = .ok (.iload_n 1, 1) := by decide +kernel
theorem dX11_scan_70 : decode cX11_scan 70 = .ok (.i2l, 1) := by decide +kernel
theorem dX11_scan_71 : decode cX11_scan 71 = .ok (.ldc2_w 264, 3) := by decide +kernel
theorem dX11_scan_74 : decode cX11_scan 74 = .ok (.ldc2_w 266, 3) := by decide +kernel
theorem dX11_scan_77 : decode cX11_scan 77 = .ok (.invokestatic 87, 3) := by decide +kernel
theorem dX11_scan_80 : decode cX11_scan 80 = .ok (.ifCond .eq 45, 3) := by decide +kernel
theorem dX11_scan_83 : decode cX11_scan 83 = .ok (.aload_n 0, 1) := by decide +kernel
theorem dX11_scan_84 : decode cX11_scan 84 = .ok (.aload_n 0, 1) := by decide +kernel
theorem dX11_scan_85 : decode cX11_scan 85 = .ok (.getfield 255, 3) := by decide +kernel
theorem dX11_scan_88 : decode cX11_scan 88 = .ok (.invokevirtual 258, 3) := by decide +kernel
theorem dX11_scan_91 : decode cX11_scan 91 = .ok (.i2l, 1) := by decide +kernel
theorem dX11_scan_92 : decode cX11_scan 92 = .ok (.ldc2_w 264, 3) := by decide +kernel
theorem dX11_scan_95 : decode cX11_scan 95 = .ok (.ldc2_w 266, 3) := by decide +kernel
theorem dX11_scan_98 : decode cX11_scan 98 = .ok (.invokestatic 87, 3) := by decide +kernel
theorem dX11_scan_101 : decode cX11_scan 101 = .ok (.ifCond .eq 16, 3) := by decide +kernel
theorem dX11_scan_104 : decode cX11_scan 104 = .ok (.aload_n 0, 1) := by decide +kernel
theorem dX11_scan_105 : decode cX11_scan 105 = .ok (.dup, 1) := by decide +kernel
theorem dX11_scan_106 : decode cX11_scan 106 = .ok (.getfield 255, 3) := by decide +kernel
theorem dX11_scan_109 : decode cX11_scan 109 = .ok (.iconst 1, 1) := by decide +kernel
theorem dX11_scan_110 : decode cX11_scan 110 = .ok (.iadd, 1) := by decide +kernel
theorem dX11_scan_111 : decode cX11_scan 111 = .ok (.putfield 255, 3) := by decide +kernel
theorem dX11_scan_114 : decode cX11_scan 114 = .ok (.goto (-31), 3) := by decide +kernel
theorem dX11_scan_117 : decode cX11_scan 117 = .ok (.aload_n 0, 1) := by decide +kernel
theorem dX11_scan_118 : decode cX11_scan 118 = .ok (.iconst 1, 1) := by decide +kernel
theorem dX11_scan_119 : decode cX11_scan 119 = .ok (.putfield 261, 3) := by decide +kernel
theorem dX11_scan_122 : decode cX11_scan 122 = .ok (.goto 113, 3) := by decide +kernel
theorem dX11_scan_125 : decode cX11_scan 125 = .ok (.iload_n 1, 1) := by decide +kernel
theorem dX11_scan_126 : decode cX11_scan 126 = .ok (.i2l, 1) := by decide +kernel
theorem dX11_scan_127 : decode cX11_scan 127 = .ok (.ldc2_w 268, 3) := by decide +kernel
theorem dX11_scan_130 : decode cX11_scan 130 = .ok (.ldc2_w 270, 3) := by decide +kernel
theorem dX11_scan_133 : decode cX11_scan 133 = .ok (.invokestatic 87, 3) := by decide +kernel
theorem dX11_scan_136 : decode cX11_scan 136 = .ok (.ifCond .eq 79, 3) := by decide +kernel
theorem dX11_scan_139 : decode cX11_scan 139 = .ok (.aload_n 0, 1) := by decide +kernel
theorem dX11_scan_140 : decode cX11_scan 140 = .ok (.iconst 0, 1) := by decide +kernel
theorem dX11_scan_141 : decode cX11_scan 141 = .ok (.putfield 272, 3) := by decide +kernel
theorem dX11_scan_144 : decode cX11_scan 144 = .ok (.aload_n 0, 1) := by decide +kernel
theorem dX11_scan_145 : decode cX11_scan 145 = .ok (.aload_n 0, 1) := by decide +kernel
theorem dX11_scan_146 : decode cX11_scan 146 = .ok (.getfield 255, 3) := by decide +kernel
theorem dX11_scan_149 : decode cX11_scan 149 = .ok (.invokevirtual 258, 3) := by decide +kernel
theorem dX11_scan_152 : decode cX11_scan 152 = .ok (.i2l, 1) := by decide +kernel
theorem dX11_scan_153 : decode cX11_scan 153 = .ok (.ldc2_w 268, 3) := by decide +kernel
theorem dX11_scan_156 : decode cX11_scan 156 = .ok (.ldc2_w 270, 3) := by decide +kernel
theorem dX11_scan_159 : decode cX11_scan 159 = .ok (.invokestatic 87, 3) := by decide +kernel
theorem dX11_scan_162 : decode cX11_scan 162 = .ok (.ifCond .eq 45, 3) := by decide +kernel
theorem dX11_scan_165 : decode cX11_scan 165 = .ok (.aload_n 0, 1) := by decide +kernel
theorem dX11_scan_166 : decode cX11_scan 166 = .ok (.sipush 9999, 3) := by decide +kernel
theorem dX11_scan_169 : decode cX11_scan 169 = .ok (.bipush 10, 2) := by decide +kernel
theorem dX11_scan_171 : decode cX11_scan 171 = .ok (.aload_n 0, 1) := by decide +kernel
theorem dX11_scan_172 : decode cX11_scan 172 = .ok (.getfield 272, 3) := by decide +kernel
theorem dX11_scan_175 : decode cX11_scan 175 = .ok (.imul, 1) := by decide +kernel
theorem dX11_scan_176 : decode cX11_scan 176 = .ok (.aload_n 0, 1) := by decide +kernel
theorem dX11_scan_177 : decode cX11_scan 177 = .ok (.aload_n 0, 1) := by decide +kernel
theorem dX11_scan_178 : decode cX11_scan 178 = .ok (.getfield 255, 3) := by decide +kernel
theorem dX11_scan_181 : decode cX11_scan 181 = .ok (.invokevirtual 258, 3) := by decide +kernel
theorem dX11_scan_184 : decode cX11_scan 184 = .ok (.iadd, 1) := by decide +kernel
theorem dX11_scan_185 : decode cX11_scan 185 = .ok (.bipush 48, 2) := by decide +kernel
theorem dX11_scan_187 : decode cX11_scan 187 = .ok (.isub, 1) := by decide +kernel
theorem dX11_scan_188 : decode cX11_scan 188 = .ok (.invokestatic 275, 3) := by decide +kernel
theorem dX11_scan_191 : decode cX11_scan 191 = .ok (.putfield 272, 3) := by decide +kernel
theorem dX11_scan_194 : decode cX11_scan 194 = .ok (.aload_n 0, 1) := by decide +kernel
theorem dX11_scan_195 : decode cX11_scan 195 = .ok (.dup, 1) := by decide +kernel
theorem dX11_scan_196 : decode cX11_scan 196 = .ok (.getfield 255, 3) := by decide +kernel
theorem dX11_scan_199 : decode cX11_scan 199 = .ok (.iconst 1, 1) := by decide +kernel
theorem dX11_scan_200 : decode cX11_scan 200 = .ok (.iadd, 1) := by decide +kernel
theorem dX11_scan_201 : decode cX11_scan 201 = .ok (.putfield 255, 3) := by decide +kernel
theorem dX11_scan_204 : decode cX11_scan 204 = .ok (.goto (-60), 3) := by decide +kernel
theorem dX11_scan_207 : decode cX11_scan 207 = .ok (.aload_n 0, 1) := by decide +kernel
theorem dX11_scan_208 : decode cX11_scan 208 = .ok (.iconst 2, 1) := by decide +kernel
theorem dX11_scan_209 : decode cX11_scan 209 = .ok (.putfield 261, 3) := by decide +kernel
theorem dX11_scan_212 : decode cX11_scan 212 = .ok (.goto 23, 3) := by decide +kernel
theorem dX11_scan_215 : decode cX11_scan 215 = .ok (.aload_n 0, 1) := by decide +kernel
theorem dX11_scan_216 : decode cX11_scan 216 = .ok (.iconst 3, 1) := by decide +kernel
theorem dX11_scan_217 : decode cX11_scan 217 = .ok (.putfield 261, 3) := by decide +kernel
theorem dX11_scan_220 : decode cX11_scan 220 = .ok (.aload_n 0, 1) := by decide +kernel
theorem dX11_scan_221 : decode cX11_scan 221 = .ok (.iload_n 1, 1) := by decide +kernel
theorem dX11_scan_222 : decode cX11_scan 222 = .ok (.putfield 272, 3) := by decide +kernel
theorem dX11_scan_225 : decode cX11_scan 225 = .ok (.aload_n 0, 1) := by decide +kernel
theorem dX11_scan_226 : decode cX11_scan 226 = .ok (.dup, 1) := by decide +kernel
theorem dX11_scan_227 : decode cX11_scan 227 = .ok (.getfield 255, 3) := by decide +kernel
theorem dX11_scan_230 : decode cX11_scan 230 = .ok (.iconst 1, 1) := by decide +kernel
theorem dX11_scan_231 : decode cX11_scan 231 = .ok (.iadd, 1) := by decide +kernel
theorem dX11_scan_232 : decode cX11_scan 232 = .ok (.putfield 255, 3) := by decide +kernel
theorem dX11_scan_235 : decode cX11_scan 235 = .ok (.return_, 1) := by decide +kernel
set_option maxRecDepth 20000 in
theorem ggX11_goOn_X11_good : GoodIn wsX11_goOn wsX11_good := goodIn_r _ [5, 6, 32, 33, 34, 35, 36, 37, 38, 39, 40, 41, 42, 43, 44, 45, 46, 47, 48, 49, 50, 51, 52, 53, 54, 55, 56, 57, 58, 59, 60, 61, 62, 63, 64, 65, 66, 67, 68, 69, 70, 71] (by decide +kernel) (by decide +kernel)
set_option maxRecDepth 20000 in
theorem gX11_goOn_X11_good : GoodIn wsX11_goOn (wsV RX11 245 RX11 yX11_good wsX11_good) := goodIn_app (goodIn_of _ (by decide +kernel)) ggX11_goOn_X11_good
set_option maxRecDepth 20000 in
theorem ggX11_goOn_X11_scan : GoodIn wsX11_goOn wsX11_scan := goodIn_r _ [10, 11, 12, 13, 14, 15, 16, 17, 18, 19, 20, 21, 22, 23, 24, 25, 4, 26, 27, 28, 29, 30, 31, 32, 33, 34, 35, 36, 37, 38, 39, 40, 41, 42, 43, 44, 45, 46, 47, 48, 49, 50, 51, 52, 53, 54, 55, 56, 57, 58, 59, 60, 61, 62, 63, 64, 65, 66, 67, 68, 69, 70, 71] (by decide +kernel) (by decide +kernel)
set_option maxRecDepth 20000 in
theorem gX11_goOn_X11_scan : GoodIn wsX11_goOn (wsV RX11 278 RX11 yX11_scan wsX11_scan) := goodIn_app (goodIn_of _ (by decide +kernel)) ggX11_goOn_X11_scan
theorem dX11_goOn_0 : decode cX11_goOn 0 = .ok (.aload_n 0, 1) := by decide +kernel
theorem dX11_goOn_1 : decode cX11_goOn 1 = .ok (.invokevirtual 245, 3) := by decide +kernel
theorem dX11_goOn_4 : decode cX11_goOn 4 = .ok (.ifCond .eq 7, 3) := by decide +kernel
theorem dX11_goOn_7 : decode cX11_goOn 7 = .ok (.aload_n 0, 1) := by decide +kernel
theorem dX11_goOn_8 : decode cX11_goOn 8 = .ok (.invokevirtual 278, 3) := by decide +kernel
theorem dX11_goOn_11 : decode cX11_goOn 11 = .ok (.return_, 1) := by decide +kernel
set_option maxRecDepth 20000 in
theorem ggX11_isWord_X11_good : GoodIn wsX11_isWord wsX11_good := goodIn_r _ [9, 10, 60, 61, 62, 63, 64, 65, 66, 67, 68, 69, 70, 71, 72, 73, 74, 75, 76, 77, 78, 79, 80, 81, 82, 83, 84, 85, 86, 87, 88, 89, 90, 91, 92, 93, 94, 95, 96, 97, 98, 99] (by decide +kernel) (by decide +kernel)
set_option maxRecDepth 20000 in
theorem gX11_isWord_X11_good : GoodIn wsX11_isWord (wsV RX11 245 RX11 yX11_good wsX11_good) := goodIn_app (goodIn_of _ (by decide +kernel)) ggX11_isWord_X11_good
set_option maxRecDepth 20000 in
theorem ggX11_isWord_J0_length_8abf5 : GoodIn wsX11_isWord wsJ0_length_8abf5 := goodIn_r _ [15, 16, 17, 18, 19, 14, 20, 21, 22] (by decide +kernel) (by decide +kernel)
set_option maxRecDepth 20000 in
theorem gX11_isWord_J0_length_8abf5 : GoodIn wsX11_isWord (wsV RX11 281 RJ0 yJ0_length_8abf5 wsJ0_length_8abf5) := goodIn_app (goodIn_of _ (by decide +kernel)) ggX11_isWord_J0_length_8abf5
set_option maxRecDepth 20000 in
theorem ggX11_isWord_J0_charAt_5068e : GoodIn wsX11_isWord wsJ0_charAt_5068e := goodIn_r _ [26, 16, 27, 28, 29, 14, 30, 21, 22, 31, 32, 33, 34, 35, 36, 37, 38, 39, 40, 41, 42, 43, 44, 45, 46, 47, 48, 49, 50, 51, 52, 53, 54, 55, 56, 57, 58, 59] (by decide +kernel) (by decide +kernel)
set_option maxRecDepth 20000 in
theorem gX11_isWord_J0_charAt_5068e : GoodIn wsX11_isWord (wsV RX11 286 RJ0 yJ0_charAt_5068e wsJ0_charAt_5068e) := goodIn_app (goodIn_of _ (by decide +kernel)) ggX11_isWord_J0_charAt_5068e
theorem dX11_isWord_0 : decode cX11_isWord 0 = .ok (.aload_n 0, 1) := by decide +kernel
theorem dX11_isWord_1 : decode cX11_isWord 1 = .ok (.invokevirtual 245, 3) := by decide +kernel
theorem dX11_isWord_4 : decode cX11_isWord 4 = .ok (.ifCond .eq 31, 3) := by decide +kernel
theorem dX11_isWord_7 : decode cX11_isWord 7 = .ok (.aload_n 0, 1) := by decide +kernel
theorem dX11_isWord_8 : decode cX11_isWord 8 = .ok (.getfield 261, 3) := by decide +kernel
theorem dX11_isWord_11 : decode cX11_isWord 11 = .ok (.iconst 1, 1) := by decide +kernel
theorem dX11_isWord_12 : decode cX11_isWord 12 = .ok (.if_icmp .ne 23, 3) := by decide +kernel
theorem dX11_isWord_15 : decode cX11_isWord 15 = .ok (.aload_n 0, 1) := by decide +kernel
theorem dX11_isWord_16 : decode cX11_isWord 16 = .ok (.getfield 255, 3) := by decide +kernel
theorem dX11_isWord_19 : decode cX11_isWord 19 = .ok (.aload_n 0, 1) := by decide +kernel
theorem dX11_isWord_20 : decode cX11_isWord 20 = .ok (.getfield 249, 3) := by decide +kernel
theorem dX11_isWord_23 : decode cX11_isWord 23 = .ok (.isub, 1) := by decide +kernel
theorem dX11_isWord_24 : decode cX11_isWord 24 = .ok (.aload_n 1, 1) := by decide +kernel
theorem dX11_isWord_25 : decode cX11_isWord 25 = .ok (.invokevirtual 281, 3) := by decide +kernel
theorem dX11_isWord_28 : decode cX11_isWord 28 = .ok (.if_icmp .ne 7, 3) := by decide +kernel
theorem dX11_isWord_31 : decode cX11_isWord 31 = .ok (.iconst 1, 1) := by decide +kernel
theorem dX11_isWord_32 : decode cX11_isWord 32 = .ok (.goto 4, 3) := by decide +kernel
theorem dX11_isWord_35 : decode cX11_isWord 35 = .ok (.iconst 0, 1) := by decide +kernel
theorem dX11_isWord_36 : decode cX11_isWord 36 = .ok (.istore_n 2, 1) := by decide +kernel
theorem dX11_isWord_37 : decode cX11_isWord 37 = .ok (.iconst 0, 1) := by decide +kernel
theorem dX11_isWord_38 : decode cX11_isWord 38 = .ok (.istore_n 3, 1) := by decide +kernel
theorem dX11_isWord_39 : decode cX11_isWord 39 = .ok (.iload_n 3, 1) := by decide +kernel
theorem dX11_isWord_40 : decode cX11_isWord 40 = .ok (.aload_n 1, 1) := by decide +kernel
theorem dX11_isWord_41 : decode cX11_isWord 41 = .ok (.invokevirtual 281, 3) := by decide +kernel
theorem dX11_isWord_44 : decode cX11_isWord 44 = .ok (.if_icmp .ge 38, 3) := by decide +kernel
theorem dX11_isWord_47 : decode cX11_isWord 47 = .ok (.iload_n 2, 1) := by decide +kernel
theorem dX11_isWord_48 : decode cX11_isWord 48 = .ok (.ifCond .eq 34, 3) := by decide +kernel
theorem dX11_isWord_51 : decode cX11_isWord 51 = .ok (.aload_n 0, 1) := by decide +kernel
theorem dX11_isWord_52 : decode cX11_isWord 52 = .ok (.getfield 63, 3) := by decide +kernel
theorem dX11_isWord_55 : decode cX11_isWord 55 = .ok (.aload_n 0, 1) := by decide +kernel
theorem dX11_isWord_56 : decode cX11_isWord 56 = .ok (.getfield 249, 3) := by decide +kernel
theorem dX11_isWord_59 : decode cX11_isWord 59 = .ok (.iload_n 3, 1) := by decide +kernel
theorem dX11_isWord_60 : decode cX11_isWord 60 = .ok (.iadd, 1) := by decide +kernel
theorem dX11_isWord_61 : decode cX11_isWord 61 = .ok (.baload, 1) := by decide +kernel
theorem dX11_isWord_62 : decode cX11_isWord 62 = .ok (.aload_n 1, 1) := by decide +kernel
theorem dX11_isWord_63 : decode cX11_isWord 63 = .ok (.iload_n 3, 1) := by decide +kernel
theorem dX11_isWord_64 : decode cX11_isWord 64 = .ok (.invokevirtual 286, 3) := by decide +kernel
theorem dX11_isWord_67 : decode cX11_isWord 67 = .ok (.if_icmp .ne 7, 3) := by decide +kernel
theorem dX11_isWord_70 : decode cX11_isWord 70 = .ok (.iconst 1, 1) := by decide +kernel
theorem dX11_isWord_71 : decode cX11_isWord 71 = .ok (.goto 4, 3) := by decide +kernel
theorem dX11_isWord_74 : decode cX11_isWord 74 = .ok (.iconst 0, 1) := by decide +kernel
theorem dX11_isWord_75 : decode cX11_isWord 75 = .ok (.istore_n 2, 1) := by decide +kernel
theorem dX11_isWord_76 : decode cX11_isWord 76 = .ok (.iinc 3 1, 3) := by decide +kernel
theorem dX11_isWord_79 : decode cX11_isWord 79 = .ok (.goto (-40), 3) := by decide +kernel
theorem dX11_isWord_82 : decode cX11_isWord 82 = .ok (.iload_n 2, 1) := by decide +kernel
theorem dX11_isWord_83 : decode cX11_isWord 83 = .ok (.ireturn, 1) := by decide +kernel
set_option maxRecDepth 20000 in
theorem ggX11_look_X11_good : GoodIn wsX11_look wsX11_good := goodIn_r _ [7, 8, 18, 19, 20, 21, 22, 23, 24, 25, 26, 27, 28, 29, 30, 31, 32, 33, 34, 35, 36, 37, 38, 39, 40, 41, 42, 43, 44, 45, 46, 47, 48, 49, 50, 51, 52, 53, 54, 55, 56, 57] (by decide +kernel) (by decide +kernel)
set_option maxRecDepth 20000 in
theorem gX11_look_X11_good : GoodIn wsX11_look (wsV RX11 245 RX11 yX11_good wsX11_good) := goodIn_app (goodIn_of _ (by decide +kernel)) ggX11_look_X11_good
set_option maxRecDepth 20000 in
theorem ggX11_look_X11_errs : GoodIn wsX11_look wsX11_errs := goodIn_r _ [12, 8, 13, 14, 3, 4, 5, 6, 7, 18, 19, 20, 21, 22, 23, 24, 25, 26, 27, 28, 29, 30, 31, 32, 33, 34, 35, 36, 37, 38, 39, 40, 41, 42, 43, 44, 45, 46, 47, 48, 49, 50, 51, 52, 53, 54, 55, 56, 57] (by decide +kernel) (by decide +kernel)
set_option maxRecDepth 20000 in
theorem gX11_look_X11_errs : GoodIn wsX11_look (wsV RX11 290 RX11 yX11_errs wsX11_errs) := goodIn_app (goodIn_of _ (by decide +kernel)) ggX11_look_X11_errs
set_option maxRecDepth 20000 in
theorem ggX11_look_X11_in : GoodIn wsX11_look wsX11_in := goodIn_r _ [17] (by decide +kernel) (by decide +kernel)
set_option maxRecDepth 20000 in
theorem gX11_look_X11_in : GoodIn wsX11_look (va_wsS RX11 87 yX11_in wsX11_in) := goodIn_app (goodIn_of _ (by decide +kernel)) ggX11_look_X11_in
theorem dX11_look_0 : decode cX11_look 0 = .ok (.aload_n 0, 1) := by decide +kernel
theorem dX11_look_1 : decode cX11_look 1 = .ok (.invokevirtual 245, 3) := by decide +kernel
theorem dX11_look_4 : decode cX11_look 4 = .ok (.ifCond .eq 16, 3) := by decide +kernel
theorem dX11_look_7 : decode cX11_look 7 = .ok (.aload_n 0, 1) := by decide +kernel
theorem dX11_look_8 : decode cX11_look 8 = .ok (.getfield 261, 3) := by decide +kernel
theorem dX11_look_11 : decode cX11_look 11 = .ok (.iconst 2, 1) := by decide +kernel
theorem dX11_look_12 : decode cX11_look 12 = .ok (.if_icmp .eq 8, 3) := by decide +kernel
theorem dX11_look_15 : decode cX11_look 15 = .ok (.aload_n 0, 1) := by decide +kernel
theorem dX11_look_16 : decode cX11_look 16 = .ok (.iconst 1, 1) := by decide +kernel
theorem dX11_look_17 : decode cX11_look 17 = .ok (.invokevirtual 290, 3) := by decide +kernel
theorem dX11_look_20 : decode cX11_look 20 = .ok (.aload_n 0, 1) := by decide +kernel
theorem dX11_look_21 : decode cX11_look 21 = .ok (.invokevirtual 245, 3) := by decide +kernel
theorem dX11_look_24 : decode cX11_look 24 = .ok (.ifCond .eq 23, 3) := by decide +kernel
theorem dX11_look_27 : decode cX11_look 27 = .ok (.aload_n 0, 1) := by decide +kernel
theorem dX11_look_28 : decode cX11_look 28 = .ok (.getfield 272, 3) := by decide +kernel
theorem dX11_look_31 : decode cX11_look 31 = .ok (.i2l, 1) := by decide +kernel
theorem dX11_look_32 : decode cX11_look 32 = .ok (.iload_n 1, 1) := by decide +kernel
theorem dX11_look_33 : decode cX11_look 33 = .ok (.i2l, 1) := by decide +kernel
theorem dX11_look_34 : decode cX11_look 34 = .ok (.iload_n 2, 1) := by decide +kernel
theorem dX11_look_35 : decode cX11_look 35 = .ok (.i2l, 1) := by decide +kernel
theorem dX11_look_36 : decode cX11_look 36 = .ok (.invokestatic 87, 3) := by decide +kernel
theorem dX11_look_39 : decode cX11_look 39 = .ok (.ifCond .ne 8, 3) := by decide +kernel
theorem dX11_look_42 : decode cX11_look 42 = .ok (.aload_n 0, 1) := by decide +kernel
theorem dX11_look_43 : decode cX11_look 43 = .ok (.iconst 2, 1) := by decide +kernel
theorem dX11_look_44 : decode cX11_look 44 = .ok (.invokevirtual 290, 3) := by decide +kernel
theorem dX11_look_47 : decode cX11_look 47 = .ok (.return_, 1) := by decide +kernel
set_option maxRecDepth 20000 in
theorem ggX11_number_X11_look : GoodIn wsX11_number wsX11_look := goodIn_r _ [6, 7, 1, 8, 9, 10, 5, 11, 12, 13, 14, 15, 16, 17, 18, 19, 20, 21, 45, 46, 47, 48, 49, 50, 51, 52, 53, 54, 55, 56, 57, 58, 59, 60, 61, 62, 63, 64, 65, 66, 67, 68, 69, 70, 71, 72, 73, 74, 75, 76, 77, 78, 79, 80, 81, 82, 83, 84] (by decide +kernel) (by decide +kernel)
set_option maxRecDepth 20000 in
theorem gX11_number_X11_look : GoodIn wsX11_number (wsV RX11 293 RX11 yX11_look wsX11_look) := goodIn_app (goodIn_of _ (by decide +kernel)) ggX11_number_X11_look
set_option maxRecDepth 20000 in
theorem ggX11_number_X11_good : GoodIn wsX11_number wsX11_good := goodIn_r _ [11, 12, 45, 46, 47, 48, 49, 50, 51, 52, 53, 54, 55, 56, 57, 58, 59, 60, 61, 62, 63, 64, 65, 66, 67, 68, 69, 70, 71, 72, 73, 74, 75, 76, 77, 78, 79, 80, 81, 82, 83, 84] (by decide +kernel) (by decide +kernel)
set_option maxRecDepth 20000 in
theorem gX11_number_X11_good : GoodIn wsX11_number (wsV RX11 245 RX11 yX11_good wsX11_good) := goodIn_app (goodIn_of _ (by decide +kernel)) ggX11_number_X11_good
set_option maxRecDepth 20000 in
theorem ggX11_number_X11_goOn : GoodIn wsX11_number wsX11_goOn := goodIn_r _ [25, 8, 9, 10, 5, 11, 12, 26, 27, 28, 29, 30, 17, 7, 31, 32, 33, 34, 1, 35, 36, 37, 38, 39, 40, 41, 42, 43, 44, 19, 20, 21, 45, 46, 47, 48, 49, 50, 51, 52, 53, 54, 55, 56, 57, 58, 59, 60, 61, 62, 63, 64, 65, 66, 67, 68, 69, 70, 71, 72, 73, 74, 75, 76, 77, 78, 79, 80, 81, 82, 83, 84] (by decide +kernel) (by decide +kernel)
set_option maxRecDepth 20000 in
theorem gX11_number_X11_goOn : GoodIn wsX11_number (wsV RX11 296 RX11 yX11_goOn wsX11_goOn) := goodIn_app (goodIn_of _ (by decide +kernel)) ggX11_number_X11_goOn
theorem dX11_number_0 : decode cX11_number 0 = .ok (.aload_n 0, 1) := by decide +kernel
theorem dX11_number_1 : decode cX11_number 1 = .ok (.iload_n 1, 1) := by decide +kernel
theorem dX11_number_2 : decode cX11_number 2 = .ok (.iload_n 2, 1) := by decide +kernel
theorem dX11_number_3 : decode cX11_number 3 = .ok (.invokevirtual 293, 3) := by decide +kernel
theorem dX11_number_6 : decode cX11_number 6 = .ok (.aload_n 0, 1) := by decide +kernel
theorem dX11_number_7 : decode cX11_number 7 = .ok (.invokevirtual 245, 3) := by decide +kernel
theorem dX11_number_10 : decode cX11_number 10 = .ok (.ifCond .eq 10, 3) := by decide +kernel
theorem dX11_number_13 : decode cX11_number 13 = .ok (.aload_n 0, 1) := by decide +kernel
theorem dX11_number_14 : decode cX11_number 14 = .ok (.getfield 272, 3) := by decide +kernel
theorem dX11_number_17 : decode cX11_number 17 = .ok (.goto 4, 3) := by decide +kernel
theorem dX11_number_20 : decode cX11_number 20 = .ok (.iconst 0, 1) := by decide +kernel
theorem dX11_number_21 : decode cX11_number 21 = .ok (.istore_n 3, 1) := by decide +kernel
theorem dX11_number_22 : decode cX11_number 22 = .ok (.aload_n 0, 1) := by decide +kernel
theorem dX11_number_23 : decode cX11_number 23 = .ok (.invokevirtual 296, 3) := by decide +kernel
theorem dX11_number_26 : decode cX11_number 26 = .ok (.iload_n 3, 1) := by decide +kernel
theorem dX11_number_27 : decode cX11_number 27 = .ok (.ireturn, 1) := by decide +kernel
set_option maxRecDepth 20000 in
theorem ggX11_numberBehind_X11_isWord : GoodIn wsX11_numberBehind wsX11_isWord := goodIn_r _ [5, 6, 7, 8, 9, 10, 11, 12, 4, 13, 14, 15, 16, 17, 18, 19, 20, 21, 22, 23, 24, 25, 26, 27, 28, 29, 30, 31, 32, 33, 34, 35, 36, 37, 38, 39, 40, 41, 42, 43, 44, 45, 46, 47, 48, 49, 50, 51, 52, 53, 54, 55, 56, 57, 58, 59, 60, 61, 62, 63, 102, 103, 104, 105, 106, 107, 108, 109, 110, 111, 112, 113, 114, 115, 116, 117, 118, 119, 120, 121, 122, 123, 124, 125, 126, 127, 128, 129, 130, 131, 132, 133, 134, 135, 136, 137, 138, 139, 140, 141] (by decide +kernel) (by decide +kernel)
set_option maxRecDepth 20000 in
theorem gX11_numberBehind_X11_isWord : GoodIn wsX11_numberBehind (wsV RX11 299 RX11 yX11_isWord wsX11_isWord) := goodIn_app (goodIn_of _ (by decide +kernel)) ggX11_numberBehind_X11_isWord
set_option maxRecDepth 20000 in
theorem ggX11_numberBehind_X11_errs : GoodIn wsX11_numberBehind wsX11_errs := goodIn_r _ [67, 14, 8, 68, 10, 11, 12, 4, 13, 102, 103, 104, 105, 106, 107, 108, 109, 110, 111, 112, 113, 114, 115, 116, 117, 118, 119, 120, 121, 122, 123, 124, 125, 126, 127, 128, 129, 130, 131, 132, 133, 134, 135, 136, 137, 138, 139, 140, 141] (by decide +kernel) (by decide +kernel)
set_option maxRecDepth 20000 in
theorem gX11_numberBehind_X11_errs : GoodIn wsX11_numberBehind (wsV RX11 290 RX11 yX11_errs wsX11_errs) := goodIn_app (goodIn_of _ (by decide +kernel)) ggX11_numberBehind_X11_errs
set_option maxRecDepth 20000 in
theorem ggX11_numberBehind_X11_goOn : GoodIn wsX11_numberBehind wsX11_goOn := goodIn_r _ [72, 10, 11, 12, 4, 13, 14, 73, 74, 75, 76, 7, 8, 6, 77, 78, 79, 80, 81, 82, 83, 84, 85, 86, 87, 88, 89, 90, 9, 91, 92, 93, 102, 103, 104, 105, 106, 107, 108, 109, 110, 111, 112, 113, 114, 115, 116, 117, 118, 119, 120, 121, 122, 123, 124, 125, 126, 127, 128, 129, 130, 131, 132, 133, 134, 135, 136, 137, 138, 139, 140, 141] (by decide +kernel) (by decide +kernel)
set_option maxRecDepth 20000 in
theorem gX11_numberBehind_X11_goOn : GoodIn wsX11_numberBehind (wsV RX11 296 RX11 yX11_goOn wsX11_goOn) := goodIn_app (goodIn_of _ (by decide +kernel)) ggX11_numberBehind_X11_goOn
set_option maxRecDepth 20000 in
theorem ggX11_numberBehind_X11_number : GoodIn wsX11_numberBehind wsX11_number := goodIn_r _ [97, 81, 98, 99, 100, 4, 101, 6, 10, 11, 12, 13, 14, 64, 65, 66, 67, 8, 68, 91, 92, 93, 69, 70, 71, 72, 73, 74, 75, 76, 7, 77, 78, 79, 80, 82, 83, 84, 85, 86, 87, 88, 89, 90, 9, 102, 103, 104, 105, 106, 107, 108, 109, 110, 111, 112, 113, 114, 115, 116, 117, 118, 119, 120, 121, 122, 123, 124, 125, 126, 127, 128, 129, 130, 131, 132, 133, 134, 135, 136, 137, 138, 139, 140, 141] (by decide +kernel) (by decide +kernel)
set_option maxRecDepth 20000 in
theorem gX11_numberBehind_X11_number : GoodIn wsX11_numberBehind (wsV RX11 303 RX11 yX11_number wsX11_number) := goodIn_app (goodIn_of _ (by decide +kernel)) ggX11_numberBehind_X11_number
theorem dX11_numberBehind_0 : decode cX11_numberBehind 0 = .ok (.aload_n 0, 1) := by decide +kernel
theorem dX11_numberBehind_1 : decode cX11_numberBehind 1 = .ok (.aload_n 1, 1) := by decide +kernel
theorem dX11_numberBehind_2 : decode cX11_numberBehind 2 = .ok (.invokevirtual 299, 3) := by decide +kernel
theorem dX11_numberBehind_5 : decode cX11_numberBehind 5 = .ok (.ifCond .ne 8, 3) := by decide +kernel
theorem dX11_numberBehind_8 : decode cX11_numberBehind 8 = .ok (.aload_n 0, 1) := by decide +kernel
theorem dX11_numberBehind_9 : decode cX11_numberBehind 9 = .ok (.iconst 1, 1) := by decide +kernel
theorem dX11_numberBehind_10 : decode cX11_numberBehind 10 = .ok (.invokevirtual 290, 3) := by decide +kernel
theorem dX11_numberBehind_13 : decode cX11_numberBehind 13 = .ok (.aload_n 0, 1) := by decide +kernel
theorem dX11_numberBehind_14 : decode cX11_numberBehind 14 = .ok (.invokevirtual 296, 3) := by decide +kernel
theorem dX11_numberBehind_17 : decode cX11_numberBehind 17 = .ok (.aload_n 0, 1) := by decide +kernel
theorem dX11_numberBehind_18 : decode cX11_numberBehind 18 = .ok (.iload_n 2, 1) := by decide +kernel
theorem dX11_numberBehind_19 : decode cX11_numberBehind 19 = .ok (.iload_n 3, 1) := by decide +kernel
theorem dX11_numberBehind_20 : decode cX11_numberBehind 20 = .ok (.invokevirtual 303, 3) := by decide +kernel
theorem dX11_numberBehind_23 : decode cX11_numberBehind 23 = .ok (.ireturn, 1) := by decide +kernel
set_option maxRecDepth 20000 in
theorem ggX11_semicolon_X11_good : GoodIn wsX11_semicolon wsX11_good := goodIn_r _ [7, 8, 41, 42, 43, 44, 45, 46, 47, 48, 49, 50, 51, 52, 53, 54, 55, 56, 57, 58, 59, 60, 61, 62, 63, 64, 65, 66, 67, 68, 69, 70, 71, 72, 73, 74, 75, 76, 77, 78, 79, 80] (by decide +kernel) (by decide +kernel)
set_option maxRecDepth 20000 in
theorem gX11_semicolon_X11_good : GoodIn wsX11_semicolon (wsV RX11 245 RX11 yX11_good wsX11_good) := goodIn_app (goodIn_of _ (by decide +kernel)) ggX11_semicolon_X11_good
set_option maxRecDepth 20000 in
theorem ggX11_semicolon_X11_errs : GoodIn wsX11_semicolon wsX11_errs := goodIn_r _ [12, 8, 13, 14, 3, 4, 5, 6, 7, 41, 42, 43, 44, 45, 46, 47, 48, 49, 50, 51, 52, 53, 54, 55, 56, 57, 58, 59, 60, 61, 62, 63, 64, 65, 66, 67, 68, 69, 70, 71, 72, 73, 74, 75, 76, 77, 78, 79, 80] (by decide +kernel) (by decide +kernel)
set_option maxRecDepth 20000 in
theorem gX11_semicolon_X11_errs : GoodIn wsX11_semicolon (wsV RX11 290 RX11 yX11_errs wsX11_errs) := goodIn_app (goodIn_of _ (by decide +kernel)) ggX11_semicolon_X11_errs
set_option maxRecDepth 20000 in
theorem ggX11_semicolon_X11_goOn : GoodIn wsX11_semicolon wsX11_goOn := goodIn_r _ [18, 3, 4, 5, 6, 7, 8, 19, 20, 21, 22, 23, 13, 1, 24, 25, 26, 27, 2, 28, 29, 30, 31, 32, 33, 34, 35, 36, 37, 38, 39, 40, 41, 42, 43, 44, 45, 46, 47, 48, 49, 50, 51, 52, 53, 54, 55, 56, 57, 58, 59, 60, 61, 62, 63, 64, 65, 66, 67, 68, 69, 70, 71, 72, 73, 74, 75, 76, 77, 78, 79, 80] (by decide +kernel) (by decide +kernel)
set_option maxRecDepth 20000 in
theorem gX11_semicolon_X11_goOn : GoodIn wsX11_semicolon (wsV RX11 296 RX11 yX11_goOn wsX11_goOn) := goodIn_app (goodIn_of _ (by decide +kernel)) ggX11_semicolon_X11_goOn
theorem dX11_semicolon_0 : decode cX11_semicolon 0 = .ok (.aload_n 0, 1) := by decide +kernel
theorem dX11_semicolon_1 : decode cX11_semicolon 1 = .ok (.invokevirtual 245, 3) := by decide +kernel
theorem dX11_semicolon_4 : decode cX11_semicolon 4 = .ok (.ifCond .eq 25, 3) := by decide +kernel
theorem dX11_semicolon_7 : decode cX11_semicolon 7 = .ok (.aload_n 0, 1) := by decide +kernel
theorem dX11_semicolon_8 : decode cX11_semicolon 8 = .ok (.getfield 261, 3) := by decide +kernel
theorem dX11_semicolon_11 : decode cX11_semicolon 11 = .ok (.iconst 3, 1) := by decide +kernel
theorem dX11_semicolon_12 : decode cX11_semicolon 12 = .ok (.if_icmp .ne 12, 3) := by decide +kernel
theorem dX11_semicolon_15 : decode cX11_semicolon 15 = .ok (.aload_n 0, 1) := by decide +kernel
theorem dX11_semicolon_16 : decode cX11_semicolon 16 = .ok (.getfield 272, 3) := by decide +kernel
theorem dX11_semicolon_19 : decode cX11_semicolon 19 = .ok (.bipush 59, 2) := by decide +kernel
theorem dX11_semicolon_21 : decode cX11_semicolon 21 = .ok (.if_icmp .eq 8, 3) := by decide +kernel
theorem dX11_semicolon_24 : decode cX11_semicolon 24 = .ok (.aload_n 0, 1) := by decide +kernel
theorem dX11_semicolon_25 : decode cX11_semicolon 25 = .ok (.iconst 1, 1) := by decide +kernel
theorem dX11_semicolon_26 : decode cX11_semicolon 26 = .ok (.invokevirtual 290, 3) := by decide +kernel
theorem dX11_semicolon_29 : decode cX11_semicolon 29 = .ok (.aload_n 0, 1) := by decide +kernel
theorem dX11_semicolon_30 : decode cX11_semicolon 30 = .ok (.invokevirtual 296, 3) := by decide +kernel
theorem dX11_semicolon_33 : decode cX11_semicolon 33 = .ok (.return_, 1) := by decide +kernel
set_option maxRecDepth 20000 in
theorem ggX11_parseFirst_X11_numberBehind : GoodIn wsX11_parseFirst wsX11_numberBehind := goodIn_r _ [6, 7, 8, 9, 5, 10, 11, 12, 13, 14, 15, 16, 17, 18, 19, 20, 21, 22, 23, 24, 25, 26, 27, 28, 29, 30, 31, 32, 33, 34, 35, 36, 37, 38, 39, 40, 41, 42, 43, 44, 45, 46, 47, 48, 49, 50, 51, 52, 53, 54, 55, 56, 57, 58, 59, 60, 61, 62, 63, 64, 65, 66, 67, 68, 69, 70, 71, 72, 73, 74, 75, 76, 77, 78, 79, 80, 81, 82, 83, 84, 85, 86, 87, 88, 89, 90, 91, 92, 93, 94, 95, 96, 97, 98, 99, 100, 101, 102, 103, 104, 105, 106, 107, 108, 109, 110, 111, 112, 113, 114, 115, 116, 117, 118, 119, 120, 121, 122, 123, 124, 125, 126, 127, 128, 129, 130, 131, 132, 133, 134, 135, 136, 137, 138, 139, 140, 141, 142, 143, 144, 145, 146] (by decide +kernel) (by decide +kernel)
set_option maxRecDepth 20000 in
theorem gX11_parseFirst_X11_numberBehind : GoodIn wsX11_parseFirst (wsV RX11 308 RX11 yX11_numberBehind wsX11_numberBehind) := goodIn_app (goodIn_of _ (by decide +kernel)) ggX11_parseFirst_X11_numberBehind
theorem dX11_parseFirst_0 : decode cX11_parseFirst 0 = .ok (.aload_n 0, 1) := by decide +kernel
theorem dX11_parseFirst_1 : decode cX11_parseFirst 1 = .ok (.getfield 24, 3) := by decide +kernel
theorem dX11_parseFirst_4 : decode cX11_parseFirst 4 = .ok (.iconst 1, 1) := by decide +kernel
theorem dX11_parseFirst_5 : decode cX11_parseFirst 5 = .ok (.aload_n 0, 1) := by decide +kernel
theorem dX11_parseFirst_6 : decode cX11_parseFirst 6 = .ok (.ldc_w 306, 3) := by decide +kernel
theorem dX11_parseFirst_9 : decode cX11_parseFirst 9 = .ok (.iconst 0, 1) := by decide +kernel
theorem dX11_parseFirst_10 : decode cX11_parseFirst 10 = .ok (.sipush 999, 3) := by decide +kernel
theorem dX11_parseFirst_13 : decode cX11_parseFirst 13 = .ok (.invokevirtual 308, 3) := by decide +kernel
theorem dX11_parseFirst_16 : decode cX11_parseFirst 16 = .ok (.iastore, 1) := by decide +kernel
theorem dX11_parseFirst_17 : decode cX11_parseFirst 17 = .ok (.aload_n 0, 1) := by decide +kernel
theorem dX11_parseFirst_18 : decode cX11_parseFirst 18 = .ok (.getfield 24, 3) := by decide +kernel
theorem dX11_parseFirst_21 : decode cX11_parseFirst 21 = .ok (.iconst 2, 1) := by decide +kernel
theorem dX11_parseFirst_22 : decode cX11_parseFirst 22 = .ok (.aload_n 0, 1) := by decide +kernel
theorem dX11_parseFirst_23 : decode cX11_parseFirst 23 = .ok (.ldc_w 312, 3) := by decide +kernel
theorem dX11_parseFirst_26 : decode cX11_parseFirst 26 = .ok (.iconst 0, 1) := by decide +kernel
theorem dX11_parseFirst_27 : decode cX11_parseFirst 27 = .ok (.bipush 12, 2) := by decide +kernel
theorem dX11_parseFirst_29 : decode cX11_parseFirst 29 = .ok (.invokevirtual 308, 3) := by decide +kernel
theorem dX11_parseFirst_32 : decode cX11_parseFirst 32 = .ok (.iastore, 1) := by decide +kernel
theorem dX11_parseFirst_33 : decode cX11_parseFirst 33 = .ok (.return_, 1) := by decide +kernel
set_option maxRecDepth 20000 in
theorem ggX11_parseItem_X11_many : GoodIn wsX11_parseItem wsX11_many := goodIn_r _ [6, 1, 115, 116, 117, 118, 119, 120, 121, 122, 123, 124, 125, 126, 127, 128, 129, 130, 131, 132, 133, 134, 135, 136, 137, 138, 139, 140, 141, 142, 143, 144, 145, 146, 147, 148, 149, 150, 151, 152, 153, 154] (by decide +kernel) (by decide +kernel)
set_option maxRecDepth 20000 in
theorem gX11_parseItem_X11_many : GoodIn wsX11_parseItem (wsV RX11 83 RX11 yX11_many wsX11_many) := goodIn_app (goodIn_of _ (by decide +kernel)) ggX11_parseItem_X11_many
set_option maxRecDepth 20000 in
theorem ggX11_parseItem_X11_errs : GoodIn wsX11_parseItem wsX11_errs := goodIn_r _ [10, 11, 12, 13, 14, 15, 16, 5, 17, 115, 116, 117, 118, 119, 120, 121, 122, 123, 124, 125, 126, 127, 128, 129, 130, 131, 132, 133, 134, 135, 136, 137, 138, 139, 140, 141, 142, 143, 144, 145, 146, 147, 148, 149, 150, 151, 152, 153, 154] (by decide +kernel) (by decide +kernel)
set_option maxRecDepth 20000 in
theorem gX11_parseItem_X11_errs : GoodIn wsX11_parseItem (wsV RX11 290 RX11 yX11_errs wsX11_errs) := goodIn_app (goodIn_of _ (by decide +kernel)) ggX11_parseItem_X11_errs
set_option maxRecDepth 20000 in
theorem ggX11_parseItem_X11_goOn : GoodIn wsX11_parseItem wsX11_goOn := goodIn_r _ [21, 14, 15, 16, 5, 17, 11, 22, 23, 24, 25, 26, 12, 27, 28, 29, 30, 31, 32, 33, 34, 35, 36, 37, 38, 39, 40, 41, 42, 43, 44, 45, 115, 116, 117, 118, 119, 120, 121, 122, 123, 124, 125, 126, 127, 128, 129, 130, 131, 132, 133, 134, 135, 136, 137, 138, 139, 140, 141, 142, 143, 144, 145, 146, 147, 148, 149, 150, 151, 152, 153, 154] (by decide +kernel) (by decide +kernel)
set_option maxRecDepth 20000 in
theorem gX11_parseItem_X11_goOn : GoodIn wsX11_parseItem (wsV RX11 296 RX11 yX11_goOn wsX11_goOn) := goodIn_app (goodIn_of _ (by decide +kernel)) ggX11_parseItem_X11_goOn
set_option maxRecDepth 20000 in
theorem ggX11_parseItem_X11_numberBehind : GoodIn wsX11_parseItem wsX11_numberBehind := goodIn_r _ [49, 50, 51, 52, 5, 53, 27, 26, 12, 42, 14, 15, 16, 17, 11, 54, 55, 56, 57, 58, 59, 60, 61, 62, 63, 64, 65, 66, 67, 68, 69, 70, 71, 72, 73, 74, 75, 76, 77, 78, 79, 80, 81, 82, 83, 84, 85, 86, 87, 88, 89, 90, 91, 92, 93, 94, 95, 96, 97, 98, 99, 100, 101, 102, 7, 8, 9, 10, 13, 18, 19, 20, 21, 22, 23, 24, 25, 28, 29, 30, 31, 32, 33, 34, 35, 36, 37, 38, 39, 40, 41, 43, 44, 45, 103, 104, 105, 106, 107, 108, 109, 110, 115, 116, 117, 118, 119, 120, 121, 122, 123, 124, 125, 126, 127, 128, 129, 130, 131, 132, 133, 134, 135, 136, 137, 138, 139, 140, 141, 142, 143, 144, 145, 146, 147, 148, 149, 150, 151, 152, 153, 154] (by decide +kernel) (by decide +kernel)
set_option maxRecDepth 20000 in
theorem gX11_parseItem_X11_numberBehind : GoodIn wsX11_parseItem (wsV RX11 308 RX11 yX11_numberBehind wsX11_numberBehind) := goodIn_app (goodIn_of _ (by decide +kernel)) ggX11_parseItem_X11_numberBehind
set_option maxRecDepth 20000 in
theorem ggX11_parseItem_X11_good : GoodIn wsX11_parseItem wsX11_good := goodIn_r _ [17, 11, 115, 116, 117, 118, 119, 120, 121, 122, 123, 124, 125, 126, 127, 128, 129, 130, 131, 132, 133, 134, 135, 136, 137, 138, 139, 140, 141, 142, 143, 144, 145, 146, 147, 148, 149, 150, 151, 152, 153, 154] (by decide +kernel) (by decide +kernel)
set_option maxRecDepth 20000 in
theorem gX11_parseItem_X11_good : GoodIn wsX11_parseItem (wsV RX11 245 RX11 yX11_good wsX11_good) := goodIn_app (goodIn_of _ (by decide +kernel)) ggX11_parseItem_X11_good
set_option maxRecDepth 20000 in
theorem ggX11_parseItem_X11_put : GoodIn wsX11_parseItem wsX11_put := goodIn_r _ [114, 1, 115, 116, 117, 118, 119, 120, 121, 122, 123, 124, 125, 126, 127, 128, 129, 130, 131, 132, 133, 134, 135, 136, 137, 138, 139, 140, 141, 142, 143, 144, 145, 146, 147, 148, 149, 150, 151, 152, 153, 154] (by decide +kernel) (by decide +kernel)
set_option maxRecDepth 20000 in
theorem gX11_parseItem_X11_put : GoodIn wsX11_parseItem (wsV RX11 320 RX11 yX11_put wsX11_put) := goodIn_app (goodIn_of _ (by decide +kernel)) ggX11_parseItem_X11_put
theorem dX11_parseItem_0 : decode cX11_parseItem 0 = .ok (.aload_n 0, 1) := by decide +kernel
theorem dX11_parseItem_1 : decode cX11_parseItem 1 = .ok (.invokevirtual 83, 3) := by decide +kernel
theorem dX11_parseItem_4 : decode cX11_parseItem 4 = .ok (.istore_n 1, 1) := by decide +kernel
theorem dX11_parseItem_5 : decode cX11_parseItem 5 = .ok (.iload_n 1, 1) := by decide +kernel
theorem dX11_parseItem_6 : decode cX11_parseItem 6 = .ok (.bipush 12, 2) := by decide +kernel
theorem dX11_parseItem_8 : decode cX11_parseItem 8 = .ok (.if_icmp .ne 8, 3) := by decide +kernel
theorem dX11_parseItem_11 : decode cX11_parseItem 11 = .ok (.aload_n 0, 1) := by decide +kernel
theorem dX11_parseItem_12 : decode cX11_parseItem 12 = .ok (.iconst 4, 1) := by decide +kernel
theorem dX11_parseItem_13 : decode cX11_parseItem 13 = .ok (.invokevirtual 290, 3) := by decide +kernel
theorem dX11_parseItem_16 : decode cX11_parseItem 16 = .ok (.aload_n 0, 1) := by decide +kernel
theorem dX11_parseItem_17 : decode cX11_parseItem 17 = .ok (.invokevirtual 296, 3) := by decide +kernel
theorem dX11_parseItem_20 : decode cX11_parseItem 20 = .ok (.aload_n 0, 1) := by decide +kernel
theorem dX11_parseItem_21 : decode cX11_parseItem 21 = .ok (.ldc_w 314, 3) := by decide +kernel
theorem dX11_parseItem_24 : decode cX11_parseItem 24 = .ok (.iconst 0, 1) := by decide +kernel
theorem dX11_parseItem_25 : decode cX11_parseItem 25 = .ok (.bipush 99, 2) := by decide +kernel
theorem dX11_parseItem_27 : decode cX11_parseItem 27 = .ok (.invokevirtual 308, 3) := by decide +kernel
theorem dX11_parseItem_30 : decode cX11_parseItem 30 = .ok (.istore_n 2, 1) := by decide +kernel
theorem dX11_parseItem_31 : decode cX11_parseItem 31 = .ok (.aload_n 0, 1) := by decide +kernel
theorem dX11_parseItem_32 : decode cX11_parseItem 32 = .ok (.ldc_w 316, 3) := by decide +kernel
theorem dX11_parseItem_35 : decode cX11_parseItem 35 = .ok (.iconst 0, 1) := by decide +kernel
theorem dX11_parseItem_36 : decode cX11_parseItem 36 = .ok (.bipush 99, 2) := by decide +kernel
theorem dX11_parseItem_38 : decode cX11_parseItem 38 = .ok (.invokevirtual 308, 3) := by decide +kernel
theorem dX11_parseItem_41 : decode cX11_parseItem 41 = .ok (.istore_n 3, 1) := by decide +kernel
theorem dX11_parseItem_42 : decode cX11_parseItem 42 = .ok (.aload_n 0, 1) := by decide +kernel
theorem dX11_parseItem_43 : decode cX11_parseItem 43 = .ok (.ldc_w 318, 3) := by decide +kernel
theorem dX11_parseItem_46 : decode cX11_parseItem 46 = .ok (.iconst 0, 1) := by decide +kernel
theorem dX11_parseItem_47 : decode cX11_parseItem 47 = .ok (.bipush 99, 2) := by decide +kernel
theorem dX11_parseItem_49 : decode cX11_parseItem 49 = .ok (.invokevirtual 308, 3) := by decide +kernel
theorem dX11_parseItem_52 : decode cX11_parseItem 52 = .ok (.istore 4, 2) := by decide +kernel
theorem dX11_parseItem_54 : decode cX11_parseItem 54 = .ok (.aload_n 0, 1) := by decide +kernel
theorem dX11_parseItem_55 : decode cX11_parseItem 55 = .ok (.invokevirtual 245, 3) := by decide +kernel
theorem dX11_parseItem_58 : decode cX11_parseItem 58 = .ok (.ifCond .ne 4, 3) := by decide +kernel
theorem dX11_parseItem_61 : decode cX11_parseItem 61 = .ok (.return_, 1) := by decide +kernel
theorem dX11_parseItem_62 : decode cX11_parseItem 62 = .ok (.aload_n 0, 1) := by decide +kernel
theorem dX11_parseItem_63 : decode cX11_parseItem 63 = .ok (.iload_n 1, 1) := by decide +kernel
theorem dX11_parseItem_64 : decode cX11_parseItem 64 = .ok (.iconst 0, 1) := by decide +kernel
theorem dX11_parseItem_65 : decode cX11_parseItem 65 = .ok (.iload_n 2, 1) := by decide +kernel
theorem dX11_parseItem_66 : decode cX11_parseItem 66 = .ok (.invokevirtual 320, 3) := by decide +kernel
theorem dX11_parseItem_69 : decode cX11_parseItem 69 = .ok (.aload_n 0, 1) := by decide +kernel
theorem dX11_parseItem_70 : decode cX11_parseItem 70 = .ok (.iload_n 1, 1) := by decide +kernel
theorem dX11_parseItem_71 : decode cX11_parseItem 71 = .ok (.iconst 1, 1) := by decide +kernel
theorem dX11_parseItem_72 : decode cX11_parseItem 72 = .ok (.iload_n 3, 1) := by decide +kernel
theorem dX11_parseItem_73 : decode cX11_parseItem 73 = .ok (.invokevirtual 320, 3) := by decide +kernel
theorem dX11_parseItem_76 : decode cX11_parseItem 76 = .ok (.aload_n 0, 1) := by decide +kernel
theorem dX11_parseItem_77 : decode cX11_parseItem 77 = .ok (.iload_n 1, 1) := by decide +kernel
theorem dX11_parseItem_78 : decode cX11_parseItem 78 = .ok (.iconst 2, 1) := by decide +kernel
theorem dX11_parseItem_79 : decode cX11_parseItem 79 = .ok (.iload 4, 2) := by decide +kernel
theorem dX11_parseItem_81 : decode cX11_parseItem 81 = .ok (.invokevirtual 320, 3) := by decide +kernel
theorem dX11_parseItem_84 : decode cX11_parseItem 84 = .ok (.aload_n 0, 1) := by decide +kernel
theorem dX11_parseItem_85 : decode cX11_parseItem 85 = .ok (.getfield 24, 3) := by decide +kernel
theorem dX11_parseItem_88 : decode cX11_parseItem 88 = .ok (.iconst 0, 1) := by decide +kernel
theorem dX11_parseItem_89 : decode cX11_parseItem 89 = .ok (.dup2, 1) := by decide +kernel
theorem dX11_parseItem_90 : decode cX11_parseItem 90 = .ok (.iaload, 1) := by decide +kernel
theorem dX11_parseItem_91 : decode cX11_parseItem 91 = .ok (.iconst 1, 1) := by decide +kernel
theorem dX11_parseItem_92 : decode cX11_parseItem 92 = .ok (.iadd, 1) := by decide +kernel
theorem dX11_parseItem_93 : decode cX11_parseItem 93 = .ok (.iastore, 1) := by decide +kernel
theorem dX11_parseItem_94 : decode cX11_parseItem 94 = .ok (.return_, 1) := by decide +kernel
set_option maxRecDepth 20000 in
theorem ggX11_parsePair_X11_goOn : GoodIn wsX11_parsePair wsX11_goOn := goodIn_r _ [6, 7, 8, 9, 5, 10, 11, 12, 13, 14, 15, 16, 17, 18, 19, 20, 21, 22, 1, 23, 24, 25, 26, 27, 28, 29, 30, 31, 32, 33, 34, 35, 65, 66, 67, 68, 69, 70, 71, 72, 73, 74, 75, 76, 77, 78, 79, 80, 81, 82, 83, 84, 85, 86, 87, 88, 89, 90, 91, 92, 93, 94, 95, 96, 97, 98, 99, 100, 101, 102, 103, 104] (by decide +kernel) (by decide +kernel)
set_option maxRecDepth 20000 in
theorem gX11_parsePair_X11_goOn : GoodIn wsX11_parsePair (wsV RX11 296 RX11 yX11_goOn wsX11_goOn) := goodIn_app (goodIn_of _ (by decide +kernel)) ggX11_parsePair_X11_goOn
set_option maxRecDepth 20000 in
theorem ggX11_parsePair_X11_many : GoodIn wsX11_parsePair wsX11_many := goodIn_r _ [39, 40, 65, 66, 67, 68, 69, 70, 71, 72, 73, 74, 75, 76, 77, 78, 79, 80, 81, 82, 83, 84, 85, 86, 87, 88, 89, 90, 91, 92, 93, 94, 95, 96, 97, 98, 99, 100, 101, 102, 103, 104] (by decide +kernel) (by decide +kernel)
set_option maxRecDepth 20000 in
theorem gX11_parsePair_X11_many : GoodIn wsX11_parsePair (wsV RX11 83 RX11 yX11_many wsX11_many) := goodIn_app (goodIn_of _ (by decide +kernel)) ggX11_parsePair_X11_many
set_option maxRecDepth 20000 in
theorem ggX11_parsePair_X11_number : GoodIn wsX11_parsePair wsX11_number := goodIn_r _ [44, 1, 45, 46, 47, 5, 48, 18, 7, 8, 9, 10, 11, 49, 50, 51, 52, 17, 53, 33, 34, 35, 2, 3, 4, 6, 12, 13, 14, 15, 16, 19, 20, 21, 22, 23, 24, 25, 26, 27, 28, 29, 30, 31, 32, 65, 66, 67, 68, 69, 70, 71, 72, 73, 74, 75, 76, 77, 78, 79, 80, 81, 82, 83, 84, 85, 86, 87, 88, 89, 90, 91, 92, 93, 94, 95, 96, 97, 98, 99, 100, 101, 102, 103, 104] (by decide +kernel) (by decide +kernel)
set_option maxRecDepth 20000 in
theorem gX11_parsePair_X11_number : GoodIn wsX11_parsePair (wsV RX11 303 RX11 yX11_number wsX11_number) := goodIn_app (goodIn_of _ (by decide +kernel)) ggX11_parsePair_X11_number
set_option maxRecDepth 20000 in
theorem ggX11_parsePair_X11_look : GoodIn wsX11_parsePair wsX11_look := goodIn_r _ [48, 18, 1, 7, 8, 9, 5, 10, 11, 49, 50, 51, 52, 17, 53, 33, 34, 35, 65, 66, 67, 68, 69, 70, 71, 72, 73, 74, 75, 76, 77, 78, 79, 80, 81, 82, 83, 84, 85, 86, 87, 88, 89, 90, 91, 92, 93, 94, 95, 96, 97, 98, 99, 100, 101, 102, 103, 104] (by decide +kernel) (by decide +kernel)
set_option maxRecDepth 20000 in
theorem gX11_parsePair_X11_look : GoodIn wsX11_parsePair (wsV RX11 293 RX11 yX11_look wsX11_look) := goodIn_app (goodIn_of _ (by decide +kernel)) ggX11_parsePair_X11_look
set_option maxRecDepth 20000 in
theorem ggX11_parsePair_X11_good : GoodIn wsX11_parsePair wsX11_good := goodIn_r _ [10, 11, 65, 66, 67, 68, 69, 70, 71, 72, 73, 74, 75, 76, 77, 78, 79, 80, 81, 82, 83, 84, 85, 86, 87, 88, 89, 90, 91, 92, 93, 94, 95, 96, 97, 98, 99, 100, 101, 102, 103, 104] (by decide +kernel) (by decide +kernel)
set_option maxRecDepth 20000 in
theorem gX11_parsePair_X11_good : GoodIn wsX11_parsePair (wsV RX11 245 RX11 yX11_good wsX11_good) := goodIn_app (goodIn_of _ (by decide +kernel)) ggX11_parsePair_X11_good
set_option maxRecDepth 20000 in
theorem ggX11_parsePair_X11_ofItem : GoodIn wsX11_parsePair wsX11_ofItem := goodIn_r _ [57, 40, 65, 66, 67, 68, 69, 70, 71, 72, 73, 74, 75, 76, 77, 78, 79, 80, 81, 82, 83, 84, 85, 86, 87, 88, 89, 90, 91, 92, 93, 94, 95, 96, 97, 98, 99, 100, 101, 102, 103, 104] (by decide +kernel) (by decide +kernel)
set_option maxRecDepth 20000 in
theorem gX11_parsePair_X11_ofItem : GoodIn wsX11_parsePair (wsV RX11 98 RX11 yX11_ofItem wsX11_ofItem) := goodIn_app (goodIn_of _ (by decide +kernel)) ggX11_parsePair_X11_ofItem
set_option maxRecDepth 20000 in
theorem ggX11_parsePair_X11_has : GoodIn wsX11_parsePair wsX11_has := goodIn_r _ [60] (by decide +kernel) (by decide +kernel)
set_option maxRecDepth 20000 in
theorem gX11_parsePair_X11_has : GoodIn wsX11_parsePair (va_wsS RX11 94 yX11_has wsX11_has) := goodIn_app (goodIn_of _ (by decide +kernel)) ggX11_parsePair_X11_has
set_option maxRecDepth 20000 in
theorem ggX11_parsePair_X11_errs : GoodIn wsX11_parsePair wsX11_errs := goodIn_r _ [52, 11, 17, 53, 7, 8, 9, 5, 10, 65, 66, 67, 68, 69, 70, 71, 72, 73, 74, 75, 76, 77, 78, 79, 80, 81, 82, 83, 84, 85, 86, 87, 88, 89, 90, 91, 92, 93, 94, 95, 96, 97, 98, 99, 100, 101, 102, 103, 104] (by decide +kernel) (by decide +kernel)
set_option maxRecDepth 20000 in
theorem gX11_parsePair_X11_errs : GoodIn wsX11_parsePair (wsV RX11 290 RX11 yX11_errs wsX11_errs) := goodIn_app (goodIn_of _ (by decide +kernel)) ggX11_parsePair_X11_errs
set_option maxRecDepth 20000 in
theorem ggX11_parsePair_X11_put : GoodIn wsX11_parsePair wsX11_put := goodIn_r _ [64, 40, 65, 66, 67, 68, 69, 70, 71, 72, 73, 74, 75, 76, 77, 78, 79, 80, 81, 82, 83, 84, 85, 86, 87, 88, 89, 90, 91, 92, 93, 94, 95, 96, 97, 98, 99, 100, 101, 102, 103, 104] (by decide +kernel) (by decide +kernel)
set_option maxRecDepth 20000 in
theorem gX11_parsePair_X11_put : GoodIn wsX11_parsePair (wsV RX11 320 RX11 yX11_put wsX11_put) := goodIn_app (goodIn_of _ (by decide +kernel)) ggX11_parsePair_X11_put
theorem dX11_parsePair_0 : decode cX11_parsePair 0 = .ok (.aload_n 0, 1) := by decide +kernel
theorem dX11_parsePair_1 : decode cX11_parsePair 1 = .ok (.invokevirtual 296, 3) := by decide +kernel
theorem dX11_parsePair_4 : decode cX11_parsePair 4 = .ok (.aload_n 0, 1) := by decide +kernel
theorem dX11_parsePair_5 : decode cX11_parsePair 5 = .ok (.iconst 0, 1) := by decide +kernel
theorem dX11_parsePair_6 : decode cX11_parsePair 6 = .ok (.aload_n 0, 1) := by decide +kernel
theorem dX11_parsePair_7 : decode cX11_parsePair 7 = .ok (.invokevirtual 83, 3) := by decide +kernel
theorem dX11_parsePair_10 : decode cX11_parsePair 10 = .ok (.iconst 1, 1) := by decide +kernel
theorem dX11_parsePair_11 : decode cX11_parsePair 11 = .ok (.isub, 1) := by decide +kernel
theorem dX11_parsePair_12 : decode cX11_parsePair 12 = .ok (.invokevirtual 303, 3) := by decide +kernel
theorem dX11_parsePair_15 : decode cX11_parsePair 15 = .ok (.istore_n 2, 1) := by decide +kernel
theorem dX11_parsePair_16 : decode cX11_parsePair 16 = .ok (.aload_n 0, 1) := by decide +kernel
theorem dX11_parsePair_17 : decode cX11_parsePair 17 = .ok (.iconst 0, 1) := by decide +kernel
theorem dX11_parsePair_18 : decode cX11_parsePair 18 = .ok (.aload_n 0, 1) := by decide +kernel
theorem dX11_parsePair_19 : decode cX11_parsePair 19 = .ok (.invokevirtual 83, 3) := by decide +kernel
theorem dX11_parsePair_22 : decode cX11_parsePair 22 = .ok (.iconst 1, 1) := by decide +kernel
theorem dX11_parsePair_23 : decode cX11_parsePair 23 = .ok (.isub, 1) := by decide +kernel
theorem dX11_parsePair_24 : decode cX11_parsePair 24 = .ok (.invokevirtual 293, 3) := by decide +kernel
theorem dX11_parsePair_27 : decode cX11_parsePair 27 = .ok (.aload_n 0, 1) := by decide +kernel
theorem dX11_parsePair_28 : decode cX11_parsePair 28 = .ok (.invokevirtual 245, 3) := by decide +kernel
theorem dX11_parsePair_31 : decode cX11_parsePair 31 = .ok (.ifCond .eq 32, 3) := by decide +kernel
theorem dX11_parsePair_34 : decode cX11_parsePair 34 = .ok (.aload_n 0, 1) := by decide +kernel
theorem dX11_parsePair_35 : decode cX11_parsePair 35 = .ok (.getfield 272, 3) := by decide +kernel
theorem dX11_parsePair_38 : decode cX11_parsePair 38 = .ok (.iload_n 2, 1) := by decide +kernel
theorem dX11_parsePair_39 : decode cX11_parsePair 39 = .ok (.if_icmp .eq 19, 3) := by decide +kernel
theorem dX11_parsePair_42 : decode cX11_parsePair 42 = .ok (.aload_n 0, 1) := by decide +kernel
theorem dX11_parsePair_43 : decode cX11_parsePair 43 = .ok (.iload_n 2, 1) := by decide +kernel
theorem dX11_parsePair_44 : decode cX11_parsePair 44 = .ok (.iload_n 1, 1) := by decide +kernel
theorem dX11_parsePair_45 : decode cX11_parsePair 45 = .ok (.invokevirtual 98, 3) := by decide +kernel
theorem dX11_parsePair_48 : decode cX11_parsePair 48 = .ok (.aload_n 0, 1) := by decide +kernel
theorem dX11_parsePair_49 : decode cX11_parsePair 49 = .ok (.getfield 272, 3) := by decide +kernel
theorem dX11_parsePair_52 : decode cX11_parsePair 52 = .ok (.invokestatic 94, 3) := by decide +kernel
theorem dX11_parsePair_55 : decode cX11_parsePair 55 = .ok (.ifCond .eq 8, 3) := by decide +kernel
theorem dX11_parsePair_58 : decode cX11_parsePair 58 = .ok (.aload_n 0, 1) := by decide +kernel
theorem dX11_parsePair_59 : decode cX11_parsePair 59 = .ok (.iconst 3, 1) := by decide +kernel
theorem dX11_parsePair_60 : decode cX11_parsePair 60 = .ok (.invokevirtual 290, 3) := by decide +kernel
theorem dX11_parsePair_63 : decode cX11_parsePair 63 = .ok (.aload_n 0, 1) := by decide +kernel
theorem dX11_parsePair_64 : decode cX11_parsePair 64 = .ok (.invokevirtual 245, 3) := by decide +kernel
theorem dX11_parsePair_67 : decode cX11_parsePair 67 = .ok (.ifCond .eq 10, 3) := by decide +kernel
theorem dX11_parsePair_70 : decode cX11_parsePair 70 = .ok (.aload_n 0, 1) := by decide +kernel
theorem dX11_parsePair_71 : decode cX11_parsePair 71 = .ok (.getfield 272, 3) := by decide +kernel
theorem dX11_parsePair_74 : decode cX11_parsePair 74 = .ok (.goto 4, 3) := by decide +kernel
theorem dX11_parsePair_77 : decode cX11_parsePair 77 = .ok (.iconst 0, 1) := by decide +kernel
theorem dX11_parsePair_78 : decode cX11_parsePair 78 = .ok (.istore_n 3, 1) := by decide +kernel
theorem dX11_parsePair_79 : decode cX11_parsePair 79 = .ok (.aload_n 0, 1) := by decide +kernel
theorem dX11_parsePair_80 : decode cX11_parsePair 80 = .ok (.invokevirtual 296, 3) := by decide +kernel
theorem dX11_parsePair_83 : decode cX11_parsePair 83 = .ok (.aload_n 0, 1) := by decide +kernel
theorem dX11_parsePair_84 : decode cX11_parsePair 84 = .ok (.invokevirtual 245, 3) := by decide +kernel
theorem dX11_parsePair_87 : decode cX11_parsePair 87 = .ok (.ifCond .ne 4, 3) := by decide +kernel
theorem dX11_parsePair_90 : decode cX11_parsePair 90 = .ok (.return_, 1) := by decide +kernel
theorem dX11_parsePair_91 : decode cX11_parsePair 91 = .ok (.aload_n 0, 1) := by decide +kernel
theorem dX11_parsePair_92 : decode cX11_parsePair 92 = .ok (.iload_n 2, 1) := by decide +kernel
theorem dX11_parsePair_93 : decode cX11_parsePair 93 = .ok (.iload_n 1, 1) := by decide +kernel
theorem dX11_parsePair_94 : decode cX11_parsePair 94 = .ok (.aload_n 0, 1) := by decide +kernel
theorem dX11_parsePair_95 : decode cX11_parsePair 95 = .ok (.iload_n 2, 1) := by decide +kernel
theorem dX11_parsePair_96 : decode cX11_parsePair 96 = .ok (.iload_n 1, 1) := by decide +kernel
theorem dX11_parsePair_97 : decode cX11_parsePair 97 = .ok (.invokevirtual 98, 3) := by decide +kernel
theorem dX11_parsePair_100 : decode cX11_parsePair 100 = .ok (.iconst 1, 1) := by decide +kernel
theorem dX11_parsePair_101 : decode cX11_parsePair 101 = .ok (.iload_n 3, 1) := by decide +kernel
theorem dX11_parsePair_102 : decode cX11_parsePair 102 = .ok (.ishl, 1) := by decide +kernel
theorem dX11_parsePair_103 : decode cX11_parsePair 103 = .ok (.ior, 1) := by decide +kernel
theorem dX11_parsePair_104 : decode cX11_parsePair 104 = .ok (.invokevirtual 320, 3) := by decide +kernel
theorem dX11_parsePair_107 : decode cX11_parsePair 107 = .ok (.iload_n 1, 1) := by decide +kernel
theorem dX11_parsePair_108 : decode cX11_parsePair 108 = .ok (.iconst 3, 1) := by decide +kernel
theorem dX11_parsePair_109 : decode cX11_parsePair 109 = .ok (.if_icmp .ne 19, 3) := by decide +kernel
theorem dX11_parsePair_112 : decode cX11_parsePair 112 = .ok (.aload_n 0, 1) := by decide +kernel
theorem dX11_parsePair_113 : decode cX11_parsePair 113 = .ok (.iload_n 3, 1) := by decide +kernel
theorem dX11_parsePair_114 : decode cX11_parsePair 114 = .ok (.iload_n 1, 1) := by decide +kernel
theorem dX11_parsePair_115 : decode cX11_parsePair 115 = .ok (.aload_n 0, 1) := by decide +kernel
theorem dX11_parsePair_116 : decode cX11_parsePair 116 = .ok (.iload_n 3, 1) := by decide +kernel
theorem dX11_parsePair_117 : decode cX11_parsePair 117 = .ok (.iload_n 1, 1) := by decide +kernel
theorem dX11_parsePair_118 : decode cX11_parsePair 118 = .ok (.invokevirtual 98, 3) := by decide +kernel
theorem dX11_parsePair_121 : decode cX11_parsePair 121 = .ok (.iconst 1, 1) := by decide +kernel
theorem dX11_parsePair_122 : decode cX11_parsePair 122 = .ok (.iload_n 2, 1) := by decide +kernel
theorem dX11_parsePair_123 : decode cX11_parsePair 123 = .ok (.ishl, 1) := by decide +kernel
theorem dX11_parsePair_124 : decode cX11_parsePair 124 = .ok (.ior, 1) := by decide +kernel
theorem dX11_parsePair_125 : decode cX11_parsePair 125 = .ok (.invokevirtual 320, 3) := by decide +kernel
theorem dX11_parsePair_128 : decode cX11_parsePair 128 = .ok (.return_, 1) := by decide +kernel
set_option maxRecDepth 20000 in
theorem ggX11_parseOne_X11_goOn : GoodIn wsX11_parseOne wsX11_goOn := goodIn_r _ [7, 8, 9, 10, 6, 11, 12, 13, 14, 15, 16, 17, 18, 19, 20, 21, 22, 23, 2, 24, 25, 26, 27, 28, 29, 30, 31, 32, 33, 34, 35, 36, 53, 54, 55, 56, 57, 58, 59, 60, 61, 62, 63, 64, 65, 66, 67, 68, 69, 70, 71, 72, 73, 74, 75, 76, 77, 78, 79, 80, 81, 82, 83, 84, 85, 86, 87, 88, 89, 90, 91, 92] (by decide +kernel) (by decide +kernel)
set_option maxRecDepth 20000 in
theorem gX11_parseOne_X11_goOn : GoodIn wsX11_parseOne (wsV RX11 296 RX11 yX11_goOn wsX11_goOn) := goodIn_app (goodIn_of _ (by decide +kernel)) ggX11_parseOne_X11_goOn
set_option maxRecDepth 20000 in
theorem ggX11_parseOne_X11_many : GoodIn wsX11_parseOne wsX11_many := goodIn_r _ [40, 1, 53, 54, 55, 56, 57, 58, 59, 60, 61, 62, 63, 64, 65, 66, 67, 68, 69, 70, 71, 72, 73, 74, 75, 76, 77, 78, 79, 80, 81, 82, 83, 84, 85, 86, 87, 88, 89, 90, 91, 92] (by decide +kernel) (by decide +kernel)
set_option maxRecDepth 20000 in
theorem gX11_parseOne_X11_many : GoodIn wsX11_parseOne (wsV RX11 83 RX11 yX11_many wsX11_many) := goodIn_app (goodIn_of _ (by decide +kernel)) ggX11_parseOne_X11_many
set_option maxRecDepth 20000 in
theorem ggX11_parseOne_X11_look : GoodIn wsX11_parseOne wsX11_look := goodIn_r _ [44, 19, 2, 8, 9, 10, 6, 11, 12, 45, 46, 47, 48, 18, 49, 34, 35, 36, 53, 54, 55, 56, 57, 58, 59, 60, 61, 62, 63, 64, 65, 66, 67, 68, 69, 70, 71, 72, 73, 74, 75, 76, 77, 78, 79, 80, 81, 82, 83, 84, 85, 86, 87, 88, 89, 90, 91, 92] (by decide +kernel) (by decide +kernel)
set_option maxRecDepth 20000 in
theorem gX11_parseOne_X11_look : GoodIn wsX11_parseOne (wsV RX11 293 RX11 yX11_look wsX11_look) := goodIn_app (goodIn_of _ (by decide +kernel)) ggX11_parseOne_X11_look
set_option maxRecDepth 20000 in
theorem ggX11_parseOne_X11_good : GoodIn wsX11_parseOne wsX11_good := goodIn_r _ [11, 12, 53, 54, 55, 56, 57, 58, 59, 60, 61, 62, 63, 64, 65, 66, 67, 68, 69, 70, 71, 72, 73, 74, 75, 76, 77, 78, 79, 80, 81, 82, 83, 84, 85, 86, 87, 88, 89, 90, 91, 92] (by decide +kernel) (by decide +kernel)
set_option maxRecDepth 20000 in
theorem gX11_parseOne_X11_good : GoodIn wsX11_parseOne (wsV RX11 245 RX11 yX11_good wsX11_good) := goodIn_app (goodIn_of _ (by decide +kernel)) ggX11_parseOne_X11_good
set_option maxRecDepth 20000 in
theorem ggX11_parseOne_X11_has : GoodIn wsX11_parseOne wsX11_has := goodIn_r _ [52] (by decide +kernel) (by decide +kernel)
set_option maxRecDepth 20000 in
theorem gX11_parseOne_X11_has : GoodIn wsX11_parseOne (va_wsS RX11 94 yX11_has wsX11_has) := goodIn_app (goodIn_of _ (by decide +kernel)) ggX11_parseOne_X11_has
set_option maxRecDepth 20000 in
theorem ggX11_parseOne_X11_errs : GoodIn wsX11_parseOne wsX11_errs := goodIn_r _ [48, 12, 18, 49, 8, 9, 10, 6, 11, 53, 54, 55, 56, 57, 58, 59, 60, 61, 62, 63, 64, 65, 66, 67, 68, 69, 70, 71, 72, 73, 74, 75, 76, 77, 78, 79, 80, 81, 82, 83, 84, 85, 86, 87, 88, 89, 90, 91, 92] (by decide +kernel) (by decide +kernel)
set_option maxRecDepth 20000 in
theorem gX11_parseOne_X11_errs : GoodIn wsX11_parseOne (wsV RX11 290 RX11 yX11_errs wsX11_errs) := goodIn_app (goodIn_of _ (by decide +kernel)) ggX11_parseOne_X11_errs
theorem dX11_parseOne_0 : decode cX11_parseOne 0 = .ok (.aload_n 0, 1) := by decide +kernel
theorem dX11_parseOne_1 : decode cX11_parseOne 1 = .ok (.invokevirtual 296, 3) := by decide +kernel
theorem dX11_parseOne_4 : decode cX11_parseOne 4 = .ok (.aload_n 0, 1) := by decide +kernel
theorem dX11_parseOne_5 : decode cX11_parseOne 5 = .ok (.iconst 0, 1) := by decide +kernel
theorem dX11_parseOne_6 : decode cX11_parseOne 6 = .ok (.aload_n 0, 1) := by decide +kernel
theorem dX11_parseOne_7 : decode cX11_parseOne 7 = .ok (.invokevirtual 83, 3) := by decide +kernel
theorem dX11_parseOne_10 : decode cX11_parseOne 10 = .ok (.iconst 1, 1) := by decide +kernel
theorem dX11_parseOne_11 : decode cX11_parseOne 11 = .ok (.isub, 1) := by decide +kernel
theorem dX11_parseOne_12 : decode cX11_parseOne 12 = .ok (.invokevirtual 293, 3) := by decide +kernel
theorem dX11_parseOne_15 : decode cX11_parseOne 15 = .ok (.aload_n 0, 1) := by decide +kernel
theorem dX11_parseOne_16 : decode cX11_parseOne 16 = .ok (.invokevirtual 245, 3) := by decide +kernel
theorem dX11_parseOne_19 : decode cX11_parseOne 19 = .ok (.ifCond .eq 24, 3) := by decide +kernel
theorem dX11_parseOne_22 : decode cX11_parseOne 22 = .ok (.aload_n 0, 1) := by decide +kernel
theorem dX11_parseOne_23 : decode cX11_parseOne 23 = .ok (.getfield 24, 3) := by decide +kernel
theorem dX11_parseOne_26 : decode cX11_parseOne 26 = .ok (.iload_n 1, 1) := by decide +kernel
theorem dX11_parseOne_27 : decode cX11_parseOne 27 = .ok (.iaload, 1) := by decide +kernel
theorem dX11_parseOne_28 : decode cX11_parseOne 28 = .ok (.aload_n 0, 1) := by decide +kernel
theorem dX11_parseOne_29 : decode cX11_parseOne 29 = .ok (.getfield 272, 3) := by decide +kernel
theorem dX11_parseOne_32 : decode cX11_parseOne 32 = .ok (.invokestatic 94, 3) := by decide +kernel
theorem dX11_parseOne_35 : decode cX11_parseOne 35 = .ok (.ifCond .eq 8, 3) := by decide +kernel
theorem dX11_parseOne_38 : decode cX11_parseOne 38 = .ok (.aload_n 0, 1) := by decide +kernel
theorem dX11_parseOne_39 : decode cX11_parseOne 39 = .ok (.iconst 3, 1) := by decide +kernel
theorem dX11_parseOne_40 : decode cX11_parseOne 40 = .ok (.invokevirtual 290, 3) := by decide +kernel
theorem dX11_parseOne_43 : decode cX11_parseOne 43 = .ok (.aload_n 0, 1) := by decide +kernel
theorem dX11_parseOne_44 : decode cX11_parseOne 44 = .ok (.invokevirtual 245, 3) := by decide +kernel
theorem dX11_parseOne_47 : decode cX11_parseOne 47 = .ok (.ifCond .eq 10, 3) := by decide +kernel
theorem dX11_parseOne_50 : decode cX11_parseOne 50 = .ok (.aload_n 0, 1) := by decide +kernel
theorem dX11_parseOne_51 : decode cX11_parseOne 51 = .ok (.getfield 272, 3) := by decide +kernel
theorem dX11_parseOne_54 : decode cX11_parseOne 54 = .ok (.goto 4, 3) := by decide +kernel
theorem dX11_parseOne_57 : decode cX11_parseOne 57 = .ok (.iconst 0, 1) := by decide +kernel
theorem dX11_parseOne_58 : decode cX11_parseOne 58 = .ok (.istore_n 2, 1) := by decide +kernel
theorem dX11_parseOne_59 : decode cX11_parseOne 59 = .ok (.aload_n 0, 1) := by decide +kernel
theorem dX11_parseOne_60 : decode cX11_parseOne 60 = .ok (.invokevirtual 296, 3) := by decide +kernel
theorem dX11_parseOne_63 : decode cX11_parseOne 63 = .ok (.aload_n 0, 1) := by decide +kernel
theorem dX11_parseOne_64 : decode cX11_parseOne 64 = .ok (.invokevirtual 245, 3) := by decide +kernel
theorem dX11_parseOne_67 : decode cX11_parseOne 67 = .ok (.ifCond .eq 15, 3) := by decide +kernel
theorem dX11_parseOne_70 : decode cX11_parseOne 70 = .ok (.aload_n 0, 1) := by decide +kernel
theorem dX11_parseOne_71 : decode cX11_parseOne 71 = .ok (.getfield 24, 3) := by decide +kernel
theorem dX11_parseOne_74 : decode cX11_parseOne 74 = .ok (.iload_n 1, 1) := by decide +kernel
theorem dX11_parseOne_75 : decode cX11_parseOne 75 = .ok (.dup2, 1) := by decide +kernel
theorem dX11_parseOne_76 : decode cX11_parseOne 76 = .ok (.iaload, 1) := by decide +kernel
theorem dX11_parseOne_77 : decode cX11_parseOne 77 = .ok (.iconst 1, 1) := by decide +kernel
theorem dX11_parseOne_78 : decode cX11_parseOne 78 = .ok (.iload_n 2, 1) := by decide +kernel
theorem dX11_parseOne_79 : decode cX11_parseOne 79 = .ok (.ishl, 1) := by decide +kernel
theorem dX11_parseOne_80 : decode cX11_parseOne 80 = .ok (.ior, 1) := by decide +kernel
theorem dX11_parseOne_81 : decode cX11_parseOne 81 = .ok (.iastore, 1) := by decide +kernel
theorem dX11_parseOne_82 : decode cX11_parseOne 82 = .ok (.return_, 1) := by decide +kernel
set_option maxRecDepth 20000 in
theorem ggX11_parseStatement_X11_isWord : GoodIn wsX11_parseStatement wsX11_isWord := goodIn_r _ [5, 6, 7, 8, 9, 10, 11, 12, 4, 13, 14, 15, 16, 17, 18, 19, 20, 21, 22, 23, 24, 25, 26, 27, 28, 29, 30, 31, 32, 33, 34, 35, 36, 37, 38, 39, 40, 41, 42, 43, 44, 45, 46, 47, 48, 49, 50, 51, 52, 53, 54, 55, 56, 57, 58, 59, 60, 61, 62, 63, 138, 139, 140, 141, 142, 143, 144, 145, 146, 147, 148, 149, 150, 151, 152, 153, 154, 155, 156, 157, 158, 159, 160, 161, 162, 163, 164, 165, 166, 167, 168, 169, 170, 171, 172, 173, 174, 175, 176, 177] (by decide +kernel) (by decide +kernel)
set_option maxRecDepth 20000 in
theorem gX11_parseStatement_X11_isWord : GoodIn wsX11_parseStatement (wsV RX11 299 RX11 yX11_isWord wsX11_isWord) := goodIn_app (goodIn_of _ (by decide +kernel)) ggX11_parseStatement_X11_isWord
set_option maxRecDepth 20000 in
theorem ggX11_parseStatement_X11_parseItem : GoodIn wsX11_parseStatement wsX11_parseItem := goodIn_r _ [67, 68, 69, 70, 71, 4, 72, 73, 74, 75, 76, 14, 8, 77, 10, 11, 12, 13, 78, 79, 80, 81, 82, 83, 84, 85, 7, 6, 86, 87, 88, 89, 90, 91, 92, 93, 94, 95, 96, 97, 98, 99, 9, 100, 101, 102, 103, 104, 105, 106, 1, 2, 3, 5, 15, 16, 17, 18, 19, 20, 21, 22, 23, 24, 25, 26, 27, 28, 29, 30, 31, 32, 33, 34, 35, 36, 37, 38, 39, 40, 41, 42, 43, 44, 45, 46, 47, 48, 49, 50, 51, 52, 53, 54, 55, 56, 57, 58, 59, 60, 61, 62, 63, 107, 108, 109, 110, 111, 112, 113, 114, 115, 116, 117, 118, 138, 139, 140, 141, 142, 143, 144, 145, 146, 147, 148, 149, 150, 151, 152, 153, 154, 155, 156, 157, 158, 159, 160, 161, 162, 163, 164, 165, 166, 167, 168, 169, 170, 171, 172, 173, 174, 175, 176, 177] (by decide +kernel) (by decide +kernel)
set_option maxRecDepth 20000 in
theorem gX11_parseStatement_X11_parseItem : GoodIn wsX11_parseStatement (wsV RX11 325 RX11 yX11_parseItem wsX11_parseItem) := goodIn_app (goodIn_of _ (by decide +kernel)) ggX11_parseStatement_X11_parseItem
set_option maxRecDepth 20000 in
theorem ggX11_parseStatement_X11_parsePair : GoodIn wsX11_parseStatement wsX11_parsePair := goodIn_r _ [122, 90, 78, 79, 80, 4, 81, 10, 11, 12, 13, 14, 82, 83, 84, 85, 7, 8, 6, 86, 87, 88, 89, 91, 92, 93, 94, 95, 96, 97, 98, 99, 9, 100, 101, 102, 69, 70, 71, 72, 68, 107, 108, 109, 110, 111, 112, 113, 114, 73, 74, 75, 76, 77, 123, 124, 125, 126, 127, 128, 129, 115, 116, 117, 118, 138, 139, 140, 141, 142, 143, 144, 145, 146, 147, 148, 149, 150, 151, 152, 153, 154, 155, 156, 157, 158, 159, 160, 161, 162, 163, 164, 165, 166, 167, 168, 169, 170, 171, 172, 173, 174, 175, 176, 177] (by decide +kernel) (by decide +kernel)
set_option maxRecDepth 20000 in
theorem gX11_parseStatement_X11_parsePair : GoodIn wsX11_parseStatement (wsV RX11 330 RX11 yX11_parsePair wsX11_parsePair) := goodIn_app (goodIn_of _ (by decide +kernel)) ggX11_parseStatement_X11_parsePair
set_option maxRecDepth 20000 in
theorem ggX11_parseStatement_X11_parseOne : GoodIn wsX11_parseStatement wsX11_parseOne := goodIn_r _ [133, 68, 90, 78, 79, 80, 4, 81, 10, 11, 12, 13, 14, 82, 83, 84, 85, 7, 8, 6, 86, 87, 88, 89, 91, 92, 93, 94, 95, 96, 97, 98, 99, 9, 100, 101, 102, 69, 70, 71, 72, 111, 112, 113, 114, 73, 74, 75, 76, 77, 127, 128, 129, 138, 139, 140, 141, 142, 143, 144, 145, 146, 147, 148, 149, 150, 151, 152, 153, 154, 155, 156, 157, 158, 159, 160, 161, 162, 163, 164, 165, 166, 167, 168, 169, 170, 171, 172, 173, 174, 175, 176, 177] (by decide +kernel) (by decide +kernel)
set_option maxRecDepth 20000 in
theorem gX11_parseStatement_X11_parseOne : GoodIn wsX11_parseStatement (wsV RX11 337 RX11 yX11_parseOne wsX11_parseOne) := goodIn_app (goodIn_of _ (by decide +kernel)) ggX11_parseStatement_X11_parseOne
set_option maxRecDepth 20000 in
theorem ggX11_parseStatement_X11_errs : GoodIn wsX11_parseStatement wsX11_errs := goodIn_r _ [76, 14, 8, 77, 10, 11, 12, 4, 13, 138, 139, 140, 141, 142, 143, 144, 145, 146, 147, 148, 149, 150, 151, 152, 153, 154, 155, 156, 157, 158, 159, 160, 161, 162, 163, 164, 165, 166, 167, 168, 169, 170, 171, 172, 173, 174, 175, 176, 177] (by decide +kernel) (by decide +kernel)
set_option maxRecDepth 20000 in
theorem gX11_parseStatement_X11_errs : GoodIn wsX11_parseStatement (wsV RX11 290 RX11 yX11_errs wsX11_errs) := goodIn_app (goodIn_of _ (by decide +kernel)) ggX11_parseStatement_X11_errs
set_option maxRecDepth 20000 in
theorem ggX11_parseStatement_X11_semicolon : GoodIn wsX11_parseStatement wsX11_semicolon := goodIn_r _ [137, 6, 90, 10, 11, 12, 4, 13, 14, 73, 74, 75, 76, 8, 77, 78, 79, 80, 81, 82, 83, 84, 85, 7, 86, 87, 88, 89, 91, 92, 93, 94, 95, 96, 97, 98, 99, 9, 100, 101, 102, 138, 139, 140, 141, 142, 143, 144, 145, 146, 147, 148, 149, 150, 151, 152, 153, 154, 155, 156, 157, 158, 159, 160, 161, 162, 163, 164, 165, 166, 167, 168, 169, 170, 171, 172, 173, 174, 175, 176, 177] (by decide +kernel) (by decide +kernel)
set_option maxRecDepth 20000 in
theorem gX11_parseStatement_X11_semicolon : GoodIn wsX11_parseStatement (wsV RX11 342 RX11 yX11_semicolon wsX11_semicolon) := goodIn_app (goodIn_of _ (by decide +kernel)) ggX11_parseStatement_X11_semicolon
theorem dX11_parseStatement_0 : decode cX11_parseStatement 0 = .ok (.aload_n 0, 1) := by decide +kernel
theorem dX11_parseStatement_1 : decode cX11_parseStatement 1 = .ok (.ldc_w 323, 3) := by decide +kernel
theorem dX11_parseStatement_4 : decode cX11_parseStatement 4 = .ok (.invokevirtual 299, 3) := by decide +kernel
theorem dX11_parseStatement_7 : decode cX11_parseStatement 7 = .ok (.ifCond .eq 10, 3) := by decide +kernel
theorem dX11_parseStatement_10 : decode cX11_parseStatement 10 = .ok (.aload_n 0, 1) := by decide +kernel
theorem dX11_parseStatement_11 : decode cX11_parseStatement 11 = .ok (.invokevirtual 325, 3) := by decide +kernel
theorem dX11_parseStatement_14 : decode cX11_parseStatement 14 = .ok (.goto 80, 3) := by decide +kernel
theorem dX11_parseStatement_17 : decode cX11_parseStatement 17 = .ok (.aload_n 0, 1) := by decide +kernel
theorem dX11_parseStatement_18 : decode cX11_parseStatement 18 = .ok (.ldc_w 328, 3) := by decide +kernel
theorem dX11_parseStatement_21 : decode cX11_parseStatement 21 = .ok (.invokevirtual 299, 3) := by decide +kernel
theorem dX11_parseStatement_24 : decode cX11_parseStatement 24 = .ok (.ifCond .eq 11, 3) := by decide +kernel
theorem dX11_parseStatement_27 : decode cX11_parseStatement 27 = .ok (.aload_n 0, 1) := by decide +kernel
theorem dX11_parseStatement_28 : decode cX11_parseStatement 28 = .ok (.iconst 3, 1) := by decide +kernel
theorem dX11_parseStatement_29 : decode cX11_parseStatement 29 = .ok (.invokevirtual 330, 3) := by decide +kernel
theorem dX11_parseStatement_32 : decode cX11_parseStatement 32 = .ok (.goto 62, 3) := by decide +kernel
theorem dX11_parseStatement_35 : decode cX11_parseStatement 35 = .ok (.aload_n 0, 1) := by decide +kernel
theorem dX11_parseStatement_36 : decode cX11_parseStatement 36 = .ok (.ldc_w 333, 3) := by decide +kernel
theorem dX11_parseStatement_39 : decode cX11_parseStatement 39 = .ok (.invokevirtual 299, 3) := by decide +kernel
theorem dX11_parseStatement_42 : decode cX11_parseStatement 42 = .ok (.ifCond .eq 11, 3) := by decide +kernel
theorem dX11_parseStatement_45 : decode cX11_parseStatement 45 = .ok (.aload_n 0, 1) := by decide +kernel
theorem dX11_parseStatement_46 : decode cX11_parseStatement 46 = .ok (.iconst 4, 1) := by decide +kernel
theorem dX11_parseStatement_47 : decode cX11_parseStatement 47 = .ok (.invokevirtual 330, 3) := by decide +kernel
theorem dX11_parseStatement_50 : decode cX11_parseStatement 50 = .ok (.goto 44, 3) := by decide +kernel
theorem dX11_parseStatement_53 : decode cX11_parseStatement 53 = .ok (.aload_n 0, 1) := by decide +kernel
theorem dX11_parseStatement_54 : decode cX11_parseStatement 54 = .ok (.ldc_w 335, 3) := by decide +kernel
theorem dX11_parseStatement_57 : decode cX11_parseStatement 57 = .ok (.invokevirtual 299, 3) := by decide +kernel
theorem dX11_parseStatement_60 : decode cX11_parseStatement 60 = .ok (.ifCond .eq 11, 3) := by decide +kernel
theorem dX11_parseStatement_63 : decode cX11_parseStatement 63 = .ok (.aload_n 0, 1) := by decide +kernel
theorem dX11_parseStatement_64 : decode cX11_parseStatement 64 = .ok (.iconst 3, 1) := by decide +kernel
theorem dX11_parseStatement_65 : decode cX11_parseStatement 65 = .ok (.invokevirtual 337, 3) := by decide +kernel
theorem dX11_parseStatement_68 : decode cX11_parseStatement 68 = .ok (.goto 26, 3) := by decide +kernel
theorem dX11_parseStatement_71 : decode cX11_parseStatement 71 = .ok (.aload_n 0, 1) := by decide +kernel
theorem dX11_parseStatement_72 : decode cX11_parseStatement 72 = .ok (.ldc_w 340, 3) := by decide +kernel
theorem dX11_parseStatement_75 : decode cX11_parseStatement 75 = .ok (.invokevirtual 299, 3) := by decide +kernel
theorem dX11_parseStatement_78 : decode cX11_parseStatement 78 = .ok (.ifCond .eq 11, 3) := by decide +kernel
theorem dX11_parseStatement_81 : decode cX11_parseStatement 81 = .ok (.aload_n 0, 1) := by decide +kernel
theorem dX11_parseStatement_82 : decode cX11_parseStatement 82 = .ok (.iconst 4, 1) := by decide +kernel
theorem dX11_parseStatement_83 : decode cX11_parseStatement 83 = .ok (.invokevirtual 337, 3) := by decide +kernel
theorem dX11_parseStatement_86 : decode cX11_parseStatement 86 = .ok (.goto 8, 3) := by decide +kernel
theorem dX11_parseStatement_89 : decode cX11_parseStatement 89 = .ok (.aload_n 0, 1) := by decide +kernel
theorem dX11_parseStatement_90 : decode cX11_parseStatement 90 = .ok (.iconst 1, 1) := by decide +kernel
theorem dX11_parseStatement_91 : decode cX11_parseStatement 91 = .ok (.invokevirtual 290, 3) := by decide +kernel
theorem dX11_parseStatement_94 : decode cX11_parseStatement 94 = .ok (.aload_n 0, 1) := by decide +kernel
theorem dX11_parseStatement_95 : decode cX11_parseStatement 95 = .ok (.invokevirtual 342, 3) := by decide +kernel
theorem dX11_parseStatement_98 : decode cX11_parseStatement 98 = .ok (.return_, 1) := by decide +kernel
set_option maxRecDepth 20000 in
theorem ggX11_load_X11_scan : GoodIn wsX11_load wsX11_scan := goodIn_r _ [15, 4, 16, 9, 17, 18, 19, 20, 21, 22, 23, 24, 25, 26, 27, 28, 14, 29, 3, 30, 31, 32, 33, 156, 157, 158, 159, 160, 161, 162, 163, 164, 165, 166, 167, 168, 169, 170, 171, 172, 173, 174, 175, 176, 177, 178, 179, 180, 181, 182, 183, 184, 185, 186, 187, 188, 189, 190, 191, 192, 193, 194, 195] (by decide +kernel) (by decide +kernel)
set_option maxRecDepth 20000 in
theorem gX11_load_X11_scan : GoodIn wsX11_load (wsV RX11 278 RX11 yX11_scan wsX11_scan) := goodIn_app (goodIn_of _ (by decide +kernel)) ggX11_load_X11_scan
set_option maxRecDepth 20000 in
theorem ggX11_load_X11_parseFirst : GoodIn wsX11_load wsX11_parseFirst := goodIn_r _ [37, 8, 38, 39, 40, 14, 41, 42, 43, 44, 45, 9, 4, 16, 30, 46, 47, 48, 49, 5, 50, 51, 52, 53, 54, 55, 56, 57, 58, 59, 60, 61, 62, 63, 64, 65, 66, 67, 68, 69, 70, 71, 72, 73, 74, 75, 76, 77, 78, 79, 80, 81, 82, 83, 84, 85, 86, 87, 88, 89, 90, 91, 92, 93, 94, 95, 96, 97, 98, 99, 100, 101, 102, 6, 103, 104, 105, 106, 11, 12, 13, 15, 17, 18, 19, 20, 21, 22, 23, 24, 25, 26, 27, 28, 29, 3, 31, 32, 33, 107, 108, 109, 110, 111, 112, 113, 114, 156, 157, 158, 159, 160, 161, 162, 163, 164, 165, 166, 167, 168, 169, 170, 171, 172, 173, 174, 175, 176, 177, 178, 179, 180, 181, 182, 183, 184, 185, 186, 187, 188, 189, 190, 191, 192, 193, 194, 195] (by decide +kernel) (by decide +kernel)
set_option maxRecDepth 20000 in
theorem gX11_load_X11_parseFirst : GoodIn wsX11_load (wsV RX11 345 RX11 yX11_parseFirst wsX11_parseFirst) := goodIn_app (goodIn_of _ (by decide +kernel)) ggX11_load_X11_parseFirst
set_option maxRecDepth 20000 in
theorem ggX11_load_X11_semicolon : GoodIn wsX11_load wsX11_semicolon := goodIn_r _ [118, 9, 21, 46, 47, 48, 14, 49, 5, 99, 100, 101, 102, 16, 6, 103, 104, 105, 106, 11, 12, 13, 15, 4, 17, 18, 19, 20, 22, 23, 24, 25, 26, 27, 28, 29, 3, 30, 31, 32, 33, 156, 157, 158, 159, 160, 161, 162, 163, 164, 165, 166, 167, 168, 169, 170, 171, 172, 173, 174, 175, 176, 177, 178, 179, 180, 181, 182, 183, 184, 185, 186, 187, 188, 189, 190, 191, 192, 193, 194, 195] (by decide +kernel) (by decide +kernel)
set_option maxRecDepth 20000 in
theorem gX11_load_X11_semicolon : GoodIn wsX11_load (wsV RX11 342 RX11 yX11_semicolon wsX11_semicolon) := goodIn_app (goodIn_of _ (by decide +kernel)) ggX11_load_X11_semicolon
set_option maxRecDepth 20000 in
theorem ggX11_load_X11_good : GoodIn wsX11_load wsX11_good := goodIn_r _ [49, 5, 156, 157, 158, 159, 160, 161, 162, 163, 164, 165, 166, 167, 168, 169, 170, 171, 172, 173, 174, 175, 176, 177, 178, 179, 180, 181, 182, 183, 184, 185, 186, 187, 188, 189, 190, 191, 192, 193, 194, 195] (by decide +kernel) (by decide +kernel)
set_option maxRecDepth 20000 in
theorem gX11_load_X11_good : GoodIn wsX11_load (wsV RX11 245 RX11 yX11_good wsX11_good) := goodIn_app (goodIn_of _ (by decide +kernel)) ggX11_load_X11_good
set_option maxRecDepth 20000 in
theorem ggX11_load_X11_parseStatement : GoodIn wsX11_load wsX11_parseStatement := goodIn_r _ [122, 42, 43, 44, 14, 45, 9, 4, 16, 30, 46, 47, 48, 49, 5, 50, 51, 52, 53, 54, 55, 56, 57, 58, 59, 60, 61, 62, 63, 64, 65, 66, 67, 68, 69, 70, 71, 72, 73, 74, 75, 76, 77, 78, 79, 80, 81, 82, 83, 84, 85, 86, 87, 88, 89, 90, 91, 92, 93, 94, 95, 96, 97, 98, 123, 124, 125, 126, 8, 127, 128, 129, 130, 99, 100, 101, 102, 6, 103, 104, 105, 106, 11, 12, 13, 15, 17, 18, 19, 20, 21, 22, 23, 24, 25, 26, 27, 28, 29, 3, 31, 32, 33, 38, 39, 40, 41, 107, 108, 109, 110, 111, 112, 113, 114, 131, 132, 133, 134, 135, 136, 137, 138, 139, 140, 141, 142, 143, 144, 145, 146, 147, 148, 149, 115, 116, 117, 118, 156, 157, 158, 159, 160, 161, 162, 163, 164, 165, 166, 167, 168, 169, 170, 171, 172, 173, 174, 175, 176, 177, 178, 179, 180, 181, 182, 183, 184, 185, 186, 187, 188, 189, 190, 191, 192, 193, 194, 195] (by decide +kernel) (by decide +kernel)
set_option maxRecDepth 20000 in
theorem gX11_load_X11_parseStatement : GoodIn wsX11_load (wsV RX11 348 RX11 yX11_parseStatement wsX11_parseStatement) := goodIn_app (goodIn_of _ (by decide +kernel)) ggX11_load_X11_parseStatement
set_option maxRecDepth 20000 in
theorem ggX11_load_X11_remember : GoodIn wsX11_load wsX11_remember := goodIn_r _ [153, 154, 155, 10, 156, 157, 158, 159, 160, 161, 162, 163, 164, 165, 166, 167, 168, 169, 170, 171, 172, 173, 174, 175, 176, 177, 178, 179, 180, 181, 182, 183, 184, 185, 186, 187, 188, 189, 190, 191, 192, 193, 194, 195] (by decide +kernel) (by decide +kernel)
set_option maxRecDepth 20000 in
theorem gX11_load_X11_remember : GoodIn wsX11_load (wsV RX11 351 RX11 yX11_remember wsX11_remember) := goodIn_app (goodIn_of _ (by decide +kernel)) ggX11_load_X11_remember
set_option maxRecDepth 20000 in
theorem ggX11_load_X11_many : GoodIn wsX11_load wsX11_many := goodIn_r _ [130, 8, 156, 157, 158, 159, 160, 161, 162, 163, 164, 165, 166, 167, 168, 169, 170, 171, 172, 173, 174, 175, 176, 177, 178, 179, 180, 181, 182, 183, 184, 185, 186, 187, 188, 189, 190, 191, 192, 193, 194, 195] (by decide +kernel) (by decide +kernel)
set_option maxRecDepth 20000 in
theorem gX11_load_X11_many : GoodIn wsX11_load (wsV RX11 83 RX11 yX11_many wsX11_many) := goodIn_app (goodIn_of _ (by decide +kernel)) ggX11_load_X11_many
theorem dX11_load_0 : decode cX11_load 0 = .ok (.aload_n 0, 1) := by decide +kernel
theorem dX11_load_1 : decode cX11_load 1 = .ok (.iconst 0, 1) := by decide +kernel
theorem dX11_load_2 : decode cX11_load 2 = .ok (.putfield 3, 3) := by decide +kernel
theorem dX11_load_5 : decode cX11_load 5 = .ok (.aload_n 0, 1) := by decide +kernel
theorem dX11_load_6 : decode cX11_load 6 = .ok (.aload_n 0, 1) := by decide +kernel
theorem dX11_load_7 : decode cX11_load 7 = .ok (.getfield 232, 3) := by decide +kernel
theorem dX11_load_10 : decode cX11_load 10 = .ok (.putfield 252, 3) := by decide +kernel
theorem dX11_load_13 : decode cX11_load 13 = .ok (.aload_n 0, 1) := by decide +kernel
theorem dX11_load_14 : decode cX11_load 14 = .ok (.iconst 0, 1) := by decide +kernel
theorem dX11_load_15 : decode cX11_load 15 = .ok (.putfield 232, 3) := by decide +kernel
theorem dX11_load_18 : decode cX11_load 18 = .ok (.aload_n 0, 1) := by decide +kernel
theorem dX11_load_19 : decode cX11_load 19 = .ok (.iconst 0, 1) := by decide +kernel
theorem dX11_load_20 : decode cX11_load 20 = .ok (.putfield 255, 3) := by decide +kernel
theorem dX11_load_23 : decode cX11_load 23 = .ok (.aload_n 0, 1) := by decide +kernel
theorem dX11_load_24 : decode cX11_load 24 = .ok (.iconst 0, 1) := by decide +kernel
theorem dX11_load_25 : decode cX11_load 25 = .ok (.putfield 242, 3) := by decide +kernel
theorem dX11_load_28 : decode cX11_load 28 = .ok (.aload_n 0, 1) := by decide +kernel
theorem dX11_load_29 : decode cX11_load 29 = .ok (.iconst (-1), 1) := by decide +kernel
theorem dX11_load_30 : decode cX11_load 30 = .ok (.putfield 67, 3) := by decide +kernel
theorem dX11_load_33 : decode cX11_load 33 = .ok (.iconst 0, 1) := by decide +kernel
theorem dX11_load_34 : decode cX11_load 34 = .ok (.istore_n 1, 1) := by decide +kernel
theorem dX11_load_35 : decode cX11_load 35 = .ok (.iload_n 1, 1) := by decide +kernel
theorem dX11_load_36 : decode cX11_load 36 = .ok (.bipush 66, 2) := by decide +kernel
theorem dX11_load_38 : decode cX11_load 38 = .ok (.if_icmp .ge 16, 3) := by decide +kernel
theorem dX11_load_41 : decode cX11_load 41 = .ok (.aload_n 0, 1) := by decide +kernel
theorem dX11_load_42 : decode cX11_load 42 = .ok (.getfield 21, 3) := by decide +kernel
theorem dX11_load_45 : decode cX11_load 45 = .ok (.iload_n 1, 1) := by decide +kernel
theorem dX11_load_46 : decode cX11_load 46 = .ok (.iconst 0, 1) := by decide +kernel
theorem dX11_load_47 : decode cX11_load 47 = .ok (.iastore, 1) := by decide +kernel
theorem dX11_load_48 : decode cX11_load 48 = .ok (.iinc 1 1, 3) := by decide +kernel
theorem dX11_load_51 : decode cX11_load 51 = .ok (.goto (-16), 3) := by decide +kernel
theorem dX11_load_54 : decode cX11_load 54 = .ok (.aload_n 0, 1) := by decide +kernel
theorem dX11_load_55 : decode cX11_load 55 = .ok (.aload_n 0, 1) := by decide +kernel
theorem dX11_load_56 : decode cX11_load 56 = .ok (.getfield 21, 3) := by decide +kernel
theorem dX11_load_59 : decode cX11_load 59 = .ok (.putfield 24, 3) := by decide +kernel
theorem dX11_load_62 : decode cX11_load 62 = .ok (.aload_n 0, 1) := by decide +kernel
theorem dX11_load_63 : decode cX11_load 63 = .ok (.invokevirtual 278, 3) := by decide +kernel
theorem dX11_load_66 : decode cX11_load 66 = .ok (.aload_n 0, 1) := by decide +kernel
theorem dX11_load_67 : decode cX11_load 67 = .ok (.invokevirtual 345, 3) := by decide +kernel
theorem dX11_load_70 : decode cX11_load 70 = .ok (.aload_n 0, 1) := by decide +kernel
theorem dX11_load_71 : decode cX11_load 71 = .ok (.invokevirtual 342, 3) := by decide +kernel
theorem dX11_load_74 : decode cX11_load 74 = .ok (.aload_n 0, 1) := by decide +kernel
theorem dX11_load_75 : decode cX11_load 75 = .ok (.invokevirtual 245, 3) := by decide +kernel
theorem dX11_load_78 : decode cX11_load 78 = .ok (.ifCond .eq 17, 3) := by decide +kernel
theorem dX11_load_81 : decode cX11_load 81 = .ok (.aload_n 0, 1) := by decide +kernel
theorem dX11_load_82 : decode cX11_load 82 = .ok (.getfield 261, 3) := by decide +kernel
theorem dX11_load_85 : decode cX11_load 85 = .ok (.ifCond .eq 10, 3) := by decide +kernel
theorem dX11_load_88 : decode cX11_load 88 = .ok (.aload_n 0, 1) := by decide +kernel
theorem dX11_load_89 : decode cX11_load 89 = .ok (.invokevirtual 348, 3) := by decide +kernel
theorem dX11_load_92 : decode cX11_load 92 = .ok (.goto (-18), 3) := by decide +kernel
theorem dX11_load_95 : decode cX11_load 95 = .ok (.aload_n 0, 1) := by decide +kernel
theorem dX11_load_96 : decode cX11_load 96 = .ok (.aload_n 0, 1) := by decide +kernel
theorem dX11_load_97 : decode cX11_load 97 = .ok (.getfield 17, 3) := by decide +kernel
theorem dX11_load_100 : decode cX11_load 100 = .ok (.putfield 24, 3) := by decide +kernel
theorem dX11_load_103 : decode cX11_load 103 = .ok (.aload_n 0, 1) := by decide +kernel
theorem dX11_load_104 : decode cX11_load 104 = .ok (.invokevirtual 245, 3) := by decide +kernel
theorem dX11_load_107 : decode cX11_load 107 = .ok (.ifCond .ne 6, 3) := by decide +kernel
theorem dX11_load_110 : decode cX11_load 110 = .ok (.bipush (-4), 2) := by decide +kernel
theorem dX11_load_112 : decode cX11_load 112 = .ok (.ireturn, 1) := by decide +kernel
theorem dX11_load_113 : decode cX11_load 113 = .ok (.aload_n 0, 1) := by decide +kernel
theorem dX11_load_114 : decode cX11_load 114 = .ok (.invokevirtual 351, 3) := by decide +kernel
theorem dX11_load_117 : decode cX11_load 117 = .ok (.iconst 0, 1) := by decide +kernel
theorem dX11_load_118 : decode cX11_load 118 = .ok (.istore_n 1, 1) := by decide +kernel
theorem dX11_load_119 : decode cX11_load 119 = .ok (.iload_n 1, 1) := by decide +kernel
theorem dX11_load_120 : decode cX11_load 120 = .ok (.bipush 66, 2) := by decide +kernel
theorem dX11_load_122 : decode cX11_load 122 = .ok (.if_icmp .ge 21, 3) := by decide +kernel
theorem dX11_load_125 : decode cX11_load 125 = .ok (.aload_n 0, 1) := by decide +kernel
theorem dX11_load_126 : decode cX11_load 126 = .ok (.getfield 17, 3) := by decide +kernel
theorem dX11_load_129 : decode cX11_load 129 = .ok (.iload_n 1, 1) := by decide +kernel
theorem dX11_load_130 : decode cX11_load 130 = .ok (.aload_n 0, 1) := by decide +kernel
theorem dX11_load_131 : decode cX11_load 131 = .ok (.getfield 21, 3) := by decide +kernel
theorem dX11_load_134 : decode cX11_load 134 = .ok (.iload_n 1, 1) := by decide +kernel
theorem dX11_load_135 : decode cX11_load 135 = .ok (.iaload, 1) := by decide +kernel
theorem dX11_load_136 : decode cX11_load 136 = .ok (.iastore, 1) := by decide +kernel
theorem dX11_load_137 : decode cX11_load 137 = .ok (.iinc 1 1, 3) := by decide +kernel
theorem dX11_load_140 : decode cX11_load 140 = .ok (.goto (-21), 3) := by decide +kernel
theorem dX11_load_143 : decode cX11_load 143 = .ok (.aload_n 0, 1) := by decide +kernel
theorem dX11_load_144 : decode cX11_load 144 = .ok (.invokevirtual 83, 3) := by decide +kernel
theorem dX11_load_147 : decode cX11_load 147 = .ok (.ireturn, 1) := by decide +kernel
theorem dX11_errorCode_0 : decode cX11_errorCode 0 = .ok (.aload_n 0, 1) := by decide +kernel
theorem dX11_errorCode_1 : decode cX11_errorCode 1 = .ok (.iconst 0, 1) := by decide +kernel
theorem dX11_errorCode_2 : decode cX11_errorCode 2 = .ok (.putfield 3, 3) := by decide +kernel
theorem dX11_errorCode_5 : decode cX11_errorCode 5 = .ok (.aload_n 0, 1) := by decide +kernel
theorem dX11_errorCode_6 : decode cX11_errorCode 6 = .ok (.getfield 242, 3) := by decide +kernel
theorem dX11_errorCode_9 : decode cX11_errorCode 9 = .ok (.ireturn, 1) := by decide +kernel
theorem dX11_errorPosition_0 : decode cX11_errorPosition 0 = .ok (.aload_n 0, 1) := by decide +kernel
theorem dX11_errorPosition_1 : decode cX11_errorPosition 1 = .ok (.iconst 0, 1) := by decide +kernel
theorem dX11_errorPosition_2 : decode cX11_errorPosition 2 = .ok (.putfield 3, 3) := by decide +kernel
theorem dX11_errorPosition_5 : decode cX11_errorPosition 5 = .ok (.aload_n 0, 1) := by decide +kernel
theorem dX11_errorPosition_6 : decode cX11_errorPosition 6 = .ok (.getfield 67, 3) := by decide +kernel
theorem dX11_errorPosition_9 : decode cX11_errorPosition 9 = .ok (.ireturn, 1) := by decide +kernel
set_option maxRecDepth 20000 in
theorem ggX11_pairsOf_X11_many : GoodIn wsX11_pairsOf wsX11_many := goodIn_r _ [5, 6, 14, 15, 16, 17, 18, 19, 20, 21, 22, 23, 24, 25, 26, 27, 28, 29, 30, 31, 32, 33, 34, 35, 36, 37, 38, 39, 40, 41, 42, 43, 44, 45, 46, 47, 48, 49, 50, 51, 52, 53] (by decide +kernel) (by decide +kernel)
set_option maxRecDepth 20000 in
theorem gX11_pairsOf_X11_many : GoodIn wsX11_pairsOf (wsV RX11 83 RX11 yX11_many wsX11_many) := goodIn_app (goodIn_of _ (by decide +kernel)) ggX11_pairsOf_X11_many
set_option maxRecDepth 20000 in
theorem ggX11_pairsOf_X11_ofItem : GoodIn wsX11_pairsOf wsX11_ofItem := goodIn_r _ [10, 6, 14, 15, 16, 17, 18, 19, 20, 21, 22, 23, 24, 25, 26, 27, 28, 29, 30, 31, 32, 33, 34, 35, 36, 37, 38, 39, 40, 41, 42, 43, 44, 45, 46, 47, 48, 49, 50, 51, 52, 53] (by decide +kernel) (by decide +kernel)
set_option maxRecDepth 20000 in
theorem gX11_pairsOf_X11_ofItem : GoodIn wsX11_pairsOf (wsV RX11 98 RX11 yX11_ofItem wsX11_ofItem) := goodIn_app (goodIn_of _ (by decide +kernel)) ggX11_pairsOf_X11_ofItem
set_option maxRecDepth 20000 in
theorem ggX11_pairsOf_X11_bits : GoodIn wsX11_pairsOf wsX11_bits := goodIn_r _ [13] (by decide +kernel) (by decide +kernel)
set_option maxRecDepth 20000 in
theorem gX11_pairsOf_X11_bits : GoodIn wsX11_pairsOf (va_wsS RX11 105 yX11_bits wsX11_bits) := goodIn_app (goodIn_of _ (by decide +kernel)) ggX11_pairsOf_X11_bits
theorem dX11_pairsOf_0 : decode cX11_pairsOf 0 = .ok (.iconst 0, 1) := by decide +kernel
theorem dX11_pairsOf_1 : decode cX11_pairsOf 1 = .ok (.istore_n 2, 1) := by decide +kernel
theorem dX11_pairsOf_2 : decode cX11_pairsOf 2 = .ok (.iconst 0, 1) := by decide +kernel
theorem dX11_pairsOf_3 : decode cX11_pairsOf 3 = .ok (.istore_n 3, 1) := by decide +kernel
theorem dX11_pairsOf_4 : decode cX11_pairsOf 4 = .ok (.iload_n 3, 1) := by decide +kernel
theorem dX11_pairsOf_5 : decode cX11_pairsOf 5 = .ok (.aload_n 0, 1) := by decide +kernel
theorem dX11_pairsOf_6 : decode cX11_pairsOf 6 = .ok (.invokevirtual 83, 3) := by decide +kernel
theorem dX11_pairsOf_9 : decode cX11_pairsOf 9 = .ok (.if_icmp .ge 21, 3) := by decide +kernel
theorem dX11_pairsOf_12 : decode cX11_pairsOf 12 = .ok (.iload_n 2, 1) := by decide +kernel
theorem dX11_pairsOf_13 : decode cX11_pairsOf 13 = .ok (.aload_n 0, 1) := by decide +kernel
theorem dX11_pairsOf_14 : decode cX11_pairsOf 14 = .ok (.iload_n 3, 1) := by decide +kernel
theorem dX11_pairsOf_15 : decode cX11_pairsOf 15 = .ok (.iload_n 1, 1) := by decide +kernel
theorem dX11_pairsOf_16 : decode cX11_pairsOf 16 = .ok (.invokevirtual 98, 3) := by decide +kernel
theorem dX11_pairsOf_19 : decode cX11_pairsOf 19 = .ok (.invokestatic 105, 3) := by decide +kernel
theorem dX11_pairsOf_22 : decode cX11_pairsOf 22 = .ok (.iadd, 1) := by decide +kernel
theorem dX11_pairsOf_23 : decode cX11_pairsOf 23 = .ok (.istore_n 2, 1) := by decide +kernel
theorem dX11_pairsOf_24 : decode cX11_pairsOf 24 = .ok (.iinc 3 1, 3) := by decide +kernel
theorem dX11_pairsOf_27 : decode cX11_pairsOf 27 = .ok (.goto (-23), 3) := by decide +kernel
theorem dX11_pairsOf_30 : decode cX11_pairsOf 30 = .ok (.iload_n 2, 1) := by decide +kernel
theorem dX11_pairsOf_31 : decode cX11_pairsOf 31 = .ok (.ireturn, 1) := by decide +kernel
set_option maxRecDepth 20000 in
theorem ggX11_property_X11_in : GoodIn wsX11_property wsX11_in := goodIn_r _ [6] (by decide +kernel) (by decide +kernel)
set_option maxRecDepth 20000 in
theorem gX11_property_X11_in : GoodIn wsX11_property (va_wsS RX11 87 yX11_in wsX11_in) := goodIn_app (goodIn_of _ (by decide +kernel)) ggX11_property_X11_in
set_option maxRecDepth 20000 in
theorem ggX11_property_X11_passes : GoodIn wsX11_property wsX11_passes := goodIn_r _ [10, 11, 12, 13, 5, 14, 15, 32, 33, 34, 35, 36, 37, 38, 39, 40, 41, 42, 43, 44, 45, 46, 47, 48, 49, 50, 51, 52, 53, 54, 55, 56, 57, 58, 59, 60, 61, 62, 63, 64, 65, 66, 67, 68, 69, 70, 71] (by decide +kernel) (by decide +kernel)
set_option maxRecDepth 20000 in
theorem gX11_property_X11_passes : GoodIn wsX11_property (wsV RX11 235 RX11 yX11_passes wsX11_passes) := goodIn_app (goodIn_of _ (by decide +kernel)) ggX11_property_X11_passes
set_option maxRecDepth 20000 in
theorem ggX11_property_X11_many : GoodIn wsX11_property wsX11_many := goodIn_r _ [19, 20, 32, 33, 34, 35, 36, 37, 38, 39, 40, 41, 42, 43, 44, 45, 46, 47, 48, 49, 50, 51, 52, 53, 54, 55, 56, 57, 58, 59, 60, 61, 62, 63, 64, 65, 66, 67, 68, 69, 70, 71] (by decide +kernel) (by decide +kernel)
set_option maxRecDepth 20000 in
theorem gX11_property_X11_many : GoodIn wsX11_property (wsV RX11 83 RX11 yX11_many wsX11_many) := goodIn_app (goodIn_of _ (by decide +kernel)) ggX11_property_X11_many
set_option maxRecDepth 20000 in
theorem ggX11_property_X11_pairsOf : GoodIn wsX11_property wsX11_pairsOf := goodIn_r _ [24, 16, 17, 18, 5, 19, 20, 25, 26, 27, 28, 29, 30, 31, 32, 33, 34, 35, 36, 37, 38, 39, 40, 41, 42, 43, 44, 45, 46, 47, 48, 49, 50, 51, 52, 53, 54, 55, 56, 57, 58, 59, 60, 61, 62, 63, 64, 65, 66, 67, 68, 69, 70, 71] (by decide +kernel) (by decide +kernel)
set_option maxRecDepth 20000 in
theorem gX11_property_X11_pairsOf : GoodIn wsX11_property (wsV RX11 356 RX11 yX11_pairsOf wsX11_pairsOf) := goodIn_app (goodIn_of _ (by decide +kernel)) ggX11_property_X11_pairsOf
theorem dX11_property_0 : decode cX11_property 0 = .ok (.aload_n 0, 1) := by decide +kernel
theorem dX11_property_1 : decode cX11_property 1 = .ok (.iload_n 1, 1) := by decide +kernel
theorem dX11_property_2 : decode cX11_property 2 = .ok (.i2l, 1) := by decide +kernel
theorem dX11_property_3 : decode cX11_property 3 = .ok (.lconst 0, 1) := by decide +kernel
theorem dX11_property_4 : decode cX11_property 4 = .ok (.ldc2_w 354, 3) := by decide +kernel
theorem dX11_property_7 : decode cX11_property 7 = .ok (.invokestatic 87, 3) := by decide +kernel
theorem dX11_property_10 : decode cX11_property 10 = .ok (.invokevirtual 235, 3) := by decide +kernel
theorem dX11_property_13 : decode cX11_property 13 = .ok (.ifCond .ne 5, 3) := by decide +kernel
theorem dX11_property_16 : decode cX11_property 16 = .ok (.iconst 0, 1) := by decide +kernel
theorem dX11_property_17 : decode cX11_property 17 = .ok (.ireturn, 1) := by decide +kernel
theorem dX11_property_18 : decode cX11_property 18 = .ok (.iload_n 1, 1) := by decide +kernel
theorem dX11_property_19 : decode cX11_property 19 = .ok (.tableswitch 88 0 6 #[41, 46, 53, 60, 68, 74, 81], 41) := by decide +kernel
theorem dX11_property_60 : decode cX11_property 60 = .ok (.aload_n 0, 1) := by decide +kernel
theorem dX11_property_61 : decode cX11_property 61 = .ok (.invokevirtual 83, 3) := by decide +kernel
theorem dX11_property_64 : decode cX11_property 64 = .ok (.ireturn, 1) := by decide +kernel
theorem dX11_property_65 : decode cX11_property 65 = .ok (.aload_n 0, 1) := by decide +kernel
theorem dX11_property_66 : decode cX11_property 66 = .ok (.getfield 17, 3) := by decide +kernel
theorem dX11_property_69 : decode cX11_property 69 = .ok (.iconst 1, 1) := by decide +kernel
theorem dX11_property_70 : decode cX11_property 70 = .ok (.iaload, 1) := by decide +kernel
theorem dX11_property_71 : decode cX11_property 71 = .ok (.ireturn, 1) := by decide +kernel
theorem dX11_property_72 : decode cX11_property 72 = .ok (.aload_n 0, 1) := by decide +kernel
theorem dX11_property_73 : decode cX11_property 73 = .ok (.getfield 17, 3) := by decide +kernel
theorem dX11_property_76 : decode cX11_property 76 = .ok (.iconst 2, 1) := by decide +kernel
theorem dX11_property_77 : decode cX11_property 77 = .ok (.iaload, 1) := by decide +kernel
theorem dX11_property_78 : decode cX11_property 78 = .ok (.ireturn, 1) := by decide +kernel
theorem dX11_property_79 : decode cX11_property 79 = .ok (.aload_n 0, 1) := by decide +kernel
theorem dX11_property_80 : decode cX11_property 80 = .ok (.iconst 3, 1) := by decide +kernel
theorem dX11_property_81 : decode cX11_property 81 = .ok (.invokevirtual 356, 3) := by decide +kernel
theorem dX11_property_84 : decode cX11_property 84 = .ok (.iconst 2, 1) := by decide +kernel
theorem dX11_property_85 : decode cX11_property 85 = .ok (.idiv, 1) := by decide +kernel
theorem dX11_property_86 : decode cX11_property 86 = .ok (.ireturn, 1) := by decide +kernel
theorem dX11_property_87 : decode cX11_property 87 = .ok (.aload_n 0, 1) := by decide +kernel
theorem dX11_property_88 : decode cX11_property 88 = .ok (.iconst 4, 1) := by decide +kernel
theorem dX11_property_89 : decode cX11_property 89 = .ok (.invokevirtual 356, 3) := by decide +kernel
theorem dX11_property_92 : decode cX11_property 92 = .ok (.ireturn, 1) := by decide +kernel
theorem dX11_property_93 : decode cX11_property 93 = .ok (.aload_n 0, 1) := by decide +kernel
theorem dX11_property_94 : decode cX11_property 94 = .ok (.getfield 17, 3) := by decide +kernel
theorem dX11_property_97 : decode cX11_property 97 = .ok (.iconst 3, 1) := by decide +kernel
theorem dX11_property_98 : decode cX11_property 98 = .ok (.iaload, 1) := by decide +kernel
theorem dX11_property_99 : decode cX11_property 99 = .ok (.ireturn, 1) := by decide +kernel
theorem dX11_property_100 : decode cX11_property 100 = .ok (.aload_n 0, 1) := by decide +kernel
theorem dX11_property_101 : decode cX11_property 101 = .ok (.getfield 17, 3) := by decide +kernel
theorem dX11_property_104 : decode cX11_property 104 = .ok (.iconst 4, 1) := by decide +kernel
theorem dX11_property_105 : decode cX11_property 105 = .ok (.iaload, 1) := by decide +kernel
theorem dX11_property_106 : decode cX11_property 106 = .ok (.ireturn, 1) := by decide +kernel
theorem dX11_property_107 : decode cX11_property 107 = .ok (.aload_n 0, 1) := by decide +kernel
theorem dX11_property_108 : decode cX11_property 108 = .ok (.getfield 17, 3) := by decide +kernel
theorem dX11_property_111 : decode cX11_property 111 = .ok (.iconst 5, 1) := by decide +kernel
theorem dX11_property_112 : decode cX11_property 112 = .ok (.iaload, 1) := by decide +kernel
theorem dX11_property_113 : decode cX11_property 113 = .ok (.ireturn, 1) := by decide +kernel
set_option maxRecDepth 20000 in
theorem ggX11_item_X11_isItem : GoodIn wsX11_item wsX11_isItem := goodIn_r _ [6, 7, 8, 9, 5, 10, 11, 12, 13, 14, 24, 25, 26, 27, 28, 29, 30, 31, 32, 33, 34, 35, 36, 37, 38, 39, 40, 41, 42, 43, 44, 45, 46, 47, 48, 49, 50, 51, 52, 53, 54, 55, 56, 57, 58, 59, 60, 61, 62, 63] (by decide +kernel) (by decide +kernel)
set_option maxRecDepth 20000 in
theorem gX11_item_X11_isItem : GoodIn wsX11_item (wsV RX11 359 RX11 yX11_isItem wsX11_isItem) := goodIn_app (goodIn_of _ (by decide +kernel)) ggX11_item_X11_isItem
set_option maxRecDepth 20000 in
theorem ggX11_item_X11_in : GoodIn wsX11_item wsX11_in := goodIn_r _ [14] (by decide +kernel) (by decide +kernel)
set_option maxRecDepth 20000 in
theorem gX11_item_X11_in : GoodIn wsX11_item (va_wsS RX11 87 yX11_in wsX11_in) := goodIn_app (goodIn_of _ (by decide +kernel)) ggX11_item_X11_in
set_option maxRecDepth 20000 in
theorem ggX11_item_X11_passes2 : GoodIn wsX11_item wsX11_passes2 := goodIn_r _ [18, 19, 24, 25, 26, 27, 28, 29, 30, 31, 32, 33, 34, 35, 36, 37, 38, 39, 40, 41, 42, 43, 44, 45, 46, 47, 48, 49, 50, 51, 52, 53, 54, 55, 56, 57, 58, 59, 60, 61, 62, 63] (by decide +kernel) (by decide +kernel)
set_option maxRecDepth 20000 in
theorem gX11_item_X11_passes2 : GoodIn wsX11_item (wsV RX11 7 RX11 yX11_passes2 wsX11_passes2) := goodIn_app (goodIn_of _ (by decide +kernel)) ggX11_item_X11_passes2
set_option maxRecDepth 20000 in
theorem ggX11_item_X11_ofItem : GoodIn wsX11_item wsX11_ofItem := goodIn_r _ [23, 11, 24, 25, 26, 27, 28, 29, 30, 31, 32, 33, 34, 35, 36, 37, 38, 39, 40, 41, 42, 43, 44, 45, 46, 47, 48, 49, 50, 51, 52, 53, 54, 55, 56, 57, 58, 59, 60, 61, 62, 63] (by decide +kernel) (by decide +kernel)
set_option maxRecDepth 20000 in
theorem gX11_item_X11_ofItem : GoodIn wsX11_item (wsV RX11 98 RX11 yX11_ofItem wsX11_ofItem) := goodIn_app (goodIn_of _ (by decide +kernel)) ggX11_item_X11_ofItem
theorem dX11_item_0 : decode cX11_item 0 = .ok (.aload_n 0, 1) := by decide +kernel
theorem dX11_item_1 : decode cX11_item 1 = .ok (.aload_n 0, 1) := by decide +kernel
theorem dX11_item_2 : decode cX11_item 2 = .ok (.iload_n 1, 1) := by decide +kernel
theorem dX11_item_3 : decode cX11_item 3 = .ok (.invokevirtual 359, 3) := by decide +kernel
theorem dX11_item_6 : decode cX11_item 6 = .ok (.iload_n 2, 1) := by decide +kernel
theorem dX11_item_7 : decode cX11_item 7 = .ok (.i2l, 1) := by decide +kernel
theorem dX11_item_8 : decode cX11_item 8 = .ok (.lconst 0, 1) := by decide +kernel
theorem dX11_item_9 : decode cX11_item 9 = .ok (.ldc2_w 362, 3) := by decide +kernel
theorem dX11_item_12 : decode cX11_item 12 = .ok (.invokestatic 87, 3) := by decide +kernel
theorem dX11_item_15 : decode cX11_item 15 = .ok (.invokevirtual 7, 3) := by decide +kernel
theorem dX11_item_18 : decode cX11_item 18 = .ok (.ifCond .eq 12, 3) := by decide +kernel
theorem dX11_item_21 : decode cX11_item 21 = .ok (.aload_n 0, 1) := by decide +kernel
theorem dX11_item_22 : decode cX11_item 22 = .ok (.iload_n 1, 1) := by decide +kernel
theorem dX11_item_23 : decode cX11_item 23 = .ok (.iload_n 2, 1) := by decide +kernel
theorem dX11_item_24 : decode cX11_item 24 = .ok (.invokevirtual 98, 3) := by decide +kernel
theorem dX11_item_27 : decode cX11_item 27 = .ok (.goto 4, 3) := by decide +kernel
theorem dX11_item_30 : decode cX11_item 30 = .ok (.iconst 0, 1) := by decide +kernel
theorem dX11_item_31 : decode cX11_item 31 = .ok (.ireturn, 1) := by decide +kernel
set_option maxRecDepth 20000 in
theorem ggX11_refusal_X11_isSet : GoodIn wsX11_refusal wsX11_isSet := goodIn_r _ [5, 6, 7, 8, 4, 9, 10, 11, 12, 13, 14, 15, 16, 17, 53, 54, 55, 56, 57, 58, 59, 60, 61, 62, 63, 64, 65, 66, 67, 68, 69, 70, 71, 72, 73, 74, 75, 76, 77, 78, 79, 80, 81, 82, 83, 84, 85, 86, 87, 88, 89, 90, 91, 92] (by decide +kernel) (by decide +kernel)
set_option maxRecDepth 20000 in
theorem gX11_refusal_X11_isSet : GoodIn wsX11_refusal (wsV RX11 364 RX11 yX11_isSet wsX11_isSet) := goodIn_app (goodIn_of _ (by decide +kernel)) ggX11_refusal_X11_isSet
set_option maxRecDepth 20000 in
theorem ggX11_refusal_X11_passes : GoodIn wsX11_refusal wsX11_passes := goodIn_r _ [21, 22, 23, 24, 4, 25, 26, 53, 54, 55, 56, 57, 58, 59, 60, 61, 62, 63, 64, 65, 66, 67, 68, 69, 70, 71, 72, 73, 74, 75, 76, 77, 78, 79, 80, 81, 82, 83, 84, 85, 86, 87, 88, 89, 90, 91, 92] (by decide +kernel) (by decide +kernel)
set_option maxRecDepth 20000 in
theorem gX11_refusal_X11_passes : GoodIn wsX11_refusal (wsV RX11 235 RX11 yX11_passes wsX11_passes) := goodIn_app (goodIn_of _ (by decide +kernel)) ggX11_refusal_X11_passes
