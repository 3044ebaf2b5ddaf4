set_option maxRecDepth 20000 in
theorem gX5_readFrame_X5_passWord : GoodIn wsX5_readFrame (wsV RX5 99 RX5 yX5_passWord wsX5_passWord) := goodIn_app (goodIn_of _ (by decide +kernel)) ggX5_readFrame_X5_passWord
set_option maxRecDepth 20000 in
theorem ggX5_readFrame_X5_passNumber : GoodIn wsX5_readFrame wsX5_passNumber := goodIn_r _ [92, 77, 93, 94, 95, 7, 96, 13, 67, 68, 69, 70, 71, 15, 72, 73, 74, 75, 76, 14, 16, 17, 78, 79, 80, 81, 82, 83, 84, 85, 86, 87, 88, 101, 102, 103, 104, 105, 106, 107, 108, 109] (by decide +kernel) (by decide +kernel)
set_option maxRecDepth 20000 in
theorem gX5_readFrame_X5_passNumber : GoodIn wsX5_readFrame (wsV RX5 102 RX5 yX5_passNumber wsX5_passNumber) := goodIn_app (goodIn_of _ (by decide +kernel)) ggX5_readFrame_X5_passNumber
set_option maxRecDepth 20000 in
theorem ggX5_readFrame_X5_passEnd : GoodIn wsX5_readFrame wsX5_passEnd := goodIn_r _ [100, 13, 15, 16, 17, 67, 68, 69, 7, 70, 71, 72, 73, 74, 75, 76, 14, 77, 78, 79, 80, 81, 82, 83, 84, 85, 86, 87, 88, 101, 102, 103, 104, 105, 106, 107, 108, 109] (by decide +kernel) (by decide +kernel)
set_option maxRecDepth 20000 in
theorem gX5_readFrame_X5_passEnd : GoodIn wsX5_readFrame (wsV RX5 112 RX5 yX5_passEnd wsX5_passEnd) := goodIn_app (goodIn_of _ (by decide +kernel)) ggX5_readFrame_X5_passEnd
theorem dX5_readFrame_0 : decode cX5_readFrame 0 = .ok (.aload_n 0, 1) := by decide +kernel
theorem dX5_readFrame_1 : decode cX5_readFrame 1 = .ok (.getfield 12, 3) := by decide +kernel
theorem dX5_readFrame_4 : decode cX5_readFrame 4 = .ok (.aload_n 0, 1) := by decide +kernel
theorem dX5_readFrame_5 : decode cX5_readFrame 5 = .ok (.ldc 97, 2) := by decide +kernel
theorem dX5_readFrame_7 : decode cX5_readFrame 7 = .ok (.invokevirtual 99, 3) := by decide +kernel
theorem dX5_readFrame_10 : decode cX5_readFrame 10 = .ok (.ifCond .eq 13, 3) := by decide +kernel
theorem dX5_readFrame_13 : decode cX5_readFrame 13 = .ok (.aload_n 0, 1) := by decide +kernel
theorem dX5_readFrame_14 : decode cX5_readFrame 14 = .ok (.sipush 999, 3) := by decide +kernel
theorem dX5_readFrame_17 : decode cX5_readFrame 17 = .ok (.invokevirtual 102, 3) := by decide +kernel
theorem dX5_readFrame_20 : decode cX5_readFrame 20 = .ok (.goto 4, 3) := by decide +kernel
theorem dX5_readFrame_23 : decode cX5_readFrame 23 = .ok (.iconst (-1), 1) := by decide +kernel
theorem dX5_readFrame_24 : decode cX5_readFrame 24 = .ok (.putfield 106, 3) := by decide +kernel
theorem dX5_readFrame_27 : decode cX5_readFrame 27 = .ok (.aload_n 0, 1) := by decide +kernel
theorem dX5_readFrame_28 : decode cX5_readFrame 28 = .ok (.getfield 12, 3) := by decide +kernel
theorem dX5_readFrame_31 : decode cX5_readFrame 31 = .ok (.getfield 106, 3) := by decide +kernel
theorem dX5_readFrame_34 : decode cX5_readFrame 34 = .ok (.iconst (-1), 1) := by decide +kernel
theorem dX5_readFrame_35 : decode cX5_readFrame 35 = .ok (.if_icmp .ne 5, 3) := by decide +kernel
theorem dX5_readFrame_38 : decode cX5_readFrame 38 = .ok (.iconst 0, 1) := by decide +kernel
theorem dX5_readFrame_39 : decode cX5_readFrame 39 = .ok (.ireturn, 1) := by decide +kernel
theorem dX5_readFrame_40 : decode cX5_readFrame 40 = .ok (.aload_n 0, 1) := by decide +kernel
theorem dX5_readFrame_41 : decode cX5_readFrame 41 = .ok (.getfield 12, 3) := by decide +kernel
theorem dX5_readFrame_44 : decode cX5_readFrame 44 = .ok (.aload_n 0, 1) := by decide +kernel
theorem dX5_readFrame_45 : decode cX5_readFrame 45 = .ok (.ldc 108, 2) := by decide +kernel
theorem dX5_readFrame_47 : decode cX5_readFrame 47 = .ok (.invokevirtual 99, 3) := by decide +kernel
theorem dX5_readFrame_50 : decode cX5_readFrame 50 = .ok (.ifCond .eq 12, 3) := by decide +kernel
theorem dX5_readFrame_53 : decode cX5_readFrame 53 = .ok (.aload_n 0, 1) := by decide +kernel
theorem dX5_readFrame_54 : decode cX5_readFrame 54 = .ok (.bipush 12, 2) := by decide +kernel
theorem dX5_readFrame_56 : decode cX5_readFrame 56 = .ok (.invokevirtual 102, 3) := by decide +kernel
theorem dX5_readFrame_59 : decode cX5_readFrame 59 = .ok (.goto 4, 3) := by decide +kernel
theorem dX5_readFrame_62 : decode cX5_readFrame 62 = .ok (.iconst (-1), 1) := by decide +kernel
theorem dX5_readFrame_63 : decode cX5_readFrame 63 = .ok (.putfield 110, 3) := by decide +kernel
theorem dX5_readFrame_66 : decode cX5_readFrame 66 = .ok (.aload_n 0, 1) := by decide +kernel
theorem dX5_readFrame_67 : decode cX5_readFrame 67 = .ok (.getfield 12, 3) := by decide +kernel
theorem dX5_readFrame_70 : decode cX5_readFrame 70 = .ok (.getfield 110, 3) := by decide +kernel
theorem dX5_readFrame_73 : decode cX5_readFrame 73 = .ok (.iconst (-1), 1) := by decide +kernel
theorem dX5_readFrame_74 : decode cX5_readFrame 74 = .ok (.if_icmp .eq 14, 3) := by decide +kernel
theorem dX5_readFrame_77 : decode cX5_readFrame 77 = .ok (.aload_n 0, 1) := by decide +kernel
theorem dX5_readFrame_78 : decode cX5_readFrame 78 = .ok (.invokevirtual 112, 3) := by decide +kernel
theorem dX5_readFrame_81 : decode cX5_readFrame 81 = .ok (.ifCond .eq 7, 3) := by decide +kernel
theorem dX5_readFrame_84 : decode cX5_readFrame 84 = .ok (.iconst 1, 1) := by decide +kernel
theorem dX5_readFrame_85 : decode cX5_readFrame 85 = .ok (.goto 4, 3) := by decide +kernel
theorem dX5_readFrame_88 : decode cX5_readFrame 88 = .ok (.iconst 0, 1) := by decide +kernel
theorem dX5_readFrame_89 : decode cX5_readFrame 89 = .ok (.ireturn, 1) := by decide +kernel
set_option maxRecDepth 20000 in
theorem ggX5_readStatement_X5_isWord : GoodIn wsX5_readStatement wsX5_isWord := goodIn_r _ [5, 6, 7, 8, 9, 10, 11, 12, 13, 14, 15, 16, 17, 18, 19, 20, 21, 22, 23, 24, 25, 26, 27, 28, 29, 30, 31, 32, 33, 34, 35, 36, 37, 38, 39, 40, 41, 42, 43, 44, 45, 46, 47, 48, 49, 50, 51, 52, 53, 54, 55, 56, 57, 58, 59, 132, 133, 134, 135, 136, 137, 138, 139, 140] (by decide +kernel) (by decide +kernel)
set_option maxRecDepth 20000 in
theorem gX5_readStatement_X5_isWord : GoodIn wsX5_readStatement (wsV RX5 86 RX5 yX5_isWord wsX5_isWord) := goodIn_app (goodIn_of _ (by decide +kernel)) ggX5_readStatement_X5_isWord
set_option maxRecDepth 20000 in
theorem ggX5_readStatement_X5_readItem : GoodIn wsX5_readStatement wsX5_readItem := goodIn_r _ [63, 64, 65, 66, 67, 68, 4, 69, 70, 8, 71, 72, 73, 74, 75, 7, 9, 10, 76, 6, 77, 78, 79, 80, 81, 82, 83, 84, 85, 86, 87, 88, 89, 90, 91, 1, 2, 3, 5, 11, 12, 13, 14, 15, 16, 17, 18, 19, 20, 21, 22, 23, 24, 25, 26, 27, 28, 29, 30, 31, 32, 33, 34, 35, 36, 37, 38, 39, 40, 41, 42, 43, 44, 45, 46, 47, 48, 49, 50, 51, 52, 53, 54, 55, 56, 57, 58, 59, 92, 93, 94, 95, 96, 97, 98, 99, 100, 101, 102, 103, 104, 105, 106, 107, 108, 109, 110, 111, 112, 113, 114, 132, 133, 134, 135, 136, 137, 138, 139, 140, 141, 142, 143, 144, 145, 146, 147, 148, 149, 150, 151] (by decide +kernel) (by decide +kernel)
set_option maxRecDepth 20000 in
theorem gX5_readStatement_X5_readItem : GoodIn wsX5_readStatement (wsV RX5 117 RX5 yX5_readItem wsX5_readItem) := goodIn_app (goodIn_of _ (by decide +kernel)) ggX5_readStatement_X5_readItem
set_option maxRecDepth 20000 in
theorem ggX5_readStatement_X5_readPair : GoodIn wsX5_readStatement wsX5_readPair := goodIn_r _ [118, 64, 65, 76, 119, 120, 72, 73, 74, 4, 75, 7, 9, 10, 8, 6, 77, 78, 79, 80, 81, 82, 83, 84, 85, 86, 87, 92, 93, 94, 95, 96, 97, 98, 99, 66, 67, 68, 69, 70, 71, 121, 122, 123, 124, 125, 111, 112, 113, 114, 132, 133, 134, 135, 136, 137, 138, 139, 140, 141, 142, 143, 144, 145, 146, 147, 148, 149, 150, 151] (by decide +kernel) (by decide +kernel)
set_option maxRecDepth 20000 in
theorem gX5_readStatement_X5_readPair : GoodIn wsX5_readStatement (wsV RX5 124 RX5 yX5_readPair wsX5_readPair) := goodIn_app (goodIn_of _ (by decide +kernel)) ggX5_readStatement_X5_readPair
set_option maxRecDepth 20000 in
theorem ggX5_readStatement_X5_readSingle : GoodIn wsX5_readStatement wsX5_readSingle := goodIn_r _ [129, 64, 65, 130, 131, 76, 72, 73, 74, 4, 75, 7, 9, 10, 8, 6, 77, 78, 79, 80, 81, 82, 83, 84, 85, 86, 87, 96, 97, 98, 99, 66, 67, 68, 69, 70, 71, 121, 122, 123, 124, 125, 111, 112, 113, 114, 132, 133, 134, 135, 136, 137, 138, 139, 140, 141, 142, 143, 144, 145, 146, 147, 148, 149, 150, 151] (by decide +kernel) (by decide +kernel)
set_option maxRecDepth 20000 in
theorem gX5_readStatement_X5_readSingle : GoodIn wsX5_readStatement (wsV RX5 132 RX5 yX5_readSingle wsX5_readSingle) := goodIn_app (goodIn_of _ (by decide +kernel)) ggX5_readStatement_X5_readSingle
set_option maxRecDepth 20000 in
theorem ggX5_readStatement_X5_fail : GoodIn wsX5_readStatement wsX5_fail := goodIn_r _ [69, 70, 8, 71, 132, 133, 134, 135, 136, 137, 138, 139, 140] (by decide +kernel) (by decide +kernel)
set_option maxRecDepth 20000 in
theorem gX5_readStatement_X5_fail : GoodIn wsX5_readStatement (wsV RX5 90 RX5 yX5_fail wsX5_fail) := goodIn_app (goodIn_of _ (by decide +kernel)) ggX5_readStatement_X5_fail
theorem dX5_readStatement_0 : decode cX5_readStatement 0 = .ok (.aload_n 0, 1) := by decide +kernel
theorem dX5_readStatement_1 : decode cX5_readStatement 1 = .ok (.ldc 115, 2) := by decide +kernel
theorem dX5_readStatement_3 : decode cX5_readStatement 3 = .ok (.invokevirtual 86, 3) := by decide +kernel
theorem dX5_readStatement_6 : decode cX5_readStatement 6 = .ok (.ifCond .eq 8, 3) := by decide +kernel
theorem dX5_readStatement_9 : decode cX5_readStatement 9 = .ok (.aload_n 0, 1) := by decide +kernel
theorem dX5_readStatement_10 : decode cX5_readStatement 10 = .ok (.invokevirtual 117, 3) := by decide +kernel
theorem dX5_readStatement_13 : decode cX5_readStatement 13 = .ok (.ireturn, 1) := by decide +kernel
theorem dX5_readStatement_14 : decode cX5_readStatement 14 = .ok (.aload_n 0, 1) := by decide +kernel
theorem dX5_readStatement_15 : decode cX5_readStatement 15 = .ok (.ldc 120, 2) := by decide +kernel
theorem dX5_readStatement_17 : decode cX5_readStatement 17 = .ok (.invokevirtual 86, 3) := by decide +kernel
theorem dX5_readStatement_20 : decode cX5_readStatement 20 = .ok (.ifCond .ne 12, 3) := by decide +kernel
theorem dX5_readStatement_23 : decode cX5_readStatement 23 = .ok (.aload_n 0, 1) := by decide +kernel
theorem dX5_readStatement_24 : decode cX5_readStatement 24 = .ok (.ldc 122, 2) := by decide +kernel
theorem dX5_readStatement_26 : decode cX5_readStatement 26 = .ok (.invokevirtual 86, 3) := by decide +kernel
theorem dX5_readStatement_29 : decode cX5_readStatement 29 = .ok (.ifCond .eq 14, 3) := by decide +kernel
theorem dX5_readStatement_32 : decode cX5_readStatement 32 = .ok (.aload_n 0, 1) := by decide +kernel
theorem dX5_readStatement_33 : decode cX5_readStatement 33 = .ok (.aload_n 0, 1) := by decide +kernel
theorem dX5_readStatement_34 : decode cX5_readStatement 34 = .ok (.ldc 120, 2) := by decide +kernel
theorem dX5_readStatement_36 : decode cX5_readStatement 36 = .ok (.invokevirtual 86, 3) := by decide +kernel
theorem dX5_readStatement_39 : decode cX5_readStatement 39 = .ok (.invokevirtual 124, 3) := by decide +kernel
theorem dX5_readStatement_42 : decode cX5_readStatement 42 = .ok (.ireturn, 1) := by decide +kernel
theorem dX5_readStatement_43 : decode cX5_readStatement 43 = .ok (.aload_n 0, 1) := by decide +kernel
theorem dX5_readStatement_44 : decode cX5_readStatement 44 = .ok (.ldc 128, 2) := by decide +kernel
theorem dX5_readStatement_46 : decode cX5_readStatement 46 = .ok (.invokevirtual 86, 3) := by decide +kernel
theorem dX5_readStatement_49 : decode cX5_readStatement 49 = .ok (.ifCond .ne 12, 3) := by decide +kernel
theorem dX5_readStatement_52 : decode cX5_readStatement 52 = .ok (.aload_n 0, 1) := by decide +kernel
theorem dX5_readStatement_53 : decode cX5_readStatement 53 = .ok (.ldc 130, 2) := by decide +kernel
theorem dX5_readStatement_55 : decode cX5_readStatement 55 = .ok (.invokevirtual 86, 3) := by decide +kernel
theorem dX5_readStatement_58 : decode cX5_readStatement 58 = .ok (.ifCond .eq 14, 3) := by decide +kernel
theorem dX5_readStatement_61 : decode cX5_readStatement 61 = .ok (.aload_n 0, 1) := by decide +kernel
theorem dX5_readStatement_62 : decode cX5_readStatement 62 = .ok (.aload_n 0, 1) := by decide +kernel
theorem dX5_readStatement_63 : decode cX5_readStatement 63 = .ok (.ldc 128, 2) := by decide +kernel
theorem dX5_readStatement_65 : decode cX5_readStatement 65 = .ok (.invokevirtual 86, 3) := by decide +kernel
theorem dX5_readStatement_68 : decode cX5_readStatement 68 = .ok (.invokevirtual 132, 3) := by decide +kernel
theorem dX5_readStatement_71 : decode cX5_readStatement 71 = .ok (.ireturn, 1) := by decide +kernel
theorem dX5_readStatement_72 : decode cX5_readStatement 72 = .ok (.aload_n 0, 1) := by decide +kernel
theorem dX5_readStatement_73 : decode cX5_readStatement 73 = .ok (.iconst 1, 1) := by decide +kernel
theorem dX5_readStatement_74 : decode cX5_readStatement 74 = .ok (.invokevirtual 90, 3) := by decide +kernel
theorem dX5_readStatement_77 : decode cX5_readStatement 77 = .ok (.ireturn, 1) := by decide +kernel
set_option maxRecDepth 20000 in
theorem ggX5_readItem_X5_fail : GoodIn wsX5_readItem wsX5_fail := goodIn_r _ [7, 8, 9, 10, 111, 112, 113, 114, 115, 116, 117, 118, 119] (by decide +kernel) (by decide +kernel)
set_option maxRecDepth 20000 in
theorem gX5_readItem_X5_fail : GoodIn wsX5_readItem (wsV RX5 90 RX5 yX5_fail wsX5_fail) := goodIn_app (goodIn_of _ (by decide +kernel)) ggX5_readItem_X5_fail
set_option maxRecDepth 20000 in
theorem ggX5_readItem_X5_advance : GoodIn wsX5_readItem wsX5_advance := goodIn_r _ [14, 15, 16, 17, 9, 18, 19, 20, 21, 22, 23, 24, 25, 26, 6, 27, 28, 29, 30, 111, 112, 113, 114, 115, 116, 117, 118, 119] (by decide +kernel) (by decide +kernel)
set_option maxRecDepth 20000 in
theorem gX5_readItem_X5_advance : GoodIn wsX5_readItem (wsV RX5 44 RX5 yX5_advance wsX5_advance) := goodIn_app (goodIn_of _ (by decide +kernel)) ggX5_readItem_X5_advance
set_option maxRecDepth 20000 in
theorem ggX5_readItem_X5_passWord : GoodIn wsX5_readItem wsX5_passWord := goodIn_r _ [34, 35, 36, 37, 6, 38, 19, 15, 9, 16, 17, 39, 40, 41, 42, 43, 44, 45, 46, 47, 48, 49, 50, 51, 52, 53, 54, 55, 56, 57, 58, 59, 60, 61, 62, 63, 64, 65, 66, 67, 68, 69, 70, 71, 72, 73, 74, 75, 76, 77, 78, 79, 80, 81, 82, 83, 84, 85, 86, 87, 3, 4, 5, 7, 8, 10, 11, 12, 13, 14, 18, 20, 21, 22, 23, 24, 25, 26, 27, 28, 29, 30, 111, 112, 113, 114, 115, 116, 117, 118, 119] (by decide +kernel) (by decide +kernel)
set_option maxRecDepth 20000 in
theorem gX5_readItem_X5_passWord : GoodIn wsX5_readItem (wsV RX5 99 RX5 yX5_passWord wsX5_passWord) := goodIn_app (goodIn_of _ (by decide +kernel)) ggX5_readItem_X5_passWord
set_option maxRecDepth 20000 in
theorem ggX5_readItem_X5_passNumber : GoodIn wsX5_readItem wsX5_passNumber := goodIn_r _ [91, 18, 92, 93, 94, 6, 95, 19, 3, 4, 5, 7, 8, 9, 10, 11, 12, 13, 14, 15, 16, 17, 20, 21, 22, 23, 24, 25, 26, 27, 28, 29, 30, 111, 112, 113, 114, 115, 116, 117, 118, 119] (by decide +kernel) (by decide +kernel)
set_option maxRecDepth 20000 in
theorem gX5_readItem_X5_passNumber : GoodIn wsX5_readItem (wsV RX5 102 RX5 yX5_passNumber wsX5_passNumber) := goodIn_app (goodIn_of _ (by decide +kernel)) ggX5_readItem_X5_passNumber
set_option maxRecDepth 20000 in
theorem ggX5_readItem_X8_addLast : GoodIn wsX5_readItem wsX8_addLast := goodIn_r _ [100, 101, 102, 103, 104, 105, 106, 120, 121, 122, 123, 124, 125, 126, 127, 128, 129, 130] (by decide +kernel) (by decide +kernel)
set_option maxRecDepth 20000 in
theorem gX5_readItem_X8_addLast : GoodIn wsX5_readItem (wsV RX5 144 RX8 yX8_addLast wsX8_addLast) := goodIn_app (goodIn_of _ (by decide +kernel)) ggX5_readItem_X8_addLast
set_option maxRecDepth 20000 in
theorem ggX5_readItem_X5_passEnd : GoodIn wsX5_readItem wsX5_passEnd := goodIn_r _ [110, 19, 9, 16, 17, 3, 4, 5, 6, 7, 8, 10, 11, 12, 13, 14, 15, 18, 20, 21, 22, 23, 24, 25, 26, 27, 28, 29, 30, 111, 112, 113, 114, 115, 116, 117, 118, 119] (by decide +kernel) (by decide +kernel)
set_option maxRecDepth 20000 in
theorem gX5_readItem_X5_passEnd : GoodIn wsX5_readItem (wsV RX5 112 RX5 yX5_passEnd wsX5_passEnd) := goodIn_app (goodIn_of _ (by decide +kernel)) ggX5_readItem_X5_passEnd
theorem dX5_readItem_0 : decode cX5_readItem 0 = .ok (.aload_n 0, 1) := by decide +kernel
theorem dX5_readItem_1 : decode cX5_readItem 1 = .ok (.getfield 12, 3) := by decide +kernel
theorem dX5_readItem_4 : decode cX5_readItem 4 = .ok (.getfield 135, 3) := by decide +kernel
theorem dX5_readItem_7 : decode cX5_readItem 7 = .ok (.bipush 12, 2) := by decide +kernel
theorem dX5_readItem_9 : decode cX5_readItem 9 = .ok (.if_icmp .lt 9, 3) := by decide +kernel
theorem dX5_readItem_12 : decode cX5_readItem 12 = .ok (.aload_n 0, 1) := by decide +kernel
theorem dX5_readItem_13 : decode cX5_readItem 13 = .ok (.iconst 4, 1) := by decide +kernel
theorem dX5_readItem_14 : decode cX5_readItem 14 = .ok (.invokevirtual 90, 3) := by decide +kernel
theorem dX5_readItem_17 : decode cX5_readItem 17 = .ok (.ireturn, 1) := by decide +kernel
theorem dX5_readItem_18 : decode cX5_readItem 18 = .ok (.aload_n 0, 1) := by decide +kernel
theorem dX5_readItem_19 : decode cX5_readItem 19 = .ok (.invokevirtual 44, 3) := by decide +kernel
theorem dX5_readItem_22 : decode cX5_readItem 22 = .ok (.aload_n 0, 1) := by decide +kernel
theorem dX5_readItem_23 : decode cX5_readItem 23 = .ok (.ldc 138, 2) := by decide +kernel
theorem dX5_readItem_25 : decode cX5_readItem 25 = .ok (.invokevirtual 99, 3) := by decide +kernel
theorem dX5_readItem_28 : decode cX5_readItem 28 = .ok (.ifCond .eq 12, 3) := by decide +kernel
theorem dX5_readItem_31 : decode cX5_readItem 31 = .ok (.aload_n 0, 1) := by decide +kernel
theorem dX5_readItem_32 : decode cX5_readItem 32 = .ok (.bipush 99, 2) := by decide +kernel
theorem dX5_readItem_34 : decode cX5_readItem 34 = .ok (.invokevirtual 102, 3) := by decide +kernel
theorem dX5_readItem_37 : decode cX5_readItem 37 = .ok (.goto 4, 3) := by decide +kernel
theorem dX5_readItem_40 : decode cX5_readItem 40 = .ok (.iconst (-1), 1) := by decide +kernel
theorem dX5_readItem_41 : decode cX5_readItem 41 = .ok (.istore_n 1, 1) := by decide +kernel
theorem dX5_readItem_42 : decode cX5_readItem 42 = .ok (.iload_n 1, 1) := by decide +kernel
theorem dX5_readItem_43 : decode cX5_readItem 43 = .ok (.iconst (-1), 1) := by decide +kernel
theorem dX5_readItem_44 : decode cX5_readItem 44 = .ok (.if_icmp .ne 5, 3) := by decide +kernel
theorem dX5_readItem_47 : decode cX5_readItem 47 = .ok (.iconst 0, 1) := by decide +kernel
theorem dX5_readItem_48 : decode cX5_readItem 48 = .ok (.ireturn, 1) := by decide +kernel
theorem dX5_readItem_49 : decode cX5_readItem 49 = .ok (.aload_n 0, 1) := by decide +kernel
theorem dX5_readItem_50 : decode cX5_readItem 50 = .ok (.ldc 140, 2) := by decide +kernel
theorem dX5_readItem_52 : decode cX5_readItem 52 = .ok (.invokevirtual 99, 3) := by decide +kernel
theorem dX5_readItem_55 : decode cX5_readItem 55 = .ok (.ifCond .eq 12, 3) := by decide +kernel
theorem dX5_readItem_58 : decode cX5_readItem 58 = .ok (.aload_n 0, 1) := by decide +kernel
theorem dX5_readItem_59 : decode cX5_readItem 59 = .ok (.bipush 99, 2) := by decide +kernel
theorem dX5_readItem_61 : decode cX5_readItem 61 = .ok (.invokevirtual 102, 3) := by decide +kernel
theorem dX5_readItem_64 : decode cX5_readItem 64 = .ok (.goto 4, 3) := by decide +kernel
theorem dX5_readItem_67 : decode cX5_readItem 67 = .ok (.iconst (-1), 1) := by decide +kernel
theorem dX5_readItem_68 : decode cX5_readItem 68 = .ok (.istore_n 2, 1) := by decide +kernel
theorem dX5_readItem_69 : decode cX5_readItem 69 = .ok (.iload_n 2, 1) := by decide +kernel
theorem dX5_readItem_70 : decode cX5_readItem 70 = .ok (.iconst (-1), 1) := by decide +kernel
theorem dX5_readItem_71 : decode cX5_readItem 71 = .ok (.if_icmp .ne 5, 3) := by decide +kernel
theorem dX5_readItem_74 : decode cX5_readItem 74 = .ok (.iconst 0, 1) := by decide +kernel
theorem dX5_readItem_75 : decode cX5_readItem 75 = .ok (.ireturn, 1) := by decide +kernel
theorem dX5_readItem_76 : decode cX5_readItem 76 = .ok (.aload_n 0, 1) := by decide +kernel
theorem dX5_readItem_77 : decode cX5_readItem 77 = .ok (.ldc 142, 2) := by decide +kernel
theorem dX5_readItem_79 : decode cX5_readItem 79 = .ok (.invokevirtual 99, 3) := by decide +kernel
theorem dX5_readItem_82 : decode cX5_readItem 82 = .ok (.ifCond .eq 12, 3) := by decide +kernel
theorem dX5_readItem_85 : decode cX5_readItem 85 = .ok (.aload_n 0, 1) := by decide +kernel
theorem dX5_readItem_86 : decode cX5_readItem 86 = .ok (.bipush 99, 2) := by decide +kernel
theorem dX5_readItem_88 : decode cX5_readItem 88 = .ok (.invokevirtual 102, 3) := by decide +kernel
theorem dX5_readItem_91 : decode cX5_readItem 91 = .ok (.goto 4, 3) := by decide +kernel
theorem dX5_readItem_94 : decode cX5_readItem 94 = .ok (.iconst (-1), 1) := by decide +kernel
theorem dX5_readItem_95 : decode cX5_readItem 95 = .ok (.istore_n 3, 1) := by decide +kernel
theorem dX5_readItem_96 : decode cX5_readItem 96 = .ok (.iload_n 3, 1) := by decide +kernel
theorem dX5_readItem_97 : decode cX5_readItem 97 = .ok (.iconst (-1), 1) := by decide +kernel
theorem dX5_readItem_98 : decode cX5_readItem 98 = .ok (.if_icmp .ne 5, 3) := by decide +kernel
theorem dX5_readItem_101 : decode cX5_readItem 101 = .ok (.iconst 0, 1) := by decide +kernel
theorem dX5_readItem_102 : decode cX5_readItem 102 = .ok (.ireturn, 1) := by decide +kernel
theorem dX5_readItem_103 : decode cX5_readItem 103 = .ok (.aload_n 0, 1) := by decide +kernel
theorem dX5_readItem_104 : decode cX5_readItem 104 = .ok (.getfield 12, 3) := by decide +kernel
theorem dX5_readItem_107 : decode cX5_readItem 107 = .ok (.iload_n 1, 1) := by decide +kernel
theorem dX5_readItem_108 : decode cX5_readItem 108 = .ok (.iload_n 2, 1) := by decide +kernel
theorem dX5_readItem_109 : decode cX5_readItem 109 = .ok (.iload_n 3, 1) := by decide +kernel
theorem dX5_readItem_110 : decode cX5_readItem 110 = .ok (.invokevirtual 144, 3) := by decide +kernel
theorem dX5_readItem_113 : decode cX5_readItem 113 = .ok (.aload_n 0, 1) := by decide +kernel
theorem dX5_readItem_114 : decode cX5_readItem 114 = .ok (.invokevirtual 112, 3) := by decide +kernel
theorem dX5_readItem_117 : decode cX5_readItem 117 = .ok (.ireturn, 1) := by decide +kernel
set_option maxRecDepth 20000 in
theorem ggX5_readPair_X5_advance : GoodIn wsX5_readPair wsX5_advance := goodIn_r _ [10, 11, 12, 13, 14, 3, 15, 16, 17, 18, 19, 20, 21, 22, 9, 23, 24, 25, 26, 50, 51, 52, 53, 54, 55, 56, 57, 58] (by decide +kernel) (by decide +kernel)
set_option maxRecDepth 20000 in
theorem gX5_readPair_X5_advance : GoodIn wsX5_readPair (wsV RX5 44 RX5 yX5_advance wsX5_advance) := goodIn_app (goodIn_of _ (by decide +kernel)) ggX5_readPair_X5_advance
set_option maxRecDepth 20000 in
theorem ggX5_readPair_X5_passNumber : GoodIn wsX5_readPair wsX5_passNumber := goodIn_r _ [30, 3, 31, 32, 33, 9, 34, 15, 35, 36, 37, 38, 39, 14, 40, 6, 7, 8, 10, 11, 12, 13, 16, 17, 18, 19, 20, 21, 22, 23, 24, 25, 26, 50, 51, 52, 53, 54, 55, 56, 57, 58] (by decide +kernel) (by decide +kernel)
set_option maxRecDepth 20000 in
theorem gX5_readPair_X5_passNumber : GoodIn wsX5_readPair (wsV RX5 102 RX5 yX5_passNumber wsX5_passNumber) := goodIn_app (goodIn_of _ (by decide +kernel)) ggX5_readPair_X5_passNumber
set_option maxRecDepth 20000 in
theorem ggX5_readPair_X5_checkNumber : GoodIn wsX5_readPair wsX5_checkNumber := goodIn_r _ [34, 15, 3, 35, 36, 37, 9, 38, 39, 14, 40, 50, 51, 52, 53, 54, 55, 56, 57, 58] (by decide +kernel) (by decide +kernel)
set_option maxRecDepth 20000 in
theorem gX5_readPair_X5_checkNumber : GoodIn wsX5_readPair (wsV RX5 94 RX5 yX5_checkNumber wsX5_checkNumber) := goodIn_app (goodIn_of _ (by decide +kernel)) ggX5_readPair_X5_checkNumber
set_option maxRecDepth 20000 in
theorem ggX5_readPair_X10_hasBit : GoodIn wsX5_readPair wsX10_hasBit := goodIn_r _ [43] (by decide +kernel) (by decide +kernel)
set_option maxRecDepth 20000 in
theorem gX5_readPair_X10_hasBit_n155 : GoodIn wsX5_readPair (wsX10_hasBit) := ggX5_readPair_X10_hasBit
set_option maxRecDepth 20000 in
theorem ggX5_readPair_X5_fail : GoodIn wsX5_readPair wsX5_fail := goodIn_r _ [38, 39, 14, 40, 50, 51, 52, 53, 54, 55, 56, 57, 58] (by decide +kernel) (by decide +kernel)
set_option maxRecDepth 20000 in
theorem gX5_readPair_X5_fail : GoodIn wsX5_readPair (wsV RX5 90 RX5 yX5_fail wsX5_fail) := goodIn_app (goodIn_of _ (by decide +kernel)) ggX5_readPair_X5_fail
set_option maxRecDepth 20000 in
theorem ggX5_readPair_X10_withBit : GoodIn wsX5_readPair wsX10_withBit := goodIn_r _ [45] (by decide +kernel) (by decide +kernel)
set_option maxRecDepth 20000 in
theorem gX5_readPair_X10_withBit_n159 : GoodIn wsX5_readPair (wsX10_withBit) := ggX5_readPair_X10_withBit
set_option maxRecDepth 20000 in
theorem ggX5_readPair_X5_passEnd : GoodIn wsX5_readPair wsX5_passEnd := goodIn_r _ [49, 15, 14, 12, 13, 35, 36, 37, 9, 38, 39, 40, 6, 7, 8, 10, 11, 3, 16, 17, 18, 19, 20, 21, 22, 23, 24, 25, 26, 50, 51, 52, 53, 54, 55, 56, 57, 58] (by decide +kernel) (by decide +kernel)
set_option maxRecDepth 20000 in
theorem gX5_readPair_X5_passEnd : GoodIn wsX5_readPair (wsV RX5 112 RX5 yX5_passEnd wsX5_passEnd) := goodIn_app (goodIn_of _ (by decide +kernel)) ggX5_readPair_X5_passEnd
theorem dX5_readPair_0 : decode cX5_readPair 0 = .ok (.aload_n 0, 1) := by decide +kernel
theorem dX5_readPair_1 : decode cX5_readPair 1 = .ok (.invokevirtual 44, 3) := by decide +kernel
theorem dX5_readPair_4 : decode cX5_readPair 4 = .ok (.aload_n 0, 1) := by decide +kernel
theorem dX5_readPair_5 : decode cX5_readPair 5 = .ok (.aload_n 0, 1) := by decide +kernel
theorem dX5_readPair_6 : decode cX5_readPair 6 = .ok (.getfield 12, 3) := by decide +kernel
theorem dX5_readPair_9 : decode cX5_readPair 9 = .ok (.getfield 135, 3) := by decide +kernel
theorem dX5_readPair_12 : decode cX5_readPair 12 = .ok (.iconst 1, 1) := by decide +kernel
theorem dX5_readPair_13 : decode cX5_readPair 13 = .ok (.isub, 1) := by decide +kernel
theorem dX5_readPair_14 : decode cX5_readPair 14 = .ok (.invokevirtual 102, 3) := by decide +kernel
theorem dX5_readPair_17 : decode cX5_readPair 17 = .ok (.istore_n 2, 1) := by decide +kernel
theorem dX5_readPair_18 : decode cX5_readPair 18 = .ok (.iload_n 2, 1) := by decide +kernel
theorem dX5_readPair_19 : decode cX5_readPair 19 = .ok (.iconst (-1), 1) := by decide +kernel
theorem dX5_readPair_20 : decode cX5_readPair 20 = .ok (.if_icmp .eq 19, 3) := by decide +kernel
theorem dX5_readPair_23 : decode cX5_readPair 23 = .ok (.aload_n 0, 1) := by decide +kernel
theorem dX5_readPair_24 : decode cX5_readPair 24 = .ok (.aload_n 0, 1) := by decide +kernel
theorem dX5_readPair_25 : decode cX5_readPair 25 = .ok (.getfield 12, 3) := by decide +kernel
theorem dX5_readPair_28 : decode cX5_readPair 28 = .ok (.getfield 135, 3) := by decide +kernel
theorem dX5_readPair_31 : decode cX5_readPair 31 = .ok (.iconst 1, 1) := by decide +kernel
theorem dX5_readPair_32 : decode cX5_readPair 32 = .ok (.isub, 1) := by decide +kernel
theorem dX5_readPair_33 : decode cX5_readPair 33 = .ok (.invokevirtual 94, 3) := by decide +kernel
theorem dX5_readPair_36 : decode cX5_readPair 36 = .ok (.ifCond .ne 5, 3) := by decide +kernel
theorem dX5_readPair_39 : decode cX5_readPair 39 = .ok (.iconst 0, 1) := by decide +kernel
theorem dX5_readPair_40 : decode cX5_readPair 40 = .ok (.ireturn, 1) := by decide +kernel
theorem dX5_readPair_41 : decode cX5_readPair 41 = .ok (.aload_n 0, 1) := by decide +kernel
theorem dX5_readPair_42 : decode cX5_readPair 42 = .ok (.getfield 60, 3) := by decide +kernel
theorem dX5_readPair_45 : decode cX5_readPair 45 = .ok (.istore_n 3, 1) := by decide +kernel
theorem dX5_readPair_46 : decode cX5_readPair 46 = .ok (.iload_n 1, 1) := by decide +kernel
theorem dX5_readPair_47 : decode cX5_readPair 47 = .ok (.ifCond .eq 13, 3) := by decide +kernel
theorem dX5_readPair_50 : decode cX5_readPair 50 = .ok (.aload_n 0, 1) := by decide +kernel
theorem dX5_readPair_51 : decode cX5_readPair 51 = .ok (.getfield 12, 3) := by decide +kernel
theorem dX5_readPair_54 : decode cX5_readPair 54 = .ok (.getfield 148, 3) := by decide +kernel
theorem dX5_readPair_57 : decode cX5_readPair 57 = .ok (.goto 10, 3) := by decide +kernel
theorem dX5_readPair_60 : decode cX5_readPair 60 = .ok (.aload_n 0, 1) := by decide +kernel
theorem dX5_readPair_61 : decode cX5_readPair 61 = .ok (.getfield 12, 3) := by decide +kernel
theorem dX5_readPair_64 : decode cX5_readPair 64 = .ok (.getfield 152, 3) := by decide +kernel
theorem dX5_readPair_67 : decode cX5_readPair 67 = .ok (.astore 4, 2) := by decide +kernel
theorem dX5_readPair_69 : decode cX5_readPair 69 = .ok (.iload_n 3, 1) := by decide +kernel
theorem dX5_readPair_70 : decode cX5_readPair 70 = .ok (.iload_n 2, 1) := by decide +kernel
theorem dX5_readPair_71 : decode cX5_readPair 71 = .ok (.if_icmp .eq 14, 3) := by decide +kernel
theorem dX5_readPair_74 : decode cX5_readPair 74 = .ok (.aload 4, 2) := by decide +kernel
theorem dX5_readPair_76 : decode cX5_readPair 76 = .ok (.iload_n 2, 1) := by decide +kernel
theorem dX5_readPair_77 : decode cX5_readPair 77 = .ok (.iaload, 1) := by decide +kernel
theorem dX5_readPair_78 : decode cX5_readPair 78 = .ok (.iload_n 3, 1) := by decide +kernel
theorem dX5_readPair_79 : decode cX5_readPair 79 = .ok (.invokestatic 155, 3) := by decide +kernel
theorem dX5_readPair_82 : decode cX5_readPair 82 = .ok (.ifCond .eq 9, 3) := by decide +kernel
theorem dX5_readPair_85 : decode cX5_readPair 85 = .ok (.aload_n 0, 1) := by decide +kernel
theorem dX5_readPair_86 : decode cX5_readPair 86 = .ok (.iconst 3, 1) := by decide +kernel
theorem dX5_readPair_87 : decode cX5_readPair 87 = .ok (.invokevirtual 90, 3) := by decide +kernel
theorem dX5_readPair_90 : decode cX5_readPair 90 = .ok (.ireturn, 1) := by decide +kernel
theorem dX5_readPair_91 : decode cX5_readPair 91 = .ok (.aload 4, 2) := by decide +kernel
theorem dX5_readPair_93 : decode cX5_readPair 93 = .ok (.iload_n 2, 1) := by decide +kernel
theorem dX5_readPair_94 : decode cX5_readPair 94 = .ok (.aload 4, 2) := by decide +kernel
theorem dX5_readPair_96 : decode cX5_readPair 96 = .ok (.iload_n 2, 1) := by decide +kernel
theorem dX5_readPair_97 : decode cX5_readPair 97 = .ok (.iaload, 1) := by decide +kernel
theorem dX5_readPair_98 : decode cX5_readPair 98 = .ok (.iload_n 3, 1) := by decide +kernel
theorem dX5_readPair_99 : decode cX5_readPair 99 = .ok (.iconst 1, 1) := by decide +kernel
theorem dX5_readPair_100 : decode cX5_readPair 100 = .ok (.invokestatic 159, 3) := by decide +kernel
theorem dX5_readPair_103 : decode cX5_readPair 103 = .ok (.iastore, 1) := by decide +kernel
theorem dX5_readPair_104 : decode cX5_readPair 104 = .ok (.iload_n 1, 1) := by decide +kernel
theorem dX5_readPair_105 : decode cX5_readPair 105 = .ok (.ifCond .eq 16, 3) := by decide +kernel
theorem dX5_readPair_108 : decode cX5_readPair 108 = .ok (.aload 4, 2) := by decide +kernel
theorem dX5_readPair_110 : decode cX5_readPair 110 = .ok (.iload_n 3, 1) := by decide +kernel
theorem dX5_readPair_111 : decode cX5_readPair 111 = .ok (.aload 4, 2) := by decide +kernel
theorem dX5_readPair_113 : decode cX5_readPair 113 = .ok (.iload_n 3, 1) := by decide +kernel
theorem dX5_readPair_114 : decode cX5_readPair 114 = .ok (.iaload, 1) := by decide +kernel
theorem dX5_readPair_115 : decode cX5_readPair 115 = .ok (.iload_n 2, 1) := by decide +kernel
theorem dX5_readPair_116 : decode cX5_readPair 116 = .ok (.iconst 1, 1) := by decide +kernel
theorem dX5_readPair_117 : decode cX5_readPair 117 = .ok (.invokestatic 159, 3) := by decide +kernel
theorem dX5_readPair_120 : decode cX5_readPair 120 = .ok (.iastore, 1) := by decide +kernel
theorem dX5_readPair_121 : decode cX5_readPair 121 = .ok (.aload_n 0, 1) := by decide +kernel
theorem dX5_readPair_122 : decode cX5_readPair 122 = .ok (.invokevirtual 44, 3) := by decide +kernel
theorem dX5_readPair_125 : decode cX5_readPair 125 = .ok (.aload_n 0, 1) := by decide +kernel
theorem dX5_readPair_126 : decode cX5_readPair 126 = .ok (.invokevirtual 112, 3) := by decide +kernel
theorem dX5_readPair_129 : decode cX5_readPair 129 = .ok (.ireturn, 1) := by decide +kernel
set_option maxRecDepth 20000 in
theorem ggX5_readSingle_X5_advance : GoodIn wsX5_readSingle wsX5_advance := goodIn_r _ [10, 11, 12, 13, 14, 5, 15, 16, 17, 18, 19, 20, 21, 22, 9, 23, 24, 25, 26, 46, 47, 48, 49, 50, 51, 52, 53, 54] (by decide +kernel) (by decide +kernel)
set_option maxRecDepth 20000 in
theorem gX5_readSingle_X5_advance : GoodIn wsX5_readSingle (wsV RX5 44 RX5 yX5_advance wsX5_advance) := goodIn_app (goodIn_of _ (by decide +kernel)) ggX5_readSingle_X5_advance
set_option maxRecDepth 20000 in
theorem ggX5_readSingle_X5_checkNumber : GoodIn wsX5_readSingle wsX5_checkNumber := goodIn_r _ [30, 15, 5, 31, 32, 33, 9, 34, 35, 14, 36, 46, 47, 48, 49, 50, 51, 52, 53, 54] (by decide +kernel) (by decide +kernel)
set_option maxRecDepth 20000 in
theorem gX5_readSingle_X5_checkNumber : GoodIn wsX5_readSingle (wsV RX5 94 RX5 yX5_checkNumber wsX5_checkNumber) := goodIn_app (goodIn_of _ (by decide +kernel)) ggX5_readSingle_X5_checkNumber
set_option maxRecDepth 20000 in
theorem ggX5_readSingle_X10_hasBit : GoodIn wsX5_readSingle wsX10_hasBit := goodIn_r _ [39] (by decide +kernel) (by decide +kernel)
set_option maxRecDepth 20000 in
theorem gX5_readSingle_X10_hasBit_n155 : GoodIn wsX5_readSingle (wsX10_hasBit) := ggX5_readSingle_X10_hasBit
set_option maxRecDepth 20000 in
theorem ggX5_readSingle_X5_fail : GoodIn wsX5_readSingle wsX5_fail := goodIn_r _ [34, 35, 14, 36, 46, 47, 48, 49, 50, 51, 52, 53, 54] (by decide +kernel) (by decide +kernel)
set_option maxRecDepth 20000 in
theorem gX5_readSingle_X5_fail : GoodIn wsX5_readSingle (wsV RX5 90 RX5 yX5_fail wsX5_fail) := goodIn_app (goodIn_of _ (by decide +kernel)) ggX5_readSingle_X5_fail
set_option maxRecDepth 20000 in
theorem ggX5_readSingle_X10_withBit : GoodIn wsX5_readSingle wsX10_withBit := goodIn_r _ [41] (by decide +kernel) (by decide +kernel)
set_option maxRecDepth 20000 in
theorem gX5_readSingle_X10_withBit_n159 : GoodIn wsX5_readSingle (wsX10_withBit) := ggX5_readSingle_X10_withBit
set_option maxRecDepth 20000 in
theorem ggX5_readSingle_X5_passEnd : GoodIn wsX5_readSingle wsX5_passEnd := goodIn_r _ [45, 15, 14, 12, 13, 31, 32, 33, 9, 34, 35, 36, 6, 7, 8, 10, 11, 5, 16, 17, 18, 19, 20, 21, 22, 23, 24, 25, 26, 46, 47, 48, 49, 50, 51, 52, 53, 54] (by decide +kernel) (by decide +kernel)
set_option maxRecDepth 20000 in
theorem gX5_readSingle_X5_passEnd : GoodIn wsX5_readSingle (wsV RX5 112 RX5 yX5_passEnd wsX5_passEnd) := goodIn_app (goodIn_of _ (by decide +kernel)) ggX5_readSingle_X5_passEnd
theorem dX5_readSingle_0 : decode cX5_readSingle 0 = .ok (.aload_n 0, 1) := by decide +kernel
theorem dX5_readSingle_1 : decode cX5_readSingle 1 = .ok (.invokevirtual 44, 3) := by decide +kernel
theorem dX5_readSingle_4 : decode cX5_readSingle 4 = .ok (.aload_n 0, 1) := by decide +kernel
theorem dX5_readSingle_5 : decode cX5_readSingle 5 = .ok (.aload_n 0, 1) := by decide +kernel
theorem dX5_readSingle_6 : decode cX5_readSingle 6 = .ok (.getfield 12, 3) := by decide +kernel
theorem dX5_readSingle_9 : decode cX5_readSingle 9 = .ok (.getfield 135, 3) := by decide +kernel
theorem dX5_readSingle_12 : decode cX5_readSingle 12 = .ok (.iconst 1, 1) := by decide +kernel
theorem dX5_readSingle_13 : decode cX5_readSingle 13 = .ok (.isub, 1) := by decide +kernel
theorem dX5_readSingle_14 : decode cX5_readSingle 14 = .ok (.invokevirtual 94, 3) := by decide +kernel
theorem dX5_readSingle_17 : decode cX5_readSingle 17 = .ok (.ifCond .ne 5, 3) := by decide +kernel
theorem dX5_readSingle_20 : decode cX5_readSingle 20 = .ok (.iconst 0, 1) := by decide +kernel
theorem dX5_readSingle_21 : decode cX5_readSingle 21 = .ok (.ireturn, 1) := by decide +kernel
theorem dX5_readSingle_22 : decode cX5_readSingle 22 = .ok (.iload_n 1, 1) := by decide +kernel
theorem dX5_readSingle_23 : decode cX5_readSingle 23 = .ok (.ifCond .eq 13, 3) := by decide +kernel
theorem dX5_readSingle_26 : decode cX5_readSingle 26 = .ok (.aload_n 0, 1) := by decide +kernel
theorem dX5_readSingle_27 : decode cX5_readSingle 27 = .ok (.getfield 12, 3) := by decide +kernel
theorem dX5_readSingle_30 : decode cX5_readSingle 30 = .ok (.getfield 163, 3) := by decide +kernel
theorem dX5_readSingle_33 : decode cX5_readSingle 33 = .ok (.goto 10, 3) := by decide +kernel
theorem dX5_readSingle_36 : decode cX5_readSingle 36 = .ok (.aload_n 0, 1) := by decide +kernel
theorem dX5_readSingle_37 : decode cX5_readSingle 37 = .ok (.getfield 12, 3) := by decide +kernel
theorem dX5_readSingle_40 : decode cX5_readSingle 40 = .ok (.getfield 166, 3) := by decide +kernel
theorem dX5_readSingle_43 : decode cX5_readSingle 43 = .ok (.istore_n 2, 1) := by decide +kernel
theorem dX5_readSingle_44 : decode cX5_readSingle 44 = .ok (.iload_n 2, 1) := by decide +kernel
theorem dX5_readSingle_45 : decode cX5_readSingle 45 = .ok (.aload_n 0, 1) := by decide +kernel
theorem dX5_readSingle_46 : decode cX5_readSingle 46 = .ok (.getfield 60, 3) := by decide +kernel
theorem dX5_readSingle_49 : decode cX5_readSingle 49 = .ok (.invokestatic 155, 3) := by decide +kernel
theorem dX5_readSingle_52 : decode cX5_readSingle 52 = .ok (.ifCond .eq 9, 3) := by decide +kernel
theorem dX5_readSingle_55 : decode cX5_readSingle 55 = .ok (.aload_n 0, 1) := by decide +kernel
theorem dX5_readSingle_56 : decode cX5_readSingle 56 = .ok (.iconst 3, 1) := by decide +kernel
theorem dX5_readSingle_57 : decode cX5_readSingle 57 = .ok (.invokevirtual 90, 3) := by decide +kernel
theorem dX5_readSingle_60 : decode cX5_readSingle 60 = .ok (.ireturn, 1) := by decide +kernel
theorem dX5_readSingle_61 : decode cX5_readSingle 61 = .ok (.iload_n 1, 1) := by decide +kernel
theorem dX5_readSingle_62 : decode cX5_readSingle 62 = .ok (.ifCond .eq 22, 3) := by decide +kernel
theorem dX5_readSingle_65 : decode cX5_readSingle 65 = .ok (.aload_n 0, 1) := by decide +kernel
theorem dX5_readSingle_66 : decode cX5_readSingle 66 = .ok (.getfield 12, 3) := by decide +kernel
theorem dX5_readSingle_69 : decode cX5_readSingle 69 = .ok (.iload_n 2, 1) := by decide +kernel
theorem dX5_readSingle_70 : decode cX5_readSingle 70 = .ok (.aload_n 0, 1) := by decide +kernel
theorem dX5_readSingle_71 : decode cX5_readSingle 71 = .ok (.getfield 60, 3) := by decide +kernel
theorem dX5_readSingle_74 : decode cX5_readSingle 74 = .ok (.iconst 1, 1) := by decide +kernel
theorem dX5_readSingle_75 : decode cX5_readSingle 75 = .ok (.invokestatic 159, 3) := by decide +kernel
theorem dX5_readSingle_78 : decode cX5_readSingle 78 = .ok (.putfield 163, 3) := by decide +kernel
theorem dX5_readSingle_81 : decode cX5_readSingle 81 = .ok (.goto 19, 3) := by decide +kernel
theorem dX5_readSingle_84 : decode cX5_readSingle 84 = .ok (.aload_n 0, 1) := by decide +kernel
theorem dX5_readSingle_85 : decode cX5_readSingle 85 = .ok (.getfield 12, 3) := by decide +kernel
theorem dX5_readSingle_88 : decode cX5_readSingle 88 = .ok (.iload_n 2, 1) := by decide +kernel
theorem dX5_readSingle_89 : decode cX5_readSingle 89 = .ok (.aload_n 0, 1) := by decide +kernel
theorem dX5_readSingle_90 : decode cX5_readSingle 90 = .ok (.getfield 60, 3) := by decide +kernel
theorem dX5_readSingle_93 : decode cX5_readSingle 93 = .ok (.iconst 1, 1) := by decide +kernel
theorem dX5_readSingle_94 : decode cX5_readSingle 94 = .ok (.invokestatic 159, 3) := by decide +kernel
theorem dX5_readSingle_97 : decode cX5_readSingle 97 = .ok (.putfield 166, 3) := by decide +kernel
theorem dX5_readSingle_100 : decode cX5_readSingle 100 = .ok (.aload_n 0, 1) := by decide +kernel
theorem dX5_readSingle_101 : decode cX5_readSingle 101 = .ok (.invokevirtual 44, 3) := by decide +kernel
theorem dX5_readSingle_104 : decode cX5_readSingle 104 = .ok (.aload_n 0, 1) := by decide +kernel
theorem dX5_readSingle_105 : decode cX5_readSingle 105 = .ok (.invokevirtual 112, 3) := by decide +kernel
theorem dX5_readSingle_108 : decode cX5_readSingle 108 = .ok (.ireturn, 1) := by decide +kernel
set_option maxRecDepth 20000 in
theorem ggX6_init_X8_init : GoodIn wsX6_init wsX8_init := goodIn_r _ [9, 10, 2, 3, 11, 12, 13, 14, 15, 16, 17, 18, 21, 22, 23, 24, 25, 26, 27, 28, 29, 30, 31] (by decide +kernel) (by decide +kernel)
set_option maxRecDepth 20000 in
theorem gX6_init_X8_init_n17 : GoodIn wsX6_init (wsX8_init) := ggX6_init_X8_init
theorem dX6_init_0 : decode cX6_init 0 = .ok (.aload_n 0, 1) := by decide +kernel
theorem dX6_init_1 : decode cX6_init 1 = .ok (.invokespecial 3, 3) := by decide +kernel
theorem dX6_init_4 : decode cX6_init 4 = .ok (.aload_n 0, 1) := by decide +kernel
theorem dX6_init_5 : decode cX6_init 5 = .ok (.bipush 8, 2) := by decide +kernel
theorem dX6_init_7 : decode cX6_init 7 = .ok (.anewarray 9, 3) := by decide +kernel
theorem dX6_init_10 : decode cX6_init 10 = .ok (.putfield 11, 3) := by decide +kernel
theorem dX6_init_13 : decode cX6_init 13 = .ok (.iconst 0, 1) := by decide +kernel
theorem dX6_init_14 : decode cX6_init 14 = .ok (.istore_n 1, 1) := by decide +kernel
theorem dX6_init_15 : decode cX6_init 15 = .ok (.iload_n 1, 1) := by decide +kernel
theorem dX6_init_16 : decode cX6_init 16 = .ok (.bipush 8, 2) := by decide +kernel
theorem dX6_init_18 : decode cX6_init 18 = .ok (.if_icmp .ge 22, 3) := by decide +kernel
theorem dX6_init_21 : decode cX6_init 21 = .ok (.aload_n 0, 1) := by decide +kernel
theorem dX6_init_22 : decode cX6_init 22 = .ok (.getfield 11, 3) := by decide +kernel
theorem dX6_init_25 : decode cX6_init 25 = .ok (.iload_n 1, 1) := by decide +kernel
theorem dX6_init_26 : decode cX6_init 26 = .ok (.new 9, 3) := by decide +kernel
theorem dX6_init_29 : decode cX6_init 29 = .ok (.dup, 1) := by decide +kernel
theorem dX6_init_30 : decode cX6_init 30 = .ok (.invokespecial 17, 3) := by decide +kernel
theorem dX6_init_33 : decode cX6_init 33 = .ok (.aastore, 1) := by decide +kernel
theorem dX6_init_34 : decode cX6_init 34 = .ok (.iinc 1 1, 3) := by decide +kernel
theorem dX6_init_37 : decode cX6_init 37 = .ok (.goto (-22), 3) := by decide +kernel
theorem dX6_init_40 : decode cX6_init 40 = .ok (.return_, 1) := by decide +kernel
set_option maxRecDepth 20000 in
theorem ggX6_push_X6_forgetOldest : GoodIn wsX6_push wsX6_forgetOldest := goodIn_r _ [7, 2, 1, 28, 29] (by decide +kernel) (by decide +kernel)
set_option maxRecDepth 20000 in
theorem gX6_push_X6_forgetOldest : GoodIn wsX6_push (wsV RX6 22 RX6 yX6_forgetOldest wsX6_forgetOldest) := goodIn_app (goodIn_of _ (by decide +kernel)) ggX6_push_X6_forgetOldest
set_option maxRecDepth 20000 in
theorem ggX6_push_X8_copyFrom : GoodIn wsX6_push wsX8_copyFrom := goodIn_r _ [12, 13, 14, 15, 16, 17, 18, 19, 20, 21, 22, 23, 24, 25, 26, 27, 30, 31, 32, 33, 34, 35, 36, 37, 38, 39, 40] (by decide +kernel) (by decide +kernel)
set_option maxRecDepth 20000 in
theorem gX6_push_X8_copyFrom : GoodIn wsX6_push (wsV RX6 25 RX8 yX8_copyFrom wsX8_copyFrom) := goodIn_app (goodIn_of _ (by decide +kernel)) ggX6_push_X8_copyFrom
theorem dX6_push_0 : decode cX6_push 0 = .ok (.aload_n 0, 1) := by decide +kernel
theorem dX6_push_1 : decode cX6_push 1 = .ok (.getfield 18, 3) := by decide +kernel
theorem dX6_push_4 : decode cX6_push 4 = .ok (.bipush 8, 2) := by decide +kernel
theorem dX6_push_6 : decode cX6_push 6 = .ok (.if_icmp .lt 7, 3) := by decide +kernel
theorem dX6_push_9 : decode cX6_push 9 = .ok (.aload_n 0, 1) := by decide +kernel
theorem dX6_push_10 : decode cX6_push 10 = .ok (.invokevirtual 22, 3) := by decide +kernel
theorem dX6_push_13 : decode cX6_push 13 = .ok (.aload_n 0, 1) := by decide +kernel
theorem dX6_push_14 : decode cX6_push 14 = .ok (.getfield 11, 3) := by decide +kernel
theorem dX6_push_17 : decode cX6_push 17 = .ok (.aload_n 0, 1) := by decide +kernel
theorem dX6_push_18 : decode cX6_push 18 = .ok (.getfield 18, 3) := by decide +kernel
theorem dX6_push_21 : decode cX6_push 21 = .ok (.aaload, 1) := by decide +kernel
theorem dX6_push_22 : decode cX6_push 22 = .ok (.aload_n 1, 1) := by decide +kernel
theorem dX6_push_23 : decode cX6_push 23 = .ok (.invokevirtual 25, 3) := by decide +kernel
theorem dX6_push_26 : decode cX6_push 26 = .ok (.aload_n 0, 1) := by decide +kernel
theorem dX6_push_27 : decode cX6_push 27 = .ok (.dup, 1) := by decide +kernel
theorem dX6_push_28 : decode cX6_push 28 = .ok (.getfield 18, 3) := by decide +kernel
theorem dX6_push_31 : decode cX6_push 31 = .ok (.iconst 1, 1) := by decide +kernel
theorem dX6_push_32 : decode cX6_push 32 = .ok (.iadd, 1) := by decide +kernel
theorem dX6_push_33 : decode cX6_push 33 = .ok (.putfield 18, 3) := by decide +kernel
theorem dX6_push_36 : decode cX6_push 36 = .ok (.return_, 1) := by decide +kernel
theorem dX6_forgetOldest_0 : decode cX6_forgetOldest 0 = .ok (.aload_n 0, 1) := by decide +kernel
theorem dX6_forgetOldest_1 : decode cX6_forgetOldest 1 = .ok (.getfield 11, 3) := by decide +kernel
theorem dX6_forgetOldest_4 : decode cX6_forgetOldest 4 = .ok (.iconst 0, 1) := by decide +kernel
theorem dX6_forgetOldest_5 : decode cX6_forgetOldest 5 = .ok (.aaload, 1) := by decide +kernel
theorem dX6_forgetOldest_6 : decode cX6_forgetOldest 6 = .ok (.astore_n 1, 1) := by decide +kernel
theorem dX6_forgetOldest_7 : decode cX6_forgetOldest 7 = .ok (.iconst 1, 1) := by decide +kernel
theorem dX6_forgetOldest_8 : decode cX6_forgetOldest 8 = .ok (.istore_n 2, 1) := by decide +kernel
theorem dX6_forgetOldest_9 : decode cX6_forgetOldest 9 = .ok (.iload_n 2, 1) := by decide +kernel
theorem dX6_forgetOldest_10 : decode cX6_forgetOldest 10 = .ok (.bipush 8, 2) := by decide +kernel
theorem dX6_forgetOldest_12 : decode cX6_forgetOldest 12 = .ok (.if_icmp .ge 23, 3) := by decide +kernel
theorem dX6_forgetOldest_15 : decode cX6_forgetOldest 15 = .ok (.aload_n 0, 1) := by decide +kernel
theorem dX6_forgetOldest_16 : decode cX6_forgetOldest 16 = .ok (.getfield 11, 3) := by decide +kernel
theorem dX6_forgetOldest_19 : decode cX6_forgetOldest 19 = .ok (.iload_n 2, 1) := by decide +kernel
theorem dX6_forgetOldest_20 : decode cX6_forgetOldest 20 = .ok (.iconst 1, 1) := by decide +kernel
theorem dX6_forgetOldest_21 : decode cX6_forgetOldest 21 = .ok (.isub, 1) := by decide +kernel
theorem dX6_forgetOldest_22 : decode cX6_forgetOldest 22 = .ok (.aload_n 0, 1) := by decide +kernel
theorem dX6_forgetOldest_23 : decode cX6_forgetOldest 23 = .ok (.getfield 11, 3) := by decide +kernel
theorem dX6_forgetOldest_26 : decode cX6_forgetOldest 26 = .ok (.iload_n 2, 1) := by decide +kernel
theorem dX6_forgetOldest_27 : decode cX6_forgetOldest 27 = .ok (.aaload, 1) := by decide +kernel
theorem dX6_forgetOldest_28 : decode cX6_forgetOldest 28 = .ok (.aastore, 1) := by decide +kernel
theorem dX6_forgetOldest_29 : decode cX6_forgetOldest 29 = .ok (.iinc 2 1, 3) := by decide +kernel
theorem dX6_forgetOldest_32 : decode cX6_forgetOldest 32 = .ok (.goto (-23), 3) := by decide +kernel
theorem dX6_forgetOldest_35 : decode cX6_forgetOldest 35 = .ok (.aload_n 0, 1) := by decide +kernel
theorem dX6_forgetOldest_36 : decode cX6_forgetOldest 36 = .ok (.getfield 11, 3) := by decide +kernel
theorem dX6_forgetOldest_39 : decode cX6_forgetOldest 39 = .ok (.bipush 7, 2) := by decide +kernel
theorem dX6_forgetOldest_41 : decode cX6_forgetOldest 41 = .ok (.aload_n 1, 1) := by decide +kernel
theorem dX6_forgetOldest_42 : decode cX6_forgetOldest 42 = .ok (.aastore, 1) := by decide +kernel
theorem dX6_forgetOldest_43 : decode cX6_forgetOldest 43 = .ok (.aload_n 0, 1) := by decide +kernel
theorem dX6_forgetOldest_44 : decode cX6_forgetOldest 44 = .ok (.bipush 7, 2) := by decide +kernel
theorem dX6_forgetOldest_46 : decode cX6_forgetOldest 46 = .ok (.putfield 18, 3) := by decide +kernel
theorem dX6_forgetOldest_49 : decode cX6_forgetOldest 49 = .ok (.return_, 1) := by decide +kernel
set_option maxRecDepth 20000 in
theorem ggX6_pop_X8_copyFrom : GoodIn wsX6_pop wsX8_copyFrom := goodIn_r _ [7, 8, 9, 10, 11, 12, 13, 14, 15, 16, 17, 18, 19, 20, 21, 22, 25, 26, 27, 28, 29, 30, 31, 32, 33, 34, 35] (by decide +kernel) (by decide +kernel)
set_option maxRecDepth 20000 in
theorem gX6_pop_X8_copyFrom : GoodIn wsX6_pop (wsV RX6 25 RX8 yX8_copyFrom wsX8_copyFrom) := goodIn_app (goodIn_of _ (by decide +kernel)) ggX6_pop_X8_copyFrom
theorem dX6_pop_0 : decode cX6_pop 0 = .ok (.aload_n 0, 1) := by decide +kernel
theorem dX6_pop_1 : decode cX6_pop 1 = .ok (.getfield 18, 3) := by decide +kernel
theorem dX6_pop_4 : decode cX6_pop 4 = .ok (.ifCond .le 26, 3) := by decide +kernel
theorem dX6_pop_7 : decode cX6_pop 7 = .ok (.aload_n 0, 1) := by decide +kernel
theorem dX6_pop_8 : decode cX6_pop 8 = .ok (.dup, 1) := by decide +kernel
theorem dX6_pop_9 : decode cX6_pop 9 = .ok (.getfield 18, 3) := by decide +kernel
theorem dX6_pop_12 : decode cX6_pop 12 = .ok (.iconst 1, 1) := by decide +kernel
theorem dX6_pop_13 : decode cX6_pop 13 = .ok (.isub, 1) := by decide +kernel
theorem dX6_pop_14 : decode cX6_pop 14 = .ok (.putfield 18, 3) := by decide +kernel
theorem dX6_pop_17 : decode cX6_pop 17 = .ok (.aload_n 1, 1) := by decide +kernel
theorem dX6_pop_18 : decode cX6_pop 18 = .ok (.aload_n 0, 1) := by decide +kernel
theorem dX6_pop_19 : decode cX6_pop 19 = .ok (.getfield 11, 3) := by decide +kernel
theorem dX6_pop_22 : decode cX6_pop 22 = .ok (.aload_n 0, 1) := by decide +kernel
theorem dX6_pop_23 : decode cX6_pop 23 = .ok (.getfield 18, 3) := by decide +kernel
theorem dX6_pop_26 : decode cX6_pop 26 = .ok (.aaload, 1) := by decide +kernel
theorem dX6_pop_27 : decode cX6_pop 27 = .ok (.invokevirtual 25, 3) := by decide +kernel
theorem dX6_pop_30 : decode cX6_pop 30 = .ok (.return_, 1) := by decide +kernel
theorem dX7_init_0 : decode cX7_init 0 = .ok (.aload_n 0, 1) := by decide +kernel
theorem dX7_init_1 : decode cX7_init 1 = .ok (.invokespecial 3, 3) := by decide +kernel
theorem dX7_init_4 : decode cX7_init 4 = .ok (.aload_n 0, 1) := by decide +kernel
theorem dX7_init_5 : decode cX7_init 5 = .ok (.sipush 2378, 3) := by decide +kernel
theorem dX7_init_8 : decode cX7_init 8 = .ok (.newarray .int, 2) := by decide +kernel
theorem dX7_init_10 : decode cX7_init 10 = .ok (.putfield 9, 3) := by decide +kernel
theorem dX7_init_13 : decode cX7_init 13 = .ok (.aload_n 0, 1) := by decide +kernel
theorem dX7_init_14 : decode cX7_init 14 = .ok (.sipush 2378, 3) := by decide +kernel
theorem dX7_init_17 : decode cX7_init 17 = .ok (.newarray .int, 2) := by decide +kernel
theorem dX7_init_19 : decode cX7_init 19 = .ok (.putfield 15, 3) := by decide +kernel
theorem dX7_init_22 : decode cX7_init 22 = .ok (.aload_n 0, 1) := by decide +kernel
theorem dX7_init_23 : decode cX7_init 23 = .ok (.sipush 2378, 3) := by decide +kernel
theorem dX7_init_26 : decode cX7_init 26 = .ok (.newarray .int, 2) := by decide +kernel
theorem dX7_init_28 : decode cX7_init 28 = .ok (.putfield 18, 3) := by decide +kernel
theorem dX7_init_31 : decode cX7_init 31 = .ok (.return_, 1) := by decide +kernel
set_option maxRecDepth 20000 in
theorem ggX7_run_X7_enqueue : GoodIn wsX7_run wsX7_enqueue := goodIn_r _ [10, 1, 4, 5, 35, 36, 37, 38] (by decide +kernel) (by decide +kernel)
set_option maxRecDepth 20000 in
theorem gX7_run_X7_enqueue : GoodIn wsX7_run (wsV RX7 30 RX7 yX7_enqueue wsX7_enqueue) := goodIn_app (goodIn_of _ (by decide +kernel)) ggX7_run_X7_enqueue
set_option maxRecDepth 20000 in
theorem ggX7_run_X7_findAbove : GoodIn wsX7_run wsX7_findAbove := goodIn_r _ [13, 14, 15, 16, 17, 18, 19, 20, 21, 22, 23, 24, 25, 26, 27, 28, 29, 30, 31, 32, 33, 34, 39, 40, 41, 42, 43, 44, 45, 46, 47, 48, 49, 50, 51] (by decide +kernel) (by decide +kernel)
set_option maxRecDepth 20000 in
theorem gX7_run_X7_findAbove : GoodIn wsX7_run (va_wsS RX7 34 yX7_findAbove wsX7_findAbove) := goodIn_app (goodIn_of _ (by decide +kernel)) ggX7_run_X7_findAbove
theorem dX7_run_0 : decode cX7_run 0 = .ok (.aload_n 0, 1) := by decide +kernel
theorem dX7_run_1 : decode cX7_run 1 = .ok (.iconst 0, 1) := by decide +kernel
theorem dX7_run_2 : decode cX7_run 2 = .ok (.putfield 21, 3) := by decide +kernel
theorem dX7_run_5 : decode cX7_run 5 = .ok (.aload_n 1, 1) := by decide +kernel
theorem dX7_run_6 : decode cX7_run 6 = .ok (.getfield 25, 3) := by decide +kernel
theorem dX7_run_9 : decode cX7_run 9 = .ok (.iconst 2, 1) := by decide +kernel
theorem dX7_run_10 : decode cX7_run 10 = .ok (.if_icmp .lt 14, 3) := by decide +kernel
theorem dX7_run_13 : decode cX7_run 13 = .ok (.aload_n 0, 1) := by decide +kernel
theorem dX7_run_14 : decode cX7_run 14 = .ok (.iconst 0, 1) := by decide +kernel
theorem dX7_run_15 : decode cX7_run 15 = .ok (.aload_n 1, 1) := by decide +kernel
theorem dX7_run_16 : decode cX7_run 16 = .ok (.getfield 25, 3) := by decide +kernel
theorem dX7_run_19 : decode cX7_run 19 = .ok (.iconst 1, 1) := by decide +kernel
theorem dX7_run_20 : decode cX7_run 20 = .ok (.isub, 1) := by decide +kernel
theorem dX7_run_21 : decode cX7_run 21 = .ok (.invokevirtual 30, 3) := by decide +kernel
theorem dX7_run_24 : decode cX7_run 24 = .ok (.iconst 0, 1) := by decide +kernel
theorem dX7_run_25 : decode cX7_run 25 = .ok (.istore_n 2, 1) := by decide +kernel
theorem dX7_run_26 : decode cX7_run 26 = .ok (.iload_n 2, 1) := by decide +kernel
theorem dX7_run_27 : decode cX7_run 27 = .ok (.aload_n 0, 1) := by decide +kernel
theorem dX7_run_28 : decode cX7_run 28 = .ok (.getfield 21, 3) := by decide +kernel
theorem dX7_run_31 : decode cX7_run 31 = .ok (.if_icmp .ge 80, 3) := by decide +kernel
theorem dX7_run_34 : decode cX7_run 34 = .ok (.iload_n 2, 1) := by decide +kernel
theorem dX7_run_35 : decode cX7_run 35 = .ok (.sipush 2378, 3) := by decide +kernel
theorem dX7_run_38 : decode cX7_run 38 = .ok (.if_icmp .ge 73, 3) := by decide +kernel
theorem dX7_run_41 : decode cX7_run 41 = .ok (.aload_n 0, 1) := by decide +kernel
theorem dX7_run_42 : decode cX7_run 42 = .ok (.getfield 18, 3) := by decide +kernel
theorem dX7_run_45 : decode cX7_run 45 = .ok (.iload_n 2, 1) := by decide +kernel
theorem dX7_run_46 : decode cX7_run 46 = .ok (.aload_n 1, 1) := by decide +kernel
theorem dX7_run_47 : decode cX7_run 47 = .ok (.aload_n 0, 1) := by decide +kernel
theorem dX7_run_48 : decode cX7_run 48 = .ok (.getfield 9, 3) := by decide +kernel
theorem dX7_run_51 : decode cX7_run 51 = .ok (.iload_n 2, 1) := by decide +kernel
theorem dX7_run_52 : decode cX7_run 52 = .ok (.iaload, 1) := by decide +kernel
theorem dX7_run_53 : decode cX7_run 53 = .ok (.aload_n 0, 1) := by decide +kernel
theorem dX7_run_54 : decode cX7_run 54 = .ok (.getfield 15, 3) := by decide +kernel
theorem dX7_run_57 : decode cX7_run 57 = .ok (.iload_n 2, 1) := by decide +kernel
theorem dX7_run_58 : decode cX7_run 58 = .ok (.iaload, 1) := by decide +kernel
theorem dX7_run_59 : decode cX7_run 59 = .ok (.invokestatic 34, 3) := by decide +kernel
theorem dX7_run_62 : decode cX7_run 62 = .ok (.iastore, 1) := by decide +kernel
theorem dX7_run_63 : decode cX7_run 63 = .ok (.aload_n 0, 1) := by decide +kernel
theorem dX7_run_64 : decode cX7_run 64 = .ok (.getfield 18, 3) := by decide +kernel
theorem dX7_run_67 : decode cX7_run 67 = .ok (.iload_n 2, 1) := by decide +kernel
theorem dX7_run_68 : decode cX7_run 68 = .ok (.iaload, 1) := by decide +kernel
theorem dX7_run_69 : decode cX7_run 69 = .ok (.iconst (-1), 1) := by decide +kernel
theorem dX7_run_70 : decode cX7_run 70 = .ok (.if_icmp .eq 35, 3) := by decide +kernel
theorem dX7_run_73 : decode cX7_run 73 = .ok (.aload_n 0, 1) := by decide +kernel
theorem dX7_run_74 : decode cX7_run 74 = .ok (.aload_n 0, 1) := by decide +kernel
theorem dX7_run_75 : decode cX7_run 75 = .ok (.getfield 9, 3) := by decide +kernel
theorem dX7_run_78 : decode cX7_run 78 = .ok (.iload_n 2, 1) := by decide +kernel
theorem dX7_run_79 : decode cX7_run 79 = .ok (.iaload, 1) := by decide +kernel
theorem dX7_run_80 : decode cX7_run 80 = .ok (.aload_n 0, 1) := by decide +kernel
theorem dX7_run_81 : decode cX7_run 81 = .ok (.getfield 18, 3) := by decide +kernel
theorem dX7_run_84 : decode cX7_run 84 = .ok (.iload_n 2, 1) := by decide +kernel
theorem dX7_run_85 : decode cX7_run 85 = .ok (.iaload, 1) := by decide +kernel
theorem dX7_run_86 : decode cX7_run 86 = .ok (.invokevirtual 30, 3) := by decide +kernel
theorem dX7_run_89 : decode cX7_run 89 = .ok (.aload_n 0, 1) := by decide +kernel
theorem dX7_run_90 : decode cX7_run 90 = .ok (.aload_n 0, 1) := by decide +kernel
theorem dX7_run_91 : decode cX7_run 91 = .ok (.getfield 18, 3) := by decide +kernel
theorem dX7_run_94 : decode cX7_run 94 = .ok (.iload_n 2, 1) := by decide +kernel
theorem dX7_run_95 : decode cX7_run 95 = .ok (.iaload, 1) := by decide +kernel
theorem dX7_run_96 : decode cX7_run 96 = .ok (.aload_n 0, 1) := by decide +kernel
theorem dX7_run_97 : decode cX7_run 97 = .ok (.getfield 15, 3) := by decide +kernel
theorem dX7_run_100 : decode cX7_run 100 = .ok (.iload_n 2, 1) := by decide +kernel
theorem dX7_run_101 : decode cX7_run 101 = .ok (.iaload, 1) := by decide +kernel
theorem dX7_run_102 : decode cX7_run 102 = .ok (.invokevirtual 30, 3) := by decide +kernel
theorem dX7_run_105 : decode cX7_run 105 = .ok (.iinc 2 1, 3) := by decide +kernel
theorem dX7_run_108 : decode cX7_run 108 = .ok (.goto (-82), 3) := by decide +kernel
theorem dX7_run_111 : decode cX7_run 111 = .ok (.return_, 1) := by decide +kernel
theorem dX7_enqueue_0 : decode cX7_enqueue 0 = .ok (.aload_n 0, 1) := by decide +kernel
theorem dX7_enqueue_1 : decode cX7_enqueue 1 = .ok (.getfield 21, 3) := by decide +kernel
theorem dX7_enqueue_4 : decode cX7_enqueue 4 = .ok (.sipush 2378, 3) := by decide +kernel
theorem dX7_enqueue_7 : decode cX7_enqueue 7 = .ok (.if_icmp .ge 33, 3) := by decide +kernel
theorem dX7_enqueue_10 : decode cX7_enqueue 10 = .ok (.aload_n 0, 1) := by decide +kernel
theorem dX7_enqueue_11 : decode cX7_enqueue 11 = .ok (.getfield 9, 3) := by decide +kernel
theorem dX7_enqueue_14 : decode cX7_enqueue 14 = .ok (.aload_n 0, 1) := by decide +kernel
theorem dX7_enqueue_15 : decode cX7_enqueue 15 = .ok (.getfield 21, 3) := by decide +kernel
theorem dX7_enqueue_18 : decode cX7_enqueue 18 = .ok (.iload_n 1, 1) := by decide +kernel
theorem dX7_enqueue_19 : decode cX7_enqueue 19 = .ok (.iastore, 1) := by decide +kernel
theorem dX7_enqueue_20 : decode cX7_enqueue 20 = .ok (.aload_n 0, 1) := by decide +kernel
theorem dX7_enqueue_21 : decode cX7_enqueue 21 = .ok (.getfield 15, 3) := by decide +kernel
theorem dX7_enqueue_24 : decode cX7_enqueue 24 = .ok (.aload_n 0, 1) := by decide +kernel
theorem dX7_enqueue_25 : decode cX7_enqueue 25 = .ok (.getfield 21, 3) := by decide +kernel
theorem dX7_enqueue_28 : decode cX7_enqueue 28 = .ok (.iload_n 2, 1) := by decide +kernel
theorem dX7_enqueue_29 : decode cX7_enqueue 29 = .ok (.iastore, 1) := by decide +kernel
theorem dX7_enqueue_30 : decode cX7_enqueue 30 = .ok (.aload_n 0, 1) := by decide +kernel
theorem dX7_enqueue_31 : decode cX7_enqueue 31 = .ok (.dup, 1) := by decide +kernel
theorem dX7_enqueue_32 : decode cX7_enqueue 32 = .ok (.getfield 21, 3) := by decide +kernel
theorem dX7_enqueue_35 : decode cX7_enqueue 35 = .ok (.iconst 1, 1) := by decide +kernel
theorem dX7_enqueue_36 : decode cX7_enqueue 36 = .ok (.iadd, 1) := by decide +kernel
theorem dX7_enqueue_37 : decode cX7_enqueue 37 = .ok (.putfield 21, 3) := by decide +kernel
theorem dX7_enqueue_40 : decode cX7_enqueue 40 = .ok (.return_, 1) := by decide +kernel
set_option maxRecDepth 20000 in
theorem ggX7_findAbove_X2_joyLost : GoodIn wsX7_findAbove wsX2_joyLost := goodIn_r _ [5, 6, 22, 23, 24, 25, 26, 27, 28, 29, 30, 31, 32, 33, 34] (by decide +kernel) (by decide +kernel)
set_option maxRecDepth 20000 in
theorem gX7_findAbove_X2_joyLost : GoodIn wsX7_findAbove (wsV RX7 38 RX2 yX2_joyLost wsX2_joyLost) := goodIn_app (goodIn_of _ (by decide +kernel)) ggX7_findAbove_X2_joyLost
set_option maxRecDepth 20000 in
theorem ggX7_findAbove_X2_gainWon : GoodIn wsX7_findAbove wsX2_gainWon := goodIn_r _ [10, 11, 22, 23, 24, 25, 26, 27, 28, 29, 30, 31, 32, 33, 34] (by decide +kernel) (by decide +kernel)
set_option maxRecDepth 20000 in
theorem gX7_findAbove_X2_gainWon : GoodIn wsX7_findAbove (wsV RX7 42 RX2 yX2_gainWon wsX2_gainWon) := goodIn_app (goodIn_of _ (by decide +kernel)) ggX7_findAbove_X2_gainWon
set_option maxRecDepth 20000 in
theorem ggX7_findAbove_X2_greatestBy : GoodIn wsX7_findAbove wsX2_greatestBy := goodIn_r _ [15, 16, 17, 18, 19, 4, 20, 11, 6, 22, 23, 24, 25, 26, 27, 28, 29, 30, 31, 32, 33, 34] (by decide +kernel) (by decide +kernel)
set_option maxRecDepth 20000 in
theorem gX7_findAbove_X2_greatestBy : GoodIn wsX7_findAbove (wsV RX7 45 RX2 yX2_greatestBy wsX2_greatestBy) := goodIn_app (goodIn_of _ (by decide +kernel)) ggX7_findAbove_X2_greatestBy
set_option maxRecDepth 20000 in
theorem ggX7_findAbove_X2_valueOf : GoodIn wsX7_findAbove wsX2_valueOf := goodIn_r _ [20, 11, 6, 22, 23, 24, 25, 26, 27, 28, 29, 30, 31, 32, 33, 34] (by decide +kernel) (by decide +kernel)
set_option maxRecDepth 20000 in
theorem gX7_findAbove_X2_valueOf : GoodIn wsX7_findAbove (wsV RX7 48 RX2 yX2_valueOf wsX2_valueOf) := goodIn_app (goodIn_of _ (by decide +kernel)) ggX7_findAbove_X2_valueOf
theorem dX7_findAbove_0 : decode cX7_findAbove 0 = .ok (.aload_n 0, 1) := by decide +kernel
theorem dX7_findAbove_1 : decode cX7_findAbove 1 = .ok (.iload_n 1, 1) := by decide +kernel
theorem dX7_findAbove_2 : decode cX7_findAbove 2 = .ok (.iload_n 2, 1) := by decide +kernel
theorem dX7_findAbove_3 : decode cX7_findAbove 3 = .ok (.invokevirtual 38, 3) := by decide +kernel
theorem dX7_findAbove_6 : decode cX7_findAbove 6 = .ok (.istore_n 3, 1) := by decide +kernel
theorem dX7_findAbove_7 : decode cX7_findAbove 7 = .ok (.aload_n 0, 1) := by decide +kernel
theorem dX7_findAbove_8 : decode cX7_findAbove 8 = .ok (.iload_n 1, 1) := by decide +kernel
theorem dX7_findAbove_9 : decode cX7_findAbove 9 = .ok (.iload_n 2, 1) := by decide +kernel
theorem dX7_findAbove_10 : decode cX7_findAbove 10 = .ok (.invokevirtual 42, 3) := by decide +kernel
theorem dX7_findAbove_13 : decode cX7_findAbove 13 = .ok (.istore 4, 2) := by decide +kernel
theorem dX7_findAbove_15 : decode cX7_findAbove 15 = .ok (.aload_n 0, 1) := by decide +kernel
theorem dX7_findAbove_16 : decode cX7_findAbove 16 = .ok (.iload_n 3, 1) := by decide +kernel
theorem dX7_findAbove_17 : decode cX7_findAbove 17 = .ok (.iload 4, 2) := by decide +kernel
theorem dX7_findAbove_19 : decode cX7_findAbove 19 = .ok (.invokevirtual 45, 3) := by decide +kernel
theorem dX7_findAbove_22 : decode cX7_findAbove 22 = .ok (.istore 5, 2) := by decide +kernel
theorem dX7_findAbove_24 : decode cX7_findAbove 24 = .ok (.iload 5, 2) := by decide +kernel
theorem dX7_findAbove_26 : decode cX7_findAbove 26 = .ok (.iconst (-1), 1) := by decide +kernel
theorem dX7_findAbove_27 : decode cX7_findAbove 27 = .ok (.if_icmp .eq 27, 3) := by decide +kernel
theorem dX7_findAbove_30 : decode cX7_findAbove 30 = .ok (.aload_n 0, 1) := by decide +kernel
theorem dX7_findAbove_31 : decode cX7_findAbove 31 = .ok (.iload 5, 2) := by decide +kernel
theorem dX7_findAbove_33 : decode cX7_findAbove 33 = .ok (.iload_n 3, 1) := by decide +kernel
theorem dX7_findAbove_34 : decode cX7_findAbove 34 = .ok (.iload 4, 2) := by decide +kernel
theorem dX7_findAbove_36 : decode cX7_findAbove 36 = .ok (.invokevirtual 48, 3) := by decide +kernel
theorem dX7_findAbove_39 : decode cX7_findAbove 39 = .ok (.aload_n 0, 1) := by decide +kernel
theorem dX7_findAbove_40 : decode cX7_findAbove 40 = .ok (.iload_n 1, 1) := by decide +kernel
theorem dX7_findAbove_41 : decode cX7_findAbove 41 = .ok (.iload_n 3, 1) := by decide +kernel
theorem dX7_findAbove_42 : decode cX7_findAbove 42 = .ok (.iload 4, 2) := by decide +kernel
theorem dX7_findAbove_44 : decode cX7_findAbove 44 = .ok (.invokevirtual 48, 3) := by decide +kernel
theorem dX7_findAbove_47 : decode cX7_findAbove 47 = .ok (.if_icmp .le 7, 3) := by decide +kernel
theorem dX7_findAbove_50 : decode cX7_findAbove 50 = .ok (.iconst 1, 1) := by decide +kernel
theorem dX7_findAbove_51 : decode cX7_findAbove 51 = .ok (.goto 4, 3) := by decide +kernel
theorem dX7_findAbove_54 : decode cX7_findAbove 54 = .ok (.iconst 0, 1) := by decide +kernel
theorem dX7_findAbove_55 : decode cX7_findAbove 55 = .ok (.istore 6, 2) := by decide +kernel
theorem dX7_findAbove_57 : decode cX7_findAbove 57 = .ok (.iload 6, 2) := by decide +kernel
theorem dX7_findAbove_59 : decode cX7_findAbove 59 = .ok (.ifCond .eq 8, 3) := by decide +kernel
theorem dX7_findAbove_62 : decode cX7_findAbove 62 = .ok (.iload 5, 2) := by decide +kernel
theorem dX7_findAbove_64 : decode cX7_findAbove 64 = .ok (.goto 4, 3) := by decide +kernel
theorem dX7_findAbove_67 : decode cX7_findAbove 67 = .ok (.iconst (-1), 1) := by decide +kernel
theorem dX7_findAbove_68 : decode cX7_findAbove 68 = .ok (.ireturn, 1) := by decide +kernel
theorem dX8_init_0 : decode cX8_init 0 = .ok (.aload_n 0, 1) := by decide +kernel
theorem dX8_init_1 : decode cX8_init 1 = .ok (.invokespecial 3, 3) := by decide +kernel
theorem dX8_init_4 : decode cX8_init 4 = .ok (.aload_n 0, 1) := by decide +kernel
theorem dX8_init_5 : decode cX8_init 5 = .ok (.bipush 20, 2) := by decide +kernel
theorem dX8_init_7 : decode cX8_init 7 = .ok (.putfield 9, 3) := by decide +kernel
theorem dX8_init_10 : decode cX8_init 10 = .ok (.aload_n 0, 1) := by decide +kernel
theorem dX8_init_11 : decode cX8_init 11 = .ok (.bipush 12, 2) := by decide +kernel
theorem dX8_init_13 : decode cX8_init 13 = .ok (.putfield 15, 3) := by decide +kernel
theorem dX8_init_16 : decode cX8_init 16 = .ok (.aload_n 0, 1) := by decide +kernel
theorem dX8_init_17 : decode cX8_init 17 = .ok (.bipush 12, 2) := by decide +kernel
theorem dX8_init_19 : decode cX8_init 19 = .ok (.newarray .int, 2) := by decide +kernel
theorem dX8_init_21 : decode cX8_init 21 = .ok (.putfield 18, 3) := by decide +kernel
theorem dX8_init_24 : decode cX8_init 24 = .ok (.aload_n 0, 1) := by decide +kernel
theorem dX8_init_25 : decode cX8_init 25 = .ok (.bipush 12, 2) := by decide +kernel
theorem dX8_init_27 : decode cX8_init 27 = .ok (.newarray .int, 2) := by decide +kernel
theorem dX8_init_29 : decode cX8_init 29 = .ok (.putfield 22, 3) := by decide +kernel
theorem dX8_init_32 : decode cX8_init 32 = .ok (.aload_n 0, 1) := by decide +kernel
theorem dX8_init_33 : decode cX8_init 33 = .ok (.bipush 12, 2) := by decide +kernel
theorem dX8_init_35 : decode cX8_init 35 = .ok (.newarray .int, 2) := by decide +kernel
theorem dX8_init_37 : decode cX8_init 37 = .ok (.putfield 25, 3) := by decide +kernel
theorem dX8_init_40 : decode cX8_init 40 = .ok (.aload_n 0, 1) := by decide +kernel
theorem dX8_init_41 : decode cX8_init 41 = .ok (.bipush 12, 2) := by decide +kernel
theorem dX8_init_43 : decode cX8_init 43 = .ok (.newarray .int, 2) := by decide +kernel
theorem dX8_init_45 : decode cX8_init 45 = .ok (.putfield 28, 3) := by decide +kernel
theorem dX8_init_48 : decode cX8_init 48 = .ok (.aload_n 0, 1) := by decide +kernel
theorem dX8_init_49 : decode cX8_init 49 = .ok (.bipush 12, 2) := by decide +kernel
theorem dX8_init_51 : decode cX8_init 51 = .ok (.newarray .int, 2) := by decide +kernel
theorem dX8_init_53 : decode cX8_init 53 = .ok (.putfield 31, 3) := by decide +kernel
theorem dX8_init_56 : decode cX8_init 56 = .ok (.return_, 1) := by decide +kernel
theorem dX8_hasItem_0 : decode cX8_hasItem 0 = .ok (.iload_n 1, 1) := by decide +kernel
theorem dX8_hasItem_1 : decode cX8_hasItem 1 = .ok (.ifCond .lt 15, 3) := by decide +kernel
theorem dX8_hasItem_4 : decode cX8_hasItem 4 = .ok (.iload_n 1, 1) := by decide +kernel
theorem dX8_hasItem_5 : decode cX8_hasItem 5 = .ok (.aload_n 0, 1) := by decide +kernel
theorem dX8_hasItem_6 : decode cX8_hasItem 6 = .ok (.getfield 34, 3) := by decide +kernel
theorem dX8_hasItem_9 : decode cX8_hasItem 9 = .ok (.if_icmp .ge 7, 3) := by decide +kernel
theorem dX8_hasItem_12 : decode cX8_hasItem 12 = .ok (.iconst 1, 1) := by decide +kernel
theorem dX8_hasItem_13 : decode cX8_hasItem 13 = .ok (.goto 4, 3) := by decide +kernel
theorem dX8_hasItem_16 : decode cX8_hasItem 16 = .ok (.iconst 0, 1) := by decide +kernel
theorem dX8_hasItem_17 : decode cX8_hasItem 17 = .ok (.ireturn, 1) := by decide +kernel
theorem dX8_everyItem_0 : decode cX8_everyItem 0 = .ok (.iconst 1, 1) := by decide +kernel
theorem dX8_everyItem_1 : decode cX8_everyItem 1 = .ok (.aload_n 0, 1) := by decide +kernel
theorem dX8_everyItem_2 : decode cX8_everyItem 2 = .ok (.getfield 34, 3) := by decide +kernel
theorem dX8_everyItem_5 : decode cX8_everyItem 5 = .ok (.ishl, 1) := by decide +kernel
theorem dX8_everyItem_6 : decode cX8_everyItem 6 = .ok (.iconst 1, 1) := by decide +kernel
theorem dX8_everyItem_7 : decode cX8_everyItem 7 = .ok (.isub, 1) := by decide +kernel
theorem dX8_everyItem_8 : decode cX8_everyItem 8 = .ok (.ireturn, 1) := by decide +kernel
set_option maxRecDepth 20000 in
theorem ggX8_countBits_J6_bitCount_0f7a4 : GoodIn wsX8_countBits wsJ6_bitCount_0f7a4 := goodIn_r _ [5, 6, 7, 8] (by decide +kernel) (by decide +kernel)
set_option maxRecDepth 20000 in
theorem gX8_countBits_J6_bitCount_0f7a4 : GoodIn wsX8_countBits (va_wsS RX8 37 yJ6_bitCount_0f7a4 wsJ6_bitCount_0f7a4) := goodIn_app (goodIn_of _ (by decide +kernel)) ggX8_countBits_J6_bitCount_0f7a4
theorem dX8_countBits_0 : decode cX8_countBits 0 = .ok (.iconst 0, 1) := by decide +kernel
theorem dX8_countBits_1 : decode cX8_countBits 1 = .ok (.istore_n 2, 1) := by decide +kernel
theorem dX8_countBits_2 : decode cX8_countBits 2 = .ok (.iconst 0, 1) := by decide +kernel
theorem dX8_countBits_3 : decode cX8_countBits 3 = .ok (.istore_n 3, 1) := by decide +kernel
theorem dX8_countBits_4 : decode cX8_countBits 4 = .ok (.iload_n 3, 1) := by decide +kernel
theorem dX8_countBits_5 : decode cX8_countBits 5 = .ok (.aload_n 0, 1) := by decide +kernel
theorem dX8_countBits_6 : decode cX8_countBits 6 = .ok (.getfield 34, 3) := by decide +kernel
theorem dX8_countBits_9 : decode cX8_countBits 9 = .ok (.if_icmp .ge 18, 3) := by decide +kernel
theorem dX8_countBits_12 : decode cX8_countBits 12 = .ok (.iload_n 2, 1) := by decide +kernel
theorem dX8_countBits_13 : decode cX8_countBits 13 = .ok (.aload_n 1, 1) := by decide +kernel
theorem dX8_countBits_14 : decode cX8_countBits 14 = .ok (.iload_n 3, 1) := by decide +kernel
theorem dX8_countBits_15 : decode cX8_countBits 15 = .ok (.iaload, 1) := by decide +kernel
theorem dX8_countBits_16 : decode cX8_countBits 16 = .ok (.invokestatic 37, 3) := by decide +kernel
theorem dX8_countBits_19 : decode cX8_countBits 19 = .ok (.iadd, 1) := by decide +kernel
theorem dX8_countBits_20 : decode cX8_countBits 20 = .ok (.istore_n 2, 1) := by decide +kernel
theorem dX8_countBits_21 : decode cX8_countBits 21 = .ok (.iinc 3 1, 3) := by decide +kernel
theorem dX8_countBits_24 : decode cX8_countBits 24 = .ok (.goto (-20), 3) := by decide +kernel
theorem dX8_countBits_27 : decode cX8_countBits 27 = .ok (.iload_n 2, 1) := by decide +kernel
theorem dX8_countBits_28 : decode cX8_countBits 28 = .ok (.ireturn, 1) := by decide +kernel
theorem dX8_copyFrom_0 : decode cX8_copyFrom 0 = .ok (.aload_n 0, 1) := by decide +kernel
theorem dX8_copyFrom_1 : decode cX8_copyFrom 1 = .ok (.aload_n 1, 1) := by decide +kernel
theorem dX8_copyFrom_2 : decode cX8_copyFrom 2 = .ok (.getfield 34, 3) := by decide +kernel
theorem dX8_copyFrom_5 : decode cX8_copyFrom 5 = .ok (.putfield 34, 3) := by decide +kernel
theorem dX8_copyFrom_8 : decode cX8_copyFrom 8 = .ok (.aload_n 0, 1) := by decide +kernel
theorem dX8_copyFrom_9 : decode cX8_copyFrom 9 = .ok (.aload_n 1, 1) := by decide +kernel
theorem dX8_copyFrom_10 : decode cX8_copyFrom 10 = .ok (.getfield 9, 3) := by decide +kernel
theorem dX8_copyFrom_13 : decode cX8_copyFrom 13 = .ok (.putfield 9, 3) := by decide +kernel
theorem dX8_copyFrom_16 : decode cX8_copyFrom 16 = .ok (.aload_n 0, 1) := by decide +kernel
theorem dX8_copyFrom_17 : decode cX8_copyFrom 17 = .ok (.aload_n 1, 1) := by decide +kernel
theorem dX8_copyFrom_18 : decode cX8_copyFrom 18 = .ok (.getfield 15, 3) := by decide +kernel
theorem dX8_copyFrom_21 : decode cX8_copyFrom 21 = .ok (.putfield 15, 3) := by decide +kernel
theorem dX8_copyFrom_24 : decode cX8_copyFrom 24 = .ok (.aload_n 0, 1) := by decide +kernel
theorem dX8_copyFrom_25 : decode cX8_copyFrom 25 = .ok (.aload_n 1, 1) := by decide +kernel
theorem dX8_copyFrom_26 : decode cX8_copyFrom 26 = .ok (.getfield 43, 3) := by decide +kernel
theorem dX8_copyFrom_29 : decode cX8_copyFrom 29 = .ok (.putfield 43, 3) := by decide +kernel
theorem dX8_copyFrom_32 : decode cX8_copyFrom 32 = .ok (.aload_n 0, 1) := by decide +kernel
theorem dX8_copyFrom_33 : decode cX8_copyFrom 33 = .ok (.aload_n 1, 1) := by decide +kernel
theorem dX8_copyFrom_34 : decode cX8_copyFrom 34 = .ok (.getfield 46, 3) := by decide +kernel
theorem dX8_copyFrom_37 : decode cX8_copyFrom 37 = .ok (.putfield 46, 3) := by decide +kernel
theorem dX8_copyFrom_40 : decode cX8_copyFrom 40 = .ok (.aload_n 0, 1) := by decide +kernel
theorem dX8_copyFrom_41 : decode cX8_copyFrom 41 = .ok (.aload_n 1, 1) := by decide +kernel
theorem dX8_copyFrom_42 : decode cX8_copyFrom 42 = .ok (.getfield 49, 3) := by decide +kernel
theorem dX8_copyFrom_45 : decode cX8_copyFrom 45 = .ok (.putfield 49, 3) := by decide +kernel
theorem dX8_copyFrom_48 : decode cX8_copyFrom 48 = .ok (.aload_n 1, 1) := by decide +kernel
theorem dX8_copyFrom_49 : decode cX8_copyFrom 49 = .ok (.getfield 18, 3) := by decide +kernel
theorem dX8_copyFrom_52 : decode cX8_copyFrom 52 = .ok (.iconst 0, 1) := by decide +kernel
theorem dX8_copyFrom_53 : decode cX8_copyFrom 53 = .ok (.aload_n 0, 1) := by decide +kernel
theorem dX8_copyFrom_54 : decode cX8_copyFrom 54 = .ok (.getfield 18, 3) := by decide +kernel
theorem dX8_copyFrom_57 : decode cX8_copyFrom 57 = .ok (.iconst 0, 1) := by decide +kernel
theorem dX8_copyFrom_58 : decode cX8_copyFrom 58 = .ok (.bipush 12, 2) := by decide +kernel
theorem dX8_copyFrom_60 : decode cX8_copyFrom 60 = .ok (.invokestatic 52, 3) := by decide +kernel
theorem dX8_copyFrom_63 : decode cX8_copyFrom 63 = .ok (.aload_n 1, 1) := by decide +kernel
theorem dX8_copyFrom_64 : decode cX8_copyFrom 64 = .ok (.getfield 22, 3) := by decide +kernel
theorem dX8_copyFrom_67 : decode cX8_copyFrom 67 = .ok (.iconst 0, 1) := by decide +kernel
theorem dX8_copyFrom_68 : decode cX8_copyFrom 68 = .ok (.aload_n 0, 1) := by decide +kernel
theorem dX8_copyFrom_69 : decode cX8_copyFrom 69 = .ok (.getfield 22, 3) := by decide +kernel
theorem dX8_copyFrom_72 : decode cX8_copyFrom 72 = .ok (.iconst 0, 1) := by decide +kernel
theorem dX8_copyFrom_73 : decode cX8_copyFrom 73 = .ok (.bipush 12, 2) := by decide +kernel
theorem dX8_copyFrom_75 : decode cX8_copyFrom 75 = .ok (.invokestatic 52, 3) := by decide +kernel
theorem dX8_copyFrom_78 : decode cX8_copyFrom 78 = .ok (.aload_n 1, 1) := by decide +kernel
theorem dX8_copyFrom_79 : decode cX8_copyFrom 79 = .ok (.getfield 25, 3) := by decide +kernel
theorem dX8_copyFrom_82 : decode cX8_copyFrom 82 = .ok (.iconst 0, 1) := by decide +kernel
theorem dX8_copyFrom_83 : decode cX8_copyFrom 83 = .ok (.aload_n 0, 1) := by decide +kernel
theorem dX8_copyFrom_84 : decode cX8_copyFrom 84 = .ok (.getfield 25, 3) := by decide +kernel
theorem dX8_copyFrom_87 : decode cX8_copyFrom 87 = .ok (.iconst 0, 1) := by decide +kernel
theorem dX8_copyFrom_88 : decode cX8_copyFrom 88 = .ok (.bipush 12, 2) := by decide +kernel
theorem dX8_copyFrom_90 : decode cX8_copyFrom 90 = .ok (.invokestatic 52, 3) := by decide +kernel
theorem dX8_copyFrom_93 : decode cX8_copyFrom 93 = .ok (.aload_n 1, 1) := by decide +kernel
theorem dX8_copyFrom_94 : decode cX8_copyFrom 94 = .ok (.getfield 28, 3) := by decide +kernel
theorem dX8_copyFrom_97 : decode cX8_copyFrom 97 = .ok (.iconst 0, 1) := by decide +kernel
theorem dX8_copyFrom_98 : decode cX8_copyFrom 98 = .ok (.aload_n 0, 1) := by decide +kernel
theorem dX8_copyFrom_99 : decode cX8_copyFrom 99 = .ok (.getfield 28, 3) := by decide +kernel
theorem dX8_copyFrom_102 : decode cX8_copyFrom 102 = .ok (.iconst 0, 1) := by decide +kernel
theorem dX8_copyFrom_103 : decode cX8_copyFrom 103 = .ok (.bipush 12, 2) := by decide +kernel
theorem dX8_copyFrom_105 : decode cX8_copyFrom 105 = .ok (.invokestatic 52, 3) := by decide +kernel
theorem dX8_copyFrom_108 : decode cX8_copyFrom 108 = .ok (.aload_n 1, 1) := by decide +kernel
theorem dX8_copyFrom_109 : decode cX8_copyFrom 109 = .ok (.getfield 31, 3) := by decide +kernel
theorem dX8_copyFrom_112 : decode cX8_copyFrom 112 = .ok (.iconst 0, 1) := by decide +kernel
theorem dX8_copyFrom_113 : decode cX8_copyFrom 113 = .ok (.aload_n 0, 1) := by decide +kernel
theorem dX8_copyFrom_114 : decode cX8_copyFrom 114 = .ok (.getfield 31, 3) := by decide +kernel
theorem dX8_copyFrom_117 : decode cX8_copyFrom 117 = .ok (.iconst 0, 1) := by decide +kernel
theorem dX8_copyFrom_118 : decode cX8_copyFrom 118 = .ok (.bipush 12, 2) := by decide +kernel
theorem dX8_copyFrom_120 : decode cX8_copyFrom 120 = .ok (.invokestatic 52, 3) := by decide +kernel
theorem dX8_copyFrom_123 : decode cX8_copyFrom 123 = .ok (.return_, 1) := by decide +kernel
theorem dX8_clear_0 : decode cX8_clear 0 = .ok (.aload_n 0, 1) := by decide +kernel
theorem dX8_clear_1 : decode cX8_clear 1 = .ok (.iconst 0, 1) := by decide +kernel
theorem dX8_clear_2 : decode cX8_clear 2 = .ok (.putfield 34, 3) := by decide +kernel
theorem dX8_clear_5 : decode cX8_clear 5 = .ok (.aload_n 0, 1) := by decide +kernel
theorem dX8_clear_6 : decode cX8_clear 6 = .ok (.iconst 0, 1) := by decide +kernel
theorem dX8_clear_7 : decode cX8_clear 7 = .ok (.putfield 43, 3) := by decide +kernel
theorem dX8_clear_10 : decode cX8_clear 10 = .ok (.aload_n 0, 1) := by decide +kernel
theorem dX8_clear_11 : decode cX8_clear 11 = .ok (.iconst 0, 1) := by decide +kernel
theorem dX8_clear_12 : decode cX8_clear 12 = .ok (.putfield 46, 3) := by decide +kernel
theorem dX8_clear_15 : decode cX8_clear 15 = .ok (.aload_n 0, 1) := by decide +kernel
theorem dX8_clear_16 : decode cX8_clear 16 = .ok (.iconst 0, 1) := by decide +kernel
theorem dX8_clear_17 : decode cX8_clear 17 = .ok (.putfield 49, 3) := by decide +kernel
theorem dX8_clear_20 : decode cX8_clear 20 = .ok (.return_, 1) := by decide +kernel
theorem dX8_addLast_0 : decode cX8_addLast 0 = .ok (.aload_n 0, 1) := by decide +kernel
theorem dX8_addLast_1 : decode cX8_addLast 1 = .ok (.getfield 34, 3) := by decide +kernel
theorem dX8_addLast_4 : decode cX8_addLast 4 = .ok (.bipush 12, 2) := by decide +kernel
theorem dX8_addLast_6 : decode cX8_addLast 6 = .ok (.if_icmp .ge 63, 3) := by decide +kernel
theorem dX8_addLast_9 : decode cX8_addLast 9 = .ok (.aload_n 0, 1) := by decide +kernel
theorem dX8_addLast_10 : decode cX8_addLast 10 = .ok (.getfield 18, 3) := by decide +kernel
theorem dX8_addLast_13 : decode cX8_addLast 13 = .ok (.aload_n 0, 1) := by decide +kernel
theorem dX8_addLast_14 : decode cX8_addLast 14 = .ok (.getfield 34, 3) := by decide +kernel
theorem dX8_addLast_17 : decode cX8_addLast 17 = .ok (.iload_n 1, 1) := by decide +kernel
theorem dX8_addLast_18 : decode cX8_addLast 18 = .ok (.iastore, 1) := by decide +kernel
theorem dX8_addLast_19 : decode cX8_addLast 19 = .ok (.aload_n 0, 1) := by decide +kernel
theorem dX8_addLast_20 : decode cX8_addLast 20 = .ok (.getfield 22, 3) := by decide +kernel
theorem dX8_addLast_23 : decode cX8_addLast 23 = .ok (.aload_n 0, 1) := by decide +kernel
theorem dX8_addLast_24 : decode cX8_addLast 24 = .ok (.getfield 34, 3) := by decide +kernel
theorem dX8_addLast_27 : decode cX8_addLast 27 = .ok (.iload_n 2, 1) := by decide +kernel
theorem dX8_addLast_28 : decode cX8_addLast 28 = .ok (.iastore, 1) := by decide +kernel
theorem dX8_addLast_29 : decode cX8_addLast 29 = .ok (.aload_n 0, 1) := by decide +kernel
theorem dX8_addLast_30 : decode cX8_addLast 30 = .ok (.getfield 25, 3) := by decide +kernel
theorem dX8_addLast_33 : decode cX8_addLast 33 = .ok (.aload_n 0, 1) := by decide +kernel
theorem dX8_addLast_34 : decode cX8_addLast 34 = .ok (.getfield 34, 3) := by decide +kernel
theorem dX8_addLast_37 : decode cX8_addLast 37 = .ok (.iload_n 3, 1) := by decide +kernel
theorem dX8_addLast_38 : decode cX8_addLast 38 = .ok (.iastore, 1) := by decide +kernel
theorem dX8_addLast_39 : decode cX8_addLast 39 = .ok (.aload_n 0, 1) := by decide +kernel
theorem dX8_addLast_40 : decode cX8_addLast 40 = .ok (.getfield 28, 3) := by decide +kernel
theorem dX8_addLast_43 : decode cX8_addLast 43 = .ok (.aload_n 0, 1) := by decide +kernel
theorem dX8_addLast_44 : decode cX8_addLast 44 = .ok (.getfield 34, 3) := by decide +kernel
theorem dX8_addLast_47 : decode cX8_addLast 47 = .ok (.iconst 0, 1) := by decide +kernel
theorem dX8_addLast_48 : decode cX8_addLast 48 = .ok (.iastore, 1) := by decide +kernel
theorem dX8_addLast_49 : decode cX8_addLast 49 = .ok (.aload_n 0, 1) := by decide +kernel
theorem dX8_addLast_50 : decode cX8_addLast 50 = .ok (.getfield 31, 3) := by decide +kernel
theorem dX8_addLast_53 : decode cX8_addLast 53 = .ok (.aload_n 0, 1) := by decide +kernel
theorem dX8_addLast_54 : decode cX8_addLast 54 = .ok (.getfield 34, 3) := by decide +kernel
theorem dX8_addLast_57 : decode cX8_addLast 57 = .ok (.iconst 0, 1) := by decide +kernel
theorem dX8_addLast_58 : decode cX8_addLast 58 = .ok (.iastore, 1) := by decide +kernel
theorem dX8_addLast_59 : decode cX8_addLast 59 = .ok (.aload_n 0, 1) := by decide +kernel
theorem dX8_addLast_60 : decode cX8_addLast 60 = .ok (.dup, 1) := by decide +kernel
theorem dX8_addLast_61 : decode cX8_addLast 61 = .ok (.getfield 34, 3) := by decide +kernel
theorem dX8_addLast_64 : decode cX8_addLast 64 = .ok (.iconst 1, 1) := by decide +kernel
theorem dX8_addLast_65 : decode cX8_addLast 65 = .ok (.iadd, 1) := by decide +kernel
theorem dX8_addLast_66 : decode cX8_addLast 66 = .ok (.putfield 34, 3) := by decide +kernel
theorem dX8_addLast_69 : decode cX8_addLast 69 = .ok (.return_, 1) := by decide +kernel
set_option maxRecDepth 20000 in
theorem ggX8_drop_X8_withoutPlace : GoodIn wsX8_drop wsX8_withoutPlace := goodIn_r _ [13] (by decide +kernel) (by decide +kernel)
set_option maxRecDepth 20000 in
theorem gX8_drop_X8_withoutPlace : GoodIn wsX8_drop (va_wsS RX8 58 yX8_withoutPlace wsX8_withoutPlace) := goodIn_app (goodIn_of _ (by decide +kernel)) ggX8_drop_X8_withoutPlace
theorem dX8_drop_0 : decode cX8_drop 0 = .ok (.aload_n 0, 1) := by decide +kernel
theorem dX8_drop_1 : decode cX8_drop 1 = .ok (.dup, 1) := by decide +kernel
theorem dX8_drop_2 : decode cX8_drop 2 = .ok (.getfield 34, 3) := by decide +kernel
theorem dX8_drop_5 : decode cX8_drop 5 = .ok (.iconst 1, 1) := by decide +kernel
theorem dX8_drop_6 : decode cX8_drop 6 = .ok (.isub, 1) := by decide +kernel
theorem dX8_drop_7 : decode cX8_drop 7 = .ok (.putfield 34, 3) := by decide +kernel
theorem dX8_drop_10 : decode cX8_drop 10 = .ok (.iload_n 1, 1) := by decide +kernel
theorem dX8_drop_11 : decode cX8_drop 11 = .ok (.istore_n 2, 1) := by decide +kernel
theorem dX8_drop_12 : decode cX8_drop 12 = .ok (.iload_n 2, 1) := by decide +kernel
theorem dX8_drop_13 : decode cX8_drop 13 = .ok (.aload_n 0, 1) := by decide +kernel
theorem dX8_drop_14 : decode cX8_drop 14 = .ok (.getfield 34, 3) := by decide +kernel
theorem dX8_drop_17 : decode cX8_drop 17 = .ok (.if_icmp .ge 79, 3) := by decide +kernel
theorem dX8_drop_20 : decode cX8_drop 20 = .ok (.aload_n 0, 1) := by decide +kernel
theorem dX8_drop_21 : decode cX8_drop 21 = .ok (.getfield 18, 3) := by decide +kernel
theorem dX8_drop_24 : decode cX8_drop 24 = .ok (.iload_n 2, 1) := by decide +kernel
theorem dX8_drop_25 : decode cX8_drop 25 = .ok (.aload_n 0, 1) := by decide +kernel
theorem dX8_drop_26 : decode cX8_drop 26 = .ok (.getfield 18, 3) := by decide +kernel
theorem dX8_drop_29 : decode cX8_drop 29 = .ok (.iload_n 2, 1) := by decide +kernel
theorem dX8_drop_30 : decode cX8_drop 30 = .ok (.iconst 1, 1) := by decide +kernel
theorem dX8_drop_31 : decode cX8_drop 31 = .ok (.iadd, 1) := by decide +kernel
theorem dX8_drop_32 : decode cX8_drop 32 = .ok (.iaload, 1) := by decide +kernel
theorem dX8_drop_33 : decode cX8_drop 33 = .ok (.iastore, 1) := by decide +kernel
theorem dX8_drop_34 : decode cX8_drop 34 = .ok (.aload_n 0, 1) := by decide +kernel
theorem dX8_drop_35 : decode cX8_drop 35 = .ok (.getfield 22, 3) := by decide +kernel
theorem dX8_drop_38 : decode cX8_drop 38 = .ok (.iload_n 2, 1) := by decide +kernel
theorem dX8_drop_39 : decode cX8_drop 39 = .ok (.aload_n 0, 1) := by decide +kernel
theorem dX8_drop_40 : decode cX8_drop 40 = .ok (.getfield 22, 3) := by decide +kernel
theorem dX8_drop_43 : decode cX8_drop 43 = .ok (.iload_n 2, 1) := by decide +kernel
theorem dX8_drop_44 : decode cX8_drop 44 = .ok (.iconst 1, 1) := by decide +kernel
theorem dX8_drop_45 : decode cX8_drop 45 = .ok (.iadd, 1) := by decide +kernel
theorem dX8_drop_46 : decode cX8_drop 46 = .ok (.iaload, 1) := by decide +kernel
theorem dX8_drop_47 : decode cX8_drop 47 = .ok (.iastore, 1) := by decide +kernel
theorem dX8_drop_48 : decode cX8_drop 48 = .ok (.aload_n 0, 1) := by decide +kernel
theorem dX8_drop_49 : decode cX8_drop 49 = .ok (.getfield 25, 3) := by decide +kernel
theorem dX8_drop_52 : decode cX8_drop 52 = .ok (.iload_n 2, 1) := by decide +kernel
theorem dX8_drop_53 : decode cX8_drop 53 = .ok (.aload_n 0, 1) := by decide +kernel
theorem dX8_drop_54 : decode cX8_drop 54 = .ok (.getfield 25, 3) := by decide +kernel
theorem dX8_drop_57 : decode cX8_drop 57 = .ok (.iload_n 2, 1) := by decide +kernel
theorem dX8_drop_58 : decode cX8_drop 58 = .ok (.iconst 1, 1) := by decide +kernel
theorem dX8_drop_59 : decode cX8_drop 59 = .ok (.iadd, 1) := by decide +kernel
theorem dX8_drop_60 : decode cX8_drop 60 = .ok (.iaload, 1) := by decide +kernel
theorem dX8_drop_61 : decode cX8_drop 61 = .ok (.iastore, 1) := by decide +kernel
theorem dX8_drop_62 : decode cX8_drop 62 = .ok (.aload_n 0, 1) := by decide +kernel
theorem dX8_drop_63 : decode cX8_drop 63 = .ok (.getfield 28, 3) := by decide +kernel
theorem dX8_drop_66 : decode cX8_drop 66 = .ok (.iload_n 2, 1) := by decide +kernel
theorem dX8_drop_67 : decode cX8_drop 67 = .ok (.aload_n 0, 1) := by decide +kernel
theorem dX8_drop_68 : decode cX8_drop 68 = .ok (.getfield 28, 3) := by decide +kernel
theorem dX8_drop_71 : decode cX8_drop 71 = .ok (.iload_n 2, 1) := by decide +kernel
theorem dX8_drop_72 : decode cX8_drop 72 = .ok (.iconst 1, 1) := by decide +kernel
theorem dX8_drop_73 : decode cX8_drop 73 = .ok (.iadd, 1) := by decide +kernel
theorem dX8_drop_74 : decode cX8_drop 74 = .ok (.iaload, 1) := by decide +kernel
theorem dX8_drop_75 : decode cX8_drop 75 = .ok (.iastore, 1) := by decide +kernel
theorem dX8_drop_76 : decode cX8_drop 76 = .ok (.aload_n 0, 1) := by decide +kernel
theorem dX8_drop_77 : decode cX8_drop 77 = .ok (.getfield 31, 3) := by decide +kernel
theorem dX8_drop_80 : decode cX8_drop 80 = .ok (.iload_n 2, 1) := by decide +kernel
theorem dX8_drop_81 : decode cX8_drop 81 = .ok (.aload_n 0, 1) := by decide +kernel
theorem dX8_drop_82 : decode cX8_drop 82 = .ok (.getfield 31, 3) := by decide +kernel
theorem dX8_drop_85 : decode cX8_drop 85 = .ok (.iload_n 2, 1) := by decide +kernel
theorem dX8_drop_86 : decode cX8_drop 86 = .ok (.iconst 1, 1) := by decide +kernel
theorem dX8_drop_87 : decode cX8_drop 87 = .ok (.iadd, 1) := by decide +kernel
theorem dX8_drop_88 : decode cX8_drop 88 = .ok (.iaload, 1) := by decide +kernel
theorem dX8_drop_89 : decode cX8_drop 89 = .ok (.iastore, 1) := by decide +kernel
theorem dX8_drop_90 : decode cX8_drop 90 = .ok (.iinc 2 1, 3) := by decide +kernel
theorem dX8_drop_93 : decode cX8_drop 93 = .ok (.goto (-81), 3) := by decide +kernel
theorem dX8_drop_96 : decode cX8_drop 96 = .ok (.iconst 0, 1) := by decide +kernel
theorem dX8_drop_97 : decode cX8_drop 97 = .ok (.istore_n 2, 1) := by decide +kernel
theorem dX8_drop_98 : decode cX8_drop 98 = .ok (.iload_n 2, 1) := by decide +kernel
theorem dX8_drop_99 : decode cX8_drop 99 = .ok (.aload_n 0, 1) := by decide +kernel
theorem dX8_drop_100 : decode cX8_drop 100 = .ok (.getfield 34, 3) := by decide +kernel
theorem dX8_drop_103 : decode cX8_drop 103 = .ok (.if_icmp .ge 41, 3) := by decide +kernel
theorem dX8_drop_106 : decode cX8_drop 106 = .ok (.aload_n 0, 1) := by decide +kernel
theorem dX8_drop_107 : decode cX8_drop 107 = .ok (.getfield 28, 3) := by decide +kernel
theorem dX8_drop_110 : decode cX8_drop 110 = .ok (.iload_n 2, 1) := by decide +kernel
theorem dX8_drop_111 : decode cX8_drop 111 = .ok (.aload_n 0, 1) := by decide +kernel
theorem dX8_drop_112 : decode cX8_drop 112 = .ok (.getfield 28, 3) := by decide +kernel
theorem dX8_drop_115 : decode cX8_drop 115 = .ok (.iload_n 2, 1) := by decide +kernel
theorem dX8_drop_116 : decode cX8_drop 116 = .ok (.iaload, 1) := by decide +kernel
theorem dX8_drop_117 : decode cX8_drop 117 = .ok (.iload_n 1, 1) := by decide +kernel
theorem dX8_drop_118 : decode cX8_drop 118 = .ok (.invokestatic 58, 3) := by decide +kernel
theorem dX8_drop_121 : decode cX8_drop 121 = .ok (.iastore, 1) := by decide +kernel
theorem dX8_drop_122 : decode cX8_drop 122 = .ok (.aload_n 0, 1) := by decide +kernel
theorem dX8_drop_123 : decode cX8_drop 123 = .ok (.getfield 31, 3) := by decide +kernel
theorem dX8_drop_126 : decode cX8_drop 126 = .ok (.iload_n 2, 1) := by decide +kernel
theorem dX8_drop_127 : decode cX8_drop 127 = .ok (.aload_n 0, 1) := by decide +kernel
theorem dX8_drop_128 : decode cX8_drop 128 = .ok (.getfield 31, 3) := by decide +kernel
theorem dX8_drop_131 : decode cX8_drop 131 = .ok (.iload_n 2, 1) := by decide +kernel
theorem dX8_drop_132 : decode cX8_drop 132 = .ok (.iaload, 1) := by decide +kernel
theorem dX8_drop_133 : decode cX8_drop 133 = .ok (.iload_n 1, 1) := by decide +kernel
theorem dX8_drop_134 : decode cX8_drop 134 = .ok (.invokestatic 58, 3) := by decide +kernel
theorem dX8_drop_137 : decode cX8_drop 137 = .ok (.iastore, 1) := by decide +kernel
theorem dX8_drop_138 : decode cX8_drop 138 = .ok (.iinc 2 1, 3) := by decide +kernel
theorem dX8_drop_141 : decode cX8_drop 141 = .ok (.goto (-43), 3) := by decide +kernel
theorem dX8_drop_144 : decode cX8_drop 144 = .ok (.aload_n 0, 1) := by decide +kernel
theorem dX8_drop_145 : decode cX8_drop 145 = .ok (.aload_n 0, 1) := by decide +kernel
theorem dX8_drop_146 : decode cX8_drop 146 = .ok (.getfield 43, 3) := by decide +kernel
theorem dX8_drop_149 : decode cX8_drop 149 = .ok (.iload_n 1, 1) := by decide +kernel
theorem dX8_drop_150 : decode cX8_drop 150 = .ok (.invokestatic 58, 3) := by decide +kernel
theorem dX8_drop_153 : decode cX8_drop 153 = .ok (.putfield 43, 3) := by decide +kernel
theorem dX8_drop_156 : decode cX8_drop 156 = .ok (.aload_n 0, 1) := by decide +kernel
theorem dX8_drop_157 : decode cX8_drop 157 = .ok (.aload_n 0, 1) := by decide +kernel
theorem dX8_drop_158 : decode cX8_drop 158 = .ok (.getfield 46, 3) := by decide +kernel
theorem dX8_drop_161 : decode cX8_drop 161 = .ok (.iload_n 1, 1) := by decide +kernel
theorem dX8_drop_162 : decode cX8_drop 162 = .ok (.invokestatic 58, 3) := by decide +kernel
theorem dX8_drop_165 : decode cX8_drop 165 = .ok (.putfield 46, 3) := by decide +kernel
theorem dX8_drop_168 : decode cX8_drop 168 = .ok (.aload_n 0, 1) := by decide +kernel
theorem dX8_drop_169 : decode cX8_drop 169 = .ok (.aload_n 0, 1) := by decide +kernel
theorem dX8_drop_170 : decode cX8_drop 170 = .ok (.getfield 49, 3) := by decide +kernel
theorem dX8_drop_173 : decode cX8_drop 173 = .ok (.iload_n 1, 1) := by decide +kernel
theorem dX8_drop_174 : decode cX8_drop 174 = .ok (.invokestatic 58, 3) := by decide +kernel
theorem dX8_drop_177 : decode cX8_drop 177 = .ok (.putfield 49, 3) := by decide +kernel
theorem dX8_drop_180 : decode cX8_drop 180 = .ok (.return_, 1) := by decide +kernel
theorem dX8_withoutPlace_0 : decode cX8_withoutPlace 0 = .ok (.iload_n 0, 1) := by decide +kernel
theorem dX8_withoutPlace_1 : decode cX8_withoutPlace 1 = .ok (.iconst 1, 1) := by decide +kernel
theorem dX8_withoutPlace_2 : decode cX8_withoutPlace 2 = .ok (.iload_n 1, 1) := by decide +kernel
theorem dX8_withoutPlace_3 : decode cX8_withoutPlace 3 = .ok (.ishl, 1) := by decide +kernel
theorem dX8_withoutPlace_4 : decode cX8_withoutPlace 4 = .ok (.iconst 1, 1) := by decide +kernel
theorem dX8_withoutPlace_5 : decode cX8_withoutPlace 5 = .ok (.isub, 1) := by decide +kernel
theorem dX8_withoutPlace_6 : decode cX8_withoutPlace 6 = .ok (.iand, 1) := by decide +kernel
theorem dX8_withoutPlace_7 : decode cX8_withoutPlace 7 = .ok (.istore_n 2, 1) := by decide +kernel
theorem dX8_withoutPlace_8 : decode cX8_withoutPlace 8 = .ok (.iload_n 0, 1) := by decide +kernel
theorem dX8_withoutPlace_9 : decode cX8_withoutPlace 9 = .ok (.iload_n 1, 1) := by decide +kernel
theorem dX8_withoutPlace_10 : decode cX8_withoutPlace 10 = .ok (.iconst 1, 1) := by decide +kernel
theorem dX8_withoutPlace_11 : decode cX8_withoutPlace 11 = .ok (.iadd, 1) := by decide +kernel
theorem dX8_withoutPlace_12 : decode cX8_withoutPlace 12 = .ok (.ishr, 1) := by decide +kernel
theorem dX8_withoutPlace_13 : decode cX8_withoutPlace 13 = .ok (.iload_n 1, 1) := by decide +kernel
theorem dX8_withoutPlace_14 : decode cX8_withoutPlace 14 = .ok (.ishl, 1) := by decide +kernel
theorem dX8_withoutPlace_15 : decode cX8_withoutPlace 15 = .ok (.istore_n 3, 1) := by decide +kernel
theorem dX8_withoutPlace_16 : decode cX8_withoutPlace 16 = .ok (.iload_n 2, 1) := by decide +kernel
theorem dX8_withoutPlace_17 : decode cX8_withoutPlace 17 = .ok (.iload_n 3, 1) := by decide +kernel
theorem dX8_withoutPlace_18 : decode cX8_withoutPlace 18 = .ok (.ior, 1) := by decide +kernel
theorem dX8_withoutPlace_19 : decode cX8_withoutPlace 19 = .ok (.ireturn, 1) := by decide +kernel
theorem dX9_init_0 : decode cX9_init 0 = .ok (.aload_n 0, 1) := by decide +kernel
theorem dX9_init_1 : decode cX9_init 1 = .ok (.invokespecial 3, 3) := by decide +kernel
theorem dX9_init_4 : decode cX9_init 4 = .ok (.aload_n 0, 1) := by decide +kernel
theorem dX9_init_5 : decode cX9_init 5 = .ok (.sipush 1189, 3) := by decide +kernel
theorem dX9_init_8 : decode cX9_init 8 = .ok (.newarray .int, 2) := by decide +kernel
theorem dX9_init_10 : decode cX9_init 10 = .ok (.putfield 9, 3) := by decide +kernel
theorem dX9_init_13 : decode cX9_init 13 = .ok (.return_, 1) := by decide +kernel
set_option maxRecDepth 20000 in
theorem ggX9_build_J7_fill_53178 : GoodIn wsX9_build wsJ7_fill_53178 := goodIn_r _ [9] (by decide +kernel) (by decide +kernel)
set_option maxRecDepth 20000 in
theorem gX9_build_J7_fill_53178 : GoodIn wsX9_build (va_wsS RX9 15 yJ7_fill_53178 wsJ7_fill_53178) := goodIn_app (goodIn_of _ (by decide +kernel)) ggX9_build_J7_fill_53178
set_option maxRecDepth 20000 in
theorem ggX9_build_X0_reason : GoodIn wsX9_build wsX0_reason := goodIn_r _ [14, 15, 16, 17, 18, 13, 19, 20, 21, 22, 23, 24, 25, 26, 27, 28, 29, 30, 31, 43, 44, 45, 46, 47, 48, 49, 50, 51] (by decide +kernel) (by decide +kernel)
set_option maxRecDepth 20000 in
theorem gX9_build_X0_reason : GoodIn wsX9_build (wsV RX9 30 RX0 yX0_reason wsX0_reason) := goodIn_app (goodIn_of _ (by decide +kernel)) ggX9_build_X0_reason
set_option maxRecDepth 20000 in
theorem ggX9_build_X9_keepGreatest : GoodIn wsX9_build wsX9_keepGreatest := goodIn_r _ [36, 1, 41, 42] (by decide +kernel) (by decide +kernel)
set_option maxRecDepth 20000 in
theorem gX9_build_X9_keepGreatest : GoodIn wsX9_build (wsV RX9 40 RX9 yX9_keepGreatest wsX9_keepGreatest) := goodIn_app (goodIn_of _ (by decide +kernel)) ggX9_build_X9_keepGreatest
set_option maxRecDepth 20000 in
theorem ggX9_build_X9_dropBeaten : GoodIn wsX9_build wsX9_dropBeaten := goodIn_r _ [40, 1, 41, 42] (by decide +kernel) (by decide +kernel)
set_option maxRecDepth 20000 in
theorem gX9_build_X9_dropBeaten : GoodIn wsX9_build (wsV RX9 44 RX9 yX9_dropBeaten wsX9_dropBeaten) := goodIn_app (goodIn_of _ (by decide +kernel)) ggX9_build_X9_dropBeaten
theorem dX9_build_0 : decode cX9_build 0 = .ok (.aload_n 0, 1) := by decide +kernel
theorem dX9_build_1 : decode cX9_build 1 = .ok (.getfield 9, 3) := by decide +kernel
theorem dX9_build_4 : decode cX9_build 4 = .ok (.iconst (-1), 1) := by decide +kernel
theorem dX9_build_5 : decode cX9_build 5 = .ok (.invokestatic 15, 3) := by decide +kernel
theorem dX9_build_8 : decode cX9_build 8 = .ok (.aload_n 0, 1) := by decide +kernel
theorem dX9_build_9 : decode cX9_build 9 = .ok (.iconst 0, 1) := by decide +kernel
theorem dX9_build_10 : decode cX9_build 10 = .ok (.putfield 21, 3) := by decide +kernel
theorem dX9_build_13 : decode cX9_build 13 = .ok (.iconst 0, 1) := by decide +kernel
theorem dX9_build_14 : decode cX9_build 14 = .ok (.istore 4, 2) := by decide +kernel
theorem dX9_build_16 : decode cX9_build 16 = .ok (.iload 4, 2) := by decide +kernel
theorem dX9_build_18 : decode cX9_build 18 = .ok (.aload_n 1, 1) := by decide +kernel
theorem dX9_build_19 : decode cX9_build 19 = .ok (.getfield 25, 3) := by decide +kernel
theorem dX9_build_22 : decode cX9_build 22 = .ok (.if_icmp .ge 62, 3) := by decide +kernel
theorem dX9_build_25 : decode cX9_build 25 = .ok (.iload 4, 2) := by decide +kernel
theorem dX9_build_27 : decode cX9_build 27 = .ok (.sipush 4096, 3) := by decide +kernel
theorem dX9_build_30 : decode cX9_build 30 = .ok (.if_icmp .ge 54, 3) := by decide +kernel
theorem dX9_build_33 : decode cX9_build 33 = .ok (.iload 4, 2) := by decide +kernel
theorem dX9_build_35 : decode cX9_build 35 = .ok (.iload_n 3, 1) := by decide +kernel
theorem dX9_build_36 : decode cX9_build 36 = .ok (.iand, 1) := by decide +kernel
theorem dX9_build_37 : decode cX9_build 37 = .ok (.ifCond .ne 41, 3) := by decide +kernel
theorem dX9_build_40 : decode cX9_build 40 = .ok (.aload_n 1, 1) := by decide +kernel
theorem dX9_build_41 : decode cX9_build 41 = .ok (.iload 4, 2) := by decide +kernel
theorem dX9_build_43 : decode cX9_build 43 = .ok (.iload_n 2, 1) := by decide +kernel
theorem dX9_build_44 : decode cX9_build 44 = .ok (.invokevirtual 30, 3) := by decide +kernel
theorem dX9_build_47 : decode cX9_build 47 = .ok (.ifCond .ne 31, 3) := by decide +kernel
theorem dX9_build_50 : decode cX9_build 50 = .ok (.aload_n 0, 1) := by decide +kernel
theorem dX9_build_51 : decode cX9_build 51 = .ok (.dup, 1) := by decide +kernel
theorem dX9_build_52 : decode cX9_build 52 = .ok (.getfield 21, 3) := by decide +kernel
theorem dX9_build_55 : decode cX9_build 55 = .ok (.iconst 1, 1) := by decide +kernel
theorem dX9_build_56 : decode cX9_build 56 = .ok (.iadd, 1) := by decide +kernel
theorem dX9_build_57 : decode cX9_build 57 = .ok (.putfield 21, 3) := by decide +kernel
theorem dX9_build_60 : decode cX9_build 60 = .ok (.aload_n 0, 1) := by decide +kernel
theorem dX9_build_61 : decode cX9_build 61 = .ok (.aload_n 1, 1) := by decide +kernel
theorem dX9_build_62 : decode cX9_build 62 = .ok (.getfield 34, 3) := by decide +kernel
theorem dX9_build_65 : decode cX9_build 65 = .ok (.iload 4, 2) := by decide +kernel
theorem dX9_build_67 : decode cX9_build 67 = .ok (.iaload, 1) := by decide +kernel
theorem dX9_build_68 : decode cX9_build 68 = .ok (.aload_n 1, 1) := by decide +kernel
theorem dX9_build_69 : decode cX9_build 69 = .ok (.getfield 37, 3) := by decide +kernel
theorem dX9_build_72 : decode cX9_build 72 = .ok (.iload 4, 2) := by decide +kernel
theorem dX9_build_74 : decode cX9_build 74 = .ok (.iaload, 1) := by decide +kernel
theorem dX9_build_75 : decode cX9_build 75 = .ok (.invokevirtual 40, 3) := by decide +kernel
theorem dX9_build_78 : decode cX9_build 78 = .ok (.iinc 4 1, 3) := by decide +kernel
theorem dX9_build_81 : decode cX9_build 81 = .ok (.goto (-65), 3) := by decide +kernel
theorem dX9_build_84 : decode cX9_build 84 = .ok (.aload_n 0, 1) := by decide +kernel
theorem dX9_build_85 : decode cX9_build 85 = .ok (.invokevirtual 44, 3) := by decide +kernel
theorem dX9_build_88 : decode cX9_build 88 = .ok (.return_, 1) := by decide +kernel
theorem dX9_keepGreatest_0 : decode cX9_keepGreatest 0 = .ok (.iload_n 1, 1) := by decide +kernel
theorem dX9_keepGreatest_1 : decode cX9_keepGreatest 1 = .ok (.ifCond .lt 27, 3) := by decide +kernel
theorem dX9_keepGreatest_4 : decode cX9_keepGreatest 4 = .ok (.iload_n 1, 1) := by decide +kernel
theorem dX9_keepGreatest_5 : decode cX9_keepGreatest 5 = .ok (.sipush 1189, 3) := by decide +kernel
theorem dX9_keepGreatest_8 : decode cX9_keepGreatest 8 = .ok (.if_icmp .ge 20, 3) := by decide +kernel
theorem dX9_keepGreatest_11 : decode cX9_keepGreatest 11 = .ok (.iload_n 2, 1) := by decide +kernel
theorem dX9_keepGreatest_12 : decode cX9_keepGreatest 12 = .ok (.aload_n 0, 1) := by decide +kernel
theorem dX9_keepGreatest_13 : decode cX9_keepGreatest 13 = .ok (.getfield 9, 3) := by decide +kernel
theorem dX9_keepGreatest_16 : decode cX9_keepGreatest 16 = .ok (.iload_n 1, 1) := by decide +kernel
theorem dX9_keepGreatest_17 : decode cX9_keepGreatest 17 = .ok (.iaload, 1) := by decide +kernel
theorem dX9_keepGreatest_18 : decode cX9_keepGreatest 18 = .ok (.if_icmp .le 10, 3) := by decide +kernel
theorem dX9_keepGreatest_21 : decode cX9_keepGreatest 21 = .ok (.aload_n 0, 1) := by decide +kernel
theorem dX9_keepGreatest_22 : decode cX9_keepGreatest 22 = .ok (.getfield 9, 3) := by decide +kernel
theorem dX9_keepGreatest_25 : decode cX9_keepGreatest 25 = .ok (.iload_n 1, 1) := by decide +kernel
theorem dX9_keepGreatest_26 : decode cX9_keepGreatest 26 = .ok (.iload_n 2, 1) := by decide +kernel
theorem dX9_keepGreatest_27 : decode cX9_keepGreatest 27 = .ok (.iastore, 1) := by decide +kernel
theorem dX9_keepGreatest_28 : decode cX9_keepGreatest 28 = .ok (.return_, 1) := by decide +kernel
theorem dX9_dropBeaten_0 : decode cX9_dropBeaten 0 = .ok (.iconst (-1), 1) := by decide +kernel
theorem dX9_dropBeaten_1 : decode cX9_dropBeaten 1 = .ok (.istore_n 1, 1) := by decide +kernel
theorem dX9_dropBeaten_2 : decode cX9_dropBeaten 2 = .ok (.sipush 1188, 3) := by decide +kernel
theorem dX9_dropBeaten_5 : decode cX9_dropBeaten 5 = .ok (.istore_n 2, 1) := by decide +kernel
theorem dX9_dropBeaten_6 : decode cX9_dropBeaten 6 = .ok (.iload_n 2, 1) := by decide +kernel
theorem dX9_dropBeaten_7 : decode cX9_dropBeaten 7 = .ok (.ifCond .lt 36, 3) := by decide +kernel
theorem dX9_dropBeaten_10 : decode cX9_dropBeaten 10 = .ok (.aload_n 0, 1) := by decide +kernel
theorem dX9_dropBeaten_11 : decode cX9_dropBeaten 11 = .ok (.getfield 9, 3) := by decide +kernel
theorem dX9_dropBeaten_14 : decode cX9_dropBeaten 14 = .ok (.iload_n 2, 1) := by decide +kernel
theorem dX9_dropBeaten_15 : decode cX9_dropBeaten 15 = .ok (.iaload, 1) := by decide +kernel
theorem dX9_dropBeaten_16 : decode cX9_dropBeaten 16 = .ok (.iload_n 1, 1) := by decide +kernel
theorem dX9_dropBeaten_17 : decode cX9_dropBeaten 17 = .ok (.if_icmp .le 13, 3) := by decide +kernel
theorem dX9_dropBeaten_20 : decode cX9_dropBeaten 20 = .ok (.aload_n 0, 1) := by decide +kernel
theorem dX9_dropBeaten_21 : decode cX9_dropBeaten 21 = .ok (.getfield 9, 3) := by decide +kernel
theorem dX9_dropBeaten_24 : decode cX9_dropBeaten 24 = .ok (.iload_n 2, 1) := by decide +kernel
theorem dX9_dropBeaten_25 : decode cX9_dropBeaten 25 = .ok (.iaload, 1) := by decide +kernel
theorem dX9_dropBeaten_26 : decode cX9_dropBeaten 26 = .ok (.istore_n 1, 1) := by decide +kernel
theorem dX9_dropBeaten_27 : decode cX9_dropBeaten 27 = .ok (.goto 10, 3) := by decide +kernel
theorem dX9_dropBeaten_30 : decode cX9_dropBeaten 30 = .ok (.aload_n 0, 1) := by decide +kernel
theorem dX9_dropBeaten_31 : decode cX9_dropBeaten 31 = .ok (.getfield 9, 3) := by decide +kernel
theorem dX9_dropBeaten_34 : decode cX9_dropBeaten 34 = .ok (.iload_n 2, 1) := by decide +kernel
theorem dX9_dropBeaten_35 : decode cX9_dropBeaten 35 = .ok (.iconst (-1), 1) := by decide +kernel
theorem dX9_dropBeaten_36 : decode cX9_dropBeaten 36 = .ok (.iastore, 1) := by decide +kernel
theorem dX9_dropBeaten_37 : decode cX9_dropBeaten 37 = .ok (.iinc 2 (-1), 3) := by decide +kernel
theorem dX9_dropBeaten_40 : decode cX9_dropBeaten 40 = .ok (.goto (-34), 3) := by decide +kernel
theorem dX9_dropBeaten_43 : decode cX9_dropBeaten 43 = .ok (.return_, 1) := by decide +kernel
theorem dX9_countCorners_0 : decode cX9_countCorners 0 = .ok (.iconst 0, 1) := by decide +kernel
theorem dX9_countCorners_1 : decode cX9_countCorners 1 = .ok (.istore_n 1, 1) := by decide +kernel
theorem dX9_countCorners_2 : decode cX9_countCorners 2 = .ok (.iconst 0, 1) := by decide +kernel
theorem dX9_countCorners_3 : decode cX9_countCorners 3 = .ok (.istore_n 2, 1) := by decide +kernel
theorem dX9_countCorners_4 : decode cX9_countCorners 4 = .ok (.iload_n 2, 1) := by decide +kernel
theorem dX9_countCorners_5 : decode cX9_countCorners 5 = .ok (.sipush 1189, 3) := by decide +kernel
theorem dX9_countCorners_8 : decode cX9_countCorners 8 = .ok (.if_icmp .ge 22, 3) := by decide +kernel
theorem dX9_countCorners_11 : decode cX9_countCorners 11 = .ok (.aload_n 0, 1) := by decide +kernel
theorem dX9_countCorners_12 : decode cX9_countCorners 12 = .ok (.getfield 9, 3) := by decide +kernel
theorem dX9_countCorners_15 : decode cX9_countCorners 15 = .ok (.iload_n 2, 1) := by decide +kernel
theorem dX9_countCorners_16 : decode cX9_countCorners 16 = .ok (.iaload, 1) := by decide +kernel
theorem dX9_countCorners_17 : decode cX9_countCorners 17 = .ok (.iconst (-1), 1) := by decide +kernel
theorem dX9_countCorners_18 : decode cX9_countCorners 18 = .ok (.if_icmp .eq 6, 3) := by decide +kernel
theorem dX9_countCorners_21 : decode cX9_countCorners 21 = .ok (.iinc 1 1, 3) := by decide +kernel
theorem dX9_countCorners_24 : decode cX9_countCorners 24 = .ok (.iinc 2 1, 3) := by decide +kernel
theorem dX9_countCorners_27 : decode cX9_countCorners 27 = .ok (.goto (-23), 3) := by decide +kernel
theorem dX9_countCorners_30 : decode cX9_countCorners 30 = .ok (.iload_n 1, 1) := by decide +kernel
theorem dX9_countCorners_31 : decode cX9_countCorners 31 = .ok (.ireturn, 1) := by decide +kernel
theorem dX9_areaBelow_0 : decode cX9_areaBelow 0 = .ok (.iconst 0, 1) := by decide +kernel
theorem dX9_areaBelow_1 : decode cX9_areaBelow 1 = .ok (.istore_n 1, 1) := by decide +kernel
theorem dX9_areaBelow_2 : decode cX9_areaBelow 2 = .ok (.iconst 0, 1) := by decide +kernel
theorem dX9_areaBelow_3 : decode cX9_areaBelow 3 = .ok (.istore_n 2, 1) := by decide +kernel
theorem dX9_areaBelow_4 : decode cX9_areaBelow 4 = .ok (.iconst 0, 1) := by decide +kernel
theorem dX9_areaBelow_5 : decode cX9_areaBelow 5 = .ok (.istore_n 3, 1) := by decide +kernel
theorem dX9_areaBelow_6 : decode cX9_areaBelow 6 = .ok (.iload_n 3, 1) := by decide +kernel
theorem dX9_areaBelow_7 : decode cX9_areaBelow 7 = .ok (.sipush 1189, 3) := by decide +kernel
theorem dX9_areaBelow_10 : decode cX9_areaBelow 10 = .ok (.if_icmp .ge 34, 3) := by decide +kernel
theorem dX9_areaBelow_13 : decode cX9_areaBelow 13 = .ok (.aload_n 0, 1) := by decide +kernel
theorem dX9_areaBelow_14 : decode cX9_areaBelow 14 = .ok (.getfield 9, 3) := by decide +kernel
theorem dX9_areaBelow_17 : decode cX9_areaBelow 17 = .ok (.iload_n 3, 1) := by decide +kernel
theorem dX9_areaBelow_18 : decode cX9_areaBelow 18 = .ok (.iaload, 1) := by decide +kernel
theorem dX9_areaBelow_19 : decode cX9_areaBelow 19 = .ok (.iconst (-1), 1) := by decide +kernel
theorem dX9_areaBelow_20 : decode cX9_areaBelow 20 = .ok (.if_icmp .eq 18, 3) := by decide +kernel
theorem dX9_areaBelow_23 : decode cX9_areaBelow 23 = .ok (.iload_n 1, 1) := by decide +kernel
theorem dX9_areaBelow_24 : decode cX9_areaBelow 24 = .ok (.iload_n 3, 1) := by decide +kernel
theorem dX9_areaBelow_25 : decode cX9_areaBelow 25 = .ok (.iload_n 2, 1) := by decide +kernel
theorem dX9_areaBelow_26 : decode cX9_areaBelow 26 = .ok (.isub, 1) := by decide +kernel
theorem dX9_areaBelow_27 : decode cX9_areaBelow 27 = .ok (.aload_n 0, 1) := by decide +kernel
theorem dX9_areaBelow_28 : decode cX9_areaBelow 28 = .ok (.getfield 9, 3) := by decide +kernel
theorem dX9_areaBelow_31 : decode cX9_areaBelow 31 = .ok (.iload_n 3, 1) := by decide +kernel
theorem dX9_areaBelow_32 : decode cX9_areaBelow 32 = .ok (.iaload, 1) := by decide +kernel
theorem dX9_areaBelow_33 : decode cX9_areaBelow 33 = .ok (.imul, 1) := by decide +kernel
theorem dX9_areaBelow_34 : decode cX9_areaBelow 34 = .ok (.iadd, 1) := by decide +kernel
theorem dX9_areaBelow_35 : decode cX9_areaBelow 35 = .ok (.istore_n 1, 1) := by decide +kernel
theorem dX9_areaBelow_36 : decode cX9_areaBelow 36 = .ok (.iload_n 3, 1) := by decide +kernel
theorem dX9_areaBelow_37 : decode cX9_areaBelow 37 = .ok (.istore_n 2, 1) := by decide +kernel
theorem dX9_areaBelow_38 : decode cX9_areaBelow 38 = .ok (.iinc 3 1, 3) := by decide +kernel
theorem dX9_areaBelow_41 : decode cX9_areaBelow 41 = .ok (.goto (-35), 3) := by decide +kernel
theorem dX9_areaBelow_44 : decode cX9_areaBelow 44 = .ok (.iload_n 1, 1) := by decide +kernel
theorem dX9_areaBelow_45 : decode cX9_areaBelow 45 = .ok (.ireturn, 1) := by decide +kernel
set_option maxRecDepth 20000 in
theorem ggX10_init_X5_init : GoodIn wsX10_init wsX5_init := goodIn_r _ [51, 52, 2, 3, 53, 12, 13, 54, 55, 4, 56, 57, 58, 59, 60, 61, 62, 63, 64, 65, 66, 67, 149, 150, 151, 152, 153, 154, 155, 156, 157, 158, 159, 140, 141, 142, 143, 144, 145, 146, 147, 148] (by decide +kernel) (by decide +kernel)
set_option maxRecDepth 20000 in
theorem gX10_init_X5_init_n15 : GoodIn wsX10_init (wsX5_init) := ggX10_init_X5_init
set_option maxRecDepth 20000 in
theorem ggX10_init_X8_init : GoodIn wsX10_init wsX8_init := goodIn_r _ [58, 59, 2, 3, 60, 61, 62, 63, 64, 65, 66, 67, 149, 150, 151, 152, 153, 154, 155, 156, 157, 158, 159] (by decide +kernel) (by decide +kernel)
set_option maxRecDepth 20000 in
theorem gX10_init_X8_init_n26 : GoodIn wsX10_init (wsX8_init) := ggX10_init_X8_init
set_option maxRecDepth 20000 in
theorem ggX10_init_X6_init : GoodIn wsX10_init wsX6_init := goodIn_r _ [70, 71, 2, 3, 72, 73, 12, 13, 57, 58, 59, 60, 61, 62, 63, 64, 65, 66, 67, 160, 161, 149, 150, 151, 152, 153, 154, 155, 156, 157, 158, 159] (by decide +kernel) (by decide +kernel)
set_option maxRecDepth 20000 in
theorem gX10_init_X6_init : GoodIn wsX10_init (wsX6_init) := ggX10_init_X6_init
set_option maxRecDepth 20000 in
theorem ggX10_init_X4_init : GoodIn wsX10_init wsX4_init := goodIn_r _ [75, 76, 2, 3, 4, 77, 162, 163] (by decide +kernel) (by decide +kernel)
set_option maxRecDepth 20000 in
theorem gX10_init_X4_init_n48 : GoodIn wsX10_init (wsX4_init) := ggX10_init_X4_init
set_option maxRecDepth 20000 in
theorem ggX10_init_X0_init : GoodIn wsX10_init wsX0_init := goodIn_r _ [79, 80, 2, 3, 62, 81, 82, 83, 84, 85, 164, 165, 166, 167, 168, 169, 170, 171, 172] (by decide +kernel) (by decide +kernel)
set_option maxRecDepth 20000 in
theorem gX10_init_X0_init_n55 : GoodIn wsX10_init (wsX0_init) := ggX10_init_X0_init
set_option maxRecDepth 20000 in
theorem ggX10_init_X9_init : GoodIn wsX10_init wsX9_init := goodIn_r _ [87, 88, 2, 3, 62, 89, 173, 174] (by decide +kernel) (by decide +kernel)
set_option maxRecDepth 20000 in
theorem gX10_init_X9_init_n62 : GoodIn wsX10_init (wsX9_init) := ggX10_init_X9_init
set_option maxRecDepth 20000 in
theorem ggX10_init_X2_init : GoodIn wsX10_init wsX2_init := goodIn_r _ [91, 92, 2, 3, 62, 93, 94, 95, 96, 97, 98, 99, 100, 20, 101, 175, 176, 177, 178, 179, 180, 181, 182, 183, 184, 185, 186, 187] (by decide +kernel) (by decide +kernel)
set_option maxRecDepth 20000 in
theorem gX10_init_X2_init_n69 : GoodIn wsX10_init (wsX2_init) := ggX10_init_X2_init
set_option maxRecDepth 20000 in
theorem ggX10_init_X7_init : GoodIn wsX10_init wsX7_init := goodIn_r _ [103, 104, 2, 3, 62, 105, 106, 107, 188, 189, 190, 191] (by decide +kernel) (by decide +kernel)
set_option maxRecDepth 20000 in
theorem gX10_init_X7_init_n76 : GoodIn wsX10_init (wsX7_init) := ggX10_init_X7_init
set_option maxRecDepth 20000 in
theorem ggX10_init_X3_init : GoodIn wsX10_init wsX3_init := goodIn_r _ [109, 110, 2, 3, 62, 111, 112, 113, 114, 115, 116, 117, 192, 193, 194, 195, 196, 197, 198, 199] (by decide +kernel) (by decide +kernel)
set_option maxRecDepth 20000 in
theorem gX10_init_X3_init_n83 : GoodIn wsX10_init (wsX3_init) := ggX10_init_X3_init
set_option maxRecDepth 20000 in
theorem ggX10_init_X1_init : GoodIn wsX10_init wsX1_init := goodIn_r _ [119, 120, 2, 3] (by decide +kernel) (by decide +kernel)
set_option maxRecDepth 20000 in
theorem gX10_init_X1_init_n90 : GoodIn wsX10_init (wsX1_init) := ggX10_init_X1_init
theorem dX10_init_0 : decode cX10_init 0 = .ok (.aload_n 0, 1) := by decide +kernel
theorem dX10_init_1 : decode cX10_init 1 = .ok (.invokespecial 3, 3) := by decide +kernel
theorem dX10_init_4 : decode cX10_init 4 = .ok (.aload_n 0, 1) := by decide +kernel
theorem dX10_init_5 : decode cX10_init 5 = .ok (.sipush 600, 3) := by decide +kernel
theorem dX10_init_8 : decode cX10_init 8 = .ok (.newarray .byte, 2) := by decide +kernel
theorem dX10_init_10 : decode cX10_init 10 = .ok (.putfield 9, 3) := by decide +kernel
theorem dX10_init_13 : decode cX10_init 13 = .ok (.aload_n 0, 1) := by decide +kernel
theorem dX10_init_14 : decode cX10_init 14 = .ok (.new 13, 3) := by decide +kernel
theorem dX10_init_17 : decode cX10_init 17 = .ok (.dup, 1) := by decide +kernel
theorem dX10_init_18 : decode cX10_init 18 = .ok (.invokespecial 15, 3) := by decide +kernel
theorem dX10_init_21 : decode cX10_init 21 = .ok (.putfield 16, 3) := by decide +kernel
theorem dX10_init_24 : decode cX10_init 24 = .ok (.aload_n 0, 1) := by decide +kernel
theorem dX10_init_25 : decode cX10_init 25 = .ok (.iconst (-1), 1) := by decide +kernel
theorem dX10_init_26 : decode cX10_init 26 = .ok (.putfield 20, 3) := by decide +kernel
theorem dX10_init_29 : decode cX10_init 29 = .ok (.aload_n 0, 1) := by decide +kernel
theorem dX10_init_30 : decode cX10_init 30 = .ok (.new 24, 3) := by decide +kernel
theorem dX10_init_33 : decode cX10_init 33 = .ok (.dup, 1) := by decide +kernel
theorem dX10_init_34 : decode cX10_init 34 = .ok (.invokespecial 26, 3) := by decide +kernel
theorem dX10_init_37 : decode cX10_init 37 = .ok (.putfield 27, 3) := by decide +kernel
theorem dX10_init_40 : decode cX10_init 40 = .ok (.aload_n 0, 1) := by decide +kernel
theorem dX10_init_41 : decode cX10_init 41 = .ok (.new 31, 3) := by decide +kernel
theorem dX10_init_44 : decode cX10_init 44 = .ok (.dup, 1) := by decide +kernel
theorem dX10_init_45 : decode cX10_init 45 = .ok (.invokespecial 33, 3) := by decide +kernel
theorem dX10_init_48 : decode cX10_init 48 = .ok (.putfield 34, 3) := by decide +kernel
theorem dX10_init_51 : decode cX10_init 51 = .ok (.aload_n 0, 1) := by decide +kernel
theorem dX10_init_52 : decode cX10_init 52 = .ok (.iconst 2, 1) := by decide +kernel
theorem dX10_init_53 : decode cX10_init 53 = .ok (.anewarray 24, 3) := by decide +kernel
theorem dX10_init_56 : decode cX10_init 56 = .ok (.putfield 38, 3) := by decide +kernel
theorem dX10_init_59 : decode cX10_init 59 = .ok (.aload_n 0, 1) := by decide +kernel
theorem dX10_init_60 : decode cX10_init 60 = .ok (.iconst 2, 1) := by decide +kernel
theorem dX10_init_61 : decode cX10_init 61 = .ok (.newarray .boolean, 2) := by decide +kernel
theorem dX10_init_63 : decode cX10_init 63 = .ok (.putfield 42, 3) := by decide +kernel
theorem dX10_init_66 : decode cX10_init 66 = .ok (.aload_n 0, 1) := by decide +kernel
theorem dX10_init_67 : decode cX10_init 67 = .ok (.new 46, 3) := by decide +kernel
theorem dX10_init_70 : decode cX10_init 70 = .ok (.dup, 1) := by decide +kernel
theorem dX10_init_71 : decode cX10_init 71 = .ok (.invokespecial 48, 3) := by decide +kernel
theorem dX10_init_74 : decode cX10_init 74 = .ok (.putfield 49, 3) := by decide +kernel
theorem dX10_init_77 : decode cX10_init 77 = .ok (.aload_n 0, 1) := by decide +kernel
theorem dX10_init_78 : decode cX10_init 78 = .ok (.new 53, 3) := by decide +kernel
theorem dX10_init_81 : decode cX10_init 81 = .ok (.dup, 1) := by decide +kernel
theorem dX10_init_82 : decode cX10_init 82 = .ok (.invokespecial 55, 3) := by decide +kernel
theorem dX10_init_85 : decode cX10_init 85 = .ok (.putfield 56, 3) := by decide +kernel
theorem dX10_init_88 : decode cX10_init 88 = .ok (.aload_n 0, 1) := by decide +kernel
theorem dX10_init_89 : decode cX10_init 89 = .ok (.new 60, 3) := by decide +kernel
theorem dX10_init_92 : decode cX10_init 92 = .ok (.dup, 1) := by decide +kernel
theorem dX10_init_93 : decode cX10_init 93 = .ok (.invokespecial 62, 3) := by decide +kernel
theorem dX10_init_96 : decode cX10_init 96 = .ok (.putfield 63, 3) := by decide +kernel
theorem dX10_init_99 : decode cX10_init 99 = .ok (.aload_n 0, 1) := by decide +kernel
theorem dX10_init_100 : decode cX10_init 100 = .ok (.new 67, 3) := by decide +kernel
theorem dX10_init_103 : decode cX10_init 103 = .ok (.dup, 1) := by decide +kernel
theorem dX10_init_104 : decode cX10_init 104 = .ok (.invokespecial 69, 3) := by decide +kernel
theorem dX10_init_107 : decode cX10_init 107 = .ok (.putfield 70, 3) := by decide +kernel
theorem dX10_init_110 : decode cX10_init 110 = .ok (.aload_n 0, 1) := by decide +kernel
theorem dX10_init_111 : decode cX10_init 111 = .ok (.new 74, 3) := by decide +kernel
theorem dX10_init_114 : decode cX10_init 114 = .ok (.dup, 1) := by decide +kernel
theorem dX10_init_115 : decode cX10_init 115 = .ok (.invokespecial 76, 3) := by decide +kernel
theorem dX10_init_118 : decode cX10_init 118 = .ok (.putfield 77, 3) := by decide +kernel
theorem dX10_init_121 : decode cX10_init 121 = .ok (.aload_n 0, 1) := by decide +kernel
theorem dX10_init_122 : decode cX10_init 122 = .ok (.new 81, 3) := by decide +kernel
theorem dX10_init_125 : decode cX10_init 125 = .ok (.dup, 1) := by decide +kernel
theorem dX10_init_126 : decode cX10_init 126 = .ok (.invokespecial 83, 3) := by decide +kernel
theorem dX10_init_129 : decode cX10_init 129 = .ok (.putfield 84, 3) := by decide +kernel
theorem dX10_init_132 : decode cX10_init 132 = .ok (.aload_n 0, 1) := by decide +kernel
theorem dX10_init_133 : decode cX10_init 133 = .ok (.new 88, 3) := by decide +kernel
theorem dX10_init_136 : decode cX10_init 136 = .ok (.dup, 1) := by decide +kernel
theorem dX10_init_137 : decode cX10_init 137 = .ok (.invokespecial 90, 3) := by decide +kernel
theorem dX10_init_140 : decode cX10_init 140 = .ok (.putfield 91, 3) := by decide +kernel
theorem dX10_init_143 : decode cX10_init 143 = .ok (.iconst 0, 1) := by decide +kernel
theorem dX10_init_144 : decode cX10_init 144 = .ok (.istore_n 1, 1) := by decide +kernel
theorem dX10_init_145 : decode cX10_init 145 = .ok (.iload_n 1, 1) := by decide +kernel
theorem dX10_init_146 : decode cX10_init 146 = .ok (.iconst 2, 1) := by decide +kernel
theorem dX10_init_147 : decode cX10_init 147 = .ok (.if_icmp .ge 22, 3) := by decide +kernel
theorem dX10_init_150 : decode cX10_init 150 = .ok (.aload_n 0, 1) := by decide +kernel
theorem dX10_init_151 : decode cX10_init 151 = .ok (.getfield 38, 3) := by decide +kernel
theorem dX10_init_154 : decode cX10_init 154 = .ok (.iload_n 1, 1) := by decide +kernel
theorem dX10_init_155 : decode cX10_init 155 = .ok (.new 24, 3) := by decide +kernel
theorem dX10_init_158 : decode cX10_init 158 = .ok (.dup, 1) := by decide +kernel
theorem dX10_init_159 : decode cX10_init 159 = .ok (.invokespecial 26, 3) := by decide +kernel
theorem dX10_init_162 : decode cX10_init 162 = .ok (.aastore, 1) := by decide +kernel
theorem dX10_init_163 : decode cX10_init 163 = .ok (.iinc 1 1, 3) := by decide +kernel
theorem dX10_init_166 : decode cX10_init 166 = .ok (.goto (-21), 3) := by decide +kernel
theorem dX10_init_169 : decode cX10_init 169 = .ok (.return_, 1) := by decide +kernel
set_option maxRecDepth 20000 in
theorem ggX10_append_X10_putInput : GoodIn wsX10_append wsX10_putInput := goodIn_r _ [8, 3, 9, 10, 11, 12, 13, 14, 15, 16, 17, 18, 19, 20, 21, 22, 23, 24, 25, 26, 27, 28] (by decide +kernel) (by decide +kernel)
set_option maxRecDepth 20000 in
theorem gX10_append_X10_putInput : GoodIn wsX10_append (wsV RX10 105 RX10 yX10_putInput wsX10_putInput) := goodIn_app (goodIn_of _ (by decide +kernel)) ggX10_append_X10_putInput
theorem dX10_append_0 : decode cX10_append 0 = .ok (.aload_n 0, 1) := by decide +kernel
theorem dX10_append_1 : decode cX10_append 1 = .ok (.getfield 95, 3) := by decide +kernel
theorem dX10_append_4 : decode cX10_append 4 = .ok (.sipush 580, 3) := by decide +kernel
theorem dX10_append_7 : decode cX10_append 7 = .ok (.if_icmp .le 13, 3) := by decide +kernel
theorem dX10_append_10 : decode cX10_append 10 = .ok (.new 98, 3) := by decide +kernel
theorem dX10_append_13 : decode cX10_append 13 = .ok (.dup, 1) := by decide +kernel
theorem dX10_append_14 : decode cX10_append 14 = .ok (.ldc 100, 2) := by decide +kernel
theorem dX10_append_16 : decode cX10_append 16 = .ok (.invokespecial 102, 3) := by decide +kernel
theorem dX10_append_19 : decode cX10_append 19 = .ok (.athrow, 1) := by decide +kernel
theorem dX10_append_20 : decode cX10_append 20 = .ok (.aload_n 0, 1) := by decide +kernel
theorem dX10_append_21 : decode cX10_append 21 = .ok (.iload_n 1, 1) := by decide +kernel
theorem dX10_append_22 : decode cX10_append 22 = .ok (.invokevirtual 105, 3) := by decide +kernel
theorem dX10_append_25 : decode cX10_append 25 = .ok (.aload_n 0, 1) := by decide +kernel
theorem dX10_append_26 : decode cX10_append 26 = .ok (.iload_n 2, 1) := by decide +kernel
theorem dX10_append_27 : decode cX10_append 27 = .ok (.invokevirtual 105, 3) := by decide +kernel
theorem dX10_append_30 : decode cX10_append 30 = .ok (.aload_n 0, 1) := by decide +kernel
theorem dX10_append_31 : decode cX10_append 31 = .ok (.iload_n 3, 1) := by decide +kernel
theorem dX10_append_32 : decode cX10_append 32 = .ok (.invokevirtual 105, 3) := by decide +kernel
theorem dX10_append_35 : decode cX10_append 35 = .ok (.aload_n 0, 1) := by decide +kernel
theorem dX10_append_36 : decode cX10_append 36 = .ok (.iload 4, 2) := by decide +kernel
theorem dX10_append_38 : decode cX10_append 38 = .ok (.invokevirtual 105, 3) := by decide +kernel
theorem dX10_append_41 : decode cX10_append 41 = .ok (.aload_n 0, 1) := by decide +kernel
theorem dX10_append_42 : decode cX10_append 42 = .ok (.iload 5, 2) := by decide +kernel
theorem dX10_append_44 : decode cX10_append 44 = .ok (.invokevirtual 105, 3) := by decide +kernel
theorem dX10_append_47 : decode cX10_append 47 = .ok (.aload_n 0, 1) := by decide +kernel
theorem dX10_append_48 : decode cX10_append 48 = .ok (.getfield 95, 3) := by decide +kernel
theorem dX10_append_51 : decode cX10_append 51 = .ok (.ireturn, 1) := by decide +kernel
theorem dX10_putInput_0 : decode cX10_putInput 0 = .ok (.bipush 24, 2) := by decide +kernel
theorem dX10_putInput_2 : decode cX10_putInput 2 = .ok (.istore_n 2, 1) := by decide +kernel
theorem dX10_putInput_3 : decode cX10_putInput 3 = .ok (.iload_n 2, 1) := by decide +kernel
theorem dX10_putInput_4 : decode cX10_putInput 4 = .ok (.ifCond .lt 42, 3) := by decide +kernel
theorem dX10_putInput_7 : decode cX10_putInput 7 = .ok (.aload_n 0, 1) := by decide +kernel
theorem dX10_putInput_8 : decode cX10_putInput 8 = .ok (.getfield 95, 3) := by decide +kernel
theorem dX10_putInput_11 : decode cX10_putInput 11 = .ok (.sipush 600, 3) := by decide +kernel
theorem dX10_putInput_14 : decode cX10_putInput 14 = .ok (.if_icmp .ge 26, 3) := by decide +kernel
theorem dX10_putInput_17 : decode cX10_putInput 17 = .ok (.aload_n 0, 1) := by decide +kernel
theorem dX10_putInput_18 : decode cX10_putInput 18 = .ok (.getfield 9, 3) := by decide +kernel
theorem dX10_putInput_21 : decode cX10_putInput 21 = .ok (.aload_n 0, 1) := by decide +kernel
theorem dX10_putInput_22 : decode cX10_putInput 22 = .ok (.getfield 95, 3) := by decide +kernel
theorem dX10_putInput_25 : decode cX10_putInput 25 = .ok (.iload_n 1, 1) := by decide +kernel
theorem dX10_putInput_26 : decode cX10_putInput 26 = .ok (.iload_n 2, 1) := by decide +kernel
theorem dX10_putInput_27 : decode cX10_putInput 27 = .ok (.ishr, 1) := by decide +kernel
theorem dX10_putInput_28 : decode cX10_putInput 28 = .ok (.i2b, 1) := by decide +kernel
theorem dX10_putInput_29 : decode cX10_putInput 29 = .ok (.bastore, 1) := by decide +kernel
theorem dX10_putInput_30 : decode cX10_putInput 30 = .ok (.aload_n 0, 1) := by decide +kernel
theorem dX10_putInput_31 : decode cX10_putInput 31 = .ok (.dup, 1) := by decide +kernel
theorem dX10_putInput_32 : decode cX10_putInput 32 = .ok (.getfield 95, 3) := by decide +kernel
theorem dX10_putInput_35 : decode cX10_putInput 35 = .ok (.iconst 1, 1) := by decide +kernel
theorem dX10_putInput_36 : decode cX10_putInput 36 = .ok (.iadd, 1) := by decide +kernel
theorem dX10_putInput_37 : decode cX10_putInput 37 = .ok (.putfield 95, 3) := by decide +kernel
theorem dX10_putInput_40 : decode cX10_putInput 40 = .ok (.iinc 2 (-8), 3) := by decide +kernel
theorem dX10_putInput_43 : decode cX10_putInput 43 = .ok (.goto (-40), 3) := by decide +kernel
theorem dX10_putInput_46 : decode cX10_putInput 46 = .ok (.return_, 1) := by decide +kernel
theorem dX10_truncate_0 : decode cX10_truncate 0 = .ok (.iload_n 1, 1) := by decide +kernel
theorem dX10_truncate_1 : decode cX10_truncate 1 = .ok (.ifCond .lt 11, 3) := by decide +kernel
theorem dX10_truncate_4 : decode cX10_truncate 4 = .ok (.iload_n 1, 1) := by decide +kernel
theorem dX10_truncate_5 : decode cX10_truncate 5 = .ok (.aload_n 0, 1) := by decide +kernel
theorem dX10_truncate_6 : decode cX10_truncate 6 = .ok (.getfield 95, 3) := by decide +kernel
theorem dX10_truncate_9 : decode cX10_truncate 9 = .ok (.if_icmp .le 13, 3) := by decide +kernel
theorem dX10_truncate_12 : decode cX10_truncate 12 = .ok (.new 109, 3) := by decide +kernel
theorem dX10_truncate_15 : decode cX10_truncate 15 = .ok (.dup, 1) := by decide +kernel
theorem dX10_truncate_16 : decode cX10_truncate 16 = .ok (.ldc 111, 2) := by decide +kernel
theorem dX10_truncate_18 : decode cX10_truncate 18 = .ok (.invokespecial 113, 3) := by decide +kernel
theorem dX10_truncate_21 : decode cX10_truncate 21 = .ok (.athrow, 1) := by decide +kernel
theorem dX10_truncate_22 : decode cX10_truncate 22 = .ok (.aload_n 0, 1) := by decide +kernel
theorem dX10_truncate_23 : decode cX10_truncate 23 = .ok (.iload_n 1, 1) := by decide +kernel
theorem dX10_truncate_24 : decode cX10_truncate 24 = .ok (.putfield 95, 3) := by decide +kernel
theorem dX10_truncate_27 : decode cX10_truncate 27 = .ok (.return_, 1) := by decide +kernel
set_option maxRecDepth 20000 in
theorem ggX10_load_X5_parse : GoodIn wsX10_load wsX5_parse := goodIn_r _ [16, 17, 18, 19, 20, 21, 22, 23, 24, 25, 26, 27, 28, 29, 30, 31, 32, 33, 34, 35, 36, 37, 38, 39, 15, 40, 41, 42, 43, 44, 45, 46, 47, 48, 49, 50, 51, 52, 53, 54, 55, 56, 57, 58, 59, 60, 61, 62, 63, 64, 65, 66, 67, 68, 69, 70, 71, 72, 73, 74, 75, 76, 77, 78, 79, 80, 81, 82, 83, 84, 85, 86, 87, 88, 89, 90, 91, 92, 93, 94, 95, 96, 97, 98, 99, 100, 101, 102, 103, 104, 105, 106, 107, 108, 109, 110, 111, 112, 113, 114, 115, 116, 117, 118, 119, 120, 121, 122, 123, 124, 125, 126, 127, 128, 129, 130, 131, 132, 133, 134, 135, 136, 137, 138, 139, 140, 141, 142, 143, 144, 145, 146, 147, 148, 149, 150, 151, 152, 153, 154, 155, 156, 157, 158, 159, 160, 161, 162, 163, 164, 165, 166, 167, 213, 214, 215, 216, 217, 218, 219, 220, 221, 222, 223, 224, 225, 226, 227, 228, 229, 230, 231, 232] (by decide +kernel) (by decide +kernel)
set_option maxRecDepth 20000 in
theorem gX10_load_X5_parse : GoodIn wsX10_load (wsV RX10 114 RX5 yX5_parse wsX5_parse) := goodIn_app (goodIn_of _ (by decide +kernel)) ggX10_load_X5_parse
set_option maxRecDepth 20000 in
theorem ggX10_load_X6_push : GoodIn wsX10_load wsX6_push := goodIn_r _ [172, 173, 174, 175, 176, 177, 171, 178, 179, 180, 181, 31, 182, 33, 183, 184, 34, 35, 36, 146, 185, 19, 20, 21, 147, 148, 149, 150, 233, 234, 222, 223, 224, 225, 226, 227, 228, 229, 230, 231, 232] (by decide +kernel) (by decide +kernel)
set_option maxRecDepth 20000 in
theorem gX10_load_X6_push : GoodIn wsX10_load (wsV RX10 127 RX6 yX6_push wsX6_push) := goodIn_app (goodIn_of _ (by decide +kernel)) ggX10_load_X6_push
set_option maxRecDepth 20000 in
theorem ggX10_load_X8_copyFrom : GoodIn wsX10_load wsX8_copyFrom := goodIn_r _ [182, 33, 183, 184, 34, 35, 36, 146, 185, 19, 20, 21, 147, 148, 149, 150, 222, 223, 224, 225, 226, 227, 228, 229, 230, 231, 232] (by decide +kernel) (by decide +kernel)
set_option maxRecDepth 20000 in
theorem gX10_load_X8_copyFrom : GoodIn wsX10_load (wsV RX10 134 RX8 yX8_copyFrom wsX8_copyFrom) := goodIn_app (goodIn_of _ (by decide +kernel)) ggX10_load_X8_copyFrom
set_option maxRecDepth 20000 in
theorem ggX10_load_X10_markChanged : GoodIn wsX10_load wsX10_markChanged := goodIn_r _ [190, 191, 192, 193, 194, 195, 196, 197, 198, 199, 200, 201, 202, 203, 204, 205, 206, 207, 208, 209, 210, 211, 212] (by decide +kernel) (by decide +kernel)
set_option maxRecDepth 20000 in
theorem gX10_load_X10_markChanged : GoodIn wsX10_load (wsV RX10 137 RX10 yX10_markChanged wsX10_markChanged) := goodIn_app (goodIn_of _ (by decide +kernel)) ggX10_load_X10_markChanged
theorem dX10_load_0 : decode cX10_load 0 = .ok (.aload_n 0, 1) := by decide +kernel
theorem dX10_load_1 : decode cX10_load 1 = .ok (.getfield 16, 3) := by decide +kernel
theorem dX10_load_4 : decode cX10_load 4 = .ok (.aload_n 0, 1) := by decide +kernel
theorem dX10_load_5 : decode cX10_load 5 = .ok (.getfield 9, 3) := by decide +kernel
theorem dX10_load_8 : decode cX10_load 8 = .ok (.aload_n 0, 1) := by decide +kernel
theorem dX10_load_9 : decode cX10_load 9 = .ok (.getfield 95, 3) := by decide +kernel
theorem dX10_load_12 : decode cX10_load 12 = .ok (.invokevirtual 114, 3) := by decide +kernel
theorem dX10_load_15 : decode cX10_load 15 = .ok (.istore_n 1, 1) := by decide +kernel
theorem dX10_load_16 : decode cX10_load 16 = .ok (.aload_n 0, 1) := by decide +kernel
theorem dX10_load_17 : decode cX10_load 17 = .ok (.iconst 0, 1) := by decide +kernel
theorem dX10_load_18 : decode cX10_load 18 = .ok (.putfield 95, 3) := by decide +kernel
theorem dX10_load_21 : decode cX10_load 21 = .ok (.aload_n 0, 1) := by decide +kernel
theorem dX10_load_22 : decode cX10_load 22 = .ok (.aload_n 0, 1) := by decide +kernel
theorem dX10_load_23 : decode cX10_load 23 = .ok (.getfield 16, 3) := by decide +kernel
theorem dX10_load_26 : decode cX10_load 26 = .ok (.getfield 118, 3) := by decide +kernel
theorem dX10_load_29 : decode cX10_load 29 = .ok (.putfield 121, 3) := by decide +kernel
theorem dX10_load_32 : decode cX10_load 32 = .ok (.aload_n 0, 1) := by decide +kernel
theorem dX10_load_33 : decode cX10_load 33 = .ok (.aload_n 0, 1) := by decide +kernel
theorem dX10_load_34 : decode cX10_load 34 = .ok (.getfield 16, 3) := by decide +kernel
theorem dX10_load_37 : decode cX10_load 37 = .ok (.getfield 124, 3) := by decide +kernel
theorem dX10_load_40 : decode cX10_load 40 = .ok (.putfield 20, 3) := by decide +kernel
theorem dX10_load_43 : decode cX10_load 43 = .ok (.iload_n 1, 1) := by decide +kernel
theorem dX10_load_44 : decode cX10_load 44 = .ok (.ifCond .ne 6, 3) := by decide +kernel
theorem dX10_load_47 : decode cX10_load 47 = .ok (.bipush (-4), 2) := by decide +kernel
theorem dX10_load_49 : decode cX10_load 49 = .ok (.ireturn, 1) := by decide +kernel
theorem dX10_load_50 : decode cX10_load 50 = .ok (.aload_n 0, 1) := by decide +kernel
theorem dX10_load_51 : decode cX10_load 51 = .ok (.getfield 34, 3) := by decide +kernel
theorem dX10_load_54 : decode cX10_load 54 = .ok (.aload_n 0, 1) := by decide +kernel
theorem dX10_load_55 : decode cX10_load 55 = .ok (.getfield 27, 3) := by decide +kernel
theorem dX10_load_58 : decode cX10_load 58 = .ok (.invokevirtual 127, 3) := by decide +kernel
theorem dX10_load_61 : decode cX10_load 61 = .ok (.aload_n 0, 1) := by decide +kernel
theorem dX10_load_62 : decode cX10_load 62 = .ok (.getfield 27, 3) := by decide +kernel
theorem dX10_load_65 : decode cX10_load 65 = .ok (.aload_n 0, 1) := by decide +kernel
theorem dX10_load_66 : decode cX10_load 66 = .ok (.getfield 16, 3) := by decide +kernel
theorem dX10_load_69 : decode cX10_load 69 = .ok (.getfield 131, 3) := by decide +kernel
theorem dX10_load_72 : decode cX10_load 72 = .ok (.invokevirtual 134, 3) := by decide +kernel
theorem dX10_load_75 : decode cX10_load 75 = .ok (.aload_n 0, 1) := by decide +kernel
theorem dX10_load_76 : decode cX10_load 76 = .ok (.invokevirtual 137, 3) := by decide +kernel
theorem dX10_load_79 : decode cX10_load 79 = .ok (.aload_n 0, 1) := by decide +kernel
theorem dX10_load_80 : decode cX10_load 80 = .ok (.getfield 27, 3) := by decide +kernel
theorem dX10_load_83 : decode cX10_load 83 = .ok (.getfield 140, 3) := by decide +kernel
theorem dX10_load_86 : decode cX10_load 86 = .ok (.ireturn, 1) := by decide +kernel
theorem dX10_errorCode_0 : decode cX10_errorCode 0 = .ok (.aload_n 0, 1) := by decide +kernel
theorem dX10_errorCode_1 : decode cX10_errorCode 1 = .ok (.getfield 121, 3) := by decide +kernel
theorem dX10_errorCode_4 : decode cX10_errorCode 4 = .ok (.ireturn, 1) := by decide +kernel
theorem dX10_errorPosition_0 : decode cX10_errorPosition 0 = .ok (.aload_n 0, 1) := by decide +kernel
theorem dX10_errorPosition_1 : decode cX10_errorPosition 1 = .ok (.getfield 20, 3) := by decide +kernel
theorem dX10_errorPosition_4 : decode cX10_errorPosition 4 = .ok (.ireturn, 1) := by decide +kernel
set_option maxRecDepth 20000 in
theorem ggX10_property_X10_requireWhat : GoodIn wsX10_property wsX10_requireWhat := goodIn_ca (goodIn_r _ [13, 14, 15] (by decide +kernel) (by decide +kernel)) (goodIn_sub (fun _ h => List.mem_cons_of_mem _ (List.mem_append_right _ h)) (by decide +kernel))
set_option maxRecDepth 20000 in
theorem gX10_property_X10_requireWhat : GoodIn wsX10_property (va_wsS RX10 143 yX10_requireWhat wsX10_requireWhat) := goodIn_app (goodIn_of _ (by decide +kernel)) ggX10_property_X10_requireWhat
set_option maxRecDepth 20000 in
theorem ggX10_property_X8_countBits : GoodIn wsX10_property wsX8_countBits := goodIn_r _ [20, 21, 22, 23, 24, 25, 26, 27, 28, 48, 49, 50, 51, 52, 53, 54, 55, 56, 57, 58] (by decide +kernel) (by decide +kernel)
set_option maxRecDepth 20000 in
theorem gX10_property_X8_countBits : GoodIn wsX10_property (wsV RX10 157 RX8 yX8_countBits wsX8_countBits) := goodIn_app (goodIn_of _ (by decide +kernel)) ggX10_property_X8_countBits
theorem dX10_property_0 : decode cX10_property 0 = .ok (.iload_n 1, 1) := by decide +kernel
theorem dX10_property_1 : decode cX10_property 1 = .ok (.bipush 7, 2) := by decide +kernel
theorem dX10_property_3 : decode cX10_property 3 = .ok (.invokestatic 143, 3) := by decide +kernel
theorem dX10_property_6 : decode cX10_property 6 = .ok (.iload_n 1, 1) := by decide +kernel
theorem dX10_property_7 : decode cX10_property 7 = .ok (.tableswitch 113 0 6 #[41, 49, 57, 65, 82, 97, 105], 41) := by decide +kernel
theorem dX10_property_48 : decode cX10_property 48 = .ok (.aload_n 0, 1) := by decide +kernel
theorem dX10_property_49 : decode cX10_property 49 = .ok (.getfield 27, 3) := by decide +kernel
theorem dX10_property_52 : decode cX10_property 52 = .ok (.getfield 140, 3) := by decide +kernel
theorem dX10_property_55 : decode cX10_property 55 = .ok (.ireturn, 1) := by decide +kernel
theorem dX10_property_56 : decode cX10_property 56 = .ok (.aload_n 0, 1) := by decide +kernel
theorem dX10_property_57 : decode cX10_property 57 = .ok (.getfield 27, 3) := by decide +kernel
theorem dX10_property_60 : decode cX10_property 60 = .ok (.getfield 147, 3) := by decide +kernel
theorem dX10_property_63 : decode cX10_property 63 = .ok (.ireturn, 1) := by decide +kernel
theorem dX10_property_64 : decode cX10_property 64 = .ok (.aload_n 0, 1) := by decide +kernel
theorem dX10_property_65 : decode cX10_property 65 = .ok (.getfield 27, 3) := by decide +kernel
theorem dX10_property_68 : decode cX10_property 68 = .ok (.getfield 150, 3) := by decide +kernel
theorem dX10_property_71 : decode cX10_property 71 = .ok (.ireturn, 1) := by decide +kernel
theorem dX10_property_72 : decode cX10_property 72 = .ok (.aload_n 0, 1) := by decide +kernel
theorem dX10_property_73 : decode cX10_property 73 = .ok (.getfield 27, 3) := by decide +kernel
theorem dX10_property_76 : decode cX10_property 76 = .ok (.aload_n 0, 1) := by decide +kernel
theorem dX10_property_77 : decode cX10_property 77 = .ok (.getfield 27, 3) := by decide +kernel
theorem dX10_property_80 : decode cX10_property 80 = .ok (.getfield 153, 3) := by decide +kernel
theorem dX10_property_83 : decode cX10_property 83 = .ok (.invokevirtual 157, 3) := by decide +kernel
theorem dX10_property_86 : decode cX10_property 86 = .ok (.iconst 2, 1) := by decide +kernel
theorem dX10_property_87 : decode cX10_property 87 = .ok (.idiv, 1) := by decide +kernel
theorem dX10_property_88 : decode cX10_property 88 = .ok (.ireturn, 1) := by decide +kernel
theorem dX10_property_89 : decode cX10_property 89 = .ok (.aload_n 0, 1) := by decide +kernel
theorem dX10_property_90 : decode cX10_property 90 = .ok (.getfield 27, 3) := by decide +kernel
theorem dX10_property_93 : decode cX10_property 93 = .ok (.aload_n 0, 1) := by decide +kernel
theorem dX10_property_94 : decode cX10_property 94 = .ok (.getfield 27, 3) := by decide +kernel
theorem dX10_property_97 : decode cX10_property 97 = .ok (.getfield 161, 3) := by decide +kernel
theorem dX10_property_100 : decode cX10_property 100 = .ok (.invokevirtual 157, 3) := by decide +kernel
theorem dX10_property_103 : decode cX10_property 103 = .ok (.ireturn, 1) := by decide +kernel
theorem dX10_property_104 : decode cX10_property 104 = .ok (.aload_n 0, 1) := by decide +kernel
theorem dX10_property_105 : decode cX10_property 105 = .ok (.getfield 27, 3) := by decide +kernel
theorem dX10_property_108 : decode cX10_property 108 = .ok (.getfield 164, 3) := by decide +kernel
theorem dX10_property_111 : decode cX10_property 111 = .ok (.ireturn, 1) := by decide +kernel
theorem dX10_property_112 : decode cX10_property 112 = .ok (.aload_n 0, 1) := by decide +kernel
theorem dX10_property_113 : decode cX10_property 113 = .ok (.getfield 27, 3) := by decide +kernel
theorem dX10_property_116 : decode cX10_property 116 = .ok (.getfield 167, 3) := by decide +kernel
theorem dX10_property_119 : decode cX10_property 119 = .ok (.ireturn, 1) := by decide +kernel
theorem dX10_property_120 : decode cX10_property 120 = .ok (.aload_n 0, 1) := by decide +kernel
theorem dX10_property_121 : decode cX10_property 121 = .ok (.getfield 27, 3) := by decide +kernel
theorem dX10_property_124 : decode cX10_property 124 = .ok (.getfield 170, 3) := by decide +kernel
theorem dX10_property_127 : decode cX10_property 127 = .ok (.ireturn, 1) := by decide +kernel
set_option maxRecDepth 20000 in
theorem ggX10_item_X10_requireItem : GoodIn wsX10_item wsX10_requireItem := goodIn_ca (goodIn_r _ [11, 12, 13, 1, 14, 15, 16, 17, 18, 19, 25, 26, 27, 28, 29, 30, 31, 32, 33, 34, 35, 36, 37, 38, 39, 40, 41, 42, 43, 44, 45, 46, 47, 48, 49, 50, 51, 52, 53, 54] (by decide +kernel) (by decide +kernel)) (goodIn_sub (fun _ h => List.mem_cons_of_mem _ (List.mem_append_left _ (List.mem_append_right _ h))) (by decide +kernel))
set_option maxRecDepth 20000 in
theorem gX10_item_X10_requireItem : GoodIn wsX10_item (wsV RX10 173 RX10 yX10_requireItem wsX10_requireItem) := goodIn_app (goodIn_of _ (by decide +kernel)) ggX10_item_X10_requireItem
set_option maxRecDepth 20000 in
theorem ggX10_item_X10_requireWhat : GoodIn wsX10_item wsX10_requireWhat := goodIn_ca (goodIn_r _ [22, 23, 24] (by decide +kernel) (by decide +kernel)) (goodIn_sub (fun _ h => List.mem_cons_of_mem _ (List.mem_append_right _ h)) (by decide +kernel))
set_option maxRecDepth 20000 in
theorem gX10_item_X10_requireWhat : GoodIn wsX10_item (va_wsS RX10 143 yX10_requireWhat wsX10_requireWhat) := goodIn_app (goodIn_of _ (by decide +kernel)) ggX10_item_X10_requireWhat
theorem dX10_item_0 : decode cX10_item 0 = .ok (.aload_n 0, 1) := by decide +kernel
theorem dX10_item_1 : decode cX10_item 1 = .ok (.iload_n 1, 1) := by decide +kernel
theorem dX10_item_2 : decode cX10_item 2 = .ok (.invokevirtual 173, 3) := by decide +kernel
theorem dX10_item_5 : decode cX10_item 5 = .ok (.iload_n 2, 1) := by decide +kernel
theorem dX10_item_6 : decode cX10_item 6 = .ok (.iconst 4, 1) := by decide +kernel
theorem dX10_item_7 : decode cX10_item 7 = .ok (.invokestatic 143, 3) := by decide +kernel
theorem dX10_item_10 : decode cX10_item 10 = .ok (.iload_n 2, 1) := by decide +kernel
theorem dX10_item_11 : decode cX10_item 11 = .ok (.tableswitch 69 0 3 #[29, 39, 49, 59], 29) := by decide +kernel
theorem dX10_item_40 : decode cX10_item 40 = .ok (.aload_n 0, 1) := by decide +kernel
theorem dX10_item_41 : decode cX10_item 41 = .ok (.getfield 27, 3) := by decide +kernel
theorem dX10_item_44 : decode cX10_item 44 = .ok (.getfield 176, 3) := by decide +kernel
theorem dX10_item_47 : decode cX10_item 47 = .ok (.iload_n 1, 1) := by decide +kernel
theorem dX10_item_48 : decode cX10_item 48 = .ok (.iaload, 1) := by decide +kernel
theorem dX10_item_49 : decode cX10_item 49 = .ok (.ireturn, 1) := by decide +kernel
theorem dX10_item_50 : decode cX10_item 50 = .ok (.aload_n 0, 1) := by decide +kernel
theorem dX10_item_51 : decode cX10_item 51 = .ok (.getfield 27, 3) := by decide +kernel
theorem dX10_item_54 : decode cX10_item 54 = .ok (.getfield 179, 3) := by decide +kernel
theorem dX10_item_57 : decode cX10_item 57 = .ok (.iload_n 1, 1) := by decide +kernel
theorem dX10_item_58 : decode cX10_item 58 = .ok (.iaload, 1) := by decide +kernel
theorem dX10_item_59 : decode cX10_item 59 = .ok (.ireturn, 1) := by decide +kernel
theorem dX10_item_60 : decode cX10_item 60 = .ok (.aload_n 0, 1) := by decide +kernel
theorem dX10_item_61 : decode cX10_item 61 = .ok (.getfield 27, 3) := by decide +kernel
theorem dX10_item_64 : decode cX10_item 64 = .ok (.getfield 182, 3) := by decide +kernel
theorem dX10_item_67 : decode cX10_item 67 = .ok (.iload_n 1, 1) := by decide +kernel
theorem dX10_item_68 : decode cX10_item 68 = .ok (.iaload, 1) := by decide +kernel
theorem dX10_item_69 : decode cX10_item 69 = .ok (.ireturn, 1) := by decide +kernel
theorem dX10_item_70 : decode cX10_item 70 = .ok (.aload_n 0, 1) := by decide +kernel
theorem dX10_item_71 : decode cX10_item 71 = .ok (.getfield 27, 3) := by decide +kernel
theorem dX10_item_74 : decode cX10_item 74 = .ok (.getfield 153, 3) := by decide +kernel
theorem dX10_item_77 : decode cX10_item 77 = .ok (.iload_n 1, 1) := by decide +kernel
theorem dX10_item_78 : decode cX10_item 78 = .ok (.iaload, 1) := by decide +kernel
theorem dX10_item_79 : decode cX10_item 79 = .ok (.ireturn, 1) := by decide +kernel
theorem dX10_item_80 : decode cX10_item 80 = .ok (.aload_n 0, 1) := by decide +kernel
theorem dX10_item_81 : decode cX10_item 81 = .ok (.getfield 27, 3) := by decide +kernel
theorem dX10_item_84 : decode cX10_item 84 = .ok (.getfield 161, 3) := by decide +kernel
theorem dX10_item_87 : decode cX10_item 87 = .ok (.iload_n 1, 1) := by decide +kernel
theorem dX10_item_88 : decode cX10_item 88 = .ok (.iaload, 1) := by decide +kernel
theorem dX10_item_89 : decode cX10_item 89 = .ok (.ireturn, 1) := by decide +kernel
set_option maxRecDepth 20000 in
theorem ggX10_refusal_X10_requireSet : GoodIn wsX10_refusal wsX10_requireSet := goodIn_ca (goodIn_r _ [8, 9, 10, 2, 11, 12, 13, 14, 15, 16, 145, 146, 147, 148, 149, 150, 151, 152, 153, 154, 155, 156, 157, 158, 159, 160, 161, 162, 163, 164, 165, 166, 167, 168, 169, 170, 171, 172, 173, 174] (by decide +kernel) (by decide +kernel)) (goodIn_sub (fun _ h => List.mem_cons_of_mem _ (List.mem_append_right _ h)) (by decide +kernel))
set_option maxRecDepth 20000 in
theorem gX10_refusal_X10_requireSet : GoodIn wsX10_refusal (wsV RX10 185 RX10 yX10_requireSet wsX10_requireSet) := goodIn_app (goodIn_of _ (by decide +kernel)) ggX10_refusal_X10_requireSet
set_option maxRecDepth 20000 in
theorem ggX10_refusal_X10_refreshFrontier : GoodIn wsX10_refusal wsX10_refreshFrontier := goodIn_r _ [20, 21, 1, 2, 22, 3, 23, 24, 25, 26, 27, 28, 29, 30, 31, 32, 33, 34, 35, 36, 37, 38, 39, 40, 41, 42, 43, 44, 45, 46, 47, 48, 49, 50, 51, 52, 53, 54, 55, 56, 57, 58, 59, 60, 61, 62, 63, 64, 65, 66, 67, 68, 69, 70, 71, 72, 73, 74, 75, 76, 77, 78, 79, 80, 81, 82, 83, 84, 85, 86, 87, 88, 89, 90, 91, 92, 93, 94, 95, 96, 97, 98, 99, 100, 101, 102, 103, 104, 105, 106, 107, 108, 109, 110, 111, 112, 113, 114, 115, 116, 117, 118, 119, 120, 121, 122, 123, 124, 125, 126, 127, 128, 129, 130, 131, 132, 133, 134, 135, 136, 137, 138, 139, 140, 141, 142, 143, 145, 146, 147, 148, 149, 150, 151, 152, 153, 154, 155, 156, 157, 158, 159, 160, 161, 162, 163, 164, 165, 166, 167, 168, 169, 170, 171, 172, 173, 174, 175, 176, 177, 178, 179, 180, 181, 182, 183, 184, 185, 186, 187, 188, 189, 190, 191, 192, 193, 194, 195, 196, 197, 198] (by decide +kernel) (by decide +kernel)
set_option maxRecDepth 20000 in
theorem gX10_refusal_X10_refreshFrontier : GoodIn wsX10_refusal (wsV RX10 188 RX10 yX10_refreshFrontier wsX10_refreshFrontier) := goodIn_app (goodIn_of _ (by decide +kernel)) ggX10_refusal_X10_refreshFrontier
set_option maxRecDepth 20000 in
theorem ggX10_refusal_X0_reason : GoodIn wsX10_refusal wsX0_reason := goodIn_r _ [64, 37, 65, 66, 67, 27, 68, 30, 43, 45, 32, 34, 69, 70, 71, 72, 73, 74, 75, 175, 176, 177, 178, 179, 180, 181, 182, 183] (by decide +kernel) (by decide +kernel)
set_option maxRecDepth 20000 in
theorem gX10_refusal_X0_reason : GoodIn wsX10_refusal (wsV RX10 191 RX0 yX0_reason wsX0_reason) := goodIn_app (goodIn_of _ (by decide +kernel)) ggX10_refusal_X0_reason
theorem dX10_refusal_0 : decode cX10_refusal 0 = .ok (.aload_n 0, 1) := by decide +kernel
theorem dX10_refusal_1 : decode cX10_refusal 1 = .ok (.iload_n 1, 1) := by decide +kernel
theorem dX10_refusal_2 : decode cX10_refusal 2 = .ok (.invokevirtual 185, 3) := by decide +kernel
theorem dX10_refusal_5 : decode cX10_refusal 5 = .ok (.aload_n 0, 1) := by decide +kernel
theorem dX10_refusal_6 : decode cX10_refusal 6 = .ok (.invokevirtual 188, 3) := by decide +kernel
theorem dX10_refusal_9 : decode cX10_refusal 9 = .ok (.aload_n 0, 1) := by decide +kernel
theorem dX10_refusal_10 : decode cX10_refusal 10 = .ok (.getfield 56, 3) := by decide +kernel
theorem dX10_refusal_13 : decode cX10_refusal 13 = .ok (.iload_n 1, 1) := by decide +kernel
theorem dX10_refusal_14 : decode cX10_refusal 14 = .ok (.aload_n 0, 1) := by decide +kernel
theorem dX10_refusal_15 : decode cX10_refusal 15 = .ok (.getfield 27, 3) := by decide +kernel
theorem dX10_refusal_18 : decode cX10_refusal 18 = .ok (.getfield 147, 3) := by decide +kernel
theorem dX10_refusal_21 : decode cX10_refusal 21 = .ok (.invokevirtual 191, 3) := by decide +kernel
theorem dX10_refusal_24 : decode cX10_refusal 24 = .ok (.ireturn, 1) := by decide +kernel
set_option maxRecDepth 20000 in
theorem ggX10_sum_X10_requireSet : GoodIn wsX10_sum wsX10_requireSet := goodIn_ca (goodIn_r _ [9, 10, 11, 12, 13, 14, 15, 16, 17, 18, 150, 151, 152, 153, 154, 155, 156, 157, 158, 159, 160, 161, 162, 163, 164, 165, 166, 167, 168, 178, 179, 180, 181, 182, 183, 184, 185, 186, 187, 188] (by decide +kernel) (by decide +kernel)) (goodIn_sub (fun _ h => List.mem_cons_of_mem _ (List.mem_append_right _ h)) (by decide +kernel))
set_option maxRecDepth 20000 in
theorem gX10_sum_X10_requireSet : GoodIn wsX10_sum (wsV RX10 185 RX10 yX10_requireSet wsX10_requireSet) := goodIn_app (goodIn_of _ (by decide +kernel)) ggX10_sum_X10_requireSet
set_option maxRecDepth 20000 in
theorem ggX10_sum_X10_requireWhat : GoodIn wsX10_sum wsX10_requireWhat := goodIn_ca (goodIn_r _ [21, 10, 11] (by decide +kernel) (by decide +kernel)) (goodIn_sub (fun _ h => List.mem_cons_of_mem _ (List.mem_append_right _ h)) (by decide +kernel))
set_option maxRecDepth 20000 in
theorem gX10_sum_X10_requireWhat : GoodIn wsX10_sum (va_wsS RX10 143 yX10_requireWhat wsX10_requireWhat) := goodIn_app (goodIn_of _ (by decide +kernel)) ggX10_sum_X10_requireWhat
set_option maxRecDepth 20000 in
theorem ggX10_sum_X10_refreshFrontier : GoodIn wsX10_sum wsX10_refreshFrontier := goodIn_r _ [25, 26, 1, 12, 27, 28, 29, 30, 31, 32, 33, 34, 35, 36, 37, 38, 39, 40, 41, 42, 43, 44, 45, 46, 47, 48, 49, 50, 51, 52, 53, 54, 55, 56, 57, 58, 59, 60, 61, 62, 63, 64, 65, 66, 67, 68, 69, 70, 71, 72, 73, 74, 75, 76, 77, 78, 79, 80, 81, 82, 83, 84, 85, 86, 87, 88, 89, 90, 91, 92, 93, 94, 95, 96, 97, 98, 99, 100, 101, 102, 103, 104, 105, 106, 107, 108, 109, 110, 111, 112, 113, 114, 115, 116, 117, 118, 119, 120, 121, 122, 123, 124, 125, 126, 127, 128, 129, 130, 131, 132, 133, 134, 135, 136, 137, 138, 139, 140, 141, 142, 143, 144, 145, 146, 147, 148, 149, 150, 151, 152, 153, 154, 155, 156, 157, 158, 159, 160, 161, 162, 163, 164, 165, 166, 167, 168, 178, 179, 180, 181, 182, 183, 184, 185, 186, 187, 188, 169, 170, 171, 172, 173, 174, 175, 176, 177, 189, 190, 191, 192, 193, 194, 195, 196, 197, 198, 199, 200, 201, 202, 203] (by decide +kernel) (by decide +kernel)
set_option maxRecDepth 20000 in
theorem gX10_sum_X10_refreshFrontier : GoodIn wsX10_sum (wsV RX10 188 RX10 yX10_refreshFrontier wsX10_refreshFrontier) := goodIn_app (goodIn_of _ (by decide +kernel)) ggX10_sum_X10_refreshFrontier
theorem dX10_sum_0 : decode cX10_sum 0 = .ok (.aload_n 0, 1) := by decide +kernel
theorem dX10_sum_1 : decode cX10_sum 1 = .ok (.iload_n 1, 1) := by decide +kernel
theorem dX10_sum_2 : decode cX10_sum 2 = .ok (.invokevirtual 185, 3) := by decide +kernel
theorem dX10_sum_5 : decode cX10_sum 5 = .ok (.iload_n 2, 1) := by decide +kernel
theorem dX10_sum_6 : decode cX10_sum 6 = .ok (.iconst 2, 1) := by decide +kernel
theorem dX10_sum_7 : decode cX10_sum 7 = .ok (.invokestatic 143, 3) := by decide +kernel
theorem dX10_sum_10 : decode cX10_sum 10 = .ok (.aload_n 0, 1) := by decide +kernel
theorem dX10_sum_11 : decode cX10_sum 11 = .ok (.invokevirtual 188, 3) := by decide +kernel
theorem dX10_sum_14 : decode cX10_sum 14 = .ok (.iload_n 2, 1) := by decide +kernel
theorem dX10_sum_15 : decode cX10_sum 15 = .ok (.lookupswitch 45 #[(0, 25), (1, 35)], 25) := by decide +kernel
theorem dX10_sum_40 : decode cX10_sum 40 = .ok (.aload_n 0, 1) := by decide +kernel
theorem dX10_sum_41 : decode cX10_sum 41 = .ok (.getfield 56, 3) := by decide +kernel
theorem dX10_sum_44 : decode cX10_sum 44 = .ok (.getfield 195, 3) := by decide +kernel
theorem dX10_sum_47 : decode cX10_sum 47 = .ok (.iload_n 1, 1) := by decide +kernel
theorem dX10_sum_48 : decode cX10_sum 48 = .ok (.iaload, 1) := by decide +kernel
theorem dX10_sum_49 : decode cX10_sum 49 = .ok (.ireturn, 1) := by decide +kernel
theorem dX10_sum_50 : decode cX10_sum 50 = .ok (.aload_n 0, 1) := by decide +kernel
theorem dX10_sum_51 : decode cX10_sum 51 = .ok (.getfield 56, 3) := by decide +kernel
theorem dX10_sum_54 : decode cX10_sum 54 = .ok (.getfield 196, 3) := by decide +kernel
theorem dX10_sum_57 : decode cX10_sum 57 = .ok (.iload_n 1, 1) := by decide +kernel
theorem dX10_sum_58 : decode cX10_sum 58 = .ok (.iaload, 1) := by decide +kernel
theorem dX10_sum_59 : decode cX10_sum 59 = .ok (.ireturn, 1) := by decide +kernel
theorem dX10_sum_60 : decode cX10_sum 60 = .ok (.aload_n 0, 1) := by decide +kernel
theorem dX10_sum_61 : decode cX10_sum 61 = .ok (.getfield 56, 3) := by decide +kernel
theorem dX10_sum_64 : decode cX10_sum 64 = .ok (.getfield 197, 3) := by decide +kernel
theorem dX10_sum_67 : decode cX10_sum 67 = .ok (.iload_n 1, 1) := by decide +kernel
theorem dX10_sum_68 : decode cX10_sum 68 = .ok (.iaload, 1) := by decide +kernel
theorem dX10_sum_69 : decode cX10_sum 69 = .ok (.ireturn, 1) := by decide +kernel
set_option maxRecDepth 20000 in
theorem ggX10_allowed_X10_refreshFrontier : GoodIn wsX10_allowed wsX10_refreshFrontier := goodIn_r _ [7, 8, 9, 10, 11, 12, 1, 13, 14, 15, 16, 17, 18, 19, 20, 21, 22, 23, 24, 25, 26, 27, 28, 29, 30, 31, 32, 33, 34, 35, 36, 37, 38, 39, 40, 41, 42, 43, 44, 45, 46, 47, 48, 49, 50, 51, 52, 53, 54, 55, 56, 57, 58, 59, 60, 61, 62, 63, 64, 65, 66, 67, 68, 69, 70, 71, 72, 73, 74, 75, 76, 77, 78, 79, 80, 81, 82, 83, 84, 85, 86, 87, 88, 89, 90, 91, 92, 93, 94, 95, 96, 97, 98, 99, 100, 101, 102, 103, 104, 105, 106, 107, 108, 109, 110, 111, 112, 113, 114, 115, 116, 117, 118, 119, 120, 121, 122, 123, 124, 125, 126, 127, 128, 129, 130, 131, 132, 133, 134, 135, 136, 137, 138, 139, 140, 141, 142, 143, 144, 145, 146, 147, 148, 149, 150, 151, 165, 166, 167, 168, 169, 170, 171, 172, 173, 174, 175, 176, 177, 178, 179, 180, 181, 182, 183, 184, 185, 186, 152, 153, 154, 155, 156, 157, 158, 159, 160, 161, 162, 163, 164] (by decide +kernel) (by decide +kernel)
set_option maxRecDepth 20000 in
theorem gX10_allowed_X10_refreshFrontier : GoodIn wsX10_allowed (wsV RX10 188 RX10 yX10_refreshFrontier wsX10_refreshFrontier) := goodIn_app (goodIn_of _ (by decide +kernel)) ggX10_allowed_X10_refreshFrontier
theorem dX10_allowed_0 : decode cX10_allowed 0 = .ok (.aload_n 0, 1) := by decide +kernel
theorem dX10_allowed_1 : decode cX10_allowed 1 = .ok (.invokevirtual 188, 3) := by decide +kernel
theorem dX10_allowed_4 : decode cX10_allowed 4 = .ok (.aload_n 0, 1) := by decide +kernel
theorem dX10_allowed_5 : decode cX10_allowed 5 = .ok (.getfield 70, 3) := by decide +kernel
theorem dX10_allowed_8 : decode cX10_allowed 8 = .ok (.getfield 198, 3) := by decide +kernel
theorem dX10_allowed_11 : decode cX10_allowed 11 = .ok (.ireturn, 1) := by decide +kernel
set_option maxRecDepth 20000 in
theorem ggX10_points_X10_refreshFrontier : GoodIn wsX10_points wsX10_refreshFrontier := goodIn_r _ [7, 8, 9, 10, 11, 12, 1, 13, 14, 15, 16, 17, 18, 19, 20, 21, 22, 23, 24, 25, 26, 27, 28, 29, 30, 31, 32, 33, 34, 35, 36, 37, 38, 39, 40, 41, 42, 43, 44, 45, 46, 47, 48, 49, 50, 51, 52, 53, 54, 55, 56, 57, 58, 59, 60, 61, 62, 63, 64, 65, 66, 67, 68, 69, 70, 71, 72, 73, 74, 75, 76, 77, 78, 79, 80, 81, 82, 83, 84, 85, 86, 87, 88, 89, 90, 91, 92, 93, 94, 95, 96, 97, 98, 99, 100, 101, 102, 103, 104, 105, 106, 107, 108, 109, 110, 111, 112, 113, 114, 115, 116, 117, 118, 119, 120, 121, 122, 123, 124, 125, 126, 127, 128, 129, 130, 131, 132, 133, 134, 135, 136, 137, 138, 139, 140, 141, 142, 143, 144, 145, 146, 147, 148, 149, 150, 151, 165, 166, 167, 168, 169, 170, 171, 172, 173, 174, 175, 176, 177, 178, 179, 180, 181, 182, 183, 184, 185, 186, 152, 153, 154, 155, 156, 157, 158, 159, 160, 161, 162, 163, 164] (by decide +kernel) (by decide +kernel)
set_option maxRecDepth 20000 in
theorem gX10_points_X10_refreshFrontier : GoodIn wsX10_points (wsV RX10 188 RX10 yX10_refreshFrontier wsX10_refreshFrontier) := goodIn_app (goodIn_of _ (by decide +kernel)) ggX10_points_X10_refreshFrontier
theorem dX10_points_0 : decode cX10_points 0 = .ok (.aload_n 0, 1) := by decide +kernel
theorem dX10_points_1 : decode cX10_points 1 = .ok (.invokevirtual 188, 3) := by decide +kernel
theorem dX10_points_4 : decode cX10_points 4 = .ok (.aload_n 0, 1) := by decide +kernel
theorem dX10_points_5 : decode cX10_points 5 = .ok (.getfield 70, 3) := by decide +kernel
theorem dX10_points_8 : decode cX10_points 8 = .ok (.getfield 201, 3) := by decide +kernel
theorem dX10_points_11 : decode cX10_points 11 = .ok (.ireturn, 1) := by decide +kernel
set_option maxRecDepth 20000 in
theorem ggX10_point_X10_requirePoint : GoodIn wsX10_point wsX10_requirePoint := goodIn_ca (goodIn_r _ [13, 14, 15, 1, 16, 17, 18, 19, 12, 20, 21, 6, 22, 23, 24, 25, 26, 27, 28, 29, 30, 31, 32, 33, 34, 35, 36, 37, 38, 39, 40, 41, 42, 43, 44, 45, 46, 47, 48, 49, 50, 51, 52, 53, 54, 55, 56, 57, 58, 59, 60, 61, 62, 63, 64, 65, 66, 67, 68, 69, 70, 71, 72, 73, 74, 75, 76, 77, 78, 79, 80, 81, 82, 83, 84, 85, 86, 87, 88, 89, 90, 91, 92, 93, 94, 95, 96, 97, 98, 99, 100, 101, 102, 103, 104, 105, 106, 107, 108, 109, 110, 111, 112, 113, 114, 115, 116, 117, 118, 119, 120, 121, 122, 123, 124, 125, 126, 127, 128, 129, 130, 131, 132, 133, 134, 135, 136, 137, 138, 139, 140, 141, 142, 143, 144, 150, 151, 152, 153, 154, 155, 156, 157, 158, 159, 160, 161, 162, 163, 164, 165, 166, 167, 168, 169, 170, 171, 172, 173, 174, 175, 176, 177, 178, 179, 180, 181, 191, 192, 193, 194, 195, 196, 197, 198, 199, 200, 201, 182, 183, 184, 185, 186, 187, 188, 189, 190, 202, 203] (by decide +kernel) (by decide +kernel)) (goodIn_sub (fun _ h => List.mem_cons_of_mem _ (List.mem_append_left _ (List.mem_append_right _ h))) (by decide +kernel))
set_option maxRecDepth 20000 in
theorem gX10_point_X10_requirePoint : GoodIn wsX10_point (wsV RX10 204 RX10 yX10_requirePoint wsX10_requirePoint) := goodIn_app (goodIn_of _ (by decide +kernel)) ggX10_point_X10_requirePoint
set_option maxRecDepth 20000 in
theorem ggX10_point_X10_requireWhat : GoodIn wsX10_point wsX10_requireWhat := goodIn_ca (goodIn_r _ [147, 148, 149] (by decide +kernel) (by decide +kernel)) (goodIn_sub (fun _ h => List.mem_cons_of_mem _ (List.mem_append_right _ h)) (by decide +kernel))
set_option maxRecDepth 20000 in
theorem gX10_point_X10_requireWhat : GoodIn wsX10_point (va_wsS RX10 143 yX10_requireWhat wsX10_requireWhat) := goodIn_app (goodIn_of _ (by decide +kernel)) ggX10_point_X10_requireWhat
theorem dX10_point_0 : decode cX10_point 0 = .ok (.aload_n 0, 1) := by decide +kernel
theorem dX10_point_1 : decode cX10_point 1 = .ok (.iload_n 1, 1) := by decide +kernel
theorem dX10_point_2 : decode cX10_point 2 = .ok (.invokevirtual 204, 3) := by decide +kernel
theorem dX10_point_5 : decode cX10_point 5 = .ok (.iload_n 2, 1) := by decide +kernel
theorem dX10_point_6 : decode cX10_point 6 = .ok (.bipush 6, 2) := by decide +kernel
theorem dX10_point_8 : decode cX10_point 8 = .ok (.invokestatic 143, 3) := by decide +kernel
theorem dX10_point_11 : decode cX10_point 11 = .ok (.iload_n 2, 1) := by decide +kernel
theorem dX10_point_12 : decode cX10_point 12 = .ok (.tableswitch 117 0 5 #[40, 50, 60, 70, 80, 98], 40) := by decide +kernel
theorem dX10_point_52 : decode cX10_point 52 = .ok (.aload_n 0, 1) := by decide +kernel
theorem dX10_point_53 : decode cX10_point 53 = .ok (.getfield 70, 3) := by decide +kernel
theorem dX10_point_56 : decode cX10_point 56 = .ok (.getfield 207, 3) := by decide +kernel
theorem dX10_point_59 : decode cX10_point 59 = .ok (.iload_n 1, 1) := by decide +kernel
theorem dX10_point_60 : decode cX10_point 60 = .ok (.iaload, 1) := by decide +kernel
theorem dX10_point_61 : decode cX10_point 61 = .ok (.ireturn, 1) := by decide +kernel
theorem dX10_point_62 : decode cX10_point 62 = .ok (.aload_n 0, 1) := by decide +kernel
theorem dX10_point_63 : decode cX10_point 63 = .ok (.getfield 70, 3) := by decide +kernel
theorem dX10_point_66 : decode cX10_point 66 = .ok (.getfield 208, 3) := by decide +kernel
theorem dX10_point_69 : decode cX10_point 69 = .ok (.iload_n 1, 1) := by decide +kernel
theorem dX10_point_70 : decode cX10_point 70 = .ok (.iaload, 1) := by decide +kernel
theorem dX10_point_71 : decode cX10_point 71 = .ok (.ireturn, 1) := by decide +kernel
theorem dX10_point_72 : decode cX10_point 72 = .ok (.aload_n 0, 1) := by decide +kernel
theorem dX10_point_73 : decode cX10_point 73 = .ok (.getfield 70, 3) := by decide +kernel
theorem dX10_point_76 : decode cX10_point 76 = .ok (.getfield 209, 3) := by decide +kernel
theorem dX10_point_79 : decode cX10_point 79 = .ok (.iload_n 1, 1) := by decide +kernel
theorem dX10_point_80 : decode cX10_point 80 = .ok (.iaload, 1) := by decide +kernel
theorem dX10_point_81 : decode cX10_point 81 = .ok (.ireturn, 1) := by decide +kernel
theorem dX10_point_82 : decode cX10_point 82 = .ok (.aload_n 0, 1) := by decide +kernel
theorem dX10_point_83 : decode cX10_point 83 = .ok (.getfield 70, 3) := by decide +kernel
theorem dX10_point_86 : decode cX10_point 86 = .ok (.getfield 212, 3) := by decide +kernel
theorem dX10_point_89 : decode cX10_point 89 = .ok (.iload_n 1, 1) := by decide +kernel
theorem dX10_point_90 : decode cX10_point 90 = .ok (.iaload, 1) := by decide +kernel
theorem dX10_point_91 : decode cX10_point 91 = .ok (.ireturn, 1) := by decide +kernel
theorem dX10_point_92 : decode cX10_point 92 = .ok (.aload_n 0, 1) := by decide +kernel
theorem dX10_point_93 : decode cX10_point 93 = .ok (.getfield 56, 3) := by decide +kernel
theorem dX10_point_96 : decode cX10_point 96 = .ok (.getfield 195, 3) := by decide +kernel
theorem dX10_point_99 : decode cX10_point 99 = .ok (.aload_n 0, 1) := by decide +kernel
theorem dX10_point_100 : decode cX10_point 100 = .ok (.getfield 70, 3) := by decide +kernel
theorem dX10_point_103 : decode cX10_point 103 = .ok (.getfield 209, 3) := by decide +kernel
theorem dX10_point_106 : decode cX10_point 106 = .ok (.iload_n 1, 1) := by decide +kernel
theorem dX10_point_107 : decode cX10_point 107 = .ok (.iaload, 1) := by decide +kernel
theorem dX10_point_108 : decode cX10_point 108 = .ok (.iaload, 1) := by decide +kernel
theorem dX10_point_109 : decode cX10_point 109 = .ok (.ireturn, 1) := by decide +kernel
theorem dX10_point_110 : decode cX10_point 110 = .ok (.aload_n 0, 1) := by decide +kernel
theorem dX10_point_111 : decode cX10_point 111 = .ok (.getfield 70, 3) := by decide +kernel
theorem dX10_point_114 : decode cX10_point 114 = .ok (.getfield 215, 3) := by decide +kernel
theorem dX10_point_117 : decode cX10_point 117 = .ok (.iload_n 1, 1) := by decide +kernel
theorem dX10_point_118 : decode cX10_point 118 = .ok (.iaload, 1) := by decide +kernel
theorem dX10_point_119 : decode cX10_point 119 = .ok (.iconst 1, 1) := by decide +kernel
theorem dX10_point_120 : decode cX10_point 120 = .ok (.if_icmp .lt 7, 3) := by decide +kernel
theorem dX10_point_123 : decode cX10_point 123 = .ok (.iconst 1, 1) := by decide +kernel
theorem dX10_point_124 : decode cX10_point 124 = .ok (.goto 4, 3) := by decide +kernel
theorem dX10_point_127 : decode cX10_point 127 = .ok (.iconst 0, 1) := by decide +kernel
theorem dX10_point_128 : decode cX10_point 128 = .ok (.ireturn, 1) := by decide +kernel
theorem dX10_point_129 : decode cX10_point 129 = .ok (.aload_n 0, 1) := by decide +kernel
theorem dX10_point_130 : decode cX10_point 130 = .ok (.getfield 70, 3) := by decide +kernel
theorem dX10_point_133 : decode cX10_point 133 = .ok (.getfield 215, 3) := by decide +kernel
theorem dX10_point_136 : decode cX10_point 136 = .ok (.iload_n 1, 1) := by decide +kernel
theorem dX10_point_137 : decode cX10_point 137 = .ok (.iaload, 1) := by decide +kernel
theorem dX10_point_138 : decode cX10_point 138 = .ok (.iconst 2, 1) := by decide +kernel
theorem dX10_point_139 : decode cX10_point 139 = .ok (.if_icmp .ne 7, 3) := by decide +kernel
theorem dX10_point_142 : decode cX10_point 142 = .ok (.iconst 1, 1) := by decide +kernel
theorem dX10_point_143 : decode cX10_point 143 = .ok (.goto 4, 3) := by decide +kernel
theorem dX10_point_146 : decode cX10_point 146 = .ok (.iconst 0, 1) := by decide +kernel
theorem dX10_point_147 : decode cX10_point 147 = .ok (.ireturn, 1) := by decide +kernel
set_option maxRecDepth 20000 in
theorem ggX10_lightest_X10_requirePoint : GoodIn wsX10_lightest wsX10_requirePoint := goodIn_ca (goodIn_r _ [7, 8, 9, 1, 10, 11, 12, 13, 6, 14, 15, 16, 17, 18, 19, 20, 21, 22, 23, 24, 25, 26, 27, 28, 29, 30, 31, 32, 33, 34, 35, 36, 37, 38, 39, 40, 41, 42, 43, 44, 45, 46, 47, 48, 49, 50, 51, 52, 53, 54, 55, 56, 57, 58, 59, 60, 61, 62, 63, 64, 65, 66, 67, 68, 69, 70, 71, 72, 73, 74, 75, 76, 77, 78, 79, 80, 81, 82, 83, 84, 85, 86, 87, 88, 89, 90, 91, 92, 93, 94, 95, 96, 97, 98, 99, 100, 101, 102, 103, 104, 105, 106, 107, 108, 109, 110, 111, 112, 113, 114, 115, 116, 117, 118, 119, 120, 121, 122, 123, 124, 125, 126, 127, 128, 129, 130, 131, 132, 133, 134, 135, 136, 137, 138, 139, 140, 141, 142, 143, 144, 145, 146, 147, 148, 149, 150, 151, 152, 153, 154, 155, 156, 157, 158, 159, 160, 161, 162, 163, 164, 165, 166, 167, 168, 169, 170, 171, 172, 173, 174, 175, 176, 177, 178, 179, 180, 181, 182, 183, 184, 185, 186, 187, 188, 189, 190, 191, 192, 193] (by decide +kernel) (by decide +kernel)) (goodIn_sub (fun _ h => List.mem_cons_of_mem _ (List.mem_append_right _ h)) (by decide +kernel))
set_option maxRecDepth 20000 in
theorem gX10_lightest_X10_requirePoint : GoodIn wsX10_lightest (wsV RX10 204 RX10 yX10_requirePoint wsX10_requirePoint) := goodIn_app (goodIn_of _ (by decide +kernel)) ggX10_lightest_X10_requirePoint
theorem dX10_lightest_0 : decode cX10_lightest 0 = .ok (.aload_n 0, 1) := by decide +kernel
theorem dX10_lightest_1 : decode cX10_lightest 1 = .ok (.iload_n 1, 1) := by decide +kernel
theorem dX10_lightest_2 : decode cX10_lightest 2 = .ok (.invokevirtual 204, 3) := by decide +kernel
theorem dX10_lightest_5 : decode cX10_lightest 5 = .ok (.aload_n 0, 1) := by decide +kernel
theorem dX10_lightest_6 : decode cX10_lightest 6 = .ok (.getfield 70, 3) := by decide +kernel
theorem dX10_lightest_9 : decode cX10_lightest 9 = .ok (.getfield 218, 3) := by decide +kernel
theorem dX10_lightest_12 : decode cX10_lightest 12 = .ok (.iload_n 1, 1) := by decide +kernel
theorem dX10_lightest_13 : decode cX10_lightest 13 = .ok (.iaload, 1) := by decide +kernel
theorem dX10_lightest_14 : decode cX10_lightest 14 = .ok (.ireturn, 1) := by decide +kernel
set_option maxRecDepth 20000 in
theorem ggX10_pointOf_X10_requireSet : GoodIn wsX10_pointOf wsX10_requireSet := goodIn_ca (goodIn_r _ [9, 10, 11, 12, 13, 14, 15, 16, 17, 18, 147, 148, 149, 150, 151, 152, 153, 154, 155, 156, 157, 158, 159, 160, 161, 162, 163, 164, 165, 175, 176, 177, 178, 179, 180, 181, 182, 183, 184, 185] (by decide +kernel) (by decide +kernel)) (goodIn_sub (fun _ h => List.mem_cons_of_mem _ (List.mem_append_right _ h)) (by decide +kernel))
set_option maxRecDepth 20000 in
theorem gX10_pointOf_X10_requireSet : GoodIn wsX10_pointOf (wsV RX10 185 RX10 yX10_requireSet wsX10_requireSet) := goodIn_app (goodIn_of _ (by decide +kernel)) ggX10_pointOf_X10_requireSet
set_option maxRecDepth 20000 in
theorem ggX10_pointOf_X10_refreshFrontier : GoodIn wsX10_pointOf wsX10_refreshFrontier := goodIn_r _ [22, 23, 2, 12, 24, 25, 1, 26, 27, 28, 29, 30, 31, 32, 33, 34, 35, 36, 37, 38, 39, 40, 41, 42, 43, 44, 45, 46, 47, 48, 49, 50, 51, 52, 53, 54, 55, 56, 57, 58, 59, 60, 61, 62, 63, 64, 65, 66, 67, 68, 69, 70, 71, 72, 73, 74, 75, 76, 77, 78, 79, 80, 81, 82, 83, 84, 85, 86, 87, 88, 89, 90, 91, 92, 93, 94, 95, 96, 97, 98, 99, 100, 101, 102, 103, 104, 105, 106, 107, 108, 109, 110, 111, 112, 113, 114, 115, 116, 117, 118, 119, 120, 121, 122, 123, 124, 125, 126, 127, 128, 129, 130, 131, 132, 133, 134, 135, 136, 137, 138, 139, 140, 141, 142, 143, 144, 145, 147, 148, 149, 150, 151, 152, 153, 154, 155, 156, 157, 158, 159, 160, 161, 162, 163, 164, 165, 175, 176, 177, 178, 179, 180, 181, 182, 183, 184, 185, 166, 167, 168, 169, 170, 171, 172, 173, 174, 186, 187, 188, 189, 190, 191, 192, 193, 194, 195, 196, 197, 198, 199, 200] (by decide +kernel) (by decide +kernel)
set_option maxRecDepth 20000 in
theorem gX10_pointOf_X10_refreshFrontier : GoodIn wsX10_pointOf (wsV RX10 188 RX10 yX10_refreshFrontier wsX10_refreshFrontier) := goodIn_app (goodIn_of _ (by decide +kernel)) ggX10_pointOf_X10_refreshFrontier
set_option maxRecDepth 20000 in
theorem ggX10_pointOf_X2_pointWithPair : GoodIn wsX10_pointOf wsX2_pointWithPair := goodIn_r _ [122, 103, 106, 188, 189, 190, 191, 192, 193, 194, 195, 196, 197, 198, 199, 200] (by decide +kernel) (by decide +kernel)
set_option maxRecDepth 20000 in
theorem gX10_pointOf_X2_pointWithPair : GoodIn wsX10_pointOf (wsV RX10 221 RX2 yX2_pointWithPair wsX2_pointWithPair) := goodIn_app (goodIn_of _ (by decide +kernel)) ggX10_pointOf_X2_pointWithPair
theorem dX10_pointOf_0 : decode cX10_pointOf 0 = .ok (.aload_n 0, 1) := by decide +kernel
theorem dX10_pointOf_1 : decode cX10_pointOf 1 = .ok (.iload_n 1, 1) := by decide +kernel
theorem dX10_pointOf_2 : decode cX10_pointOf 2 = .ok (.invokevirtual 185, 3) := by decide +kernel
theorem dX10_pointOf_5 : decode cX10_pointOf 5 = .ok (.aload_n 0, 1) := by decide +kernel
theorem dX10_pointOf_6 : decode cX10_pointOf 6 = .ok (.invokevirtual 188, 3) := by decide +kernel
theorem dX10_pointOf_9 : decode cX10_pointOf 9 = .ok (.aload_n 0, 1) := by decide +kernel
theorem dX10_pointOf_10 : decode cX10_pointOf 10 = .ok (.getfield 70, 3) := by decide +kernel
theorem dX10_pointOf_13 : decode cX10_pointOf 13 = .ok (.aload_n 0, 1) := by decide +kernel
theorem dX10_pointOf_14 : decode cX10_pointOf 14 = .ok (.getfield 56, 3) := by decide +kernel
theorem dX10_pointOf_17 : decode cX10_pointOf 17 = .ok (.getfield 196, 3) := by decide +kernel
theorem dX10_pointOf_20 : decode cX10_pointOf 20 = .ok (.iload_n 1, 1) := by decide +kernel
theorem dX10_pointOf_21 : decode cX10_pointOf 21 = .ok (.iaload, 1) := by decide +kernel
theorem dX10_pointOf_22 : decode cX10_pointOf 22 = .ok (.aload_n 0, 1) := by decide +kernel
theorem dX10_pointOf_23 : decode cX10_pointOf 23 = .ok (.getfield 56, 3) := by decide +kernel
theorem dX10_pointOf_26 : decode cX10_pointOf 26 = .ok (.getfield 197, 3) := by decide +kernel
theorem dX10_pointOf_29 : decode cX10_pointOf 29 = .ok (.iload_n 1, 1) := by decide +kernel
theorem dX10_pointOf_30 : decode cX10_pointOf 30 = .ok (.iaload, 1) := by decide +kernel
theorem dX10_pointOf_31 : decode cX10_pointOf 31 = .ok (.invokevirtual 221, 3) := by decide +kernel
theorem dX10_pointOf_34 : decode cX10_pointOf 34 = .ok (.ireturn, 1) := by decide +kernel
set_option maxRecDepth 20000 in
theorem ggX10_beatenBy_X10_requireSet : GoodIn wsX10_beatenBy wsX10_requireSet := goodIn_ca (goodIn_r _ [10, 11, 12, 13, 14, 15, 16, 17, 18, 19, 151, 152, 153, 154, 155, 156, 157, 158, 159, 160, 161, 162, 163, 164, 165, 166, 167, 168, 169, 192, 193, 194, 195, 196, 197, 198, 199, 200, 201, 202] (by decide +kernel) (by decide +kernel)) (goodIn_sub (fun _ h => List.mem_cons_of_mem _ (List.mem_append_right _ h)) (by decide +kernel))
set_option maxRecDepth 20000 in
theorem gX10_beatenBy_X10_requireSet : GoodIn wsX10_beatenBy (wsV RX10 185 RX10 yX10_requireSet wsX10_requireSet) := goodIn_app (goodIn_of _ (by decide +kernel)) ggX10_beatenBy_X10_requireSet
set_option maxRecDepth 20000 in
theorem ggX10_beatenBy_X10_refreshFrontier : GoodIn wsX10_beatenBy wsX10_refreshFrontier := goodIn_r _ [23, 24, 3, 13, 25, 26, 1, 27, 28, 29, 30, 31, 32, 33, 34, 35, 36, 37, 38, 39, 40, 41, 42, 43, 44, 45, 46, 47, 48, 49, 50, 51, 52, 53, 54, 55, 56, 57, 58, 59, 60, 61, 62, 63, 64, 65, 66, 67, 68, 69, 70, 71, 72, 73, 74, 75, 76, 77, 78, 79, 80, 81, 82, 83, 84, 85, 86, 87, 88, 89, 90, 91, 92, 93, 94, 95, 96, 97, 98, 99, 100, 101, 102, 103, 104, 105, 106, 107, 108, 109, 110, 111, 112, 113, 114, 115, 116, 117, 118, 119, 120, 121, 122, 123, 124, 125, 126, 127, 128, 129, 130, 131, 132, 133, 134, 135, 136, 137, 138, 139, 140, 141, 142, 143, 144, 145, 146, 151, 152, 153, 154, 155, 156, 157, 158, 159, 160, 161, 162, 163, 164, 165, 166, 167, 168, 169, 192, 193, 194, 195, 196, 197, 198, 199, 200, 201, 202, 183, 184, 185, 186, 187, 188, 189, 190, 191, 203, 204, 170, 171, 172, 173, 174, 175, 176, 177, 178, 179, 180, 181, 182] (by decide +kernel) (by decide +kernel)
set_option maxRecDepth 20000 in
theorem gX10_beatenBy_X10_refreshFrontier : GoodIn wsX10_beatenBy (wsV RX10 188 RX10 yX10_refreshFrontier wsX10_refreshFrontier) := goodIn_app (goodIn_of _ (by decide +kernel)) ggX10_beatenBy_X10_refreshFrontier
set_option maxRecDepth 20000 in
theorem ggX10_beatenBy_X2_beats : GoodIn wsX10_beatenBy wsX2_beats := goodIn_r _ [150, 106, 107, 170, 171, 172, 173, 174, 175, 176, 177, 178, 179, 180, 181, 182] (by decide +kernel) (by decide +kernel)
set_option maxRecDepth 20000 in
theorem gX10_beatenBy_X2_beats : GoodIn wsX10_beatenBy (wsV RX10 224 RX2 yX2_beats wsX2_beats) := goodIn_app (goodIn_of _ (by decide +kernel)) ggX10_beatenBy_X2_beats
theorem dX10_beatenBy_0 : decode cX10_beatenBy 0 = .ok (.aload_n 0, 1) := by decide +kernel
theorem dX10_beatenBy_1 : decode cX10_beatenBy 1 = .ok (.iload_n 1, 1) := by decide +kernel
theorem dX10_beatenBy_2 : decode cX10_beatenBy 2 = .ok (.invokevirtual 185, 3) := by decide +kernel
theorem dX10_beatenBy_5 : decode cX10_beatenBy 5 = .ok (.aload_n 0, 1) := by decide +kernel
theorem dX10_beatenBy_6 : decode cX10_beatenBy 6 = .ok (.invokevirtual 188, 3) := by decide +kernel
theorem dX10_beatenBy_9 : decode cX10_beatenBy 9 = .ok (.iconst 0, 1) := by decide +kernel
theorem dX10_beatenBy_10 : decode cX10_beatenBy 10 = .ok (.istore_n 2, 1) := by decide +kernel
theorem dX10_beatenBy_11 : decode cX10_beatenBy 11 = .ok (.iload_n 2, 1) := by decide +kernel
theorem dX10_beatenBy_12 : decode cX10_beatenBy 12 = .ok (.aload_n 0, 1) := by decide +kernel
theorem dX10_beatenBy_13 : decode cX10_beatenBy 13 = .ok (.getfield 70, 3) := by decide +kernel
theorem dX10_beatenBy_16 : decode cX10_beatenBy 16 = .ok (.getfield 201, 3) := by decide +kernel
theorem dX10_beatenBy_19 : decode cX10_beatenBy 19 = .ok (.if_icmp .ge 40, 3) := by decide +kernel
theorem dX10_beatenBy_22 : decode cX10_beatenBy 22 = .ok (.aload_n 0, 1) := by decide +kernel
theorem dX10_beatenBy_23 : decode cX10_beatenBy 23 = .ok (.getfield 70, 3) := by decide +kernel
theorem dX10_beatenBy_26 : decode cX10_beatenBy 26 = .ok (.iload_n 2, 1) := by decide +kernel
theorem dX10_beatenBy_27 : decode cX10_beatenBy 27 = .ok (.aload_n 0, 1) := by decide +kernel
theorem dX10_beatenBy_28 : decode cX10_beatenBy 28 = .ok (.getfield 56, 3) := by decide +kernel
theorem dX10_beatenBy_31 : decode cX10_beatenBy 31 = .ok (.getfield 196, 3) := by decide +kernel
theorem dX10_beatenBy_34 : decode cX10_beatenBy 34 = .ok (.iload_n 1, 1) := by decide +kernel
theorem dX10_beatenBy_35 : decode cX10_beatenBy 35 = .ok (.iaload, 1) := by decide +kernel
theorem dX10_beatenBy_36 : decode cX10_beatenBy 36 = .ok (.aload_n 0, 1) := by decide +kernel
theorem dX10_beatenBy_37 : decode cX10_beatenBy 37 = .ok (.getfield 56, 3) := by decide +kernel
theorem dX10_beatenBy_40 : decode cX10_beatenBy 40 = .ok (.getfield 197, 3) := by decide +kernel
theorem dX10_beatenBy_43 : decode cX10_beatenBy 43 = .ok (.iload_n 1, 1) := by decide +kernel
theorem dX10_beatenBy_44 : decode cX10_beatenBy 44 = .ok (.iaload, 1) := by decide +kernel
theorem dX10_beatenBy_45 : decode cX10_beatenBy 45 = .ok (.invokevirtual 224, 3) := by decide +kernel
theorem dX10_beatenBy_48 : decode cX10_beatenBy 48 = .ok (.ifCond .eq 5, 3) := by decide +kernel
theorem dX10_beatenBy_51 : decode cX10_beatenBy 51 = .ok (.iload_n 2, 1) := by decide +kernel
theorem dX10_beatenBy_52 : decode cX10_beatenBy 52 = .ok (.ireturn, 1) := by decide +kernel
theorem dX10_beatenBy_53 : decode cX10_beatenBy 53 = .ok (.iinc 2 1, 3) := by decide +kernel
theorem dX10_beatenBy_56 : decode cX10_beatenBy 56 = .ok (.goto (-45), 3) := by decide +kernel
theorem dX10_beatenBy_59 : decode cX10_beatenBy 59 = .ok (.iconst (-1), 1) := by decide +kernel
theorem dX10_beatenBy_60 : decode cX10_beatenBy 60 = .ok (.ireturn, 1) := by decide +kernel
set_option maxRecDepth 20000 in
theorem ggX10_beating_X10_refreshFrontier : GoodIn wsX10_beating wsX10_refreshFrontier := goodIn_r _ [7, 8, 9, 10, 11, 12, 1, 13, 14, 15, 16, 17, 18, 19, 20, 21, 22, 23, 24, 25, 26, 27, 28, 29, 30, 31, 32, 33, 34, 35, 36, 37, 38, 39, 40, 41, 42, 43, 44, 45, 46, 47, 48, 49, 50, 51, 52, 53, 54, 55, 56, 57, 58, 59, 60, 61, 62, 63, 64, 65, 66, 67, 68, 69, 70, 71, 72, 73, 74, 75, 76, 77, 78, 79, 80, 81, 82, 83, 84, 85, 86, 87, 88, 89, 90, 91, 92, 93, 94, 95, 96, 97, 98, 99, 100, 101, 102, 103, 104, 105, 106, 107, 108, 109, 110, 111, 112, 113, 114, 115, 116, 117, 118, 119, 120, 121, 122, 123, 124, 125, 126, 127, 128, 129, 130, 131, 132, 137, 138, 139, 140, 141, 142, 143, 144, 145, 146, 147, 148, 149, 150, 151, 152, 153, 154, 155, 169, 170, 171, 172, 173, 174, 175, 176, 177, 178, 179, 180, 181, 182, 183, 184, 185, 186, 187, 188, 189, 190, 156, 157, 158, 159, 160, 161, 162, 163, 164, 165, 166, 167, 168] (by decide +kernel) (by decide +kernel)
set_option maxRecDepth 20000 in
theorem gX10_beating_X10_refreshFrontier : GoodIn wsX10_beating (wsV RX10 188 RX10 yX10_refreshFrontier wsX10_refreshFrontier) := goodIn_app (goodIn_of _ (by decide +kernel)) ggX10_beating_X10_refreshFrontier
set_option maxRecDepth 20000 in
theorem ggX10_beating_X2_beats : GoodIn wsX10_beating wsX2_beats := goodIn_r _ [136, 92, 93, 156, 157, 158, 159, 160, 161, 162, 163, 164, 165, 166, 167, 168] (by decide +kernel) (by decide +kernel)
set_option maxRecDepth 20000 in
theorem gX10_beating_X2_beats : GoodIn wsX10_beating (wsV RX10 224 RX2 yX2_beats wsX2_beats) := goodIn_app (goodIn_of _ (by decide +kernel)) ggX10_beating_X2_beats
theorem dX10_beating_0 : decode cX10_beating 0 = .ok (.aload_n 0, 1) := by decide +kernel
theorem dX10_beating_1 : decode cX10_beating 1 = .ok (.invokevirtual 188, 3) := by decide +kernel
theorem dX10_beating_4 : decode cX10_beating 4 = .ok (.iconst 0, 1) := by decide +kernel
theorem dX10_beating_5 : decode cX10_beating 5 = .ok (.istore_n 3, 1) := by decide +kernel
theorem dX10_beating_6 : decode cX10_beating 6 = .ok (.iconst 0, 1) := by decide +kernel
theorem dX10_beating_7 : decode cX10_beating 7 = .ok (.istore 4, 2) := by decide +kernel
theorem dX10_beating_9 : decode cX10_beating 9 = .ok (.iload 4, 2) := by decide +kernel
theorem dX10_beating_11 : decode cX10_beating 11 = .ok (.aload_n 0, 1) := by decide +kernel
theorem dX10_beating_12 : decode cX10_beating 12 = .ok (.getfield 70, 3) := by decide +kernel
theorem dX10_beating_15 : decode cX10_beating 15 = .ok (.getfield 201, 3) := by decide +kernel
theorem dX10_beating_18 : decode cX10_beating 18 = .ok (.if_icmp .ge 26, 3) := by decide +kernel
theorem dX10_beating_21 : decode cX10_beating 21 = .ok (.aload_n 0, 1) := by decide +kernel
theorem dX10_beating_22 : decode cX10_beating 22 = .ok (.getfield 70, 3) := by decide +kernel
theorem dX10_beating_25 : decode cX10_beating 25 = .ok (.iload 4, 2) := by decide +kernel
theorem dX10_beating_27 : decode cX10_beating 27 = .ok (.iload_n 1, 1) := by decide +kernel
theorem dX10_beating_28 : decode cX10_beating 28 = .ok (.iload_n 2, 1) := by decide +kernel
theorem dX10_beating_29 : decode cX10_beating 29 = .ok (.invokevirtual 224, 3) := by decide +kernel
theorem dX10_beating_32 : decode cX10_beating 32 = .ok (.ifCond .eq 6, 3) := by decide +kernel
theorem dX10_beating_35 : decode cX10_beating 35 = .ok (.iinc 3 1, 3) := by decide +kernel
theorem dX10_beating_38 : decode cX10_beating 38 = .ok (.iinc 4 1, 3) := by decide +kernel
theorem dX10_beating_41 : decode cX10_beating 41 = .ok (.goto (-32), 3) := by decide +kernel
theorem dX10_beating_44 : decode cX10_beating 44 = .ok (.iload_n 3, 1) := by decide +kernel
theorem dX10_beating_45 : decode cX10_beating 45 = .ok (.ireturn, 1) := by decide +kernel
set_option maxRecDepth 20000 in
theorem ggX10_joyFor_X10_refreshFrontier : GoodIn wsX10_joyFor wsX10_refreshFrontier := goodIn_r _ [9, 10, 11, 12, 13, 14, 1, 15, 16, 17, 18, 19, 20, 21, 22, 23, 24, 25, 26, 27, 28, 29, 30, 31, 32, 33, 34, 35, 36, 37, 38, 39, 40, 41, 42, 43, 44, 45, 46, 47, 48, 49, 50, 51, 52, 53, 54, 55, 56, 57, 58, 59, 60, 61, 62, 63, 64, 65, 66, 67, 68, 69, 70, 71, 72, 73, 74, 75, 76, 77, 78, 79, 80, 81, 82, 83, 84, 85, 86, 87, 88, 89, 90, 91, 92, 93, 94, 95, 96, 97, 98, 99, 100, 101, 102, 103, 104, 105, 106, 107, 108, 109, 110, 111, 112, 113, 114, 115, 116, 117, 118, 119, 120, 121, 122, 123, 124, 125, 126, 127, 128, 129, 130, 131, 132, 133, 134, 135, 136, 137, 138, 139, 140, 141, 142, 143, 144, 145, 146, 147, 148, 149, 150, 151, 152, 153, 167, 168, 169, 170, 171, 172, 173, 174, 175, 176, 177, 178, 179, 180, 181, 182, 183, 184, 185, 186, 187, 188, 154, 155, 156, 157, 158, 159, 160, 161, 162, 163, 164, 165, 166] (by decide +kernel) (by decide +kernel)
set_option maxRecDepth 20000 in
theorem gX10_joyFor_X10_refreshFrontier : GoodIn wsX10_joyFor (wsV RX10 188 RX10 yX10_refreshFrontier wsX10_refreshFrontier) := goodIn_app (goodIn_of _ (by decide +kernel)) ggX10_joyFor_X10_refreshFrontier
theorem dX10_joyFor_0 : decode cX10_joyFor 0 = .ok (.aload_n 0, 1) := by decide +kernel
theorem dX10_joyFor_1 : decode cX10_joyFor 1 = .ok (.invokevirtual 188, 3) := by decide +kernel
theorem dX10_joyFor_4 : decode cX10_joyFor 4 = .ok (.iconst 0, 1) := by decide +kernel
theorem dX10_joyFor_5 : decode cX10_joyFor 5 = .ok (.istore_n 2, 1) := by decide +kernel
theorem dX10_joyFor_6 : decode cX10_joyFor 6 = .ok (.iload_n 2, 1) := by decide +kernel
theorem dX10_joyFor_7 : decode cX10_joyFor 7 = .ok (.aload_n 0, 1) := by decide +kernel
theorem dX10_joyFor_8 : decode cX10_joyFor 8 = .ok (.getfield 70, 3) := by decide +kernel
theorem dX10_joyFor_11 : decode cX10_joyFor 11 = .ok (.getfield 201, 3) := by decide +kernel
theorem dX10_joyFor_14 : decode cX10_joyFor 14 = .ok (.if_icmp .ge 32, 3) := by decide +kernel
theorem dX10_joyFor_17 : decode cX10_joyFor 17 = .ok (.aload_n 0, 1) := by decide +kernel
theorem dX10_joyFor_18 : decode cX10_joyFor 18 = .ok (.getfield 70, 3) := by decide +kernel
theorem dX10_joyFor_21 : decode cX10_joyFor 21 = .ok (.getfield 207, 3) := by decide +kernel
theorem dX10_joyFor_24 : decode cX10_joyFor 24 = .ok (.iload_n 2, 1) := by decide +kernel
theorem dX10_joyFor_25 : decode cX10_joyFor 25 = .ok (.iaload, 1) := by decide +kernel
theorem dX10_joyFor_26 : decode cX10_joyFor 26 = .ok (.iload_n 1, 1) := by decide +kernel
theorem dX10_joyFor_27 : decode cX10_joyFor 27 = .ok (.if_icmp .lt 13, 3) := by decide +kernel
theorem dX10_joyFor_30 : decode cX10_joyFor 30 = .ok (.aload_n 0, 1) := by decide +kernel
theorem dX10_joyFor_31 : decode cX10_joyFor 31 = .ok (.getfield 70, 3) := by decide +kernel
theorem dX10_joyFor_34 : decode cX10_joyFor 34 = .ok (.getfield 208, 3) := by decide +kernel
theorem dX10_joyFor_37 : decode cX10_joyFor 37 = .ok (.iload_n 2, 1) := by decide +kernel
theorem dX10_joyFor_38 : decode cX10_joyFor 38 = .ok (.iaload, 1) := by decide +kernel
theorem dX10_joyFor_39 : decode cX10_joyFor 39 = .ok (.ireturn, 1) := by decide +kernel
theorem dX10_joyFor_40 : decode cX10_joyFor 40 = .ok (.iinc 2 1, 3) := by decide +kernel
theorem dX10_joyFor_43 : decode cX10_joyFor 43 = .ok (.goto (-37), 3) := by decide +kernel
theorem dX10_joyFor_46 : decode cX10_joyFor 46 = .ok (.iconst (-1), 1) := by decide +kernel
theorem dX10_joyFor_47 : decode cX10_joyFor 47 = .ok (.ireturn, 1) := by decide +kernel
set_option maxRecDepth 20000 in
theorem ggX10_gainFor_X10_refreshFrontier : GoodIn wsX10_gainFor wsX10_refreshFrontier := goodIn_r _ [9, 10, 11, 12, 13, 14, 1, 15, 16, 17, 18, 19, 20, 21, 22, 23, 24, 25, 26, 27, 28, 29, 30, 31, 32, 33, 34, 35, 36, 37, 38, 39, 40, 41, 42, 43, 44, 45, 46, 47, 48, 49, 50, 51, 52, 53, 54, 55, 56, 57, 58, 59, 60, 61, 62, 63, 64, 65, 66, 67, 68, 69, 70, 71, 72, 73, 74, 75, 76, 77, 78, 79, 80, 81, 82, 83, 84, 85, 86, 87, 88, 89, 90, 91, 92, 93, 94, 95, 96, 97, 98, 99, 100, 101, 102, 103, 104, 105, 106, 107, 108, 109, 110, 111, 112, 113, 114, 115, 116, 117, 118, 119, 120, 121, 122, 123, 124, 125, 126, 127, 128, 129, 130, 131, 132, 133, 134, 135, 136, 137, 138, 139, 140, 141, 142, 143, 144, 145, 146, 147, 148, 149, 150, 151, 152, 153, 167, 168, 169, 170, 171, 172, 173, 174, 175, 176, 177, 178, 179, 180, 181, 182, 183, 184, 185, 186, 187, 188, 154, 155, 156, 157, 158, 159, 160, 161, 162, 163, 164, 165, 166] (by decide +kernel) (by decide +kernel)
set_option maxRecDepth 20000 in
theorem gX10_gainFor_X10_refreshFrontier : GoodIn wsX10_gainFor (wsV RX10 188 RX10 yX10_refreshFrontier wsX10_refreshFrontier) := goodIn_app (goodIn_of _ (by decide +kernel)) ggX10_gainFor_X10_refreshFrontier
theorem dX10_gainFor_0 : decode cX10_gainFor 0 = .ok (.aload_n 0, 1) := by decide +kernel
theorem dX10_gainFor_1 : decode cX10_gainFor 1 = .ok (.invokevirtual 188, 3) := by decide +kernel
theorem dX10_gainFor_4 : decode cX10_gainFor 4 = .ok (.aload_n 0, 1) := by decide +kernel
theorem dX10_gainFor_5 : decode cX10_gainFor 5 = .ok (.getfield 70, 3) := by decide +kernel
theorem dX10_gainFor_8 : decode cX10_gainFor 8 = .ok (.getfield 201, 3) := by decide +kernel
theorem dX10_gainFor_11 : decode cX10_gainFor 11 = .ok (.iconst 1, 1) := by decide +kernel
theorem dX10_gainFor_12 : decode cX10_gainFor 12 = .ok (.isub, 1) := by decide +kernel
theorem dX10_gainFor_13 : decode cX10_gainFor 13 = .ok (.istore_n 2, 1) := by decide +kernel
theorem dX10_gainFor_14 : decode cX10_gainFor 14 = .ok (.iload_n 2, 1) := by decide +kernel
theorem dX10_gainFor_15 : decode cX10_gainFor 15 = .ok (.ifCond .lt 32, 3) := by decide +kernel
theorem dX10_gainFor_18 : decode cX10_gainFor 18 = .ok (.aload_n 0, 1) := by decide +kernel
theorem dX10_gainFor_19 : decode cX10_gainFor 19 = .ok (.getfield 70, 3) := by decide +kernel
theorem dX10_gainFor_22 : decode cX10_gainFor 22 = .ok (.getfield 208, 3) := by decide +kernel
theorem dX10_gainFor_25 : decode cX10_gainFor 25 = .ok (.iload_n 2, 1) := by decide +kernel
theorem dX10_gainFor_26 : decode cX10_gainFor 26 = .ok (.iaload, 1) := by decide +kernel
theorem dX10_gainFor_27 : decode cX10_gainFor 27 = .ok (.iload_n 1, 1) := by decide +kernel
theorem dX10_gainFor_28 : decode cX10_gainFor 28 = .ok (.if_icmp .lt 13, 3) := by decide +kernel
theorem dX10_gainFor_31 : decode cX10_gainFor 31 = .ok (.aload_n 0, 1) := by decide +kernel
theorem dX10_gainFor_32 : decode cX10_gainFor 32 = .ok (.getfield 70, 3) := by decide +kernel
theorem dX10_gainFor_35 : decode cX10_gainFor 35 = .ok (.getfield 207, 3) := by decide +kernel
theorem dX10_gainFor_38 : decode cX10_gainFor 38 = .ok (.iload_n 2, 1) := by decide +kernel
theorem dX10_gainFor_39 : decode cX10_gainFor 39 = .ok (.iaload, 1) := by decide +kernel
theorem dX10_gainFor_40 : decode cX10_gainFor 40 = .ok (.ireturn, 1) := by decide +kernel
theorem dX10_gainFor_41 : decode cX10_gainFor 41 = .ok (.iinc 2 (-1), 3) := by decide +kernel
theorem dX10_gainFor_44 : decode cX10_gainFor 44 = .ok (.goto (-30), 3) := by decide +kernel
theorem dX10_gainFor_47 : decode cX10_gainFor 47 = .ok (.iconst (-1), 1) := by decide +kernel
theorem dX10_gainFor_48 : decode cX10_gainFor 48 = .ok (.ireturn, 1) := by decide +kernel
set_option maxRecDepth 20000 in
theorem ggX10_best_X10_requireWeights : GoodIn wsX10_best wsX10_requireWeights := goodIn_ca (goodIn_r _ [5, 6, 7, 8, 9, 4, 10] (by decide +kernel) (by decide +kernel)) (goodIn_sub (fun _ h => List.mem_cons_of_mem _ (List.mem_append_right _ h)) (by decide +kernel))
set_option maxRecDepth 20000 in
theorem gX10_best_X10_requireWeights : GoodIn wsX10_best (va_wsS RX10 228 yX10_requireWeights wsX10_requireWeights) := goodIn_app (goodIn_of _ (by decide +kernel)) ggX10_best_X10_requireWeights
set_option maxRecDepth 20000 in
theorem ggX10_best_X10_refreshFrontier : GoodIn wsX10_best wsX10_refreshFrontier := goodIn_r _ [14, 15, 16, 17, 18, 19, 1, 20, 21, 22, 23, 24, 25, 26, 27, 28, 29, 30, 31, 32, 33, 34, 35, 36, 37, 38, 39, 40, 41, 42, 43, 44, 45, 46, 47, 48, 49, 50, 51, 52, 53, 54, 55, 56, 57, 58, 59, 60, 61, 62, 63, 64, 65, 66, 67, 68, 69, 70, 71, 72, 73, 74, 75, 76, 77, 78, 79, 80, 81, 82, 83, 84, 85, 86, 87, 88, 89, 90, 91, 92, 93, 94, 95, 96, 97, 98, 99, 100, 101, 102, 103, 104, 105, 106, 107, 108, 109, 110, 111, 112, 113, 114, 115, 116, 117, 118, 119, 120, 121, 122, 123, 124, 125, 126, 127, 128, 129, 130, 131, 132, 133, 134, 135, 136, 137, 138, 139, 148, 149, 150, 151, 152, 153, 154, 155, 156, 157, 158, 159, 160, 161, 162, 163, 164, 165, 166, 167, 168, 169, 170, 171, 172, 173, 174, 175, 176, 177, 178, 179, 180, 181, 182, 183, 184, 185, 186, 187, 188, 189, 190, 191, 192, 193, 194, 195, 196, 197, 198, 199, 200, 201] (by decide +kernel) (by decide +kernel)
set_option maxRecDepth 20000 in
theorem gX10_best_X10_refreshFrontier : GoodIn wsX10_best (wsV RX10 188 RX10 yX10_refreshFrontier wsX10_refreshFrontier) := goodIn_app (goodIn_of _ (by decide +kernel)) ggX10_best_X10_refreshFrontier
set_option maxRecDepth 20000 in
theorem ggX10_best_X2_greatestBy : GoodIn wsX10_best wsX2_greatestBy := goodIn_r _ [143, 96, 144, 145, 146, 83, 147, 99, 100, 189, 190, 191, 192, 193, 194, 195, 196, 197, 198, 199, 200, 201] (by decide +kernel) (by decide +kernel)
set_option maxRecDepth 20000 in
theorem gX10_best_X2_greatestBy : GoodIn wsX10_best (wsV RX10 231 RX2 yX2_greatestBy wsX2_greatestBy) := goodIn_app (goodIn_of _ (by decide +kernel)) ggX10_best_X2_greatestBy
theorem dX10_best_0 : decode cX10_best 0 = .ok (.iload_n 1, 1) := by decide +kernel
theorem dX10_best_1 : decode cX10_best 1 = .ok (.iload_n 2, 1) := by decide +kernel
theorem dX10_best_2 : decode cX10_best 2 = .ok (.invokestatic 228, 3) := by decide +kernel
theorem dX10_best_5 : decode cX10_best 5 = .ok (.aload_n 0, 1) := by decide +kernel
theorem dX10_best_6 : decode cX10_best 6 = .ok (.invokevirtual 188, 3) := by decide +kernel
theorem dX10_best_9 : decode cX10_best 9 = .ok (.aload_n 0, 1) := by decide +kernel
theorem dX10_best_10 : decode cX10_best 10 = .ok (.getfield 70, 3) := by decide +kernel
theorem dX10_best_13 : decode cX10_best 13 = .ok (.iload_n 1, 1) := by decide +kernel
theorem dX10_best_14 : decode cX10_best 14 = .ok (.iload_n 2, 1) := by decide +kernel
theorem dX10_best_15 : decode cX10_best 15 = .ok (.invokevirtual 231, 3) := by decide +kernel
theorem dX10_best_18 : decode cX10_best 18 = .ok (.ireturn, 1) := by decide +kernel
set_option maxRecDepth 20000 in
theorem ggX10_nearest_X10_requireWeights : GoodIn wsX10_nearest wsX10_requireWeights := goodIn_ca (goodIn_r _ [5, 6, 7, 8, 9, 4, 10] (by decide +kernel) (by decide +kernel)) (goodIn_sub (fun _ h => List.mem_cons_of_mem _ (List.mem_append_right _ h)) (by decide +kernel))
set_option maxRecDepth 20000 in
theorem gX10_nearest_X10_requireWeights : GoodIn wsX10_nearest (va_wsS RX10 228 yX10_requireWeights wsX10_requireWeights) := goodIn_app (goodIn_of _ (by decide +kernel)) ggX10_nearest_X10_requireWeights
set_option maxRecDepth 20000 in
theorem ggX10_nearest_X10_refreshFrontier : GoodIn wsX10_nearest wsX10_refreshFrontier := goodIn_r _ [14, 15, 16, 17, 18, 19, 1, 20, 21, 22, 23, 24, 25, 26, 27, 28, 29, 30, 31, 32, 33, 34, 35, 36, 37, 38, 39, 40, 41, 42, 43, 44, 45, 46, 47, 48, 49, 50, 51, 52, 53, 54, 55, 56, 57, 58, 59, 60, 61, 62, 63, 64, 65, 66, 67, 68, 69, 70, 71, 72, 73, 74, 75, 76, 77, 78, 79, 80, 81, 82, 83, 84, 85, 86, 87, 88, 89, 90, 91, 92, 93, 94, 95, 96, 97, 98, 99, 100, 101, 102, 103, 104, 105, 106, 107, 108, 109, 110, 111, 112, 113, 114, 115, 116, 117, 118, 119, 120, 121, 122, 123, 124, 125, 126, 127, 128, 129, 130, 131, 132, 133, 134, 135, 136, 137, 138, 139, 148, 149, 150, 151, 152, 153, 154, 155, 156, 157, 158, 159, 160, 161, 162, 163, 164, 165, 166, 167, 168, 169, 170, 171, 172, 173, 174, 175, 176, 177, 178, 179, 180, 181, 182, 183, 184, 185, 186, 187, 188, 189, 190, 191, 192, 193, 194, 195, 196, 197, 198, 199, 200, 201] (by decide +kernel) (by decide +kernel)
set_option maxRecDepth 20000 in
theorem gX10_nearest_X10_refreshFrontier : GoodIn wsX10_nearest (wsV RX10 188 RX10 yX10_refreshFrontier wsX10_refreshFrontier) := goodIn_app (goodIn_of _ (by decide +kernel)) ggX10_nearest_X10_refreshFrontier
set_option maxRecDepth 20000 in
theorem ggX10_nearest_X2_leastLack : GoodIn wsX10_nearest wsX2_leastLack := goodIn_r _ [143, 96, 144, 145, 146, 147, 128, 129, 130, 83, 131, 99, 132, 133, 134, 135, 100, 189, 190, 191, 192, 193, 194, 195, 196, 197, 198, 199, 200, 201] (by decide +kernel) (by decide +kernel)
set_option maxRecDepth 20000 in
theorem gX10_nearest_X2_leastLack : GoodIn wsX10_nearest (wsV RX10 234 RX2 yX2_leastLack wsX2_leastLack) := goodIn_app (goodIn_of _ (by decide +kernel)) ggX10_nearest_X2_leastLack
theorem dX10_nearest_0 : decode cX10_nearest 0 = .ok (.iload_n 1, 1) := by decide +kernel
theorem dX10_nearest_1 : decode cX10_nearest 1 = .ok (.iload_n 2, 1) := by decide +kernel
theorem dX10_nearest_2 : decode cX10_nearest 2 = .ok (.invokestatic 228, 3) := by decide +kernel
theorem dX10_nearest_5 : decode cX10_nearest 5 = .ok (.aload_n 0, 1) := by decide +kernel
theorem dX10_nearest_6 : decode cX10_nearest 6 = .ok (.invokevirtual 188, 3) := by decide +kernel
theorem dX10_nearest_9 : decode cX10_nearest 9 = .ok (.aload_n 0, 1) := by decide +kernel
theorem dX10_nearest_10 : decode cX10_nearest 10 = .ok (.getfield 70, 3) := by decide +kernel
theorem dX10_nearest_13 : decode cX10_nearest 13 = .ok (.iload_n 1, 1) := by decide +kernel
theorem dX10_nearest_14 : decode cX10_nearest 14 = .ok (.iload_n 2, 1) := by decide +kernel
theorem dX10_nearest_15 : decode cX10_nearest 15 = .ok (.invokevirtual 234, 3) := by decide +kernel
theorem dX10_nearest_18 : decode cX10_nearest 18 = .ok (.ireturn, 1) := by decide +kernel
set_option maxRecDepth 20000 in
theorem ggX10_vertices_X10_refreshFrontier : GoodIn wsX10_vertices wsX10_refreshFrontier := goodIn_r _ [7, 8, 9, 10, 11, 12, 1, 13, 14, 15, 16, 17, 18, 19, 20, 21, 22, 23, 24, 25, 26, 27, 28, 29, 30, 31, 32, 33, 34, 35, 36, 37, 38, 39, 40, 41, 42, 43, 44, 45, 46, 47, 48, 49, 50, 51, 52, 53, 54, 55, 56, 57, 58, 59, 60, 61, 62, 63, 64, 65, 66, 67, 68, 69, 70, 71, 72, 73, 74, 75, 76, 77, 78, 79, 80, 81, 82, 83, 84, 85, 86, 87, 88, 89, 90, 91, 92, 93, 94, 95, 96, 97, 98, 99, 100, 101, 102, 103, 104, 105, 106, 107, 108, 109, 110, 111, 112, 113, 114, 115, 116, 117, 118, 119, 120, 121, 122, 123, 124, 125, 126, 127, 128, 129, 130, 131, 132, 133, 134, 135, 136, 137, 138, 139, 140, 141, 142, 143, 144, 145, 146, 147, 148, 149, 150, 151, 165, 166, 167, 168, 169, 170, 171, 172, 173, 174, 175, 176, 177, 178, 179, 180, 181, 182, 183, 184, 185, 186, 152, 153, 154, 155, 156, 157, 158, 159, 160, 161, 162, 163, 164] (by decide +kernel) (by decide +kernel)
set_option maxRecDepth 20000 in
theorem gX10_vertices_X10_refreshFrontier : GoodIn wsX10_vertices (wsV RX10 188 RX10 yX10_refreshFrontier wsX10_refreshFrontier) := goodIn_app (goodIn_of _ (by decide +kernel)) ggX10_vertices_X10_refreshFrontier
theorem dX10_vertices_0 : decode cX10_vertices 0 = .ok (.aload_n 0, 1) := by decide +kernel
theorem dX10_vertices_1 : decode cX10_vertices 1 = .ok (.invokevirtual 188, 3) := by decide +kernel
theorem dX10_vertices_4 : decode cX10_vertices 4 = .ok (.aload_n 0, 1) := by decide +kernel
theorem dX10_vertices_5 : decode cX10_vertices 5 = .ok (.getfield 70, 3) := by decide +kernel
theorem dX10_vertices_8 : decode cX10_vertices 8 = .ok (.getfield 237, 3) := by decide +kernel
theorem dX10_vertices_11 : decode cX10_vertices 11 = .ok (.ireturn, 1) := by decide +kernel
set_option maxRecDepth 20000 in
theorem ggX10_vertex_X10_refreshFrontier : GoodIn wsX10_vertex wsX10_refreshFrontier := goodIn_r _ [10, 11, 12, 13, 14, 15, 3, 16, 17, 18, 19, 20, 21, 22, 23, 24, 25, 26, 27, 28, 29, 30, 31, 32, 33, 34, 35, 36, 37, 38, 39, 40, 41, 42, 43, 44, 45, 46, 47, 48, 49, 50, 51, 52, 53, 54, 55, 56, 57, 58, 59, 60, 61, 62, 63, 64, 65, 66, 67, 68, 69, 70, 71, 72, 73, 74, 75, 76, 77, 78, 79, 80, 81, 82, 83, 84, 85, 86, 87, 88, 89, 90, 91, 92, 93, 94, 95, 96, 97, 98, 99, 100, 101, 102, 103, 104, 105, 106, 107, 108, 109, 110, 111, 112, 113, 114, 115, 116, 117, 118, 119, 120, 121, 122, 123, 124, 125, 126, 127, 128, 129, 130, 131, 132, 133, 134, 135, 136, 137, 138, 139, 140, 141, 142, 143, 144, 145, 146, 147, 148, 149, 150, 151, 152, 153, 154, 168, 169, 170, 171, 172, 173, 174, 175, 176, 177, 178, 179, 180, 181, 182, 183, 184, 185, 186, 187, 188, 189, 155, 156, 157, 158, 159, 160, 161, 162, 163, 164, 165, 166, 167] (by decide +kernel) (by decide +kernel)
set_option maxRecDepth 20000 in
theorem gX10_vertex_X10_refreshFrontier : GoodIn wsX10_vertex (wsV RX10 188 RX10 yX10_refreshFrontier wsX10_refreshFrontier) := goodIn_app (goodIn_of _ (by decide +kernel)) ggX10_vertex_X10_refreshFrontier
theorem dX10_vertex_0 : decode cX10_vertex 0 = .ok (.aload_n 0, 1) := by decide +kernel
theorem dX10_vertex_1 : decode cX10_vertex 1 = .ok (.invokevirtual 188, 3) := by decide +kernel
theorem dX10_vertex_4 : decode cX10_vertex 4 = .ok (.iload_n 1, 1) := by decide +kernel
theorem dX10_vertex_5 : decode cX10_vertex 5 = .ok (.ifCond .lt 14, 3) := by decide +kernel
theorem dX10_vertex_8 : decode cX10_vertex 8 = .ok (.iload_n 1, 1) := by decide +kernel
theorem dX10_vertex_9 : decode cX10_vertex 9 = .ok (.aload_n 0, 1) := by decide +kernel
theorem dX10_vertex_10 : decode cX10_vertex 10 = .ok (.getfield 70, 3) := by decide +kernel
theorem dX10_vertex_13 : decode cX10_vertex 13 = .ok (.getfield 237, 3) := by decide +kernel
theorem dX10_vertex_16 : decode cX10_vertex 16 = .ok (.if_icmp .lt 13, 3) := by decide +kernel
theorem dX10_vertex_19 : decode cX10_vertex 19 = .ok (.new 240, 3) := by decide +kernel
theorem dX10_vertex_22 : decode cX10_vertex 22 = .ok (.dup, 1) := by decide +kernel
theorem dX10_vertex_23 : decode cX10_vertex 23 = .ok (.ldc 242, 2) := by decide +kernel
theorem dX10_vertex_25 : decode cX10_vertex 25 = .ok (.invokespecial 244, 3) := by decide +kernel
theorem dX10_vertex_28 : decode cX10_vertex 28 = .ok (.athrow, 1) := by decide +kernel
theorem dX10_vertex_29 : decode cX10_vertex 29 = .ok (.aload_n 0, 1) := by decide +kernel
theorem dX10_vertex_30 : decode cX10_vertex 30 = .ok (.getfield 70, 3) := by decide +kernel
theorem dX10_vertex_33 : decode cX10_vertex 33 = .ok (.getfield 245, 3) := by decide +kernel
theorem dX10_vertex_36 : decode cX10_vertex 36 = .ok (.iload_n 1, 1) := by decide +kernel
theorem dX10_vertex_37 : decode cX10_vertex 37 = .ok (.iaload, 1) := by decide +kernel
theorem dX10_vertex_38 : decode cX10_vertex 38 = .ok (.ireturn, 1) := by decide +kernel
set_option maxRecDepth 20000 in
theorem ggX10_supported_X10_refreshFrontier : GoodIn wsX10_supported wsX10_refreshFrontier := goodIn_r _ [7, 8, 9, 10, 11, 12, 1, 13, 14, 15, 16, 17, 18, 19, 20, 21, 22, 23, 24, 25, 26, 27, 28, 29, 30, 31, 32, 33, 34, 35, 36, 37, 38, 39, 40, 41, 42, 43, 44, 45, 46, 47, 48, 49, 50, 51, 52, 53, 54, 55, 56, 57, 58, 59, 60, 61, 62, 63, 64, 65, 66, 67, 68, 69, 70, 71, 72, 73, 74, 75, 76, 77, 78, 79, 80, 81, 82, 83, 84, 85, 86, 87, 88, 89, 90, 91, 92, 93, 94, 95, 96, 97, 98, 99, 100, 101, 102, 103, 104, 105, 106, 107, 108, 109, 110, 111, 112, 113, 114, 115, 116, 117, 118, 119, 120, 121, 122, 123, 124, 125, 126, 127, 128, 129, 130, 131, 132, 137, 138, 139, 140, 141, 142, 143, 144, 145, 146, 147, 148, 149, 150, 151, 152, 153, 154, 155, 169, 170, 171, 172, 173, 174, 175, 176, 177, 178, 179, 180, 181, 182, 183, 184, 185, 186, 187, 188, 189, 190, 156, 157, 158, 159, 160, 161, 162, 163, 164, 165, 166, 167, 168] (by decide +kernel) (by decide +kernel)
set_option maxRecDepth 20000 in
theorem gX10_supported_X10_refreshFrontier : GoodIn wsX10_supported (wsV RX10 188 RX10 yX10_refreshFrontier wsX10_refreshFrontier) := goodIn_app (goodIn_of _ (by decide +kernel)) ggX10_supported_X10_refreshFrontier
set_option maxRecDepth 20000 in
theorem ggX10_supported_X2_supportedBetween : GoodIn wsX10_supported wsX2_supportedBetween := goodIn_r _ [136, 89, 97, 156, 157, 158, 159, 160, 161, 162, 163, 164, 165, 166, 167, 168] (by decide +kernel) (by decide +kernel)
set_option maxRecDepth 20000 in
theorem gX10_supported_X2_supportedBetween : GoodIn wsX10_supported (wsV RX10 248 RX2 yX2_supportedBetween wsX2_supportedBetween) := goodIn_app (goodIn_of _ (by decide +kernel)) ggX10_supported_X2_supportedBetween
theorem dX10_supported_0 : decode cX10_supported 0 = .ok (.aload_n 0, 1) := by decide +kernel
theorem dX10_supported_1 : decode cX10_supported 1 = .ok (.invokevirtual 188, 3) := by decide +kernel
theorem dX10_supported_4 : decode cX10_supported 4 = .ok (.aload_n 0, 1) := by decide +kernel
theorem dX10_supported_5 : decode cX10_supported 5 = .ok (.getfield 70, 3) := by decide +kernel
theorem dX10_supported_8 : decode cX10_supported 8 = .ok (.iconst (-1), 1) := by decide +kernel
theorem dX10_supported_9 : decode cX10_supported 9 = .ok (.aload_n 0, 1) := by decide +kernel
theorem dX10_supported_10 : decode cX10_supported 10 = .ok (.getfield 70, 3) := by decide +kernel
theorem dX10_supported_13 : decode cX10_supported 13 = .ok (.getfield 201, 3) := by decide +kernel
theorem dX10_supported_16 : decode cX10_supported 16 = .ok (.invokevirtual 248, 3) := by decide +kernel
theorem dX10_supported_19 : decode cX10_supported 19 = .ok (.ireturn, 1) := by decide +kernel
set_option maxRecDepth 20000 in
theorem ggX10_box_X10_refreshFrontier : GoodIn wsX10_box wsX10_refreshFrontier := goodIn_r _ [11, 12, 13, 14, 15, 16, 3, 17, 18, 19, 20, 21, 22, 23, 24, 25, 26, 27, 28, 29, 30, 31, 32, 33, 34, 35, 36, 37, 38, 39, 40, 41, 42, 43, 44, 45, 46, 47, 48, 49, 50, 51, 52, 53, 54, 55, 56, 57, 58, 59, 60, 61, 62, 63, 64, 65, 66, 67, 68, 69, 70, 71, 72, 73, 74, 75, 76, 77, 78, 79, 80, 81, 82, 83, 84, 85, 86, 87, 88, 89, 90, 91, 92, 93, 94, 95, 96, 97, 98, 99, 100, 101, 102, 103, 104, 105, 106, 107, 108, 109, 110, 111, 112, 113, 114, 115, 116, 117, 118, 119, 120, 121, 122, 123, 124, 125, 126, 127, 128, 129, 130, 131, 132, 133, 134, 135, 136, 146, 147, 148, 149, 150, 151, 152, 153, 154, 155, 156, 157, 158, 159, 160, 161, 162, 163, 164, 178, 179, 180, 181, 182, 183, 184, 185, 186, 187, 188, 189, 190, 191, 192, 193, 194, 195, 196, 197, 198, 199, 165, 166, 167, 168, 169, 170, 171, 172, 173, 174, 175, 176, 177] (by decide +kernel) (by decide +kernel)
set_option maxRecDepth 20000 in
theorem gX10_box_X10_refreshFrontier : GoodIn wsX10_box (wsV RX10 188 RX10 yX10_refreshFrontier wsX10_refreshFrontier) := goodIn_app (goodIn_of _ (by decide +kernel)) ggX10_box_X10_refreshFrontier
set_option maxRecDepth 20000 in
theorem ggX10_box_X10_requireWhat : GoodIn wsX10_box wsX10_requireWhat := goodIn_ca (goodIn_r _ [139, 140, 141] (by decide +kernel) (by decide +kernel)) (goodIn_sub (fun _ h => List.mem_cons_of_mem _ (List.mem_append_right _ h)) (by decide +kernel))
set_option maxRecDepth 20000 in
theorem gX10_box_X10_requireWhat : GoodIn wsX10_box (va_wsS RX10 143 yX10_requireWhat wsX10_requireWhat) := goodIn_app (goodIn_of _ (by decide +kernel)) ggX10_box_X10_requireWhat
set_option maxRecDepth 20000 in
theorem ggX10_box_X2_supportedBetween : GoodIn wsX10_box wsX2_supportedBetween := goodIn_r _ [145, 93, 101, 165, 166, 167, 168, 169, 170, 171, 172, 173, 174, 175, 176, 177] (by decide +kernel) (by decide +kernel)
set_option maxRecDepth 20000 in
theorem gX10_box_X2_supportedBetween : GoodIn wsX10_box (wsV RX10 248 RX2 yX2_supportedBetween wsX2_supportedBetween) := goodIn_app (goodIn_of _ (by decide +kernel)) ggX10_box_X2_supportedBetween
theorem dX10_box_0 : decode cX10_box 0 = .ok (.aload_n 0, 1) := by decide +kernel
theorem dX10_box_1 : decode cX10_box 1 = .ok (.invokevirtual 188, 3) := by decide +kernel
theorem dX10_box_4 : decode cX10_box 4 = .ok (.iload_n 1, 1) := by decide +kernel
theorem dX10_box_5 : decode cX10_box 5 = .ok (.ifCond .lt 16, 3) := by decide +kernel
theorem dX10_box_8 : decode cX10_box 8 = .ok (.iload_n 1, 1) := by decide +kernel
theorem dX10_box_9 : decode cX10_box 9 = .ok (.aload_n 0, 1) := by decide +kernel
theorem dX10_box_10 : decode cX10_box 10 = .ok (.getfield 70, 3) := by decide +kernel
theorem dX10_box_13 : decode cX10_box 13 = .ok (.getfield 237, 3) := by decide +kernel
theorem dX10_box_16 : decode cX10_box 16 = .ok (.iconst 1, 1) := by decide +kernel
theorem dX10_box_17 : decode cX10_box 17 = .ok (.isub, 1) := by decide +kernel
theorem dX10_box_18 : decode cX10_box 18 = .ok (.if_icmp .lt 13, 3) := by decide +kernel
theorem dX10_box_21 : decode cX10_box 21 = .ok (.new 240, 3) := by decide +kernel
theorem dX10_box_24 : decode cX10_box 24 = .ok (.dup, 1) := by decide +kernel
theorem dX10_box_25 : decode cX10_box 25 = .ok (.ldc 251, 2) := by decide +kernel
theorem dX10_box_27 : decode cX10_box 27 = .ok (.invokespecial 244, 3) := by decide +kernel
theorem dX10_box_30 : decode cX10_box 30 = .ok (.athrow, 1) := by decide +kernel
theorem dX10_box_31 : decode cX10_box 31 = .ok (.iload_n 2, 1) := by decide +kernel
theorem dX10_box_32 : decode cX10_box 32 = .ok (.iconst 4, 1) := by decide +kernel
theorem dX10_box_33 : decode cX10_box 33 = .ok (.invokestatic 143, 3) := by decide +kernel
theorem dX10_box_36 : decode cX10_box 36 = .ok (.aload_n 0, 1) := by decide +kernel
theorem dX10_box_37 : decode cX10_box 37 = .ok (.getfield 70, 3) := by decide +kernel
theorem dX10_box_40 : decode cX10_box 40 = .ok (.getfield 245, 3) := by decide +kernel
theorem dX10_box_43 : decode cX10_box 43 = .ok (.iload_n 1, 1) := by decide +kernel
theorem dX10_box_44 : decode cX10_box 44 = .ok (.iaload, 1) := by decide +kernel
theorem dX10_box_45 : decode cX10_box 45 = .ok (.istore_n 3, 1) := by decide +kernel
theorem dX10_box_46 : decode cX10_box 46 = .ok (.aload_n 0, 1) := by decide +kernel
theorem dX10_box_47 : decode cX10_box 47 = .ok (.getfield 70, 3) := by decide +kernel
theorem dX10_box_50 : decode cX10_box 50 = .ok (.getfield 245, 3) := by decide +kernel
theorem dX10_box_53 : decode cX10_box 53 = .ok (.iload_n 1, 1) := by decide +kernel
theorem dX10_box_54 : decode cX10_box 54 = .ok (.iconst 1, 1) := by decide +kernel
theorem dX10_box_55 : decode cX10_box 55 = .ok (.iadd, 1) := by decide +kernel
theorem dX10_box_56 : decode cX10_box 56 = .ok (.iaload, 1) := by decide +kernel
theorem dX10_box_57 : decode cX10_box 57 = .ok (.istore 4, 2) := by decide +kernel
theorem dX10_box_59 : decode cX10_box 59 = .ok (.iload_n 2, 1) := by decide +kernel
theorem dX10_box_60 : decode cX10_box 60 = .ok (.tableswitch 55 0 3 #[32, 34, 37, 44], 32) := by decide +kernel
theorem dX10_box_92 : decode cX10_box 92 = .ok (.iload_n 3, 1) := by decide +kernel
theorem dX10_box_93 : decode cX10_box 93 = .ok (.ireturn, 1) := by decide +kernel
theorem dX10_box_94 : decode cX10_box 94 = .ok (.iload 4, 2) := by decide +kernel
theorem dX10_box_96 : decode cX10_box 96 = .ok (.ireturn, 1) := by decide +kernel
theorem dX10_box_97 : decode cX10_box 97 = .ok (.iload 4, 2) := by decide +kernel
theorem dX10_box_99 : decode cX10_box 99 = .ok (.iload_n 3, 1) := by decide +kernel
theorem dX10_box_100 : decode cX10_box 100 = .ok (.isub, 1) := by decide +kernel
theorem dX10_box_101 : decode cX10_box 101 = .ok (.iconst 1, 1) := by decide +kernel
theorem dX10_box_102 : decode cX10_box 102 = .ok (.isub, 1) := by decide +kernel
theorem dX10_box_103 : decode cX10_box 103 = .ok (.ireturn, 1) := by decide +kernel
theorem dX10_box_104 : decode cX10_box 104 = .ok (.aload_n 0, 1) := by decide +kernel
theorem dX10_box_105 : decode cX10_box 105 = .ok (.getfield 70, 3) := by decide +kernel
theorem dX10_box_108 : decode cX10_box 108 = .ok (.iload_n 3, 1) := by decide +kernel
theorem dX10_box_109 : decode cX10_box 109 = .ok (.iload 4, 2) := by decide +kernel
theorem dX10_box_111 : decode cX10_box 111 = .ok (.invokevirtual 248, 3) := by decide +kernel
theorem dX10_box_114 : decode cX10_box 114 = .ok (.ireturn, 1) := by decide +kernel
theorem dX10_box_115 : decode cX10_box 115 = .ok (.iload 4, 2) := by decide +kernel
theorem dX10_box_117 : decode cX10_box 117 = .ok (.iload_n 3, 1) := by decide +kernel
theorem dX10_box_118 : decode cX10_box 118 = .ok (.isub, 1) := by decide +kernel
theorem dX10_box_119 : decode cX10_box 119 = .ok (.iconst 1, 1) := by decide +kernel
theorem dX10_box_120 : decode cX10_box 120 = .ok (.if_icmp .le 18, 3) := by decide +kernel
theorem dX10_box_123 : decode cX10_box 123 = .ok (.aload_n 0, 1) := by decide +kernel
theorem dX10_box_124 : decode cX10_box 124 = .ok (.getfield 70, 3) := by decide +kernel
theorem dX10_box_127 : decode cX10_box 127 = .ok (.getfield 207, 3) := by decide +kernel
theorem dX10_box_130 : decode cX10_box 130 = .ok (.iload 4, 2) := by decide +kernel
theorem dX10_box_132 : decode cX10_box 132 = .ok (.iconst 1, 1) := by decide +kernel
theorem dX10_box_133 : decode cX10_box 133 = .ok (.isub, 1) := by decide +kernel
theorem dX10_box_134 : decode cX10_box 134 = .ok (.iaload, 1) := by decide +kernel
theorem dX10_box_135 : decode cX10_box 135 = .ok (.goto 4, 3) := by decide +kernel
theorem dX10_box_138 : decode cX10_box 138 = .ok (.iconst (-1), 1) := by decide +kernel
theorem dX10_box_139 : decode cX10_box 139 = .ok (.ireturn, 1) := by decide +kernel
set_option maxRecDepth 20000 in
theorem ggX10_steps_X10_refreshSearch : GoodIn wsX10_steps wsX10_refreshSearch := goodIn_r _ [7, 8, 1, 9, 10, 11, 12, 6, 13, 14, 15, 16, 17, 18, 19, 20, 21, 22, 23, 24, 25, 26, 27, 28, 29, 30, 31, 32, 33, 34, 35, 36, 37, 38, 39, 40, 41, 42, 43, 44, 45, 46, 47, 48, 49, 50, 51, 52, 53, 54, 55, 56, 57, 58, 59, 60, 61, 62, 63, 64, 65, 66, 67, 68, 69, 70, 71, 72, 73, 74, 75, 76, 77, 78, 79, 80, 81, 82, 83, 84, 85, 86, 87, 88, 89, 90, 91, 92, 93, 94, 95, 96, 97, 98, 99, 100, 101, 102, 103, 104, 105, 106, 107, 108, 109, 110, 111, 112, 113, 114, 115, 116, 117, 118, 119, 120, 121, 122, 123, 124, 125, 126, 127, 128, 129, 130, 131, 132, 133, 134, 135, 136, 137, 138, 139, 140, 141, 142, 143, 144, 145, 146, 147, 148, 149, 150, 151, 152, 153, 154, 155, 156, 157, 158, 159, 160, 161, 162, 163, 164, 165, 166, 167, 168, 169, 170, 171, 172, 173, 174, 175, 176, 177, 178, 179, 180, 181, 182, 183, 184, 185, 190, 191, 192, 193, 194, 195, 196, 197, 198, 199, 200, 201, 202, 203, 204, 205, 206, 207, 208, 209, 210, 211, 212, 213, 214, 215, 216, 217, 218, 219, 220, 221, 222, 223, 224, 186, 187, 188, 189] (by decide +kernel) (by decide +kernel)
set_option maxRecDepth 20000 in
theorem gX10_steps_X10_refreshSearch : GoodIn wsX10_steps (wsV RX10 253 RX10 yX10_refreshSearch wsX10_refreshSearch) := goodIn_app (goodIn_of _ (by decide +kernel)) ggX10_steps_X10_refreshSearch
theorem dX10_steps_0 : decode cX10_steps 0 = .ok (.aload_n 0, 1) := by decide +kernel
theorem dX10_steps_1 : decode cX10_steps 1 = .ok (.invokevirtual 253, 3) := by decide +kernel
theorem dX10_steps_4 : decode cX10_steps 4 = .ok (.aload_n 0, 1) := by decide +kernel
theorem dX10_steps_5 : decode cX10_steps 5 = .ok (.getfield 77, 3) := by decide +kernel
theorem dX10_steps_8 : decode cX10_steps 8 = .ok (.getfield 256, 3) := by decide +kernel
theorem dX10_steps_11 : decode cX10_steps 11 = .ok (.ireturn, 1) := by decide +kernel
set_option maxRecDepth 20000 in
theorem ggX10_step_X10_requireWhat : GoodIn wsX10_step wsX10_requireWhat := goodIn_ca (goodIn_r _ [12, 13, 14] (by decide +kernel) (by decide +kernel)) (goodIn_sub (fun _ h => List.mem_cons_of_mem _ (List.mem_append_right _ h)) (by decide +kernel))
set_option maxRecDepth 20000 in
theorem gX10_step_X10_requireWhat : GoodIn wsX10_step (va_wsS RX10 143 yX10_requireWhat wsX10_requireWhat) := goodIn_app (goodIn_of _ (by decide +kernel)) ggX10_step_X10_requireWhat
set_option maxRecDepth 20000 in
theorem ggX10_step_X10_refreshSearch : GoodIn wsX10_step wsX10_refreshSearch := goodIn_r _ [18, 19, 3, 7, 20, 21, 22, 11, 23, 24, 25, 26, 27, 28, 29, 30, 31, 32, 33, 34, 35, 36, 37, 38, 39, 40, 41, 42, 43, 44, 45, 46, 47, 48, 49, 50, 51, 52, 53, 54, 55, 56, 57, 58, 59, 60, 61, 62, 63, 64, 65, 66, 67, 68, 69, 70, 71, 72, 73, 74, 75, 76, 77, 78, 79, 80, 81, 82, 83, 84, 85, 86, 87, 88, 89, 90, 91, 92, 93, 94, 95, 96, 97, 98, 99, 100, 101, 102, 103, 104, 105, 106, 107, 108, 109, 110, 111, 112, 113, 114, 115, 116, 117, 118, 119, 120, 121, 122, 123, 124, 125, 126, 127, 128, 129, 130, 131, 132, 133, 134, 135, 136, 137, 138, 139, 140, 141, 142, 143, 144, 145, 146, 147, 148, 149, 150, 151, 152, 153, 154, 155, 156, 157, 158, 159, 160, 161, 162, 163, 164, 165, 166, 167, 168, 169, 170, 171, 172, 173, 174, 175, 176, 179, 180, 181, 182, 183, 184, 185, 186, 187, 188, 189, 190, 191, 192, 193, 194, 195, 196, 197, 202, 203, 204, 205, 206, 207, 208, 209, 210, 211, 212, 213, 214, 215, 216, 217, 218, 219, 220, 221, 222, 223, 224, 225, 226, 227, 228, 229, 230, 231, 232, 233, 234, 235, 236, 198, 199, 200, 201] (by decide +kernel) (by decide +kernel)
set_option maxRecDepth 20000 in
theorem gX10_step_X10_refreshSearch : GoodIn wsX10_step (wsV RX10 253 RX10 yX10_refreshSearch wsX10_refreshSearch) := goodIn_app (goodIn_of _ (by decide +kernel)) ggX10_step_X10_refreshSearch
set_option maxRecDepth 20000 in
theorem ggX10_step_X2_joyLost : GoodIn wsX10_step wsX2_joyLost := goodIn_r _ [144, 109, 224, 225, 226, 227, 228, 229, 230, 231, 232, 233, 234, 235, 236] (by decide +kernel) (by decide +kernel)
set_option maxRecDepth 20000 in
theorem gX10_step_X2_joyLost : GoodIn wsX10_step (wsV RX10 270 RX2 yX2_joyLost wsX2_joyLost) := goodIn_app (goodIn_of _ (by decide +kernel)) ggX10_step_X2_joyLost
set_option maxRecDepth 20000 in
theorem ggX10_step_X2_gainWon : GoodIn wsX10_step wsX2_gainWon := goodIn_r _ [140, 108, 224, 225, 226, 227, 228, 229, 230, 231, 232, 233, 234, 235, 236] (by decide +kernel) (by decide +kernel)
set_option maxRecDepth 20000 in
theorem gX10_step_X2_gainWon : GoodIn wsX10_step (wsV RX10 273 RX2 yX2_gainWon wsX2_gainWon) := goodIn_app (goodIn_of _ (by decide +kernel)) ggX10_step_X2_gainWon
theorem dX10_step_0 : decode cX10_step 0 = .ok (.iload_n 2, 1) := by decide +kernel
theorem dX10_step_1 : decode cX10_step 1 = .ok (.iconst 4, 1) := by decide +kernel
theorem dX10_step_2 : decode cX10_step 2 = .ok (.invokestatic 143, 3) := by decide +kernel
theorem dX10_step_5 : decode cX10_step 5 = .ok (.aload_n 0, 1) := by decide +kernel
theorem dX10_step_6 : decode cX10_step 6 = .ok (.invokevirtual 253, 3) := by decide +kernel
theorem dX10_step_9 : decode cX10_step 9 = .ok (.iload_n 1, 1) := by decide +kernel
theorem dX10_step_10 : decode cX10_step 10 = .ok (.ifCond .lt 14, 3) := by decide +kernel
theorem dX10_step_13 : decode cX10_step 13 = .ok (.iload_n 1, 1) := by decide +kernel
theorem dX10_step_14 : decode cX10_step 14 = .ok (.aload_n 0, 1) := by decide +kernel
theorem dX10_step_15 : decode cX10_step 15 = .ok (.getfield 77, 3) := by decide +kernel
theorem dX10_step_18 : decode cX10_step 18 = .ok (.getfield 256, 3) := by decide +kernel
theorem dX10_step_21 : decode cX10_step 21 = .ok (.if_icmp .lt 14, 3) := by decide +kernel
theorem dX10_step_24 : decode cX10_step 24 = .ok (.new 259, 3) := by decide +kernel
theorem dX10_step_27 : decode cX10_step 27 = .ok (.dup, 1) := by decide +kernel
theorem dX10_step_28 : decode cX10_step 28 = .ok (.ldc_w 261, 3) := by decide +kernel
theorem dX10_step_31 : decode cX10_step 31 = .ok (.invokespecial 263, 3) := by decide +kernel
theorem dX10_step_34 : decode cX10_step 34 = .ok (.athrow, 1) := by decide +kernel
theorem dX10_step_35 : decode cX10_step 35 = .ok (.aload_n 0, 1) := by decide +kernel
theorem dX10_step_36 : decode cX10_step 36 = .ok (.getfield 77, 3) := by decide +kernel
theorem dX10_step_39 : decode cX10_step 39 = .ok (.getfield 264, 3) := by decide +kernel
theorem dX10_step_42 : decode cX10_step 42 = .ok (.iload_n 1, 1) := by decide +kernel
theorem dX10_step_43 : decode cX10_step 43 = .ok (.iaload, 1) := by decide +kernel
theorem dX10_step_44 : decode cX10_step 44 = .ok (.istore_n 3, 1) := by decide +kernel
theorem dX10_step_45 : decode cX10_step 45 = .ok (.aload_n 0, 1) := by decide +kernel
theorem dX10_step_46 : decode cX10_step 46 = .ok (.getfield 77, 3) := by decide +kernel
theorem dX10_step_49 : decode cX10_step 49 = .ok (.getfield 267, 3) := by decide +kernel
theorem dX10_step_52 : decode cX10_step 52 = .ok (.iload_n 1, 1) := by decide +kernel
theorem dX10_step_53 : decode cX10_step 53 = .ok (.iaload, 1) := by decide +kernel
theorem dX10_step_54 : decode cX10_step 54 = .ok (.istore 4, 2) := by decide +kernel
theorem dX10_step_56 : decode cX10_step 56 = .ok (.iload_n 2, 1) := by decide +kernel
theorem dX10_step_57 : decode cX10_step 57 = .ok (.tableswitch 58 0 3 #[31, 33, 36, 47], 31) := by decide +kernel
theorem dX10_step_88 : decode cX10_step 88 = .ok (.iload_n 3, 1) := by decide +kernel
theorem dX10_step_89 : decode cX10_step 89 = .ok (.ireturn, 1) := by decide +kernel
theorem dX10_step_90 : decode cX10_step 90 = .ok (.iload 4, 2) := by decide +kernel
theorem dX10_step_92 : decode cX10_step 92 = .ok (.ireturn, 1) := by decide +kernel
theorem dX10_step_93 : decode cX10_step 93 = .ok (.aload_n 0, 1) := by decide +kernel
theorem dX10_step_94 : decode cX10_step 94 = .ok (.getfield 70, 3) := by decide +kernel
theorem dX10_step_97 : decode cX10_step 97 = .ok (.iload_n 3, 1) := by decide +kernel
theorem dX10_step_98 : decode cX10_step 98 = .ok (.iload 4, 2) := by decide +kernel
theorem dX10_step_100 : decode cX10_step 100 = .ok (.invokevirtual 270, 3) := by decide +kernel
theorem dX10_step_103 : decode cX10_step 103 = .ok (.ireturn, 1) := by decide +kernel
theorem dX10_step_104 : decode cX10_step 104 = .ok (.aload_n 0, 1) := by decide +kernel
theorem dX10_step_105 : decode cX10_step 105 = .ok (.getfield 70, 3) := by decide +kernel
theorem dX10_step_108 : decode cX10_step 108 = .ok (.iload_n 3, 1) := by decide +kernel
theorem dX10_step_109 : decode cX10_step 109 = .ok (.iload 4, 2) := by decide +kernel
theorem dX10_step_111 : decode cX10_step 111 = .ok (.invokevirtual 273, 3) := by decide +kernel
theorem dX10_step_114 : decode cX10_step 114 = .ok (.ireturn, 1) := by decide +kernel
theorem dX10_step_115 : decode cX10_step 115 = .ok (.aload_n 0, 1) := by decide +kernel
theorem dX10_step_116 : decode cX10_step 116 = .ok (.getfield 77, 3) := by decide +kernel
theorem dX10_step_119 : decode cX10_step 119 = .ok (.getfield 276, 3) := by decide +kernel
theorem dX10_step_122 : decode cX10_step 122 = .ok (.iload_n 1, 1) := by decide +kernel
theorem dX10_step_123 : decode cX10_step 123 = .ok (.iaload, 1) := by decide +kernel
theorem dX10_step_124 : decode cX10_step 124 = .ok (.ireturn, 1) := by decide +kernel
set_option maxRecDepth 20000 in
theorem ggX10_fullest_X10_refreshFrontier : GoodIn wsX10_fullest wsX10_refreshFrontier := goodIn_r _ [8, 9, 10, 11, 12, 13, 1, 14, 15, 16, 17, 18, 19, 20, 21, 22, 23, 24, 25, 26, 27, 28, 29, 30, 31, 32, 33, 34, 35, 36, 37, 38, 39, 40, 41, 42, 43, 44, 45, 46, 47, 48, 49, 50, 51, 52, 53, 54, 55, 56, 57, 58, 59, 60, 61, 62, 63, 64, 65, 66, 67, 68, 69, 70, 71, 72, 73, 74, 75, 76, 77, 78, 79, 80, 81, 82, 83, 84, 85, 86, 87, 88, 89, 90, 91, 92, 93, 94, 95, 96, 97, 98, 99, 100, 101, 102, 103, 104, 105, 106, 107, 108, 109, 110, 111, 112, 113, 114, 115, 116, 117, 118, 119, 120, 121, 122, 123, 124, 125, 126, 127, 128, 129, 130, 131, 132, 133, 134, 135, 136, 137, 138, 139, 140, 141, 142, 143, 144, 145, 146, 147, 148, 149, 150, 151, 152, 166, 167, 168, 169, 170, 171, 172, 173, 174, 175, 176, 177, 178, 179, 180, 181, 182, 183, 184, 185, 186, 187, 153, 154, 155, 156, 157, 158, 159, 160, 161, 162, 163, 164, 165] (by decide +kernel) (by decide +kernel)
set_option maxRecDepth 20000 in
theorem gX10_fullest_X10_refreshFrontier : GoodIn wsX10_fullest (wsV RX10 188 RX10 yX10_refreshFrontier wsX10_refreshFrontier) := goodIn_app (goodIn_of _ (by decide +kernel)) ggX10_fullest_X10_refreshFrontier
theorem dX10_fullest_0 : decode cX10_fullest 0 = .ok (.aload_n 0, 1) := by decide +kernel
theorem dX10_fullest_1 : decode cX10_fullest 1 = .ok (.invokevirtual 188, 3) := by decide +kernel
theorem dX10_fullest_4 : decode cX10_fullest 4 = .ok (.iconst (-1), 1) := by decide +kernel
theorem dX10_fullest_5 : decode cX10_fullest 5 = .ok (.istore_n 1, 1) := by decide +kernel
theorem dX10_fullest_6 : decode cX10_fullest 6 = .ok (.iconst (-1), 1) := by decide +kernel
theorem dX10_fullest_7 : decode cX10_fullest 7 = .ok (.istore_n 2, 1) := by decide +kernel
theorem dX10_fullest_8 : decode cX10_fullest 8 = .ok (.iconst 0, 1) := by decide +kernel
theorem dX10_fullest_9 : decode cX10_fullest 9 = .ok (.istore_n 3, 1) := by decide +kernel
theorem dX10_fullest_10 : decode cX10_fullest 10 = .ok (.iload_n 3, 1) := by decide +kernel
theorem dX10_fullest_11 : decode cX10_fullest 11 = .ok (.iconst 1, 1) := by decide +kernel
theorem dX10_fullest_12 : decode cX10_fullest 12 = .ok (.iadd, 1) := by decide +kernel
theorem dX10_fullest_13 : decode cX10_fullest 13 = .ok (.aload_n 0, 1) := by decide +kernel
theorem dX10_fullest_14 : decode cX10_fullest 14 = .ok (.getfield 70, 3) := by decide +kernel
theorem dX10_fullest_17 : decode cX10_fullest 17 = .ok (.getfield 237, 3) := by decide +kernel
theorem dX10_fullest_20 : decode cX10_fullest 20 = .ok (.if_icmp .ge 45, 3) := by decide +kernel
theorem dX10_fullest_23 : decode cX10_fullest 23 = .ok (.aload_n 0, 1) := by decide +kernel
theorem dX10_fullest_24 : decode cX10_fullest 24 = .ok (.getfield 70, 3) := by decide +kernel
theorem dX10_fullest_27 : decode cX10_fullest 27 = .ok (.getfield 245, 3) := by decide +kernel
theorem dX10_fullest_30 : decode cX10_fullest 30 = .ok (.iload_n 3, 1) := by decide +kernel
theorem dX10_fullest_31 : decode cX10_fullest 31 = .ok (.iconst 1, 1) := by decide +kernel
theorem dX10_fullest_32 : decode cX10_fullest 32 = .ok (.iadd, 1) := by decide +kernel
theorem dX10_fullest_33 : decode cX10_fullest 33 = .ok (.iaload, 1) := by decide +kernel
theorem dX10_fullest_34 : decode cX10_fullest 34 = .ok (.aload_n 0, 1) := by decide +kernel
theorem dX10_fullest_35 : decode cX10_fullest 35 = .ok (.getfield 70, 3) := by decide +kernel
theorem dX10_fullest_38 : decode cX10_fullest 38 = .ok (.getfield 245, 3) := by decide +kernel
theorem dX10_fullest_41 : decode cX10_fullest 41 = .ok (.iload_n 3, 1) := by decide +kernel
theorem dX10_fullest_42 : decode cX10_fullest 42 = .ok (.iaload, 1) := by decide +kernel
theorem dX10_fullest_43 : decode cX10_fullest 43 = .ok (.isub, 1) := by decide +kernel
theorem dX10_fullest_44 : decode cX10_fullest 44 = .ok (.iconst 1, 1) := by decide +kernel
theorem dX10_fullest_45 : decode cX10_fullest 45 = .ok (.isub, 1) := by decide +kernel
theorem dX10_fullest_46 : decode cX10_fullest 46 = .ok (.istore 4, 2) := by decide +kernel
theorem dX10_fullest_48 : decode cX10_fullest 48 = .ok (.iload 4, 2) := by decide +kernel
theorem dX10_fullest_50 : decode cX10_fullest 50 = .ok (.iload_n 2, 1) := by decide +kernel
theorem dX10_fullest_51 : decode cX10_fullest 51 = .ok (.if_icmp .le 8, 3) := by decide +kernel
theorem dX10_fullest_54 : decode cX10_fullest 54 = .ok (.iload 4, 2) := by decide +kernel
theorem dX10_fullest_56 : decode cX10_fullest 56 = .ok (.istore_n 2, 1) := by decide +kernel
theorem dX10_fullest_57 : decode cX10_fullest 57 = .ok (.iload_n 3, 1) := by decide +kernel
theorem dX10_fullest_58 : decode cX10_fullest 58 = .ok (.istore_n 1, 1) := by decide +kernel
theorem dX10_fullest_59 : decode cX10_fullest 59 = .ok (.iinc 3 1, 3) := by decide +kernel
theorem dX10_fullest_62 : decode cX10_fullest 62 = .ok (.goto (-52), 3) := by decide +kernel
theorem dX10_fullest_65 : decode cX10_fullest 65 = .ok (.iload_n 1, 1) := by decide +kernel
theorem dX10_fullest_66 : decode cX10_fullest 66 = .ok (.ireturn, 1) := by decide +kernel
set_option maxRecDepth 20000 in
theorem ggX10_area_X10_refreshFrontier : GoodIn wsX10_area wsX10_refreshFrontier := goodIn_r _ [7, 8, 9, 10, 11, 12, 1, 13, 14, 15, 16, 17, 18, 19, 20, 21, 22, 23, 24, 25, 26, 27, 28, 29, 30, 31, 32, 33, 34, 35, 36, 37, 38, 39, 40, 41, 42, 43, 44, 45, 46, 47, 48, 49, 50, 51, 52, 53, 54, 55, 56, 57, 58, 59, 60, 61, 62, 63, 64, 65, 66, 67, 68, 69, 70, 71, 72, 73, 74, 75, 76, 77, 78, 79, 80, 81, 82, 83, 84, 85, 86, 87, 88, 89, 90, 91, 92, 93, 94, 95, 96, 97, 98, 99, 100, 101, 102, 103, 104, 105, 106, 107, 108, 109, 110, 111, 112, 113, 114, 115, 116, 117, 118, 119, 120, 121, 122, 123, 124, 125, 126, 127, 128, 129, 130, 131, 132, 133, 134, 135, 136, 137, 138, 139, 140, 141, 142, 143, 144, 145, 146, 147, 148, 149, 150, 151, 165, 166, 167, 168, 169, 170, 171, 172, 173, 174, 175, 176, 177, 178, 179, 180, 181, 182, 183, 184, 185, 186, 152, 153, 154, 155, 156, 157, 158, 159, 160, 161, 162, 163, 164] (by decide +kernel) (by decide +kernel)
set_option maxRecDepth 20000 in
theorem gX10_area_X10_refreshFrontier : GoodIn wsX10_area (wsV RX10 188 RX10 yX10_refreshFrontier wsX10_refreshFrontier) := goodIn_app (goodIn_of _ (by decide +kernel)) ggX10_area_X10_refreshFrontier
theorem dX10_area_0 : decode cX10_area 0 = .ok (.aload_n 0, 1) := by decide +kernel
theorem dX10_area_1 : decode cX10_area 1 = .ok (.invokevirtual 188, 3) := by decide +kernel
theorem dX10_area_4 : decode cX10_area 4 = .ok (.aload_n 0, 1) := by decide +kernel
theorem dX10_area_5 : decode cX10_area 5 = .ok (.getfield 70, 3) := by decide +kernel
theorem dX10_area_8 : decode cX10_area 8 = .ok (.getfield 279, 3) := by decide +kernel
theorem dX10_area_11 : decode cX10_area 11 = .ok (.ireturn, 1) := by decide +kernel
set_option maxRecDepth 20000 in
theorem ggX10_knee_X10_refreshSearch : GoodIn wsX10_knee wsX10_refreshSearch := goodIn_r _ [8, 9, 1, 10, 11, 12, 13, 7, 14, 15, 16, 17, 18, 19, 20, 21, 22, 23, 24, 25, 26, 27, 28, 29, 30, 31, 32, 33, 34, 35, 36, 37, 38, 39, 40, 41, 42, 43, 44, 45, 46, 47, 48, 49, 50, 51, 52, 53, 54, 55, 56, 57, 58, 59, 60, 61, 62, 63, 64, 65, 66, 67, 68, 69, 70, 71, 72, 73, 74, 75, 76, 77, 78, 79, 80, 81, 82, 83, 84, 85, 86, 87, 88, 89, 90, 91, 92, 93, 94, 95, 96, 97, 98, 99, 100, 101, 102, 103, 104, 105, 106, 107, 108, 109, 110, 111, 112, 113, 114, 115, 116, 117, 118, 119, 120, 121, 122, 123, 124, 125, 126, 127, 128, 129, 130, 131, 132, 133, 134, 135, 136, 137, 138, 139, 140, 141, 142, 143, 144, 145, 146, 147, 148, 149, 150, 151, 152, 153, 154, 155, 156, 157, 158, 159, 160, 161, 162, 163, 164, 165, 166, 167, 168, 169, 170, 171, 172, 173, 174, 175, 176, 177, 178, 179, 180, 181, 182, 183, 184, 185, 186, 191, 192, 193, 194, 195, 196, 197, 198, 199, 200, 201, 202, 203, 204, 205, 206, 207, 208, 209, 210, 211, 212, 213, 214, 215, 216, 217, 218, 219, 220, 221, 222, 223, 224, 225, 187, 188, 189, 190] (by decide +kernel) (by decide +kernel)
set_option maxRecDepth 20000 in
theorem gX10_knee_X10_refreshSearch : GoodIn wsX10_knee (wsV RX10 253 RX10 yX10_refreshSearch wsX10_refreshSearch) := goodIn_app (goodIn_of _ (by decide +kernel)) ggX10_knee_X10_refreshSearch
theorem dX10_knee_0 : decode cX10_knee 0 = .ok (.aload_n 0, 1) := by decide +kernel
theorem dX10_knee_1 : decode cX10_knee 1 = .ok (.invokevirtual 253, 3) := by decide +kernel
theorem dX10_knee_4 : decode cX10_knee 4 = .ok (.aload_n 0, 1) := by decide +kernel
theorem dX10_knee_5 : decode cX10_knee 5 = .ok (.getfield 77, 3) := by decide +kernel
theorem dX10_knee_8 : decode cX10_knee 8 = .ok (.getfield 256, 3) := by decide +kernel
theorem dX10_knee_11 : decode cX10_knee 11 = .ok (.ifCond .le 15, 3) := by decide +kernel
theorem dX10_knee_14 : decode cX10_knee 14 = .ok (.aload_n 0, 1) := by decide +kernel
theorem dX10_knee_15 : decode cX10_knee 15 = .ok (.getfield 77, 3) := by decide +kernel
theorem dX10_knee_18 : decode cX10_knee 18 = .ok (.getfield 276, 3) := by decide +kernel
theorem dX10_knee_21 : decode cX10_knee 21 = .ok (.iconst 0, 1) := by decide +kernel
theorem dX10_knee_22 : decode cX10_knee 22 = .ok (.iaload, 1) := by decide +kernel
theorem dX10_knee_23 : decode cX10_knee 23 = .ok (.goto 4, 3) := by decide +kernel
theorem dX10_knee_26 : decode cX10_knee 26 = .ok (.iconst (-1), 1) := by decide +kernel
theorem dX10_knee_27 : decode cX10_knee 27 = .ok (.ireturn, 1) := by decide +kernel
set_option maxRecDepth 20000 in
theorem ggX10_gap_X10_refreshFrontier : GoodIn wsX10_gap wsX10_refreshFrontier := goodIn_r _ [7, 8, 9, 10, 11, 12, 1, 13, 14, 15, 16, 17, 18, 19, 20, 21, 22, 23, 24, 25, 26, 27, 28, 29, 30, 31, 32, 33, 34, 35, 36, 37, 38, 39, 40, 41, 42, 43, 44, 45, 46, 47, 48, 49, 50, 51, 52, 53, 54, 55, 56, 57, 58, 59, 60, 61, 62, 63, 64, 65, 66, 67, 68, 69, 70, 71, 72, 73, 74, 75, 76, 77, 78, 79, 80, 81, 82, 83, 84, 85, 86, 87, 88, 89, 90, 91, 92, 93, 94, 95, 96, 97, 98, 99, 100, 101, 102, 103, 104, 105, 106, 107, 108, 109, 110, 111, 112, 113, 114, 115, 116, 117, 118, 119, 120, 121, 122, 123, 124, 125, 126, 127, 128, 129, 130, 131, 132, 135, 136, 137, 138, 139, 140, 141, 142, 143, 144, 145, 146, 147, 148, 149, 150, 151, 152, 153, 167, 168, 169, 170, 171, 172, 173, 174, 175, 176, 177, 178, 179, 180, 181, 182, 183, 184, 185, 186, 187, 188, 154, 155, 156, 157, 158, 159, 160, 161, 162, 163, 164, 165, 166] (by decide +kernel) (by decide +kernel)
set_option maxRecDepth 20000 in
theorem gX10_gap_X10_refreshFrontier : GoodIn wsX10_gap (wsV RX10 188 RX10 yX10_refreshFrontier wsX10_refreshFrontier) := goodIn_app (goodIn_of _ (by decide +kernel)) ggX10_gap_X10_refreshFrontier
set_option maxRecDepth 20000 in
theorem ggX10_gap_X2_gainWon : GoodIn wsX10_gap wsX2_gainWon := goodIn_r _ [124, 92, 154, 155, 156, 157, 158, 159, 160, 161, 162, 163, 164, 165, 166] (by decide +kernel) (by decide +kernel)
set_option maxRecDepth 20000 in
theorem gX10_gap_X2_gainWon : GoodIn wsX10_gap (wsV RX10 273 RX2 yX2_gainWon wsX2_gainWon) := goodIn_app (goodIn_of _ (by decide +kernel)) ggX10_gap_X2_gainWon
set_option maxRecDepth 20000 in
theorem ggX10_gap_X2_joyLost : GoodIn wsX10_gap wsX2_joyLost := goodIn_r _ [128, 93, 154, 155, 156, 157, 158, 159, 160, 161, 162, 163, 164, 165, 166] (by decide +kernel) (by decide +kernel)
set_option maxRecDepth 20000 in
theorem gX10_gap_X2_joyLost : GoodIn wsX10_gap (wsV RX10 270 RX2 yX2_joyLost wsX2_joyLost) := goodIn_app (goodIn_of _ (by decide +kernel)) ggX10_gap_X2_joyLost
theorem dX10_gap_0 : decode cX10_gap 0 = .ok (.aload_n 0, 1) := by decide +kernel
theorem dX10_gap_1 : decode cX10_gap 1 = .ok (.invokevirtual 188, 3) := by decide +kernel
theorem dX10_gap_4 : decode cX10_gap 4 = .ok (.iconst (-1), 1) := by decide +kernel
theorem dX10_gap_5 : decode cX10_gap 5 = .ok (.istore_n 1, 1) := by decide +kernel
theorem dX10_gap_6 : decode cX10_gap 6 = .ok (.iconst 0, 1) := by decide +kernel
theorem dX10_gap_7 : decode cX10_gap 7 = .ok (.istore_n 2, 1) := by decide +kernel
theorem dX10_gap_8 : decode cX10_gap 8 = .ok (.iconst 0, 1) := by decide +kernel
theorem dX10_gap_9 : decode cX10_gap 9 = .ok (.istore_n 3, 1) := by decide +kernel
theorem dX10_gap_10 : decode cX10_gap 10 = .ok (.iload_n 3, 1) := by decide +kernel
theorem dX10_gap_11 : decode cX10_gap 11 = .ok (.iconst 1, 1) := by decide +kernel
theorem dX10_gap_12 : decode cX10_gap 12 = .ok (.iadd, 1) := by decide +kernel
theorem dX10_gap_13 : decode cX10_gap 13 = .ok (.aload_n 0, 1) := by decide +kernel
theorem dX10_gap_14 : decode cX10_gap 14 = .ok (.getfield 70, 3) := by decide +kernel
theorem dX10_gap_17 : decode cX10_gap 17 = .ok (.getfield 201, 3) := by decide +kernel
theorem dX10_gap_20 : decode cX10_gap 20 = .ok (.if_icmp .ge 45, 3) := by decide +kernel
theorem dX10_gap_23 : decode cX10_gap 23 = .ok (.aload_n 0, 1) := by decide +kernel
theorem dX10_gap_24 : decode cX10_gap 24 = .ok (.getfield 70, 3) := by decide +kernel
theorem dX10_gap_27 : decode cX10_gap 27 = .ok (.iload_n 3, 1) := by decide +kernel
theorem dX10_gap_28 : decode cX10_gap 28 = .ok (.iload_n 3, 1) := by decide +kernel
theorem dX10_gap_29 : decode cX10_gap 29 = .ok (.iconst 1, 1) := by decide +kernel
theorem dX10_gap_30 : decode cX10_gap 30 = .ok (.iadd, 1) := by decide +kernel
theorem dX10_gap_31 : decode cX10_gap 31 = .ok (.invokevirtual 273, 3) := by decide +kernel
theorem dX10_gap_34 : decode cX10_gap 34 = .ok (.aload_n 0, 1) := by decide +kernel
theorem dX10_gap_35 : decode cX10_gap 35 = .ok (.getfield 70, 3) := by decide +kernel
theorem dX10_gap_38 : decode cX10_gap 38 = .ok (.iload_n 3, 1) := by decide +kernel
