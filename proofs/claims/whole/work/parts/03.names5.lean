set_option maxRecDepth 20000 in
theorem ggX11_refusal_X11_refusalOf : GoodIn wsX11_refusal wsX11_refusalOf := goodIn_r _ [30, 14, 31, 32, 33, 4, 34, 10, 11, 12, 13, 35, 36, 37, 38, 39, 40, 41, 42, 43, 44, 45, 46, 47, 48, 49, 50, 51, 52, 53, 54, 55, 56, 57, 58, 59, 60, 61, 62, 63, 64, 65, 66, 67, 68, 69, 70, 71, 72, 73, 74, 75, 76, 77, 78, 79, 80, 81, 82, 83, 84, 85, 86, 87, 88, 89, 90, 91, 92] (by decide +kernel) (by decide +kernel)
set_option maxRecDepth 20000 in
theorem gX11_refusal_X11_refusalOf : GoodIn wsX11_refusal (wsV RX11 116 RX11 yX11_refusalOf wsX11_refusalOf) := goodIn_app (goodIn_of _ (by decide +kernel)) ggX11_refusal_X11_refusalOf
theorem dX11_refusal_0 : decode cX11_refusal 0 = .ok (.aload_n 0, 1) := by decide +kernel
theorem dX11_refusal_1 : decode cX11_refusal 1 = .ok (.aload_n 0, 1) := by decide +kernel
theorem dX11_refusal_2 : decode cX11_refusal 2 = .ok (.iload_n 1, 1) := by decide +kernel
theorem dX11_refusal_3 : decode cX11_refusal 3 = .ok (.invokevirtual 364, 3) := by decide +kernel
theorem dX11_refusal_6 : decode cX11_refusal 6 = .ok (.invokevirtual 235, 3) := by decide +kernel
theorem dX11_refusal_9 : decode cX11_refusal 9 = .ok (.ifCond .eq 11, 3) := by decide +kernel
theorem dX11_refusal_12 : decode cX11_refusal 12 = .ok (.aload_n 0, 1) := by decide +kernel
theorem dX11_refusal_13 : decode cX11_refusal 13 = .ok (.iload_n 1, 1) := by decide +kernel
theorem dX11_refusal_14 : decode cX11_refusal 14 = .ok (.invokevirtual 116, 3) := by decide +kernel
theorem dX11_refusal_17 : decode cX11_refusal 17 = .ok (.goto 4, 3) := by decide +kernel
theorem dX11_refusal_20 : decode cX11_refusal 20 = .ok (.iconst 0, 1) := by decide +kernel
theorem dX11_refusal_21 : decode cX11_refusal 21 = .ok (.ireturn, 1) := by decide +kernel
set_option maxRecDepth 20000 in
theorem ggX11_sum_X11_isSet : GoodIn wsX11_sum wsX11_isSet := goodIn_r _ [6, 7, 8, 9, 5, 10, 11, 12, 13, 14, 15, 16, 17, 18, 39, 40, 41, 42, 43, 44, 45, 46, 47, 48, 49, 50, 51, 52, 53, 54, 55, 56, 57, 58, 59, 60, 61, 62, 63, 64, 65, 66, 67, 68, 69, 70, 71, 72, 73, 74, 75, 76, 77, 78] (by decide +kernel) (by decide +kernel)
set_option maxRecDepth 20000 in
theorem gX11_sum_X11_isSet : GoodIn wsX11_sum (wsV RX11 364 RX11 yX11_isSet wsX11_isSet) := goodIn_app (goodIn_of _ (by decide +kernel)) ggX11_sum_X11_isSet
set_option maxRecDepth 20000 in
theorem ggX11_sum_X11_in : GoodIn wsX11_sum wsX11_in := goodIn_r _ [18] (by decide +kernel) (by decide +kernel)
set_option maxRecDepth 20000 in
theorem gX11_sum_X11_in : GoodIn wsX11_sum (va_wsS RX11 87 yX11_in wsX11_in) := goodIn_app (goodIn_of _ (by decide +kernel)) ggX11_sum_X11_in
set_option maxRecDepth 20000 in
theorem ggX11_sum_X11_passes : GoodIn wsX11_sum wsX11_passes := goodIn_r _ [22, 23, 24, 25, 5, 26, 27, 39, 40, 41, 42, 43, 44, 45, 46, 47, 48, 49, 50, 51, 52, 53, 54, 55, 56, 57, 58, 59, 60, 61, 62, 63, 64, 65, 66, 67, 68, 69, 70, 71, 72, 73, 74, 75, 76, 77, 78] (by decide +kernel) (by decide +kernel)
set_option maxRecDepth 20000 in
theorem gX11_sum_X11_passes : GoodIn wsX11_sum (wsV RX11 235 RX11 yX11_passes wsX11_passes) := goodIn_app (goodIn_of _ (by decide +kernel)) ggX11_sum_X11_passes
set_option maxRecDepth 20000 in
theorem ggX11_sum_X11_sumOf : GoodIn wsX11_sum wsX11_sumOf := goodIn_r _ [31, 11, 12, 13, 5, 14, 15, 32, 33, 34, 35, 36, 37, 38, 39, 40, 41, 42, 43, 44, 45, 46, 47, 48, 49, 50, 51, 52, 53, 54, 55, 56, 57, 58, 59, 60, 61, 62, 63, 64, 65, 66, 67, 68, 69, 70, 71, 72, 73, 74, 75, 76, 77, 78] (by decide +kernel) (by decide +kernel)
set_option maxRecDepth 20000 in
theorem gX11_sum_X11_sumOf : GoodIn wsX11_sum (wsV RX11 102 RX11 yX11_sumOf wsX11_sumOf) := goodIn_app (goodIn_of _ (by decide +kernel)) ggX11_sum_X11_sumOf
theorem dX11_sum_0 : decode cX11_sum 0 = .ok (.aload_n 0, 1) := by decide +kernel
theorem dX11_sum_1 : decode cX11_sum 1 = .ok (.aload_n 0, 1) := by decide +kernel
theorem dX11_sum_2 : decode cX11_sum 2 = .ok (.iload_n 1, 1) := by decide +kernel
theorem dX11_sum_3 : decode cX11_sum 3 = .ok (.invokevirtual 364, 3) := by decide +kernel
theorem dX11_sum_6 : decode cX11_sum 6 = .ok (.ifCond .eq 19, 3) := by decide +kernel
theorem dX11_sum_9 : decode cX11_sum 9 = .ok (.iload_n 2, 1) := by decide +kernel
theorem dX11_sum_10 : decode cX11_sum 10 = .ok (.i2l, 1) := by decide +kernel
theorem dX11_sum_11 : decode cX11_sum 11 = .ok (.lconst 0, 1) := by decide +kernel
theorem dX11_sum_12 : decode cX11_sum 12 = .ok (.ldc2_w 367, 3) := by decide +kernel
theorem dX11_sum_15 : decode cX11_sum 15 = .ok (.invokestatic 87, 3) := by decide +kernel
theorem dX11_sum_18 : decode cX11_sum 18 = .ok (.ifCond .eq 7, 3) := by decide +kernel
theorem dX11_sum_21 : decode cX11_sum 21 = .ok (.iconst 1, 1) := by decide +kernel
theorem dX11_sum_22 : decode cX11_sum 22 = .ok (.goto 4, 3) := by decide +kernel
theorem dX11_sum_25 : decode cX11_sum 25 = .ok (.iconst 0, 1) := by decide +kernel
theorem dX11_sum_26 : decode cX11_sum 26 = .ok (.invokevirtual 235, 3) := by decide +kernel
theorem dX11_sum_29 : decode cX11_sum 29 = .ok (.ifCond .eq 12, 3) := by decide +kernel
theorem dX11_sum_32 : decode cX11_sum 32 = .ok (.aload_n 0, 1) := by decide +kernel
theorem dX11_sum_33 : decode cX11_sum 33 = .ok (.iload_n 1, 1) := by decide +kernel
theorem dX11_sum_34 : decode cX11_sum 34 = .ok (.iload_n 2, 1) := by decide +kernel
theorem dX11_sum_35 : decode cX11_sum 35 = .ok (.invokevirtual 102, 3) := by decide +kernel
theorem dX11_sum_38 : decode cX11_sum 38 = .ok (.goto 4, 3) := by decide +kernel
theorem dX11_sum_41 : decode cX11_sum 41 = .ok (.iconst 0, 1) := by decide +kernel
theorem dX11_sum_42 : decode cX11_sum 42 = .ok (.ireturn, 1) := by decide +kernel
set_option maxRecDepth 20000 in
theorem ggX11_allowed_X11_layJoys : GoodIn wsX11_allowed wsX11_layJoys := goodIn_r _ [7, 2, 8, 9, 10, 11, 12, 13, 14, 15, 6, 16, 17, 18, 19, 20, 21, 22, 23, 24, 25, 26, 27, 28, 29, 30, 31, 32, 33, 34, 35, 36, 37, 38, 39, 40, 41, 42, 43, 44, 45, 46, 47, 48, 49, 50, 51, 52, 53, 54, 55, 56, 57, 58, 59, 60, 61, 62, 63, 64, 65, 66, 67, 68, 69, 70, 71, 72, 73, 74, 75, 76, 77, 78, 79, 80, 81, 82, 83, 84, 85, 86, 87, 88, 89, 90, 91] (by decide +kernel) (by decide +kernel)
set_option maxRecDepth 20000 in
theorem gX11_allowed_X11_layJoys : GoodIn wsX11_allowed (wsV RX11 133 RX11 yX11_layJoys wsX11_layJoys) := goodIn_app (goodIn_of _ (by decide +kernel)) ggX11_allowed_X11_layJoys
theorem dX11_allowed_0 : decode cX11_allowed 0 = .ok (.aload_n 0, 1) := by decide +kernel
theorem dX11_allowed_1 : decode cX11_allowed 1 = .ok (.iconst 0, 1) := by decide +kernel
theorem dX11_allowed_2 : decode cX11_allowed 2 = .ok (.putfield 3, 3) := by decide +kernel
theorem dX11_allowed_5 : decode cX11_allowed 5 = .ok (.aload_n 0, 1) := by decide +kernel
theorem dX11_allowed_6 : decode cX11_allowed 6 = .ok (.invokevirtual 133, 3) := by decide +kernel
theorem dX11_allowed_9 : decode cX11_allowed 9 = .ok (.aload_n 0, 1) := by decide +kernel
theorem dX11_allowed_10 : decode cX11_allowed 10 = .ok (.getfield 119, 3) := by decide +kernel
theorem dX11_allowed_13 : decode cX11_allowed 13 = .ok (.ireturn, 1) := by decide +kernel
set_option maxRecDepth 20000 in
theorem ggX11_points_X11_layPoints : GoodIn wsX11_points wsX11_layPoints := goodIn_r _ [7, 8, 9, 10, 11, 12, 13, 14, 15, 6, 16, 17, 18, 19, 20, 21, 22, 23, 24, 25, 26, 27, 28, 29, 30, 31, 32, 33, 34, 35, 36, 37, 38, 39, 40, 41, 42, 43, 44, 45, 46, 47, 48, 49, 50, 51, 52, 53, 54, 55, 56, 57, 58, 59, 60, 61, 62, 63, 64, 2, 65, 66, 67, 68, 69, 70, 71, 72, 73, 74, 75, 76, 77, 78, 79, 80, 81, 82, 83, 84, 85, 86, 87, 88, 89, 90, 91, 92, 93, 94, 95, 96, 97, 98, 99, 100, 101, 102, 103, 104] (by decide +kernel) (by decide +kernel)
set_option maxRecDepth 20000 in
theorem gX11_points_X11_layPoints : GoodIn wsX11_points (wsV RX11 144 RX11 yX11_layPoints wsX11_layPoints) := goodIn_app (goodIn_of _ (by decide +kernel)) ggX11_points_X11_layPoints
theorem dX11_points_0 : decode cX11_points 0 = .ok (.aload_n 0, 1) := by decide +kernel
theorem dX11_points_1 : decode cX11_points 1 = .ok (.iconst 0, 1) := by decide +kernel
theorem dX11_points_2 : decode cX11_points 2 = .ok (.putfield 3, 3) := by decide +kernel
theorem dX11_points_5 : decode cX11_points 5 = .ok (.aload_n 0, 1) := by decide +kernel
theorem dX11_points_6 : decode cX11_points 6 = .ok (.invokevirtual 144, 3) := by decide +kernel
theorem dX11_points_9 : decode cX11_points 9 = .ok (.aload_n 0, 1) := by decide +kernel
theorem dX11_points_10 : decode cX11_points 10 = .ok (.getfield 130, 3) := by decide +kernel
theorem dX11_points_13 : decode cX11_points 13 = .ok (.ireturn, 1) := by decide +kernel
set_option maxRecDepth 20000 in
theorem ggX11_point_X11_layCornersToo : GoodIn wsX11_point wsX11_layCornersToo := goodIn_r _ [10, 11, 12, 13, 9, 14, 15, 16, 17, 18, 19, 20, 2, 3, 5, 21, 22, 23, 24, 25, 26, 27, 28, 29, 30, 31, 32, 33, 34, 35, 36, 37, 38, 39, 40, 41, 42, 43, 44, 45, 46, 47, 48, 49, 50, 51, 52, 53, 54, 55, 56, 57, 58, 59, 60, 61, 62, 63, 64, 65, 66, 67, 68, 69, 70, 71, 72, 73, 74, 75, 76, 77, 78, 79, 80, 81, 82, 83, 84, 85, 86, 87, 88, 89, 4, 90, 91, 92, 93, 94, 95, 96, 97, 98, 99, 100, 101, 102, 103, 104, 130, 131, 132, 133, 134, 135, 136, 137, 138, 139, 140, 141, 142, 143, 144, 145, 146, 147, 148, 149, 150, 151, 152, 153, 154, 155, 156, 157, 158, 159, 160, 161, 162, 163, 164, 165, 166, 167, 168, 169] (by decide +kernel) (by decide +kernel)
set_option maxRecDepth 20000 in
theorem gX11_point_X11_layCornersToo : GoodIn wsX11_point (wsV RX11 369 RX11 yX11_layCornersToo wsX11_layCornersToo) := goodIn_app (goodIn_of _ (by decide +kernel)) ggX11_point_X11_layCornersToo
set_option maxRecDepth 20000 in
theorem ggX11_point_X11_isPoint : GoodIn wsX11_point wsX11_isPoint := goodIn_r _ [108, 73, 83, 84, 9, 85, 130, 131, 132, 133, 134, 135, 136, 137, 138, 139, 140, 141, 142, 143, 144, 145, 146, 147, 148, 149, 150, 151, 152, 153, 154, 155, 156, 157, 158, 159, 160, 161, 162, 163, 164, 165, 166, 167, 168, 169] (by decide +kernel) (by decide +kernel)
set_option maxRecDepth 20000 in
theorem gX11_point_X11_isPoint : GoodIn wsX11_point (wsV RX11 372 RX11 yX11_isPoint wsX11_isPoint) := goodIn_app (goodIn_of _ (by decide +kernel)) ggX11_point_X11_isPoint
set_option maxRecDepth 20000 in
theorem ggX11_point_X11_in : GoodIn wsX11_point wsX11_in := goodIn_r _ [85] (by decide +kernel) (by decide +kernel)
set_option maxRecDepth 20000 in
theorem gX11_point_X11_in : GoodIn wsX11_point (va_wsS RX11 87 yX11_in wsX11_in) := goodIn_app (goodIn_of _ (by decide +kernel)) ggX11_point_X11_in
set_option maxRecDepth 20000 in
theorem ggX11_point_X11_passes2 : GoodIn wsX11_point wsX11_passes2 := goodIn_r _ [112, 113, 130, 131, 132, 133, 134, 135, 136, 137, 138, 139, 140, 141, 142, 143, 144, 145, 146, 147, 148, 149, 150, 151, 152, 153, 154, 155, 156, 157, 158, 159, 160, 161, 162, 163, 164, 165, 166, 167, 168, 169] (by decide +kernel) (by decide +kernel)
set_option maxRecDepth 20000 in
theorem gX11_point_X11_passes2 : GoodIn wsX11_point (wsV RX11 7 RX11 yX11_passes2 wsX11_passes2) := goodIn_app (goodIn_of _ (by decide +kernel)) ggX11_point_X11_passes2
set_option maxRecDepth 20000 in
theorem ggX11_point_X11_sumOf : GoodIn wsX11_point wsX11_sumOf := goodIn_r _ [50, 34, 35, 36, 9, 37, 38, 51, 52, 53, 54, 55, 56, 57, 130, 131, 132, 133, 134, 135, 136, 137, 138, 139, 140, 141, 142, 143, 144, 145, 146, 147, 148, 149, 150, 151, 152, 153, 154, 155, 156, 157, 158, 159, 160, 161, 162, 163, 164, 165, 166, 167, 168, 169] (by decide +kernel) (by decide +kernel)
set_option maxRecDepth 20000 in
theorem gX11_point_X11_sumOf : GoodIn wsX11_point (wsV RX11 102 RX11 yX11_sumOf wsX11_sumOf) := goodIn_app (goodIn_of _ (by decide +kernel)) ggX11_point_X11_sumOf
set_option maxRecDepth 20000 in
theorem ggX11_point_X11_isSupported : GoodIn wsX11_point wsX11_isSupported := goodIn_r _ [117, 96, 118, 119, 120, 9, 121, 95, 122, 123, 124, 125, 126, 127, 128, 129, 3, 2, 101, 102, 103, 104, 130, 131, 132, 133, 134, 135, 136, 137, 138, 139, 140, 141, 142, 143, 144, 145, 146, 147, 148, 149, 150, 151, 152, 153, 154, 155, 156, 157, 158, 159, 160, 161, 162, 163, 164, 165, 166, 167, 168, 169] (by decide +kernel) (by decide +kernel)
set_option maxRecDepth 20000 in
theorem gX11_point_X11_isSupported : GoodIn wsX11_point (wsV RX11 377 RX11 yX11_isSupported wsX11_isSupported) := goodIn_app (goodIn_of _ (by decide +kernel)) ggX11_point_X11_isSupported
set_option maxRecDepth 20000 in
theorem ggX11_point_X11_isCorner : GoodIn wsX11_point wsX11_isCorner := goodIn_r _ [121, 95, 96, 130, 131, 132, 133, 134, 135, 136, 137, 138, 139, 140, 141, 142, 143, 144, 145, 146, 147, 148, 149, 150, 151, 152, 153, 154, 155, 156, 157, 158, 159, 160, 161, 162, 163, 164, 165, 166, 167, 168, 169] (by decide +kernel) (by decide +kernel)
set_option maxRecDepth 20000 in
theorem gX11_point_X11_isCorner : GoodIn wsX11_point (wsV RX11 165 RX11 yX11_isCorner wsX11_isCorner) := goodIn_app (goodIn_of _ (by decide +kernel)) ggX11_point_X11_isCorner
theorem dX11_point_0 : decode cX11_point 0 = .ok (.aload_n 0, 1) := by decide +kernel
theorem dX11_point_1 : decode cX11_point 1 = .ok (.invokevirtual 369, 3) := by decide +kernel
theorem dX11_point_4 : decode cX11_point 4 = .ok (.aload_n 0, 1) := by decide +kernel
theorem dX11_point_5 : decode cX11_point 5 = .ok (.aload_n 0, 1) := by decide +kernel
theorem dX11_point_6 : decode cX11_point 6 = .ok (.iload_n 1, 1) := by decide +kernel
theorem dX11_point_7 : decode cX11_point 7 = .ok (.invokevirtual 372, 3) := by decide +kernel
theorem dX11_point_10 : decode cX11_point 10 = .ok (.iload_n 2, 1) := by decide +kernel
theorem dX11_point_11 : decode cX11_point 11 = .ok (.i2l, 1) := by decide +kernel
theorem dX11_point_12 : decode cX11_point 12 = .ok (.lconst 0, 1) := by decide +kernel
theorem dX11_point_13 : decode cX11_point 13 = .ok (.ldc2_w 375, 3) := by decide +kernel
theorem dX11_point_16 : decode cX11_point 16 = .ok (.invokestatic 87, 3) := by decide +kernel
theorem dX11_point_19 : decode cX11_point 19 = .ok (.invokevirtual 7, 3) := by decide +kernel
theorem dX11_point_22 : decode cX11_point 22 = .ok (.ifCond .ne 5, 3) := by decide +kernel
theorem dX11_point_25 : decode cX11_point 25 = .ok (.iconst 0, 1) := by decide +kernel
theorem dX11_point_26 : decode cX11_point 26 = .ok (.ireturn, 1) := by decide +kernel
theorem dX11_point_27 : decode cX11_point 27 = .ok (.iload_n 2, 1) := by decide +kernel
theorem dX11_point_28 : decode cX11_point 28 = .ok (.tableswitch 94 0 5 #[40, 47, 54, 61, 68, 80], 40) := by decide +kernel
theorem dX11_point_68 : decode cX11_point 68 = .ok (.aload_n 0, 1) := by decide +kernel
theorem dX11_point_69 : decode cX11_point 69 = .ok (.getfield 30, 3) := by decide +kernel
theorem dX11_point_72 : decode cX11_point 72 = .ok (.iload_n 1, 1) := by decide +kernel
theorem dX11_point_73 : decode cX11_point 73 = .ok (.iaload, 1) := by decide +kernel
theorem dX11_point_74 : decode cX11_point 74 = .ok (.ireturn, 1) := by decide +kernel
theorem dX11_point_75 : decode cX11_point 75 = .ok (.aload_n 0, 1) := by decide +kernel
theorem dX11_point_76 : decode cX11_point 76 = .ok (.getfield 33, 3) := by decide +kernel
theorem dX11_point_79 : decode cX11_point 79 = .ok (.iload_n 1, 1) := by decide +kernel
theorem dX11_point_80 : decode cX11_point 80 = .ok (.iaload, 1) := by decide +kernel
theorem dX11_point_81 : decode cX11_point 81 = .ok (.ireturn, 1) := by decide +kernel
theorem dX11_point_82 : decode cX11_point 82 = .ok (.aload_n 0, 1) := by decide +kernel
theorem dX11_point_83 : decode cX11_point 83 = .ok (.getfield 36, 3) := by decide +kernel
theorem dX11_point_86 : decode cX11_point 86 = .ok (.iload_n 1, 1) := by decide +kernel
theorem dX11_point_87 : decode cX11_point 87 = .ok (.iaload, 1) := by decide +kernel
theorem dX11_point_88 : decode cX11_point 88 = .ok (.ireturn, 1) := by decide +kernel
theorem dX11_point_89 : decode cX11_point 89 = .ok (.aload_n 0, 1) := by decide +kernel
theorem dX11_point_90 : decode cX11_point 90 = .ok (.getfield 39, 3) := by decide +kernel
theorem dX11_point_93 : decode cX11_point 93 = .ok (.iload_n 1, 1) := by decide +kernel
theorem dX11_point_94 : decode cX11_point 94 = .ok (.iaload, 1) := by decide +kernel
theorem dX11_point_95 : decode cX11_point 95 = .ok (.ireturn, 1) := by decide +kernel
theorem dX11_point_96 : decode cX11_point 96 = .ok (.aload_n 0, 1) := by decide +kernel
theorem dX11_point_97 : decode cX11_point 97 = .ok (.aload_n 0, 1) := by decide +kernel
theorem dX11_point_98 : decode cX11_point 98 = .ok (.getfield 36, 3) := by decide +kernel
theorem dX11_point_101 : decode cX11_point 101 = .ok (.iload_n 1, 1) := by decide +kernel
theorem dX11_point_102 : decode cX11_point 102 = .ok (.iaload, 1) := by decide +kernel
theorem dX11_point_103 : decode cX11_point 103 = .ok (.iconst 0, 1) := by decide +kernel
theorem dX11_point_104 : decode cX11_point 104 = .ok (.invokevirtual 102, 3) := by decide +kernel
theorem dX11_point_107 : decode cX11_point 107 = .ok (.ireturn, 1) := by decide +kernel
theorem dX11_point_108 : decode cX11_point 108 = .ok (.aload_n 0, 1) := by decide +kernel
theorem dX11_point_109 : decode cX11_point 109 = .ok (.iload_n 1, 1) := by decide +kernel
theorem dX11_point_110 : decode cX11_point 110 = .ok (.invokevirtual 377, 3) := by decide +kernel
theorem dX11_point_113 : decode cX11_point 113 = .ok (.ifCond .eq 7, 3) := by decide +kernel
theorem dX11_point_116 : decode cX11_point 116 = .ok (.iconst 1, 1) := by decide +kernel
theorem dX11_point_117 : decode cX11_point 117 = .ok (.goto 4, 3) := by decide +kernel
theorem dX11_point_120 : decode cX11_point 120 = .ok (.iconst 0, 1) := by decide +kernel
theorem dX11_point_121 : decode cX11_point 121 = .ok (.ireturn, 1) := by decide +kernel
theorem dX11_point_122 : decode cX11_point 122 = .ok (.aload_n 0, 1) := by decide +kernel
theorem dX11_point_123 : decode cX11_point 123 = .ok (.iload_n 1, 1) := by decide +kernel
theorem dX11_point_124 : decode cX11_point 124 = .ok (.invokevirtual 165, 3) := by decide +kernel
theorem dX11_point_127 : decode cX11_point 127 = .ok (.ifCond .eq 7, 3) := by decide +kernel
theorem dX11_point_130 : decode cX11_point 130 = .ok (.iconst 1, 1) := by decide +kernel
theorem dX11_point_131 : decode cX11_point 131 = .ok (.goto 4, 3) := by decide +kernel
theorem dX11_point_134 : decode cX11_point 134 = .ok (.iconst 0, 1) := by decide +kernel
theorem dX11_point_135 : decode cX11_point 135 = .ok (.ireturn, 1) := by decide +kernel
set_option maxRecDepth 20000 in
theorem ggX11_lightest_X11_layAll : GoodIn wsX11_lightest wsX11_layAll := goodIn_r _ [6, 7, 8, 9, 5, 10, 11, 12, 13, 14, 15, 16, 17, 18, 19, 20, 21, 22, 23, 24, 25, 26, 27, 28, 29, 30, 31, 32, 33, 34, 35, 36, 37, 38, 39, 40, 41, 42, 43, 44, 45, 46, 47, 48, 49, 50, 51, 52, 53, 54, 55, 56, 57, 58, 59, 60, 61, 62, 63, 64, 65, 66, 67, 68, 69, 70, 71, 72, 73, 74, 75, 76, 77, 78, 79, 80, 81, 82, 83, 84, 85, 1, 99, 100, 101, 102, 103, 104, 105, 106, 107, 108, 109, 110, 111, 112, 113, 114, 115, 116, 117, 118, 119, 120, 121, 122, 123, 124, 125, 126, 127, 128, 129, 130, 131, 132, 133, 134, 135, 136, 137, 138] (by decide +kernel) (by decide +kernel)
set_option maxRecDepth 20000 in
theorem gX11_lightest_X11_layAll : GoodIn wsX11_lightest (wsV RX11 174 RX11 yX11_layAll wsX11_layAll) := goodIn_app (goodIn_of _ (by decide +kernel)) ggX11_lightest_X11_layAll
set_option maxRecDepth 20000 in
theorem ggX11_lightest_X11_isPoint : GoodIn wsX11_lightest wsX11_isPoint := goodIn_r _ [89, 68, 78, 79, 5, 80, 99, 100, 101, 102, 103, 104, 105, 106, 107, 108, 109, 110, 111, 112, 113, 114, 115, 116, 117, 118, 119, 120, 121, 122, 123, 124, 125, 126, 127, 128, 129, 130, 131, 132, 133, 134, 135, 136, 137, 138] (by decide +kernel) (by decide +kernel)
set_option maxRecDepth 20000 in
theorem gX11_lightest_X11_isPoint : GoodIn wsX11_lightest (wsV RX11 372 RX11 yX11_isPoint wsX11_isPoint) := goodIn_app (goodIn_of _ (by decide +kernel)) ggX11_lightest_X11_isPoint
set_option maxRecDepth 20000 in
theorem ggX11_lightest_X11_passes : GoodIn wsX11_lightest wsX11_passes := goodIn_r _ [93, 94, 95, 96, 5, 97, 98, 99, 100, 101, 102, 103, 104, 105, 106, 107, 108, 109, 110, 111, 112, 113, 114, 115, 116, 117, 118, 119, 120, 121, 122, 123, 124, 125, 126, 127, 128, 129, 130, 131, 132, 133, 134, 135, 136, 137, 138] (by decide +kernel) (by decide +kernel)
set_option maxRecDepth 20000 in
theorem gX11_lightest_X11_passes : GoodIn wsX11_lightest (wsV RX11 235 RX11 yX11_passes wsX11_passes) := goodIn_app (goodIn_of _ (by decide +kernel)) ggX11_lightest_X11_passes
theorem dX11_lightest_0 : decode cX11_lightest 0 = .ok (.aload_n 0, 1) := by decide +kernel
theorem dX11_lightest_1 : decode cX11_lightest 1 = .ok (.invokevirtual 174, 3) := by decide +kernel
theorem dX11_lightest_4 : decode cX11_lightest 4 = .ok (.aload_n 0, 1) := by decide +kernel
theorem dX11_lightest_5 : decode cX11_lightest 5 = .ok (.aload_n 0, 1) := by decide +kernel
theorem dX11_lightest_6 : decode cX11_lightest 6 = .ok (.iload_n 1, 1) := by decide +kernel
theorem dX11_lightest_7 : decode cX11_lightest 7 = .ok (.invokevirtual 372, 3) := by decide +kernel
theorem dX11_lightest_10 : decode cX11_lightest 10 = .ok (.invokevirtual 235, 3) := by decide +kernel
theorem dX11_lightest_13 : decode cX11_lightest 13 = .ok (.ifCond .eq 12, 3) := by decide +kernel
theorem dX11_lightest_16 : decode cX11_lightest 16 = .ok (.aload_n 0, 1) := by decide +kernel
theorem dX11_lightest_17 : decode cX11_lightest 17 = .ok (.getfield 42, 3) := by decide +kernel
theorem dX11_lightest_20 : decode cX11_lightest 20 = .ok (.iload_n 1, 1) := by decide +kernel
theorem dX11_lightest_21 : decode cX11_lightest 21 = .ok (.iaload, 1) := by decide +kernel
theorem dX11_lightest_22 : decode cX11_lightest 22 = .ok (.goto 4, 3) := by decide +kernel
theorem dX11_lightest_25 : decode cX11_lightest 25 = .ok (.iconst 0, 1) := by decide +kernel
theorem dX11_lightest_26 : decode cX11_lightest 26 = .ok (.ireturn, 1) := by decide +kernel
set_option maxRecDepth 20000 in
theorem ggX11_pointOf_X11_isSet : GoodIn wsX11_pointOf wsX11_isSet := goodIn_r _ [5, 6, 7, 8, 4, 9, 10, 11, 12, 13, 14, 15, 16, 17, 89, 90, 91, 92, 93, 94, 95, 96, 97, 98, 99, 100, 101, 102, 103, 104, 105, 106, 107, 108, 109, 110, 111, 112, 113, 114, 115, 116, 117, 118, 119, 120, 121, 122, 123, 124, 125, 126, 127, 128] (by decide +kernel) (by decide +kernel)
set_option maxRecDepth 20000 in
theorem gX11_pointOf_X11_isSet : GoodIn wsX11_pointOf (wsV RX11 364 RX11 yX11_isSet wsX11_isSet) := goodIn_app (goodIn_of _ (by decide +kernel)) ggX11_pointOf_X11_isSet
set_option maxRecDepth 20000 in
theorem ggX11_pointOf_X11_passes : GoodIn wsX11_pointOf wsX11_passes := goodIn_r _ [21, 22, 23, 24, 4, 25, 26, 89, 90, 91, 92, 93, 94, 95, 96, 97, 98, 99, 100, 101, 102, 103, 104, 105, 106, 107, 108, 109, 110, 111, 112, 113, 114, 115, 116, 117, 118, 119, 120, 121, 122, 123, 124, 125, 126, 127, 128] (by decide +kernel) (by decide +kernel)
set_option maxRecDepth 20000 in
theorem gX11_pointOf_X11_passes : GoodIn wsX11_pointOf (wsV RX11 235 RX11 yX11_passes wsX11_passes) := goodIn_app (goodIn_of _ (by decide +kernel)) ggX11_pointOf_X11_passes
set_option maxRecDepth 20000 in
theorem ggX11_pointOf_X11_layPoints : GoodIn wsX11_pointOf wsX11_layPoints := goodIn_r _ [30, 31, 32, 33, 34, 35, 36, 37, 38, 4, 39, 40, 41, 42, 43, 44, 6, 7, 8, 9, 10, 11, 12, 13, 14, 45, 46, 47, 48, 49, 50, 51, 52, 53, 54, 55, 56, 57, 58, 59, 60, 61, 62, 63, 64, 65, 66, 67, 68, 69, 70, 71, 72, 73, 74, 75, 76, 77, 78, 79, 89, 90, 91, 92, 93, 94, 95, 96, 97, 98, 99, 100, 101, 102, 103, 104, 105, 106, 107, 108, 109, 110, 111, 112, 113, 114, 115, 116, 117, 118, 119, 120, 121, 122, 123, 124, 125, 126, 127, 128] (by decide +kernel) (by decide +kernel)
set_option maxRecDepth 20000 in
theorem gX11_pointOf_X11_layPoints : GoodIn wsX11_pointOf (wsV RX11 144 RX11 yX11_layPoints wsX11_layPoints) := goodIn_app (goodIn_of _ (by decide +kernel)) ggX11_pointOf_X11_layPoints
set_option maxRecDepth 20000 in
theorem ggX11_pointOf_X11_pointBy : GoodIn wsX11_pointOf wsX11_pointBy := goodIn_r _ [83, 53, 54, 55, 4, 56, 10, 11, 12, 13, 14, 57, 58, 59, 60, 61, 62, 63, 84, 85, 86, 87, 88, 31, 34, 15, 16, 17, 89, 90, 91, 92, 93, 94, 95, 96, 97, 98, 99, 100, 101, 102, 103, 104, 105, 106, 107, 108, 109, 110, 111, 112, 113, 114, 115, 116, 117, 118, 119, 120, 121, 122, 123, 124, 125, 126, 127, 128] (by decide +kernel) (by decide +kernel)
set_option maxRecDepth 20000 in
theorem gX11_pointOf_X11_pointBy : GoodIn wsX11_pointOf (wsV RX11 147 RX11 yX11_pointBy wsX11_pointBy) := goodIn_app (goodIn_of _ (by decide +kernel)) ggX11_pointOf_X11_pointBy
theorem dX11_pointOf_0 : decode cX11_pointOf 0 = .ok (.aload_n 0, 1) := by decide +kernel
theorem dX11_pointOf_1 : decode cX11_pointOf 1 = .ok (.aload_n 0, 1) := by decide +kernel
theorem dX11_pointOf_2 : decode cX11_pointOf 2 = .ok (.iload_n 1, 1) := by decide +kernel
theorem dX11_pointOf_3 : decode cX11_pointOf 3 = .ok (.invokevirtual 364, 3) := by decide +kernel
theorem dX11_pointOf_6 : decode cX11_pointOf 6 = .ok (.invokevirtual 235, 3) := by decide +kernel
theorem dX11_pointOf_9 : decode cX11_pointOf 9 = .ok (.ifCond .ne 5, 3) := by decide +kernel
theorem dX11_pointOf_12 : decode cX11_pointOf 12 = .ok (.iconst 0, 1) := by decide +kernel
theorem dX11_pointOf_13 : decode cX11_pointOf 13 = .ok (.ireturn, 1) := by decide +kernel
theorem dX11_pointOf_14 : decode cX11_pointOf 14 = .ok (.aload_n 0, 1) := by decide +kernel
theorem dX11_pointOf_15 : decode cX11_pointOf 15 = .ok (.invokevirtual 144, 3) := by decide +kernel
theorem dX11_pointOf_18 : decode cX11_pointOf 18 = .ok (.aload_n 0, 1) := by decide +kernel
theorem dX11_pointOf_19 : decode cX11_pointOf 19 = .ok (.iload_n 1, 1) := by decide +kernel
theorem dX11_pointOf_20 : decode cX11_pointOf 20 = .ok (.invokevirtual 147, 3) := by decide +kernel
theorem dX11_pointOf_23 : decode cX11_pointOf 23 = .ok (.ireturn, 1) := by decide +kernel
set_option maxRecDepth 20000 in
theorem ggX11_beatenBy_X11_isSet : GoodIn wsX11_beatenBy wsX11_isSet := goodIn_r _ [6, 7, 8, 9, 5, 10, 11, 12, 13, 14, 15, 16, 17, 18, 84, 85, 86, 87, 88, 89, 90, 91, 92, 93, 94, 95, 96, 97, 98, 99, 100, 101, 102, 103, 104, 105, 106, 107, 108, 109, 110, 111, 112, 113, 114, 115, 116, 117, 118, 119, 120, 121, 122, 123] (by decide +kernel) (by decide +kernel)
set_option maxRecDepth 20000 in
theorem gX11_beatenBy_X11_isSet : GoodIn wsX11_beatenBy (wsV RX11 364 RX11 yX11_isSet wsX11_isSet) := goodIn_app (goodIn_of _ (by decide +kernel)) ggX11_beatenBy_X11_isSet
set_option maxRecDepth 20000 in
theorem ggX11_beatenBy_X11_passes : GoodIn wsX11_beatenBy wsX11_passes := goodIn_r _ [22, 23, 24, 25, 5, 26, 27, 84, 85, 86, 87, 88, 89, 90, 91, 92, 93, 94, 95, 96, 97, 98, 99, 100, 101, 102, 103, 104, 105, 106, 107, 108, 109, 110, 111, 112, 113, 114, 115, 116, 117, 118, 119, 120, 121, 122, 123] (by decide +kernel) (by decide +kernel)
set_option maxRecDepth 20000 in
theorem gX11_beatenBy_X11_passes : GoodIn wsX11_beatenBy (wsV RX11 235 RX11 yX11_passes wsX11_passes) := goodIn_app (goodIn_of _ (by decide +kernel)) ggX11_beatenBy_X11_passes
set_option maxRecDepth 20000 in
theorem ggX11_beatenBy_X11_layPoints : GoodIn wsX11_beatenBy wsX11_layPoints := goodIn_r _ [31, 32, 33, 34, 35, 36, 37, 38, 39, 5, 40, 41, 42, 43, 44, 45, 7, 8, 9, 10, 11, 12, 13, 14, 15, 46, 47, 48, 49, 50, 51, 52, 53, 54, 55, 56, 57, 58, 59, 60, 61, 62, 63, 64, 65, 66, 67, 68, 69, 70, 71, 72, 73, 74, 75, 76, 77, 78, 79, 1, 84, 85, 86, 87, 88, 89, 90, 91, 92, 93, 94, 95, 96, 97, 98, 99, 100, 101, 102, 103, 104, 105, 106, 107, 108, 109, 110, 111, 112, 113, 114, 115, 116, 117, 118, 119, 120, 121, 122, 123] (by decide +kernel) (by decide +kernel)
set_option maxRecDepth 20000 in
theorem gX11_beatenBy_X11_layPoints : GoodIn wsX11_beatenBy (wsV RX11 144 RX11 yX11_layPoints wsX11_layPoints) := goodIn_app (goodIn_of _ (by decide +kernel)) ggX11_beatenBy_X11_layPoints
set_option maxRecDepth 20000 in
theorem ggX11_beatenBy_X11_sumOf : GoodIn wsX11_beatenBy wsX11_sumOf := goodIn_r _ [57, 11, 12, 13, 5, 14, 15, 58, 59, 60, 61, 62, 63, 64, 84, 85, 86, 87, 88, 89, 90, 91, 92, 93, 94, 95, 96, 97, 98, 99, 100, 101, 102, 103, 104, 105, 106, 107, 108, 109, 110, 111, 112, 113, 114, 115, 116, 117, 118, 119, 120, 121, 122, 123] (by decide +kernel) (by decide +kernel)
set_option maxRecDepth 20000 in
theorem gX11_beatenBy_X11_sumOf : GoodIn wsX11_beatenBy (wsV RX11 102 RX11 yX11_sumOf wsX11_sumOf) := goodIn_app (goodIn_of _ (by decide +kernel)) ggX11_beatenBy_X11_sumOf
set_option maxRecDepth 20000 in
theorem ggX11_beatenBy_X11_doesBeat : GoodIn wsX11_beatenBy wsX11_doesBeat := goodIn_r _ [83, 34, 35, 84, 85, 86, 87, 88, 89, 90, 91, 92, 93, 94, 95, 96, 97, 98, 99, 100, 101, 102, 103, 104, 105, 106, 107, 108, 109, 110, 111, 112, 113, 114, 115, 116, 117, 118, 119, 120, 121, 122, 123] (by decide +kernel) (by decide +kernel)
set_option maxRecDepth 20000 in
theorem gX11_beatenBy_X11_doesBeat : GoodIn wsX11_beatenBy (wsV RX11 380 RX11 yX11_doesBeat wsX11_doesBeat) := goodIn_app (goodIn_of _ (by decide +kernel)) ggX11_beatenBy_X11_doesBeat
theorem dX11_beatenBy_0 : decode cX11_beatenBy 0 = .ok (.aload_n 0, 1) := by decide +kernel
theorem dX11_beatenBy_1 : decode cX11_beatenBy 1 = .ok (.aload_n 0, 1) := by decide +kernel
theorem dX11_beatenBy_2 : decode cX11_beatenBy 2 = .ok (.iload_n 1, 1) := by decide +kernel
theorem dX11_beatenBy_3 : decode cX11_beatenBy 3 = .ok (.invokevirtual 364, 3) := by decide +kernel
theorem dX11_beatenBy_6 : decode cX11_beatenBy 6 = .ok (.invokevirtual 235, 3) := by decide +kernel
theorem dX11_beatenBy_9 : decode cX11_beatenBy 9 = .ok (.ifCond .ne 5, 3) := by decide +kernel
theorem dX11_beatenBy_12 : decode cX11_beatenBy 12 = .ok (.iconst 0, 1) := by decide +kernel
theorem dX11_beatenBy_13 : decode cX11_beatenBy 13 = .ok (.ireturn, 1) := by decide +kernel
theorem dX11_beatenBy_14 : decode cX11_beatenBy 14 = .ok (.aload_n 0, 1) := by decide +kernel
theorem dX11_beatenBy_15 : decode cX11_beatenBy 15 = .ok (.invokevirtual 144, 3) := by decide +kernel
theorem dX11_beatenBy_18 : decode cX11_beatenBy 18 = .ok (.iconst 0, 1) := by decide +kernel
theorem dX11_beatenBy_19 : decode cX11_beatenBy 19 = .ok (.istore_n 2, 1) := by decide +kernel
theorem dX11_beatenBy_20 : decode cX11_beatenBy 20 = .ok (.iload_n 2, 1) := by decide +kernel
theorem dX11_beatenBy_21 : decode cX11_beatenBy 21 = .ok (.aload_n 0, 1) := by decide +kernel
theorem dX11_beatenBy_22 : decode cX11_beatenBy 22 = .ok (.getfield 130, 3) := by decide +kernel
theorem dX11_beatenBy_25 : decode cX11_beatenBy 25 = .ok (.if_icmp .ge 31, 3) := by decide +kernel
theorem dX11_beatenBy_28 : decode cX11_beatenBy 28 = .ok (.aload_n 0, 1) := by decide +kernel
theorem dX11_beatenBy_29 : decode cX11_beatenBy 29 = .ok (.iload_n 2, 1) := by decide +kernel
theorem dX11_beatenBy_30 : decode cX11_beatenBy 30 = .ok (.aload_n 0, 1) := by decide +kernel
theorem dX11_beatenBy_31 : decode cX11_beatenBy 31 = .ok (.iload_n 1, 1) := by decide +kernel
theorem dX11_beatenBy_32 : decode cX11_beatenBy 32 = .ok (.iconst 1, 1) := by decide +kernel
theorem dX11_beatenBy_33 : decode cX11_beatenBy 33 = .ok (.invokevirtual 102, 3) := by decide +kernel
theorem dX11_beatenBy_36 : decode cX11_beatenBy 36 = .ok (.aload_n 0, 1) := by decide +kernel
theorem dX11_beatenBy_37 : decode cX11_beatenBy 37 = .ok (.iload_n 1, 1) := by decide +kernel
theorem dX11_beatenBy_38 : decode cX11_beatenBy 38 = .ok (.iconst 2, 1) := by decide +kernel
theorem dX11_beatenBy_39 : decode cX11_beatenBy 39 = .ok (.invokevirtual 102, 3) := by decide +kernel
theorem dX11_beatenBy_42 : decode cX11_beatenBy 42 = .ok (.invokevirtual 380, 3) := by decide +kernel
theorem dX11_beatenBy_45 : decode cX11_beatenBy 45 = .ok (.ifCond .eq 5, 3) := by decide +kernel
theorem dX11_beatenBy_48 : decode cX11_beatenBy 48 = .ok (.iload_n 2, 1) := by decide +kernel
theorem dX11_beatenBy_49 : decode cX11_beatenBy 49 = .ok (.ireturn, 1) := by decide +kernel
theorem dX11_beatenBy_50 : decode cX11_beatenBy 50 = .ok (.iinc 2 1, 3) := by decide +kernel
theorem dX11_beatenBy_53 : decode cX11_beatenBy 53 = .ok (.goto (-33), 3) := by decide +kernel
theorem dX11_beatenBy_56 : decode cX11_beatenBy 56 = .ok (.iconst (-1), 1) := by decide +kernel
theorem dX11_beatenBy_57 : decode cX11_beatenBy 57 = .ok (.ireturn, 1) := by decide +kernel
set_option maxRecDepth 20000 in
theorem ggX11_beating_X11_layPoints : GoodIn wsX11_beating wsX11_layPoints := goodIn_r _ [7, 8, 9, 10, 11, 12, 13, 14, 15, 6, 16, 17, 18, 19, 20, 21, 22, 23, 24, 25, 26, 27, 28, 29, 30, 31, 32, 33, 34, 35, 36, 37, 38, 39, 40, 41, 42, 43, 44, 45, 46, 47, 48, 49, 50, 51, 52, 53, 54, 55, 56, 57, 58, 59, 60, 61, 62, 63, 64, 2, 69, 70, 71, 72, 73, 74, 75, 76, 77, 78, 79, 80, 81, 82, 83, 84, 85, 86, 87, 88, 89, 90, 91, 92, 93, 94, 95, 96, 97, 98, 99, 100, 101, 102, 103, 104, 105, 106, 107, 108] (by decide +kernel) (by decide +kernel)
set_option maxRecDepth 20000 in
theorem gX11_beating_X11_layPoints : GoodIn wsX11_beating (wsV RX11 144 RX11 yX11_layPoints wsX11_layPoints) := goodIn_app (goodIn_of _ (by decide +kernel)) ggX11_beating_X11_layPoints
set_option maxRecDepth 20000 in
theorem ggX11_beating_X11_doesBeat : GoodIn wsX11_beating wsX11_doesBeat := goodIn_r _ [68, 10, 11, 69, 70, 71, 72, 73, 74, 75, 76, 77, 78, 79, 80, 81, 82, 83, 84, 85, 86, 87, 88, 89, 90, 91, 92, 93, 94, 95, 96, 97, 98, 99, 100, 101, 102, 103, 104, 105, 106, 107, 108] (by decide +kernel) (by decide +kernel)
set_option maxRecDepth 20000 in
theorem gX11_beating_X11_doesBeat : GoodIn wsX11_beating (wsV RX11 380 RX11 yX11_doesBeat wsX11_doesBeat) := goodIn_app (goodIn_of _ (by decide +kernel)) ggX11_beating_X11_doesBeat
theorem dX11_beating_0 : decode cX11_beating 0 = .ok (.aload_n 0, 1) := by decide +kernel
theorem dX11_beating_1 : decode cX11_beating 1 = .ok (.iconst 0, 1) := by decide +kernel
theorem dX11_beating_2 : decode cX11_beating 2 = .ok (.putfield 3, 3) := by decide +kernel
theorem dX11_beating_5 : decode cX11_beating 5 = .ok (.aload_n 0, 1) := by decide +kernel
theorem dX11_beating_6 : decode cX11_beating 6 = .ok (.invokevirtual 144, 3) := by decide +kernel
theorem dX11_beating_9 : decode cX11_beating 9 = .ok (.iconst 0, 1) := by decide +kernel
theorem dX11_beating_10 : decode cX11_beating 10 = .ok (.istore_n 3, 1) := by decide +kernel
theorem dX11_beating_11 : decode cX11_beating 11 = .ok (.iconst 0, 1) := by decide +kernel
theorem dX11_beating_12 : decode cX11_beating 12 = .ok (.istore 4, 2) := by decide +kernel
theorem dX11_beating_14 : decode cX11_beating 14 = .ok (.iload 4, 2) := by decide +kernel
theorem dX11_beating_16 : decode cX11_beating 16 = .ok (.aload_n 0, 1) := by decide +kernel
theorem dX11_beating_17 : decode cX11_beating 17 = .ok (.getfield 130, 3) := by decide +kernel
theorem dX11_beating_20 : decode cX11_beating 20 = .ok (.if_icmp .ge 28, 3) := by decide +kernel
theorem dX11_beating_23 : decode cX11_beating 23 = .ok (.iload_n 3, 1) := by decide +kernel
theorem dX11_beating_24 : decode cX11_beating 24 = .ok (.aload_n 0, 1) := by decide +kernel
theorem dX11_beating_25 : decode cX11_beating 25 = .ok (.iload 4, 2) := by decide +kernel
theorem dX11_beating_27 : decode cX11_beating 27 = .ok (.iload_n 1, 1) := by decide +kernel
theorem dX11_beating_28 : decode cX11_beating 28 = .ok (.iload_n 2, 1) := by decide +kernel
theorem dX11_beating_29 : decode cX11_beating 29 = .ok (.invokevirtual 380, 3) := by decide +kernel
theorem dX11_beating_32 : decode cX11_beating 32 = .ok (.ifCond .eq 7, 3) := by decide +kernel
theorem dX11_beating_35 : decode cX11_beating 35 = .ok (.iconst 1, 1) := by decide +kernel
theorem dX11_beating_36 : decode cX11_beating 36 = .ok (.goto 4, 3) := by decide +kernel
theorem dX11_beating_39 : decode cX11_beating 39 = .ok (.iconst 0, 1) := by decide +kernel
theorem dX11_beating_40 : decode cX11_beating 40 = .ok (.iadd, 1) := by decide +kernel
theorem dX11_beating_41 : decode cX11_beating 41 = .ok (.istore_n 3, 1) := by decide +kernel
theorem dX11_beating_42 : decode cX11_beating 42 = .ok (.iinc 4 1, 3) := by decide +kernel
theorem dX11_beating_45 : decode cX11_beating 45 = .ok (.goto (-31), 3) := by decide +kernel
theorem dX11_beating_48 : decode cX11_beating 48 = .ok (.iload_n 3, 1) := by decide +kernel
theorem dX11_beating_49 : decode cX11_beating 49 = .ok (.ireturn, 1) := by decide +kernel
set_option maxRecDepth 20000 in
theorem ggX11_joyFor_X11_layPoints : GoodIn wsX11_joyFor wsX11_layPoints := goodIn_r _ [9, 10, 11, 3, 4, 12, 13, 14, 15, 8, 16, 17, 18, 19, 20, 21, 22, 23, 24, 25, 26, 27, 28, 29, 30, 31, 32, 33, 34, 35, 36, 37, 38, 39, 40, 41, 42, 43, 44, 45, 46, 47, 48, 49, 50, 51, 52, 53, 54, 55, 56, 57, 58, 59, 60, 61, 62, 63, 64, 2, 65, 66, 67, 68, 69, 70, 71, 72, 73, 74, 75, 76, 77, 78, 79, 80, 81, 82, 83, 84, 85, 86, 87, 88, 89, 90, 91, 92, 93, 94, 95, 96, 97, 98, 99, 100, 101, 102, 103, 104] (by decide +kernel) (by decide +kernel)
set_option maxRecDepth 20000 in
theorem gX11_joyFor_X11_layPoints : GoodIn wsX11_joyFor (wsV RX11 144 RX11 yX11_layPoints wsX11_layPoints) := goodIn_app (goodIn_of _ (by decide +kernel)) ggX11_joyFor_X11_layPoints
theorem dX11_joyFor_0 : decode cX11_joyFor 0 = .ok (.aload_n 0, 1) := by decide +kernel
theorem dX11_joyFor_1 : decode cX11_joyFor 1 = .ok (.iconst 0, 1) := by decide +kernel
theorem dX11_joyFor_2 : decode cX11_joyFor 2 = .ok (.putfield 3, 3) := by decide +kernel
theorem dX11_joyFor_5 : decode cX11_joyFor 5 = .ok (.aload_n 0, 1) := by decide +kernel
theorem dX11_joyFor_6 : decode cX11_joyFor 6 = .ok (.invokevirtual 144, 3) := by decide +kernel
theorem dX11_joyFor_9 : decode cX11_joyFor 9 = .ok (.iconst 0, 1) := by decide +kernel
theorem dX11_joyFor_10 : decode cX11_joyFor 10 = .ok (.istore_n 2, 1) := by decide +kernel
theorem dX11_joyFor_11 : decode cX11_joyFor 11 = .ok (.iload_n 2, 1) := by decide +kernel
theorem dX11_joyFor_12 : decode cX11_joyFor 12 = .ok (.aload_n 0, 1) := by decide +kernel
theorem dX11_joyFor_13 : decode cX11_joyFor 13 = .ok (.getfield 130, 3) := by decide +kernel
theorem dX11_joyFor_16 : decode cX11_joyFor 16 = .ok (.if_icmp .ge 26, 3) := by decide +kernel
theorem dX11_joyFor_19 : decode cX11_joyFor 19 = .ok (.aload_n 0, 1) := by decide +kernel
theorem dX11_joyFor_20 : decode cX11_joyFor 20 = .ok (.getfield 30, 3) := by decide +kernel
theorem dX11_joyFor_23 : decode cX11_joyFor 23 = .ok (.iload_n 2, 1) := by decide +kernel
theorem dX11_joyFor_24 : decode cX11_joyFor 24 = .ok (.iaload, 1) := by decide +kernel
theorem dX11_joyFor_25 : decode cX11_joyFor 25 = .ok (.iload_n 1, 1) := by decide +kernel
theorem dX11_joyFor_26 : decode cX11_joyFor 26 = .ok (.if_icmp .lt 10, 3) := by decide +kernel
theorem dX11_joyFor_29 : decode cX11_joyFor 29 = .ok (.aload_n 0, 1) := by decide +kernel
theorem dX11_joyFor_30 : decode cX11_joyFor 30 = .ok (.getfield 33, 3) := by decide +kernel
theorem dX11_joyFor_33 : decode cX11_joyFor 33 = .ok (.iload_n 2, 1) := by decide +kernel
theorem dX11_joyFor_34 : decode cX11_joyFor 34 = .ok (.iaload, 1) := by decide +kernel
theorem dX11_joyFor_35 : decode cX11_joyFor 35 = .ok (.ireturn, 1) := by decide +kernel
theorem dX11_joyFor_36 : decode cX11_joyFor 36 = .ok (.iinc 2 1, 3) := by decide +kernel
theorem dX11_joyFor_39 : decode cX11_joyFor 39 = .ok (.goto (-28), 3) := by decide +kernel
theorem dX11_joyFor_42 : decode cX11_joyFor 42 = .ok (.iconst (-1), 1) := by decide +kernel
theorem dX11_joyFor_43 : decode cX11_joyFor 43 = .ok (.ireturn, 1) := by decide +kernel
set_option maxRecDepth 20000 in
theorem ggX11_gainFor_X11_layPoints : GoodIn wsX11_gainFor wsX11_layPoints := goodIn_r _ [9, 10, 11, 4, 3, 12, 13, 14, 15, 8, 16, 17, 18, 19, 20, 21, 22, 23, 24, 25, 26, 27, 28, 29, 30, 31, 32, 33, 34, 35, 36, 37, 38, 39, 40, 41, 42, 43, 44, 45, 46, 47, 48, 49, 50, 51, 52, 53, 54, 55, 56, 57, 58, 59, 60, 61, 62, 63, 64, 2, 65, 66, 67, 68, 69, 70, 71, 72, 73, 74, 75, 76, 77, 78, 79, 80, 81, 82, 83, 84, 85, 86, 87, 88, 89, 90, 91, 92, 93, 94, 95, 96, 97, 98, 99, 100, 101, 102, 103, 104] (by decide +kernel) (by decide +kernel)
set_option maxRecDepth 20000 in
theorem gX11_gainFor_X11_layPoints : GoodIn wsX11_gainFor (wsV RX11 144 RX11 yX11_layPoints wsX11_layPoints) := goodIn_app (goodIn_of _ (by decide +kernel)) ggX11_gainFor_X11_layPoints
theorem dX11_gainFor_0 : decode cX11_gainFor 0 = .ok (.aload_n 0, 1) := by decide +kernel
theorem dX11_gainFor_1 : decode cX11_gainFor 1 = .ok (.iconst 0, 1) := by decide +kernel
theorem dX11_gainFor_2 : decode cX11_gainFor 2 = .ok (.putfield 3, 3) := by decide +kernel
theorem dX11_gainFor_5 : decode cX11_gainFor 5 = .ok (.aload_n 0, 1) := by decide +kernel
theorem dX11_gainFor_6 : decode cX11_gainFor 6 = .ok (.invokevirtual 144, 3) := by decide +kernel
theorem dX11_gainFor_9 : decode cX11_gainFor 9 = .ok (.aload_n 0, 1) := by decide +kernel
theorem dX11_gainFor_10 : decode cX11_gainFor 10 = .ok (.getfield 130, 3) := by decide +kernel
theorem dX11_gainFor_13 : decode cX11_gainFor 13 = .ok (.iconst 1, 1) := by decide +kernel
theorem dX11_gainFor_14 : decode cX11_gainFor 14 = .ok (.isub, 1) := by decide +kernel
theorem dX11_gainFor_15 : decode cX11_gainFor 15 = .ok (.istore_n 2, 1) := by decide +kernel
theorem dX11_gainFor_16 : decode cX11_gainFor 16 = .ok (.iload_n 2, 1) := by decide +kernel
theorem dX11_gainFor_17 : decode cX11_gainFor 17 = .ok (.ifCond .lt 26, 3) := by decide +kernel
theorem dX11_gainFor_20 : decode cX11_gainFor 20 = .ok (.aload_n 0, 1) := by decide +kernel
theorem dX11_gainFor_21 : decode cX11_gainFor 21 = .ok (.getfield 33, 3) := by decide +kernel
theorem dX11_gainFor_24 : decode cX11_gainFor 24 = .ok (.iload_n 2, 1) := by decide +kernel
theorem dX11_gainFor_25 : decode cX11_gainFor 25 = .ok (.iaload, 1) := by decide +kernel
theorem dX11_gainFor_26 : decode cX11_gainFor 26 = .ok (.iload_n 1, 1) := by decide +kernel
theorem dX11_gainFor_27 : decode cX11_gainFor 27 = .ok (.if_icmp .lt 10, 3) := by decide +kernel
theorem dX11_gainFor_30 : decode cX11_gainFor 30 = .ok (.aload_n 0, 1) := by decide +kernel
theorem dX11_gainFor_31 : decode cX11_gainFor 31 = .ok (.getfield 30, 3) := by decide +kernel
theorem dX11_gainFor_34 : decode cX11_gainFor 34 = .ok (.iload_n 2, 1) := by decide +kernel
theorem dX11_gainFor_35 : decode cX11_gainFor 35 = .ok (.iaload, 1) := by decide +kernel
theorem dX11_gainFor_36 : decode cX11_gainFor 36 = .ok (.ireturn, 1) := by decide +kernel
theorem dX11_gainFor_37 : decode cX11_gainFor 37 = .ok (.iinc 2 (-1), 3) := by decide +kernel
theorem dX11_gainFor_40 : decode cX11_gainFor 40 = .ok (.goto (-24), 3) := by decide +kernel
theorem dX11_gainFor_43 : decode cX11_gainFor 43 = .ok (.iconst (-1), 1) := by decide +kernel
theorem dX11_gainFor_44 : decode cX11_gainFor 44 = .ok (.ireturn, 1) := by decide +kernel
set_option maxRecDepth 20000 in
theorem ggX11_best_X11_areWeights : GoodIn wsX11_best wsX11_areWeights := goodIn_r _ [4, 5, 6, 7, 3, 8] (by decide +kernel) (by decide +kernel)
set_option maxRecDepth 20000 in
theorem gX11_best_X11_areWeights : GoodIn wsX11_best (va_wsS RX11 383 yX11_areWeights wsX11_areWeights) := goodIn_app (goodIn_of _ (by decide +kernel)) ggX11_best_X11_areWeights
set_option maxRecDepth 20000 in
theorem ggX11_best_X11_passes : GoodIn wsX11_best wsX11_passes := goodIn_r _ [12, 13, 14, 15, 3, 16, 17, 88, 89, 90, 91, 92, 93, 94, 95, 96, 97, 98, 99, 100, 101, 102, 103, 104, 105, 106, 107, 108, 109, 110, 111, 112, 113, 114, 115, 116, 117, 118, 119, 120, 121, 122, 123, 124, 125, 126, 127] (by decide +kernel) (by decide +kernel)
set_option maxRecDepth 20000 in
theorem gX11_best_X11_passes : GoodIn wsX11_best (wsV RX11 235 RX11 yX11_passes wsX11_passes) := goodIn_app (goodIn_of _ (by decide +kernel)) ggX11_best_X11_passes
set_option maxRecDepth 20000 in
theorem ggX11_best_X11_layPoints : GoodIn wsX11_best wsX11_layPoints := goodIn_r _ [21, 22, 23, 24, 25, 26, 27, 28, 29, 3, 30, 31, 32, 33, 34, 35, 36, 37, 38, 39, 40, 41, 42, 43, 44, 45, 46, 47, 48, 49, 50, 51, 52, 53, 54, 55, 56, 57, 58, 59, 60, 61, 62, 63, 64, 65, 66, 67, 68, 69, 70, 71, 72, 73, 74, 75, 76, 77, 78, 79, 88, 89, 90, 91, 92, 93, 94, 95, 96, 97, 98, 99, 100, 101, 102, 103, 104, 105, 106, 107, 108, 109, 110, 111, 112, 113, 114, 115, 116, 117, 118, 119, 120, 121, 122, 123, 124, 125, 126, 127] (by decide +kernel) (by decide +kernel)
set_option maxRecDepth 20000 in
theorem gX11_best_X11_layPoints : GoodIn wsX11_best (wsV RX11 144 RX11 yX11_layPoints wsX11_layPoints) := goodIn_app (goodIn_of _ (by decide +kernel)) ggX11_best_X11_layPoints
set_option maxRecDepth 20000 in
theorem ggX11_best_X11_bestBy : GoodIn wsX11_best wsX11_bestBy := goodIn_r _ [83, 79, 84, 85, 86, 3, 87, 24, 25, 88, 89, 90, 91, 92, 93, 94, 95, 96, 97, 98, 99, 100, 101, 102, 103, 104, 105, 106, 107, 108, 109, 110, 111, 112, 113, 114, 115, 116, 117, 118, 119, 120, 121, 122, 123, 124, 125, 126, 127] (by decide +kernel) (by decide +kernel)
set_option maxRecDepth 20000 in
theorem gX11_best_X11_bestBy : GoodIn wsX11_best (wsV RX11 195 RX11 yX11_bestBy wsX11_bestBy) := goodIn_app (goodIn_of _ (by decide +kernel)) ggX11_best_X11_bestBy
theorem dX11_best_0 : decode cX11_best 0 = .ok (.aload_n 0, 1) := by decide +kernel
theorem dX11_best_1 : decode cX11_best 1 = .ok (.iload_n 1, 1) := by decide +kernel
theorem dX11_best_2 : decode cX11_best 2 = .ok (.iload_n 2, 1) := by decide +kernel
theorem dX11_best_3 : decode cX11_best 3 = .ok (.invokestatic 383, 3) := by decide +kernel
theorem dX11_best_6 : decode cX11_best 6 = .ok (.invokevirtual 235, 3) := by decide +kernel
theorem dX11_best_9 : decode cX11_best 9 = .ok (.ifCond .ne 5, 3) := by decide +kernel
theorem dX11_best_12 : decode cX11_best 12 = .ok (.iconst 0, 1) := by decide +kernel
theorem dX11_best_13 : decode cX11_best 13 = .ok (.ireturn, 1) := by decide +kernel
theorem dX11_best_14 : decode cX11_best 14 = .ok (.aload_n 0, 1) := by decide +kernel
theorem dX11_best_15 : decode cX11_best 15 = .ok (.invokevirtual 144, 3) := by decide +kernel
theorem dX11_best_18 : decode cX11_best 18 = .ok (.aload_n 0, 1) := by decide +kernel
theorem dX11_best_19 : decode cX11_best 19 = .ok (.iload_n 1, 1) := by decide +kernel
theorem dX11_best_20 : decode cX11_best 20 = .ok (.iload_n 2, 1) := by decide +kernel
theorem dX11_best_21 : decode cX11_best 21 = .ok (.invokevirtual 195, 3) := by decide +kernel
theorem dX11_best_24 : decode cX11_best 24 = .ok (.ireturn, 1) := by decide +kernel
theorem dX11_lackOf_0 : decode cX11_lackOf 0 = .ok (.iload_n 2, 1) := by decide +kernel
theorem dX11_lackOf_1 : decode cX11_lackOf 1 = .ok (.aload_n 0, 1) := by decide +kernel
theorem dX11_lackOf_2 : decode cX11_lackOf 2 = .ok (.getfield 30, 3) := by decide +kernel
theorem dX11_lackOf_5 : decode cX11_lackOf 5 = .ok (.aload_n 0, 1) := by decide +kernel
theorem dX11_lackOf_6 : decode cX11_lackOf 6 = .ok (.getfield 130, 3) := by decide +kernel
theorem dX11_lackOf_9 : decode cX11_lackOf 9 = .ok (.iconst 1, 1) := by decide +kernel
theorem dX11_lackOf_10 : decode cX11_lackOf 10 = .ok (.isub, 1) := by decide +kernel
theorem dX11_lackOf_11 : decode cX11_lackOf 11 = .ok (.iaload, 1) := by decide +kernel
theorem dX11_lackOf_12 : decode cX11_lackOf 12 = .ok (.aload_n 0, 1) := by decide +kernel
theorem dX11_lackOf_13 : decode cX11_lackOf 13 = .ok (.getfield 30, 3) := by decide +kernel
theorem dX11_lackOf_16 : decode cX11_lackOf 16 = .ok (.iload_n 1, 1) := by decide +kernel
theorem dX11_lackOf_17 : decode cX11_lackOf 17 = .ok (.iaload, 1) := by decide +kernel
theorem dX11_lackOf_18 : decode cX11_lackOf 18 = .ok (.isub, 1) := by decide +kernel
theorem dX11_lackOf_19 : decode cX11_lackOf 19 = .ok (.imul, 1) := by decide +kernel
theorem dX11_lackOf_20 : decode cX11_lackOf 20 = .ok (.istore 4, 2) := by decide +kernel
theorem dX11_lackOf_22 : decode cX11_lackOf 22 = .ok (.iload 4, 2) := by decide +kernel
theorem dX11_lackOf_24 : decode cX11_lackOf 24 = .ok (.iload_n 3, 1) := by decide +kernel
theorem dX11_lackOf_25 : decode cX11_lackOf 25 = .ok (.aload_n 0, 1) := by decide +kernel
theorem dX11_lackOf_26 : decode cX11_lackOf 26 = .ok (.getfield 33, 3) := by decide +kernel
theorem dX11_lackOf_29 : decode cX11_lackOf 29 = .ok (.iconst 0, 1) := by decide +kernel
theorem dX11_lackOf_30 : decode cX11_lackOf 30 = .ok (.iaload, 1) := by decide +kernel
theorem dX11_lackOf_31 : decode cX11_lackOf 31 = .ok (.aload_n 0, 1) := by decide +kernel
theorem dX11_lackOf_32 : decode cX11_lackOf 32 = .ok (.getfield 33, 3) := by decide +kernel
theorem dX11_lackOf_35 : decode cX11_lackOf 35 = .ok (.iload_n 1, 1) := by decide +kernel
theorem dX11_lackOf_36 : decode cX11_lackOf 36 = .ok (.iaload, 1) := by decide +kernel
theorem dX11_lackOf_37 : decode cX11_lackOf 37 = .ok (.isub, 1) := by decide +kernel
theorem dX11_lackOf_38 : decode cX11_lackOf 38 = .ok (.imul, 1) := by decide +kernel
theorem dX11_lackOf_39 : decode cX11_lackOf 39 = .ok (.invokestatic 125, 3) := by decide +kernel
theorem dX11_lackOf_42 : decode cX11_lackOf 42 = .ok (.ireturn, 1) := by decide +kernel
set_option maxRecDepth 20000 in
theorem ggX11_nearest_X11_areWeights : GoodIn wsX11_nearest wsX11_areWeights := goodIn_r _ [5, 6, 7, 8, 4, 9] (by decide +kernel) (by decide +kernel)
set_option maxRecDepth 20000 in
theorem gX11_nearest_X11_areWeights : GoodIn wsX11_nearest (va_wsS RX11 383 yX11_areWeights wsX11_areWeights) := goodIn_app (goodIn_of _ (by decide +kernel)) ggX11_nearest_X11_areWeights
set_option maxRecDepth 20000 in
theorem ggX11_nearest_X11_passes : GoodIn wsX11_nearest wsX11_passes := goodIn_r _ [13, 14, 15, 16, 4, 17, 18, 84, 85, 86, 87, 88, 89, 90, 91, 92, 93, 94, 95, 96, 97, 98, 99, 100, 101, 102, 103, 104, 105, 106, 107, 108, 109, 110, 111, 112, 113, 114, 115, 116, 117, 118, 119, 120, 121, 122, 123] (by decide +kernel) (by decide +kernel)
set_option maxRecDepth 20000 in
theorem gX11_nearest_X11_passes : GoodIn wsX11_nearest (wsV RX11 235 RX11 yX11_passes wsX11_passes) := goodIn_app (goodIn_of _ (by decide +kernel)) ggX11_nearest_X11_passes
set_option maxRecDepth 20000 in
theorem ggX11_nearest_X11_layPoints : GoodIn wsX11_nearest wsX11_layPoints := goodIn_r _ [22, 23, 24, 25, 26, 27, 28, 29, 30, 4, 31, 32, 33, 34, 35, 36, 37, 38, 39, 40, 41, 42, 43, 44, 45, 46, 47, 48, 49, 50, 51, 52, 53, 54, 55, 56, 57, 58, 59, 60, 61, 62, 63, 64, 65, 66, 67, 68, 69, 70, 71, 72, 73, 74, 75, 76, 77, 78, 79, 1, 84, 85, 86, 87, 88, 89, 90, 91, 92, 93, 94, 95, 96, 97, 98, 99, 100, 101, 102, 103, 104, 105, 106, 107, 108, 109, 110, 111, 112, 113, 114, 115, 116, 117, 118, 119, 120, 121, 122, 123] (by decide +kernel) (by decide +kernel)
set_option maxRecDepth 20000 in
theorem gX11_nearest_X11_layPoints : GoodIn wsX11_nearest (wsV RX11 144 RX11 yX11_layPoints wsX11_layPoints) := goodIn_app (goodIn_of _ (by decide +kernel)) ggX11_nearest_X11_layPoints
set_option maxRecDepth 20000 in
theorem ggX11_nearest_X11_lackOf : GoodIn wsX11_nearest wsX11_lackOf := goodIn_r _ [83, 25, 1, 26, 33, 34, 35, 36, 84, 85, 86, 87, 88, 89, 90, 91, 92, 93, 94, 95, 96, 97, 98, 99, 100, 101, 102, 103, 104, 105, 106, 107, 108, 109, 110, 111, 112, 113, 114, 115, 116, 117, 118, 119, 120, 121, 122, 123] (by decide +kernel) (by decide +kernel)
set_option maxRecDepth 20000 in
theorem gX11_nearest_X11_lackOf : GoodIn wsX11_nearest (wsV RX11 386 RX11 yX11_lackOf wsX11_lackOf) := goodIn_app (goodIn_of _ (by decide +kernel)) ggX11_nearest_X11_lackOf
theorem dX11_nearest_0 : decode cX11_nearest 0 = .ok (.aload_n 0, 1) := by decide +kernel
theorem dX11_nearest_1 : decode cX11_nearest 1 = .ok (.iload_n 1, 1) := by decide +kernel
theorem dX11_nearest_2 : decode cX11_nearest 2 = .ok (.iload_n 2, 1) := by decide +kernel
theorem dX11_nearest_3 : decode cX11_nearest 3 = .ok (.invokestatic 383, 3) := by decide +kernel
theorem dX11_nearest_6 : decode cX11_nearest 6 = .ok (.invokevirtual 235, 3) := by decide +kernel
theorem dX11_nearest_9 : decode cX11_nearest 9 = .ok (.ifCond .ne 5, 3) := by decide +kernel
theorem dX11_nearest_12 : decode cX11_nearest 12 = .ok (.iconst 0, 1) := by decide +kernel
theorem dX11_nearest_13 : decode cX11_nearest 13 = .ok (.ireturn, 1) := by decide +kernel
theorem dX11_nearest_14 : decode cX11_nearest 14 = .ok (.aload_n 0, 1) := by decide +kernel
theorem dX11_nearest_15 : decode cX11_nearest 15 = .ok (.invokevirtual 144, 3) := by decide +kernel
theorem dX11_nearest_18 : decode cX11_nearest 18 = .ok (.iconst (-1), 1) := by decide +kernel
theorem dX11_nearest_19 : decode cX11_nearest 19 = .ok (.istore_n 3, 1) := by decide +kernel
theorem dX11_nearest_20 : decode cX11_nearest 20 = .ok (.iconst 0, 1) := by decide +kernel
theorem dX11_nearest_21 : decode cX11_nearest 21 = .ok (.istore 4, 2) := by decide +kernel
theorem dX11_nearest_23 : decode cX11_nearest 23 = .ok (.iload 4, 2) := by decide +kernel
theorem dX11_nearest_25 : decode cX11_nearest 25 = .ok (.aload_n 0, 1) := by decide +kernel
theorem dX11_nearest_26 : decode cX11_nearest 26 = .ok (.getfield 130, 3) := by decide +kernel
theorem dX11_nearest_29 : decode cX11_nearest 29 = .ok (.if_icmp .ge 35, 3) := by decide +kernel
theorem dX11_nearest_32 : decode cX11_nearest 32 = .ok (.iload_n 3, 1) := by decide +kernel
theorem dX11_nearest_33 : decode cX11_nearest 33 = .ok (.iconst (-1), 1) := by decide +kernel
theorem dX11_nearest_34 : decode cX11_nearest 34 = .ok (.if_icmp .eq 21, 3) := by decide +kernel
theorem dX11_nearest_37 : decode cX11_nearest 37 = .ok (.aload_n 0, 1) := by decide +kernel
theorem dX11_nearest_38 : decode cX11_nearest 38 = .ok (.iload 4, 2) := by decide +kernel
theorem dX11_nearest_40 : decode cX11_nearest 40 = .ok (.iload_n 1, 1) := by decide +kernel
theorem dX11_nearest_41 : decode cX11_nearest 41 = .ok (.iload_n 2, 1) := by decide +kernel
theorem dX11_nearest_42 : decode cX11_nearest 42 = .ok (.invokevirtual 386, 3) := by decide +kernel
theorem dX11_nearest_45 : decode cX11_nearest 45 = .ok (.aload_n 0, 1) := by decide +kernel
theorem dX11_nearest_46 : decode cX11_nearest 46 = .ok (.iload_n 3, 1) := by decide +kernel
theorem dX11_nearest_47 : decode cX11_nearest 47 = .ok (.iload_n 1, 1) := by decide +kernel
theorem dX11_nearest_48 : decode cX11_nearest 48 = .ok (.iload_n 2, 1) := by decide +kernel
theorem dX11_nearest_49 : decode cX11_nearest 49 = .ok (.invokevirtual 386, 3) := by decide +kernel
theorem dX11_nearest_52 : decode cX11_nearest 52 = .ok (.if_icmp .ge 6, 3) := by decide +kernel
theorem dX11_nearest_55 : decode cX11_nearest 55 = .ok (.iload 4, 2) := by decide +kernel
theorem dX11_nearest_57 : decode cX11_nearest 57 = .ok (.istore_n 3, 1) := by decide +kernel
theorem dX11_nearest_58 : decode cX11_nearest 58 = .ok (.iinc 4 1, 3) := by decide +kernel
theorem dX11_nearest_61 : decode cX11_nearest 61 = .ok (.goto (-38), 3) := by decide +kernel
theorem dX11_nearest_64 : decode cX11_nearest 64 = .ok (.iload_n 3, 1) := by decide +kernel
theorem dX11_nearest_65 : decode cX11_nearest 65 = .ok (.ireturn, 1) := by decide +kernel
set_option maxRecDepth 20000 in
theorem ggX11_vertices_X11_layCornersToo : GoodIn wsX11_vertices wsX11_layCornersToo := goodIn_r _ [7, 8, 9, 10, 6, 11, 12, 13, 14, 15, 16, 17, 18, 19, 20, 21, 22, 23, 24, 25, 26, 27, 28, 29, 30, 31, 32, 33, 34, 35, 36, 37, 38, 39, 40, 41, 42, 43, 44, 45, 46, 47, 48, 49, 50, 51, 52, 53, 54, 55, 56, 57, 58, 59, 60, 61, 62, 63, 64, 65, 66, 67, 68, 69, 70, 71, 72, 73, 74, 75, 76, 77, 78, 79, 80, 81, 82, 83, 84, 85, 86, 87, 88, 89, 90, 91, 92, 93, 94, 95, 2, 96, 97, 98, 99, 100, 101, 102, 103, 104, 105, 106, 107, 108, 109, 110, 111, 112, 113, 114, 115, 116, 117, 118, 119, 120, 121, 122, 123, 124, 125, 126, 127, 128, 129, 130, 131, 132, 133, 134, 135, 136, 137, 138, 139, 140, 141, 142, 143, 144] (by decide +kernel) (by decide +kernel)
set_option maxRecDepth 20000 in
theorem gX11_vertices_X11_layCornersToo : GoodIn wsX11_vertices (wsV RX11 369 RX11 yX11_layCornersToo wsX11_layCornersToo) := goodIn_app (goodIn_of _ (by decide +kernel)) ggX11_vertices_X11_layCornersToo
theorem dX11_vertices_0 : decode cX11_vertices 0 = .ok (.aload_n 0, 1) := by decide +kernel
theorem dX11_vertices_1 : decode cX11_vertices 1 = .ok (.iconst 0, 1) := by decide +kernel
theorem dX11_vertices_2 : decode cX11_vertices 2 = .ok (.putfield 3, 3) := by decide +kernel
theorem dX11_vertices_5 : decode cX11_vertices 5 = .ok (.aload_n 0, 1) := by decide +kernel
theorem dX11_vertices_6 : decode cX11_vertices 6 = .ok (.invokevirtual 369, 3) := by decide +kernel
theorem dX11_vertices_9 : decode cX11_vertices 9 = .ok (.aload_n 0, 1) := by decide +kernel
theorem dX11_vertices_10 : decode cX11_vertices 10 = .ok (.getfield 158, 3) := by decide +kernel
theorem dX11_vertices_13 : decode cX11_vertices 13 = .ok (.ireturn, 1) := by decide +kernel
set_option maxRecDepth 20000 in
theorem ggX11_vertex_X11_layCornersToo : GoodIn wsX11_vertex wsX11_layCornersToo := goodIn_r _ [7, 8, 9, 10, 6, 11, 12, 13, 14, 15, 16, 17, 18, 19, 20, 21, 22, 23, 24, 25, 26, 27, 28, 29, 30, 31, 32, 33, 34, 35, 36, 37, 38, 39, 40, 41, 42, 43, 44, 45, 46, 47, 48, 49, 50, 51, 52, 53, 54, 55, 56, 57, 58, 59, 60, 61, 62, 63, 64, 65, 66, 67, 68, 69, 70, 71, 72, 73, 74, 75, 76, 77, 78, 79, 80, 81, 82, 83, 84, 85, 86, 87, 88, 89, 90, 91, 92, 93, 94, 95, 1, 2, 96, 97, 98, 99, 100, 101, 102, 103, 113, 114, 115, 116, 117, 118, 119, 120, 121, 122, 123, 124, 125, 126, 127, 128, 129, 130, 131, 132, 133, 134, 135, 136, 137, 138, 139, 140, 141, 142, 143, 144, 145, 146, 147, 148, 149, 150, 151, 152] (by decide +kernel) (by decide +kernel)
set_option maxRecDepth 20000 in
theorem gX11_vertex_X11_layCornersToo : GoodIn wsX11_vertex (wsV RX11 369 RX11 yX11_layCornersToo wsX11_layCornersToo) := goodIn_app (goodIn_of _ (by decide +kernel)) ggX11_vertex_X11_layCornersToo
set_option maxRecDepth 20000 in
theorem ggX11_vertex_X11_in : GoodIn wsX11_vertex wsX11_in := goodIn_r _ [85] (by decide +kernel) (by decide +kernel)
set_option maxRecDepth 20000 in
theorem gX11_vertex_X11_in : GoodIn wsX11_vertex (va_wsS RX11 87 yX11_in wsX11_in) := goodIn_app (goodIn_of _ (by decide +kernel)) ggX11_vertex_X11_in
set_option maxRecDepth 20000 in
theorem ggX11_vertex_X11_passes : GoodIn wsX11_vertex wsX11_passes := goodIn_r _ [107, 108, 109, 110, 6, 111, 112, 113, 114, 115, 116, 117, 118, 119, 120, 121, 122, 123, 124, 125, 126, 127, 128, 129, 130, 131, 132, 133, 134, 135, 136, 137, 138, 139, 140, 141, 142, 143, 144, 145, 146, 147, 148, 149, 150, 151, 152] (by decide +kernel) (by decide +kernel)
set_option maxRecDepth 20000 in
theorem gX11_vertex_X11_passes : GoodIn wsX11_vertex (wsV RX11 235 RX11 yX11_passes wsX11_passes) := goodIn_app (goodIn_of _ (by decide +kernel)) ggX11_vertex_X11_passes
theorem dX11_vertex_0 : decode cX11_vertex 0 = .ok (.aload_n 0, 1) := by decide +kernel
theorem dX11_vertex_1 : decode cX11_vertex 1 = .ok (.invokevirtual 369, 3) := by decide +kernel
theorem dX11_vertex_4 : decode cX11_vertex 4 = .ok (.aload_n 0, 1) := by decide +kernel
theorem dX11_vertex_5 : decode cX11_vertex 5 = .ok (.iload_n 1, 1) := by decide +kernel
theorem dX11_vertex_6 : decode cX11_vertex 6 = .ok (.i2l, 1) := by decide +kernel
theorem dX11_vertex_7 : decode cX11_vertex 7 = .ok (.lconst 0, 1) := by decide +kernel
theorem dX11_vertex_8 : decode cX11_vertex 8 = .ok (.aload_n 0, 1) := by decide +kernel
theorem dX11_vertex_9 : decode cX11_vertex 9 = .ok (.getfield 158, 3) := by decide +kernel
theorem dX11_vertex_12 : decode cX11_vertex 12 = .ok (.iconst 1, 1) := by decide +kernel
theorem dX11_vertex_13 : decode cX11_vertex 13 = .ok (.isub, 1) := by decide +kernel
theorem dX11_vertex_14 : decode cX11_vertex 14 = .ok (.i2l, 1) := by decide +kernel
theorem dX11_vertex_15 : decode cX11_vertex 15 = .ok (.invokestatic 87, 3) := by decide +kernel
theorem dX11_vertex_18 : decode cX11_vertex 18 = .ok (.invokevirtual 235, 3) := by decide +kernel
theorem dX11_vertex_21 : decode cX11_vertex 21 = .ok (.ifCond .eq 12, 3) := by decide +kernel
theorem dX11_vertex_24 : decode cX11_vertex 24 = .ok (.aload_n 0, 1) := by decide +kernel
theorem dX11_vertex_25 : decode cX11_vertex 25 = .ok (.getfield 48, 3) := by decide +kernel
theorem dX11_vertex_28 : decode cX11_vertex 28 = .ok (.iload_n 1, 1) := by decide +kernel
theorem dX11_vertex_29 : decode cX11_vertex 29 = .ok (.iaload, 1) := by decide +kernel
theorem dX11_vertex_30 : decode cX11_vertex 30 = .ok (.goto 4, 3) := by decide +kernel
theorem dX11_vertex_33 : decode cX11_vertex 33 = .ok (.iconst 0, 1) := by decide +kernel
theorem dX11_vertex_34 : decode cX11_vertex 34 = .ok (.ireturn, 1) := by decide +kernel
set_option maxRecDepth 20000 in
theorem ggX11_supported_X11_layCornersToo : GoodIn wsX11_supported wsX11_layCornersToo := goodIn_r _ [7, 8, 9, 10, 6, 11, 12, 13, 14, 15, 16, 17, 18, 19, 20, 21, 22, 23, 24, 25, 26, 27, 28, 29, 30, 31, 32, 33, 34, 35, 36, 37, 38, 39, 40, 41, 42, 43, 44, 45, 46, 47, 48, 49, 50, 51, 52, 53, 54, 55, 56, 57, 58, 59, 60, 61, 62, 63, 64, 65, 66, 67, 68, 69, 70, 71, 72, 2, 73, 74, 75, 76, 77, 78, 79, 80, 81, 82, 83, 84, 85, 86, 87, 88, 89, 90, 91, 92, 93, 94, 95, 96, 97, 98, 99, 100, 101, 102, 103, 104, 121, 122, 123, 124, 125, 126, 127, 128, 129, 130, 131, 132, 133, 134, 135, 136, 137, 138, 139, 140, 141, 142, 143, 144, 145, 146, 147, 148, 149, 150, 151, 152, 153, 154, 155, 156, 157, 158, 159, 160] (by decide +kernel) (by decide +kernel)
set_option maxRecDepth 20000 in
theorem gX11_supported_X11_layCornersToo : GoodIn wsX11_supported (wsV RX11 369 RX11 yX11_layCornersToo wsX11_layCornersToo) := goodIn_app (goodIn_of _ (by decide +kernel)) ggX11_supported_X11_layCornersToo
set_option maxRecDepth 20000 in
theorem ggX11_supported_X11_isSupported : GoodIn wsX11_supported wsX11_isSupported := goodIn_r _ [108, 96, 109, 110, 111, 6, 112, 95, 113, 114, 115, 116, 117, 118, 119, 120, 19, 18, 101, 102, 103, 104, 121, 122, 123, 124, 125, 126, 127, 128, 129, 130, 131, 132, 133, 134, 135, 136, 137, 138, 139, 140, 141, 142, 143, 144, 145, 146, 147, 148, 149, 150, 151, 152, 153, 154, 155, 156, 157, 158, 159, 160] (by decide +kernel) (by decide +kernel)
set_option maxRecDepth 20000 in
theorem gX11_supported_X11_isSupported : GoodIn wsX11_supported (wsV RX11 377 RX11 yX11_isSupported wsX11_isSupported) := goodIn_app (goodIn_of _ (by decide +kernel)) ggX11_supported_X11_isSupported
theorem dX11_supported_0 : decode cX11_supported 0 = .ok (.aload_n 0, 1) := by decide +kernel
theorem dX11_supported_1 : decode cX11_supported 1 = .ok (.iconst 0, 1) := by decide +kernel
theorem dX11_supported_2 : decode cX11_supported 2 = .ok (.putfield 3, 3) := by decide +kernel
theorem dX11_supported_5 : decode cX11_supported 5 = .ok (.aload_n 0, 1) := by decide +kernel
theorem dX11_supported_6 : decode cX11_supported 6 = .ok (.invokevirtual 369, 3) := by decide +kernel
theorem dX11_supported_9 : decode cX11_supported 9 = .ok (.iconst 0, 1) := by decide +kernel
theorem dX11_supported_10 : decode cX11_supported 10 = .ok (.istore_n 1, 1) := by decide +kernel
theorem dX11_supported_11 : decode cX11_supported 11 = .ok (.iconst 0, 1) := by decide +kernel
theorem dX11_supported_12 : decode cX11_supported 12 = .ok (.istore_n 2, 1) := by decide +kernel
theorem dX11_supported_13 : decode cX11_supported 13 = .ok (.iload_n 2, 1) := by decide +kernel
theorem dX11_supported_14 : decode cX11_supported 14 = .ok (.aload_n 0, 1) := by decide +kernel
theorem dX11_supported_15 : decode cX11_supported 15 = .ok (.getfield 130, 3) := by decide +kernel
theorem dX11_supported_18 : decode cX11_supported 18 = .ok (.if_icmp .ge 25, 3) := by decide +kernel
theorem dX11_supported_21 : decode cX11_supported 21 = .ok (.iload_n 1, 1) := by decide +kernel
theorem dX11_supported_22 : decode cX11_supported 22 = .ok (.aload_n 0, 1) := by decide +kernel
theorem dX11_supported_23 : decode cX11_supported 23 = .ok (.iload_n 2, 1) := by decide +kernel
theorem dX11_supported_24 : decode cX11_supported 24 = .ok (.invokevirtual 377, 3) := by decide +kernel
theorem dX11_supported_27 : decode cX11_supported 27 = .ok (.ifCond .eq 7, 3) := by decide +kernel
theorem dX11_supported_30 : decode cX11_supported 30 = .ok (.iconst 1, 1) := by decide +kernel
theorem dX11_supported_31 : decode cX11_supported 31 = .ok (.goto 4, 3) := by decide +kernel
theorem dX11_supported_34 : decode cX11_supported 34 = .ok (.iconst 0, 1) := by decide +kernel
theorem dX11_supported_35 : decode cX11_supported 35 = .ok (.iadd, 1) := by decide +kernel
theorem dX11_supported_36 : decode cX11_supported 36 = .ok (.istore_n 1, 1) := by decide +kernel
theorem dX11_supported_37 : decode cX11_supported 37 = .ok (.iinc 2 1, 3) := by decide +kernel
theorem dX11_supported_40 : decode cX11_supported 40 = .ok (.goto (-27), 3) := by decide +kernel
theorem dX11_supported_43 : decode cX11_supported 43 = .ok (.iload_n 1, 1) := by decide +kernel
theorem dX11_supported_44 : decode cX11_supported 44 = .ok (.ireturn, 1) := by decide +kernel
theorem dX11_between_0 : decode cX11_between 0 = .ok (.aload_n 0, 1) := by decide +kernel
theorem dX11_between_1 : decode cX11_between 1 = .ok (.getfield 48, 3) := by decide +kernel
theorem dX11_between_4 : decode cX11_between 4 = .ok (.iload_n 1, 1) := by decide +kernel
theorem dX11_between_5 : decode cX11_between 5 = .ok (.iconst 1, 1) := by decide +kernel
theorem dX11_between_6 : decode cX11_between 6 = .ok (.iadd, 1) := by decide +kernel
theorem dX11_between_7 : decode cX11_between 7 = .ok (.iaload, 1) := by decide +kernel
theorem dX11_between_8 : decode cX11_between 8 = .ok (.aload_n 0, 1) := by decide +kernel
theorem dX11_between_9 : decode cX11_between 9 = .ok (.getfield 48, 3) := by decide +kernel
theorem dX11_between_12 : decode cX11_between 12 = .ok (.iload_n 1, 1) := by decide +kernel
theorem dX11_between_13 : decode cX11_between 13 = .ok (.iaload, 1) := by decide +kernel
theorem dX11_between_14 : decode cX11_between 14 = .ok (.isub, 1) := by decide +kernel
theorem dX11_between_15 : decode cX11_between 15 = .ok (.iconst 1, 1) := by decide +kernel
theorem dX11_between_16 : decode cX11_between 16 = .ok (.isub, 1) := by decide +kernel
theorem dX11_between_17 : decode cX11_between 17 = .ok (.ireturn, 1) := by decide +kernel
set_option maxRecDepth 20000 in
theorem ggX11_supportedIn_X11_isSupported : GoodIn wsX11_supportedIn wsX11_isSupported := goodIn_r _ [6, 1, 7, 8, 9, 5, 10, 11, 12, 13, 14, 15, 16, 17, 18, 19, 20, 21, 22, 23, 24, 25, 26, 27, 28, 29, 30, 31, 32, 33, 34, 35, 36, 37, 38, 39, 40, 41, 42, 43, 44, 45, 46, 47, 48, 49, 50, 51, 52, 53, 54, 55, 56, 57, 58, 59, 60, 61, 62, 63, 64, 65] (by decide +kernel) (by decide +kernel)
set_option maxRecDepth 20000 in
theorem gX11_supportedIn_X11_isSupported : GoodIn wsX11_supportedIn (wsV RX11 377 RX11 yX11_isSupported wsX11_isSupported) := goodIn_app (goodIn_of _ (by decide +kernel)) ggX11_supportedIn_X11_isSupported
theorem dX11_supportedIn_0 : decode cX11_supportedIn 0 = .ok (.iconst 0, 1) := by decide +kernel
theorem dX11_supportedIn_1 : decode cX11_supportedIn 1 = .ok (.istore_n 2, 1) := by decide +kernel
theorem dX11_supportedIn_2 : decode cX11_supportedIn 2 = .ok (.aload_n 0, 1) := by decide +kernel
theorem dX11_supportedIn_3 : decode cX11_supportedIn 3 = .ok (.getfield 48, 3) := by decide +kernel
theorem dX11_supportedIn_6 : decode cX11_supportedIn 6 = .ok (.iload_n 1, 1) := by decide +kernel
theorem dX11_supportedIn_7 : decode cX11_supportedIn 7 = .ok (.iaload, 1) := by decide +kernel
theorem dX11_supportedIn_8 : decode cX11_supportedIn 8 = .ok (.iconst 1, 1) := by decide +kernel
theorem dX11_supportedIn_9 : decode cX11_supportedIn 9 = .ok (.iadd, 1) := by decide +kernel
theorem dX11_supportedIn_10 : decode cX11_supportedIn 10 = .ok (.istore_n 3, 1) := by decide +kernel
theorem dX11_supportedIn_11 : decode cX11_supportedIn 11 = .ok (.iload_n 3, 1) := by decide +kernel
theorem dX11_supportedIn_12 : decode cX11_supportedIn 12 = .ok (.aload_n 0, 1) := by decide +kernel
theorem dX11_supportedIn_13 : decode cX11_supportedIn 13 = .ok (.getfield 48, 3) := by decide +kernel
theorem dX11_supportedIn_16 : decode cX11_supportedIn 16 = .ok (.iload_n 1, 1) := by decide +kernel
theorem dX11_supportedIn_17 : decode cX11_supportedIn 17 = .ok (.iconst 1, 1) := by decide +kernel
theorem dX11_supportedIn_18 : decode cX11_supportedIn 18 = .ok (.iadd, 1) := by decide +kernel
theorem dX11_supportedIn_19 : decode cX11_supportedIn 19 = .ok (.iaload, 1) := by decide +kernel
theorem dX11_supportedIn_20 : decode cX11_supportedIn 20 = .ok (.if_icmp .ge 25, 3) := by decide +kernel
theorem dX11_supportedIn_23 : decode cX11_supportedIn 23 = .ok (.iload_n 2, 1) := by decide +kernel
theorem dX11_supportedIn_24 : decode cX11_supportedIn 24 = .ok (.aload_n 0, 1) := by decide +kernel
theorem dX11_supportedIn_25 : decode cX11_supportedIn 25 = .ok (.iload_n 3, 1) := by decide +kernel
theorem dX11_supportedIn_26 : decode cX11_supportedIn 26 = .ok (.invokevirtual 377, 3) := by decide +kernel
theorem dX11_supportedIn_29 : decode cX11_supportedIn 29 = .ok (.ifCond .eq 7, 3) := by decide +kernel
theorem dX11_supportedIn_32 : decode cX11_supportedIn 32 = .ok (.iconst 1, 1) := by decide +kernel
theorem dX11_supportedIn_33 : decode cX11_supportedIn 33 = .ok (.goto 4, 3) := by decide +kernel
theorem dX11_supportedIn_36 : decode cX11_supportedIn 36 = .ok (.iconst 0, 1) := by decide +kernel
theorem dX11_supportedIn_37 : decode cX11_supportedIn 37 = .ok (.iadd, 1) := by decide +kernel
theorem dX11_supportedIn_38 : decode cX11_supportedIn 38 = .ok (.istore_n 2, 1) := by decide +kernel
theorem dX11_supportedIn_39 : decode cX11_supportedIn 39 = .ok (.iinc 3 1, 3) := by decide +kernel
theorem dX11_supportedIn_42 : decode cX11_supportedIn 42 = .ok (.goto (-31), 3) := by decide +kernel
theorem dX11_supportedIn_45 : decode cX11_supportedIn 45 = .ok (.iload_n 2, 1) := by decide +kernel
theorem dX11_supportedIn_46 : decode cX11_supportedIn 46 = .ok (.ireturn, 1) := by decide +kernel
set_option maxRecDepth 20000 in
theorem ggX11_box_X11_layCornersToo : GoodIn wsX11_box wsX11_layCornersToo := goodIn_r _ [9, 10, 11, 12, 8, 13, 14, 15, 16, 17, 18, 19, 4, 20, 21, 22, 23, 24, 25, 26, 27, 28, 29, 30, 31, 32, 33, 34, 35, 36, 37, 38, 39, 40, 41, 42, 43, 44, 45, 46, 47, 48, 49, 50, 51, 52, 53, 54, 55, 56, 57, 58, 59, 60, 61, 62, 63, 64, 65, 66, 67, 68, 69, 70, 71, 72, 73, 74, 75, 76, 77, 78, 79, 80, 81, 82, 83, 84, 85, 86, 87, 88, 89, 90, 91, 92, 93, 94, 95, 96, 1, 3, 97, 98, 99, 100, 101, 102, 103, 104, 134, 135, 136, 137, 138, 139, 140, 141, 142, 143, 144, 145, 146, 147, 148, 149, 150, 151, 152, 153, 154, 155, 156, 157, 158, 159, 160, 161, 162, 163, 164, 165, 166, 167, 168, 169, 170, 171, 172, 173] (by decide +kernel) (by decide +kernel)
set_option maxRecDepth 20000 in
theorem gX11_box_X11_layCornersToo : GoodIn wsX11_box (wsV RX11 369 RX11 yX11_layCornersToo wsX11_layCornersToo) := goodIn_app (goodIn_of _ (by decide +kernel)) ggX11_box_X11_layCornersToo
set_option maxRecDepth 20000 in
theorem ggX11_box_X11_in : GoodIn wsX11_box wsX11_in := goodIn_r _ [86] (by decide +kernel) (by decide +kernel)
set_option maxRecDepth 20000 in
theorem gX11_box_X11_in : GoodIn wsX11_box (va_wsS RX11 87 yX11_in wsX11_in) := goodIn_app (goodIn_of _ (by decide +kernel)) ggX11_box_X11_in
set_option maxRecDepth 20000 in
theorem ggX11_box_X11_passes2 : GoodIn wsX11_box wsX11_passes2 := goodIn_r _ [108, 109, 134, 135, 136, 137, 138, 139, 140, 141, 142, 143, 144, 145, 146, 147, 148, 149, 150, 151, 152, 153, 154, 155, 156, 157, 158, 159, 160, 161, 162, 163, 164, 165, 166, 167, 168, 169, 170, 171, 172, 173] (by decide +kernel) (by decide +kernel)
set_option maxRecDepth 20000 in
theorem gX11_box_X11_passes2 : GoodIn wsX11_box (wsV RX11 7 RX11 yX11_passes2 wsX11_passes2) := goodIn_app (goodIn_of _ (by decide +kernel)) ggX11_box_X11_passes2
set_option maxRecDepth 20000 in
theorem ggX11_box_X11_between : GoodIn wsX11_box wsX11_between := goodIn_r _ [113, 3, 134, 135, 136, 137, 138, 139, 140, 141, 142, 143, 144, 145, 146, 147, 148, 149, 150, 151, 152, 153, 154, 155, 156, 157, 158, 159, 160, 161, 162, 163, 164, 165, 166, 167, 168, 169, 170, 171, 172, 173] (by decide +kernel) (by decide +kernel)
set_option maxRecDepth 20000 in
theorem gX11_box_X11_between : GoodIn wsX11_box (wsV RX11 389 RX11 yX11_between wsX11_between) := goodIn_app (goodIn_of _ (by decide +kernel)) ggX11_box_X11_between
set_option maxRecDepth 20000 in
theorem ggX11_box_X11_supportedIn : GoodIn wsX11_box wsX11_supportedIn := goodIn_r _ [117, 3, 118, 119, 120, 8, 121, 122, 123, 124, 125, 1, 126, 127, 128, 129, 130, 131, 132, 133, 20, 4, 101, 102, 103, 104, 134, 135, 136, 137, 138, 139, 140, 141, 142, 143, 144, 145, 146, 147, 148, 149, 150, 151, 152, 153, 154, 155, 156, 157, 158, 159, 160, 161, 162, 163, 164, 165, 166, 167, 168, 169, 170, 171, 172, 173] (by decide +kernel) (by decide +kernel)
set_option maxRecDepth 20000 in
theorem gX11_box_X11_supportedIn : GoodIn wsX11_box (wsV RX11 392 RX11 yX11_supportedIn wsX11_supportedIn) := goodIn_app (goodIn_of _ (by decide +kernel)) ggX11_box_X11_supportedIn
theorem dX11_box_0 : decode cX11_box 0 = .ok (.aload_n 0, 1) := by decide +kernel
theorem dX11_box_1 : decode cX11_box 1 = .ok (.invokevirtual 369, 3) := by decide +kernel
theorem dX11_box_4 : decode cX11_box 4 = .ok (.aload_n 0, 1) := by decide +kernel
theorem dX11_box_5 : decode cX11_box 5 = .ok (.iload_n 1, 1) := by decide +kernel
theorem dX11_box_6 : decode cX11_box 6 = .ok (.i2l, 1) := by decide +kernel
theorem dX11_box_7 : decode cX11_box 7 = .ok (.lconst 0, 1) := by decide +kernel
theorem dX11_box_8 : decode cX11_box 8 = .ok (.aload_n 0, 1) := by decide +kernel
theorem dX11_box_9 : decode cX11_box 9 = .ok (.getfield 158, 3) := by decide +kernel
theorem dX11_box_12 : decode cX11_box 12 = .ok (.iconst 2, 1) := by decide +kernel
theorem dX11_box_13 : decode cX11_box 13 = .ok (.isub, 1) := by decide +kernel
theorem dX11_box_14 : decode cX11_box 14 = .ok (.i2l, 1) := by decide +kernel
theorem dX11_box_15 : decode cX11_box 15 = .ok (.invokestatic 87, 3) := by decide +kernel
theorem dX11_box_18 : decode cX11_box 18 = .ok (.iload_n 2, 1) := by decide +kernel
theorem dX11_box_19 : decode cX11_box 19 = .ok (.i2l, 1) := by decide +kernel
theorem dX11_box_20 : decode cX11_box 20 = .ok (.lconst 0, 1) := by decide +kernel
theorem dX11_box_21 : decode cX11_box 21 = .ok (.ldc2_w 362, 3) := by decide +kernel
theorem dX11_box_24 : decode cX11_box 24 = .ok (.invokestatic 87, 3) := by decide +kernel
theorem dX11_box_27 : decode cX11_box 27 = .ok (.invokevirtual 7, 3) := by decide +kernel
theorem dX11_box_30 : decode cX11_box 30 = .ok (.ifCond .ne 5, 3) := by decide +kernel
theorem dX11_box_33 : decode cX11_box 33 = .ok (.iconst 0, 1) := by decide +kernel
theorem dX11_box_34 : decode cX11_box 34 = .ok (.ireturn, 1) := by decide +kernel
theorem dX11_box_35 : decode cX11_box 35 = .ok (.iload_n 2, 1) := by decide +kernel
theorem dX11_box_36 : decode cX11_box 36 = .ok (.tableswitch 60 0 3 #[32, 39, 48, 54], 32) := by decide +kernel
theorem dX11_box_68 : decode cX11_box 68 = .ok (.aload_n 0, 1) := by decide +kernel
theorem dX11_box_69 : decode cX11_box 69 = .ok (.getfield 48, 3) := by decide +kernel
theorem dX11_box_72 : decode cX11_box 72 = .ok (.iload_n 1, 1) := by decide +kernel
theorem dX11_box_73 : decode cX11_box 73 = .ok (.iaload, 1) := by decide +kernel
theorem dX11_box_74 : decode cX11_box 74 = .ok (.ireturn, 1) := by decide +kernel
theorem dX11_box_75 : decode cX11_box 75 = .ok (.aload_n 0, 1) := by decide +kernel
theorem dX11_box_76 : decode cX11_box 76 = .ok (.getfield 48, 3) := by decide +kernel
theorem dX11_box_79 : decode cX11_box 79 = .ok (.iload_n 1, 1) := by decide +kernel
theorem dX11_box_80 : decode cX11_box 80 = .ok (.iconst 1, 1) := by decide +kernel
theorem dX11_box_81 : decode cX11_box 81 = .ok (.iadd, 1) := by decide +kernel
theorem dX11_box_82 : decode cX11_box 82 = .ok (.iaload, 1) := by decide +kernel
theorem dX11_box_83 : decode cX11_box 83 = .ok (.ireturn, 1) := by decide +kernel
theorem dX11_box_84 : decode cX11_box 84 = .ok (.aload_n 0, 1) := by decide +kernel
theorem dX11_box_85 : decode cX11_box 85 = .ok (.iload_n 1, 1) := by decide +kernel
theorem dX11_box_86 : decode cX11_box 86 = .ok (.invokevirtual 389, 3) := by decide +kernel
theorem dX11_box_89 : decode cX11_box 89 = .ok (.ireturn, 1) := by decide +kernel
theorem dX11_box_90 : decode cX11_box 90 = .ok (.aload_n 0, 1) := by decide +kernel
theorem dX11_box_91 : decode cX11_box 91 = .ok (.iload_n 1, 1) := by decide +kernel
theorem dX11_box_92 : decode cX11_box 92 = .ok (.invokevirtual 392, 3) := by decide +kernel
theorem dX11_box_95 : decode cX11_box 95 = .ok (.ireturn, 1) := by decide +kernel
theorem dX11_box_96 : decode cX11_box 96 = .ok (.aload_n 0, 1) := by decide +kernel
theorem dX11_box_97 : decode cX11_box 97 = .ok (.iload_n 1, 1) := by decide +kernel
theorem dX11_box_98 : decode cX11_box 98 = .ok (.invokevirtual 389, 3) := by decide +kernel
theorem dX11_box_101 : decode cX11_box 101 = .ok (.ifCond .ne 7, 3) := by decide +kernel
theorem dX11_box_104 : decode cX11_box 104 = .ok (.iconst (-1), 1) := by decide +kernel
theorem dX11_box_105 : decode cX11_box 105 = .ok (.goto 18, 3) := by decide +kernel
theorem dX11_box_108 : decode cX11_box 108 = .ok (.aload_n 0, 1) := by decide +kernel
theorem dX11_box_109 : decode cX11_box 109 = .ok (.getfield 30, 3) := by decide +kernel
theorem dX11_box_112 : decode cX11_box 112 = .ok (.aload_n 0, 1) := by decide +kernel
theorem dX11_box_113 : decode cX11_box 113 = .ok (.getfield 48, 3) := by decide +kernel
theorem dX11_box_116 : decode cX11_box 116 = .ok (.iload_n 1, 1) := by decide +kernel
theorem dX11_box_117 : decode cX11_box 117 = .ok (.iconst 1, 1) := by decide +kernel
theorem dX11_box_118 : decode cX11_box 118 = .ok (.iadd, 1) := by decide +kernel
theorem dX11_box_119 : decode cX11_box 119 = .ok (.iaload, 1) := by decide +kernel
theorem dX11_box_120 : decode cX11_box 120 = .ok (.iconst 1, 1) := by decide +kernel
theorem dX11_box_121 : decode cX11_box 121 = .ok (.isub, 1) := by decide +kernel
theorem dX11_box_122 : decode cX11_box 122 = .ok (.iaload, 1) := by decide +kernel
theorem dX11_box_123 : decode cX11_box 123 = .ok (.ireturn, 1) := by decide +kernel
set_option maxRecDepth 20000 in
theorem ggX11_fullest_X11_layCornersToo : GoodIn wsX11_fullest wsX11_layCornersToo := goodIn_r _ [7, 8, 9, 10, 6, 11, 12, 13, 14, 15, 16, 17, 18, 19, 20, 21, 22, 23, 24, 25, 26, 27, 28, 29, 30, 31, 32, 33, 34, 35, 36, 37, 38, 39, 40, 41, 42, 43, 44, 45, 46, 47, 48, 49, 50, 51, 52, 53, 54, 55, 56, 57, 58, 59, 60, 61, 62, 63, 64, 65, 66, 67, 68, 69, 70, 71, 72, 73, 74, 75, 76, 77, 78, 79, 80, 81, 82, 83, 84, 85, 86, 87, 88, 89, 90, 91, 92, 93, 94, 95, 2, 96, 97, 98, 99, 100, 101, 102, 103, 104, 109, 110, 111, 112, 113, 114, 115, 116, 117, 118, 119, 120, 121, 122, 123, 124, 125, 126, 127, 128, 129, 130, 131, 132, 133, 134, 135, 136, 137, 138, 139, 140, 141, 142, 143, 144, 145, 146, 147, 148] (by decide +kernel) (by decide +kernel)
set_option maxRecDepth 20000 in
theorem gX11_fullest_X11_layCornersToo : GoodIn wsX11_fullest (wsV RX11 369 RX11 yX11_layCornersToo wsX11_layCornersToo) := goodIn_app (goodIn_of _ (by decide +kernel)) ggX11_fullest_X11_layCornersToo
set_option maxRecDepth 20000 in
theorem ggX11_fullest_X11_between : GoodIn wsX11_fullest wsX11_between := goodIn_r _ [108, 96, 109, 110, 111, 112, 113, 114, 115, 116, 117, 118, 119, 120, 121, 122, 123, 124, 125, 126, 127, 128, 129, 130, 131, 132, 133, 134, 135, 136, 137, 138, 139, 140, 141, 142, 143, 144, 145, 146, 147, 148] (by decide +kernel) (by decide +kernel)
set_option maxRecDepth 20000 in
theorem gX11_fullest_X11_between : GoodIn wsX11_fullest (wsV RX11 389 RX11 yX11_between wsX11_between) := goodIn_app (goodIn_of _ (by decide +kernel)) ggX11_fullest_X11_between
theorem dX11_fullest_0 : decode cX11_fullest 0 = .ok (.aload_n 0, 1) := by decide +kernel
theorem dX11_fullest_1 : decode cX11_fullest 1 = .ok (.iconst 0, 1) := by decide +kernel
theorem dX11_fullest_2 : decode cX11_fullest 2 = .ok (.putfield 3, 3) := by decide +kernel
theorem dX11_fullest_5 : decode cX11_fullest 5 = .ok (.aload_n 0, 1) := by decide +kernel
theorem dX11_fullest_6 : decode cX11_fullest 6 = .ok (.invokevirtual 369, 3) := by decide +kernel
theorem dX11_fullest_9 : decode cX11_fullest 9 = .ok (.iconst (-1), 1) := by decide +kernel
theorem dX11_fullest_10 : decode cX11_fullest 10 = .ok (.istore_n 1, 1) := by decide +kernel
theorem dX11_fullest_11 : decode cX11_fullest 11 = .ok (.iconst 0, 1) := by decide +kernel
theorem dX11_fullest_12 : decode cX11_fullest 12 = .ok (.istore_n 2, 1) := by decide +kernel
theorem dX11_fullest_13 : decode cX11_fullest 13 = .ok (.iload_n 2, 1) := by decide +kernel
theorem dX11_fullest_14 : decode cX11_fullest 14 = .ok (.iconst 1, 1) := by decide +kernel
theorem dX11_fullest_15 : decode cX11_fullest 15 = .ok (.iadd, 1) := by decide +kernel
theorem dX11_fullest_16 : decode cX11_fullest 16 = .ok (.aload_n 0, 1) := by decide +kernel
theorem dX11_fullest_17 : decode cX11_fullest 17 = .ok (.getfield 158, 3) := by decide +kernel
theorem dX11_fullest_20 : decode cX11_fullest 20 = .ok (.if_icmp .ge 29, 3) := by decide +kernel
theorem dX11_fullest_23 : decode cX11_fullest 23 = .ok (.iload_n 1, 1) := by decide +kernel
theorem dX11_fullest_24 : decode cX11_fullest 24 = .ok (.iconst (-1), 1) := by decide +kernel
theorem dX11_fullest_25 : decode cX11_fullest 25 = .ok (.if_icmp .eq 16, 3) := by decide +kernel
theorem dX11_fullest_28 : decode cX11_fullest 28 = .ok (.aload_n 0, 1) := by decide +kernel
theorem dX11_fullest_29 : decode cX11_fullest 29 = .ok (.iload_n 2, 1) := by decide +kernel
theorem dX11_fullest_30 : decode cX11_fullest 30 = .ok (.invokevirtual 389, 3) := by decide +kernel
theorem dX11_fullest_33 : decode cX11_fullest 33 = .ok (.aload_n 0, 1) := by decide +kernel
theorem dX11_fullest_34 : decode cX11_fullest 34 = .ok (.iload_n 1, 1) := by decide +kernel
theorem dX11_fullest_35 : decode cX11_fullest 35 = .ok (.invokevirtual 389, 3) := by decide +kernel
theorem dX11_fullest_38 : decode cX11_fullest 38 = .ok (.if_icmp .le 5, 3) := by decide +kernel
theorem dX11_fullest_41 : decode cX11_fullest 41 = .ok (.iload_n 2, 1) := by decide +kernel
theorem dX11_fullest_42 : decode cX11_fullest 42 = .ok (.istore_n 1, 1) := by decide +kernel
theorem dX11_fullest_43 : decode cX11_fullest 43 = .ok (.iinc 2 1, 3) := by decide +kernel
theorem dX11_fullest_46 : decode cX11_fullest 46 = .ok (.goto (-33), 3) := by decide +kernel
theorem dX11_fullest_49 : decode cX11_fullest 49 = .ok (.iload_n 1, 1) := by decide +kernel
theorem dX11_fullest_50 : decode cX11_fullest 50 = .ok (.ireturn, 1) := by decide +kernel
set_option maxRecDepth 20000 in
theorem ggX11_steps_X11_search : GoodIn wsX11_steps wsX11_search := goodIn_r _ [7, 8, 2, 9, 10, 11, 12, 13, 6, 14, 15, 16, 17, 18, 19, 20, 21, 22, 23, 24, 25, 26, 27, 28, 29, 30, 31, 32, 33, 34, 35, 36, 37, 38, 39, 40, 41, 42, 43, 44, 45, 46, 47, 48, 49, 50, 51, 52, 53, 54, 55, 56, 57, 58, 59, 60, 61, 62, 63, 64, 65, 66, 67, 68, 69, 70, 71, 72, 73, 74, 75, 76, 77, 78, 79, 80, 81, 82, 83, 84, 85, 86, 87, 88, 89, 90, 91, 92, 93, 94, 95, 96, 97, 98, 99, 100, 101, 102, 103, 104, 105, 106, 107, 108, 109, 110, 111, 112, 113, 114, 115, 116, 117, 118, 119, 120, 121, 122, 123, 124, 125, 126, 127, 128, 129, 130, 131] (by decide +kernel) (by decide +kernel)
set_option maxRecDepth 20000 in
theorem gX11_steps_X11_search : GoodIn wsX11_steps (wsV RX11 395 RX11 yX11_search wsX11_search) := goodIn_app (goodIn_of _ (by decide +kernel)) ggX11_steps_X11_search
theorem dX11_steps_0 : decode cX11_steps 0 = .ok (.aload_n 0, 1) := by decide +kernel
theorem dX11_steps_1 : decode cX11_steps 1 = .ok (.iconst 0, 1) := by decide +kernel
theorem dX11_steps_2 : decode cX11_steps 2 = .ok (.putfield 3, 3) := by decide +kernel
theorem dX11_steps_5 : decode cX11_steps 5 = .ok (.aload_n 0, 1) := by decide +kernel
theorem dX11_steps_6 : decode cX11_steps 6 = .ok (.invokevirtual 395, 3) := by decide +kernel
theorem dX11_steps_9 : decode cX11_steps 9 = .ok (.aload_n 0, 1) := by decide +kernel
theorem dX11_steps_10 : decode cX11_steps 10 = .ok (.getfield 183, 3) := by decide +kernel
theorem dX11_steps_13 : decode cX11_steps 13 = .ok (.ireturn, 1) := by decide +kernel
set_option maxRecDepth 20000 in
theorem ggX11_step_X11_search : GoodIn wsX11_step wsX11_search := goodIn_r _ [8, 9, 2, 10, 3, 11, 12, 13, 7, 14, 15, 16, 17, 18, 19, 20, 21, 22, 23, 24, 25, 26, 27, 28, 29, 30, 31, 32, 33, 34, 35, 36, 37, 38, 39, 40, 41, 42, 43, 44, 45, 46, 47, 48, 49, 50, 51, 52, 53, 54, 55, 56, 57, 58, 59, 60, 61, 62, 63, 64, 65, 66, 67, 68, 69, 70, 71, 72, 73, 74, 75, 76, 77, 78, 79, 80, 81, 82, 83, 84, 85, 86, 87, 88, 89, 90, 91, 100, 101, 102, 103, 104, 105, 106, 107, 108, 109, 110, 111, 112, 113, 114, 115, 116, 117, 118, 119, 120, 121, 122, 123, 124, 125, 126, 127, 128, 129, 130, 131, 132, 133, 134, 135, 136, 137, 138, 139] (by decide +kernel) (by decide +kernel)
set_option maxRecDepth 20000 in
theorem gX11_step_X11_search : GoodIn wsX11_step (wsV RX11 395 RX11 yX11_search wsX11_search) := goodIn_app (goodIn_of _ (by decide +kernel)) ggX11_step_X11_search
set_option maxRecDepth 20000 in
theorem ggX11_step_X11_in : GoodIn wsX11_step wsX11_in := goodIn_r _ [94] (by decide +kernel) (by decide +kernel)
set_option maxRecDepth 20000 in
theorem gX11_step_X11_in : GoodIn wsX11_step (va_wsS RX11 87 yX11_in wsX11_in) := goodIn_app (goodIn_of _ (by decide +kernel)) ggX11_step_X11_in
set_option maxRecDepth 20000 in
theorem ggX11_step_X11_passes2 : GoodIn wsX11_step wsX11_passes2 := goodIn_r _ [98, 99, 100, 101, 102, 103, 104, 105, 106, 107, 108, 109, 110, 111, 112, 113, 114, 115, 116, 117, 118, 119, 120, 121, 122, 123, 124, 125, 126, 127, 128, 129, 130, 131, 132, 133, 134, 135, 136, 137, 138, 139] (by decide +kernel) (by decide +kernel)
set_option maxRecDepth 20000 in
theorem gX11_step_X11_passes2 : GoodIn wsX11_step (wsV RX11 7 RX11 yX11_passes2 wsX11_passes2) := goodIn_app (goodIn_of _ (by decide +kernel)) ggX11_step_X11_passes2
set_option maxRecDepth 20000 in
theorem ggX11_step_X11_stepP : GoodIn wsX11_step wsX11_stepP := goodIn_r _ [79, 18, 3, 100, 101, 102, 103, 104, 105, 106, 107, 108, 109, 110, 111, 112, 113, 114, 115, 116, 117, 118, 119, 120, 121, 122, 123, 124, 125, 126, 127, 128, 129, 130, 131, 132, 133, 134, 135, 136, 137, 138, 139] (by decide +kernel) (by decide +kernel)
set_option maxRecDepth 20000 in
theorem gX11_step_X11_stepP : GoodIn wsX11_step (wsV RX11 189 RX11 yX11_stepP wsX11_stepP) := goodIn_app (goodIn_of _ (by decide +kernel)) ggX11_step_X11_stepP
set_option maxRecDepth 20000 in
theorem ggX11_step_X11_stepQ : GoodIn wsX11_step wsX11_stepQ := goodIn_r _ [83, 17, 3, 100, 101, 102, 103, 104, 105, 106, 107, 108, 109, 110, 111, 112, 113, 114, 115, 116, 117, 118, 119, 120, 121, 122, 123, 124, 125, 126, 127, 128, 129, 130, 131, 132, 133, 134, 135, 136, 137, 138, 139] (by decide +kernel) (by decide +kernel)
set_option maxRecDepth 20000 in
theorem gX11_step_X11_stepQ : GoodIn wsX11_step (wsV RX11 192 RX11 yX11_stepQ wsX11_stepQ) := goodIn_app (goodIn_of _ (by decide +kernel)) ggX11_step_X11_stepQ
theorem dX11_step_0 : decode cX11_step 0 = .ok (.aload_n 0, 1) := by decide +kernel
theorem dX11_step_1 : decode cX11_step 1 = .ok (.invokevirtual 395, 3) := by decide +kernel
theorem dX11_step_4 : decode cX11_step 4 = .ok (.aload_n 0, 1) := by decide +kernel
theorem dX11_step_5 : decode cX11_step 5 = .ok (.iload_n 2, 1) := by decide +kernel
theorem dX11_step_6 : decode cX11_step 6 = .ok (.i2l, 1) := by decide +kernel
theorem dX11_step_7 : decode cX11_step 7 = .ok (.lconst 0, 1) := by decide +kernel
theorem dX11_step_8 : decode cX11_step 8 = .ok (.ldc2_w 362, 3) := by decide +kernel
theorem dX11_step_11 : decode cX11_step 11 = .ok (.invokestatic 87, 3) := by decide +kernel
theorem dX11_step_14 : decode cX11_step 14 = .ok (.iload_n 1, 1) := by decide +kernel
theorem dX11_step_15 : decode cX11_step 15 = .ok (.i2l, 1) := by decide +kernel
theorem dX11_step_16 : decode cX11_step 16 = .ok (.lconst 0, 1) := by decide +kernel
theorem dX11_step_17 : decode cX11_step 17 = .ok (.aload_n 0, 1) := by decide +kernel
theorem dX11_step_18 : decode cX11_step 18 = .ok (.getfield 183, 3) := by decide +kernel
theorem dX11_step_21 : decode cX11_step 21 = .ok (.iconst 1, 1) := by decide +kernel
theorem dX11_step_22 : decode cX11_step 22 = .ok (.isub, 1) := by decide +kernel
theorem dX11_step_23 : decode cX11_step 23 = .ok (.i2l, 1) := by decide +kernel
theorem dX11_step_24 : decode cX11_step 24 = .ok (.invokestatic 87, 3) := by decide +kernel
theorem dX11_step_27 : decode cX11_step 27 = .ok (.invokevirtual 7, 3) := by decide +kernel
theorem dX11_step_30 : decode cX11_step 30 = .ok (.ifCond .ne 5, 3) := by decide +kernel
theorem dX11_step_33 : decode cX11_step 33 = .ok (.iconst 0, 1) := by decide +kernel
theorem dX11_step_34 : decode cX11_step 34 = .ok (.ireturn, 1) := by decide +kernel
theorem dX11_step_35 : decode cX11_step 35 = .ok (.iload_n 2, 1) := by decide +kernel
theorem dX11_step_36 : decode cX11_step 36 = .ok (.tableswitch 66 0 3 #[32, 43, 54, 60], 32) := by decide +kernel
theorem dX11_step_68 : decode cX11_step 68 = .ok (.aload_n 0, 1) := by decide +kernel
theorem dX11_step_69 : decode cX11_step 69 = .ok (.getfield 51, 3) := by decide +kernel
theorem dX11_step_72 : decode cX11_step 72 = .ok (.iconst 3, 1) := by decide +kernel
theorem dX11_step_73 : decode cX11_step 73 = .ok (.iload_n 1, 1) := by decide +kernel
theorem dX11_step_74 : decode cX11_step 74 = .ok (.imul, 1) := by decide +kernel
theorem dX11_step_75 : decode cX11_step 75 = .ok (.iconst 0, 1) := by decide +kernel
theorem dX11_step_76 : decode cX11_step 76 = .ok (.iadd, 1) := by decide +kernel
theorem dX11_step_77 : decode cX11_step 77 = .ok (.iaload, 1) := by decide +kernel
theorem dX11_step_78 : decode cX11_step 78 = .ok (.ireturn, 1) := by decide +kernel
theorem dX11_step_79 : decode cX11_step 79 = .ok (.aload_n 0, 1) := by decide +kernel
theorem dX11_step_80 : decode cX11_step 80 = .ok (.getfield 51, 3) := by decide +kernel
theorem dX11_step_83 : decode cX11_step 83 = .ok (.iconst 3, 1) := by decide +kernel
theorem dX11_step_84 : decode cX11_step 84 = .ok (.iload_n 1, 1) := by decide +kernel
theorem dX11_step_85 : decode cX11_step 85 = .ok (.imul, 1) := by decide +kernel
theorem dX11_step_86 : decode cX11_step 86 = .ok (.iconst 1, 1) := by decide +kernel
theorem dX11_step_87 : decode cX11_step 87 = .ok (.iadd, 1) := by decide +kernel
theorem dX11_step_88 : decode cX11_step 88 = .ok (.iaload, 1) := by decide +kernel
theorem dX11_step_89 : decode cX11_step 89 = .ok (.ireturn, 1) := by decide +kernel
theorem dX11_step_90 : decode cX11_step 90 = .ok (.aload_n 0, 1) := by decide +kernel
theorem dX11_step_91 : decode cX11_step 91 = .ok (.iload_n 1, 1) := by decide +kernel
theorem dX11_step_92 : decode cX11_step 92 = .ok (.invokevirtual 189, 3) := by decide +kernel
theorem dX11_step_95 : decode cX11_step 95 = .ok (.ireturn, 1) := by decide +kernel
theorem dX11_step_96 : decode cX11_step 96 = .ok (.aload_n 0, 1) := by decide +kernel
theorem dX11_step_97 : decode cX11_step 97 = .ok (.iload_n 1, 1) := by decide +kernel
theorem dX11_step_98 : decode cX11_step 98 = .ok (.invokevirtual 192, 3) := by decide +kernel
theorem dX11_step_101 : decode cX11_step 101 = .ok (.ireturn, 1) := by decide +kernel
theorem dX11_step_102 : decode cX11_step 102 = .ok (.aload_n 0, 1) := by decide +kernel
theorem dX11_step_103 : decode cX11_step 103 = .ok (.getfield 51, 3) := by decide +kernel
theorem dX11_step_106 : decode cX11_step 106 = .ok (.iconst 3, 1) := by decide +kernel
theorem dX11_step_107 : decode cX11_step 107 = .ok (.iload_n 1, 1) := by decide +kernel
theorem dX11_step_108 : decode cX11_step 108 = .ok (.imul, 1) := by decide +kernel
theorem dX11_step_109 : decode cX11_step 109 = .ok (.iconst 2, 1) := by decide +kernel
theorem dX11_step_110 : decode cX11_step 110 = .ok (.iadd, 1) := by decide +kernel
theorem dX11_step_111 : decode cX11_step 111 = .ok (.iaload, 1) := by decide +kernel
theorem dX11_step_112 : decode cX11_step 112 = .ok (.ireturn, 1) := by decide +kernel
set_option maxRecDepth 20000 in
theorem ggX11_knee_X11_search : GoodIn wsX11_knee wsX11_search := goodIn_r _ [8, 9, 2, 10, 3, 11, 12, 13, 7, 14, 15, 16, 17, 18, 19, 20, 21, 22, 23, 24, 25, 26, 27, 28, 29, 30, 31, 32, 33, 34, 35, 36, 37, 38, 39, 40, 41, 42, 43, 44, 45, 46, 47, 48, 49, 50, 51, 52, 53, 54, 55, 56, 57, 58, 59, 60, 61, 62, 63, 64, 65, 66, 67, 68, 69, 70, 71, 72, 73, 74, 75, 76, 77, 78, 79, 80, 81, 82, 83, 84, 85, 86, 87, 88, 89, 90, 91, 92, 93, 94, 95, 96, 97, 98, 99, 100, 101, 102, 103, 104, 105, 106, 107, 108, 109, 110, 111, 112, 113, 114, 115, 116, 117, 118, 119, 120, 121, 122, 123, 124, 125, 126, 127, 128, 129, 130, 131] (by decide +kernel) (by decide +kernel)
set_option maxRecDepth 20000 in
theorem gX11_knee_X11_search : GoodIn wsX11_knee (wsV RX11 395 RX11 yX11_search wsX11_search) := goodIn_app (goodIn_of _ (by decide +kernel)) ggX11_knee_X11_search
theorem dX11_knee_0 : decode cX11_knee 0 = .ok (.aload_n 0, 1) := by decide +kernel
theorem dX11_knee_1 : decode cX11_knee 1 = .ok (.iconst 0, 1) := by decide +kernel
theorem dX11_knee_2 : decode cX11_knee 2 = .ok (.putfield 3, 3) := by decide +kernel
theorem dX11_knee_5 : decode cX11_knee 5 = .ok (.aload_n 0, 1) := by decide +kernel
theorem dX11_knee_6 : decode cX11_knee 6 = .ok (.invokevirtual 395, 3) := by decide +kernel
theorem dX11_knee_9 : decode cX11_knee 9 = .ok (.aload_n 0, 1) := by decide +kernel
theorem dX11_knee_10 : decode cX11_knee 10 = .ok (.getfield 183, 3) := by decide +kernel
theorem dX11_knee_13 : decode cX11_knee 13 = .ok (.ifCond .ne 7, 3) := by decide +kernel
theorem dX11_knee_16 : decode cX11_knee 16 = .ok (.iconst (-1), 1) := by decide +kernel
theorem dX11_knee_17 : decode cX11_knee 17 = .ok (.goto 9, 3) := by decide +kernel
theorem dX11_knee_20 : decode cX11_knee 20 = .ok (.aload_n 0, 1) := by decide +kernel
theorem dX11_knee_21 : decode cX11_knee 21 = .ok (.getfield 51, 3) := by decide +kernel
theorem dX11_knee_24 : decode cX11_knee 24 = .ok (.iconst 2, 1) := by decide +kernel
theorem dX11_knee_25 : decode cX11_knee 25 = .ok (.iaload, 1) := by decide +kernel
theorem dX11_knee_26 : decode cX11_knee 26 = .ok (.ireturn, 1) := by decide +kernel
set_option maxRecDepth 20000 in
theorem ggX11_area_X11_layPoints : GoodIn wsX11_area wsX11_layPoints := goodIn_r _ [6, 7, 8, 9, 10, 11, 12, 13, 14, 5, 15, 16, 17, 18, 19, 20, 21, 22, 23, 24, 25, 26, 27, 28, 29, 30, 31, 32, 33, 34, 35, 36, 37, 38, 39, 40, 41, 42, 43, 44, 45, 46, 47, 48, 49, 50, 51, 52, 53, 54, 55, 56, 57, 58, 59, 60, 61, 62, 63, 64, 69, 70, 71, 72, 73, 74, 75, 76, 77, 78, 79, 80, 81, 82, 83, 84, 85, 86, 87, 88, 89, 90, 91, 92, 93, 94, 95, 96, 97, 98, 99, 100, 101, 102, 103, 104, 105, 106, 107, 108] (by decide +kernel) (by decide +kernel)
set_option maxRecDepth 20000 in
theorem gX11_area_X11_layPoints : GoodIn wsX11_area (wsV RX11 144 RX11 yX11_layPoints wsX11_layPoints) := goodIn_app (goodIn_of _ (by decide +kernel)) ggX11_area_X11_layPoints
set_option maxRecDepth 20000 in
theorem ggX11_area_X11_areaNow : GoodIn wsX11_area wsX11_areaNow := goodIn_r _ [68, 64, 9, 10, 69, 70, 71, 72, 73, 74, 75, 76, 77, 78, 79, 80, 81, 82, 83, 84, 85, 86, 87, 88, 89, 90, 91, 92, 93, 94, 95, 96, 97, 98, 99, 100, 101, 102, 103, 104, 105, 106, 107, 108] (by decide +kernel) (by decide +kernel)
set_option maxRecDepth 20000 in
theorem gX11_area_X11_areaNow : GoodIn wsX11_area (wsV RX11 398 RX11 yX11_areaNow wsX11_areaNow) := goodIn_app (goodIn_of _ (by decide +kernel)) ggX11_area_X11_areaNow
theorem dX11_area_0 : decode cX11_area 0 = .ok (.aload_n 0, 1) := by decide +kernel
theorem dX11_area_1 : decode cX11_area 1 = .ok (.iconst 0, 1) := by decide +kernel
theorem dX11_area_2 : decode cX11_area 2 = .ok (.putfield 3, 3) := by decide +kernel
theorem dX11_area_5 : decode cX11_area 5 = .ok (.aload_n 0, 1) := by decide +kernel
theorem dX11_area_6 : decode cX11_area 6 = .ok (.invokevirtual 144, 3) := by decide +kernel
theorem dX11_area_9 : decode cX11_area 9 = .ok (.aload_n 0, 1) := by decide +kernel
theorem dX11_area_10 : decode cX11_area 10 = .ok (.invokevirtual 398, 3) := by decide +kernel
theorem dX11_area_13 : decode cX11_area 13 = .ok (.ireturn, 1) := by decide +kernel
theorem dX11_gapBehind_0 : decode cX11_gapBehind 0 = .ok (.aload_n 0, 1) := by decide +kernel
theorem dX11_gapBehind_1 : decode cX11_gapBehind 1 = .ok (.getfield 30, 3) := by decide +kernel
theorem dX11_gapBehind_4 : decode cX11_gapBehind 4 = .ok (.iload_n 1, 1) := by decide +kernel
theorem dX11_gapBehind_5 : decode cX11_gapBehind 5 = .ok (.iconst 1, 1) := by decide +kernel
theorem dX11_gapBehind_6 : decode cX11_gapBehind 6 = .ok (.iadd, 1) := by decide +kernel
theorem dX11_gapBehind_7 : decode cX11_gapBehind 7 = .ok (.iaload, 1) := by decide +kernel
theorem dX11_gapBehind_8 : decode cX11_gapBehind 8 = .ok (.aload_n 0, 1) := by decide +kernel
theorem dX11_gapBehind_9 : decode cX11_gapBehind 9 = .ok (.getfield 30, 3) := by decide +kernel
theorem dX11_gapBehind_12 : decode cX11_gapBehind 12 = .ok (.iload_n 1, 1) := by decide +kernel
theorem dX11_gapBehind_13 : decode cX11_gapBehind 13 = .ok (.iaload, 1) := by decide +kernel
theorem dX11_gapBehind_14 : decode cX11_gapBehind 14 = .ok (.isub, 1) := by decide +kernel
theorem dX11_gapBehind_15 : decode cX11_gapBehind 15 = .ok (.aload_n 0, 1) := by decide +kernel
theorem dX11_gapBehind_16 : decode cX11_gapBehind 16 = .ok (.getfield 33, 3) := by decide +kernel
theorem dX11_gapBehind_19 : decode cX11_gapBehind 19 = .ok (.iload_n 1, 1) := by decide +kernel
theorem dX11_gapBehind_20 : decode cX11_gapBehind 20 = .ok (.iaload, 1) := by decide +kernel
theorem dX11_gapBehind_21 : decode cX11_gapBehind 21 = .ok (.aload_n 0, 1) := by decide +kernel
theorem dX11_gapBehind_22 : decode cX11_gapBehind 22 = .ok (.getfield 33, 3) := by decide +kernel
theorem dX11_gapBehind_25 : decode cX11_gapBehind 25 = .ok (.iload_n 1, 1) := by decide +kernel
theorem dX11_gapBehind_26 : decode cX11_gapBehind 26 = .ok (.iconst 1, 1) := by decide +kernel
theorem dX11_gapBehind_27 : decode cX11_gapBehind 27 = .ok (.iadd, 1) := by decide +kernel
theorem dX11_gapBehind_28 : decode cX11_gapBehind 28 = .ok (.iaload, 1) := by decide +kernel
theorem dX11_gapBehind_29 : decode cX11_gapBehind 29 = .ok (.isub, 1) := by decide +kernel
theorem dX11_gapBehind_30 : decode cX11_gapBehind 30 = .ok (.imul, 1) := by decide +kernel
theorem dX11_gapBehind_31 : decode cX11_gapBehind 31 = .ok (.ireturn, 1) := by decide +kernel
set_option maxRecDepth 20000 in
theorem ggX11_gap_X11_layPoints : GoodIn wsX11_gap wsX11_layPoints := goodIn_r _ [7, 8, 9, 10, 11, 12, 13, 14, 15, 6, 16, 17, 18, 19, 20, 21, 22, 23, 24, 25, 26, 27, 28, 29, 30, 31, 32, 33, 34, 35, 36, 37, 38, 39, 40, 41, 42, 43, 44, 45, 46, 47, 48, 49, 50, 51, 52, 53, 54, 55, 56, 57, 58, 59, 60, 61, 62, 63, 64, 2, 69, 70, 71, 72, 73, 74, 75, 76, 77, 78, 79, 80, 81, 82, 83, 84, 85, 86, 87, 88, 89, 90, 91, 92, 93, 94, 95, 96, 97, 98, 99, 100, 101, 102, 103, 104, 105, 106, 107, 108] (by decide +kernel) (by decide +kernel)
set_option maxRecDepth 20000 in
theorem gX11_gap_X11_layPoints : GoodIn wsX11_gap (wsV RX11 144 RX11 yX11_layPoints wsX11_layPoints) := goodIn_app (goodIn_of _ (by decide +kernel)) ggX11_gap_X11_layPoints
set_option maxRecDepth 20000 in
theorem ggX11_gap_X11_gapBehind : GoodIn wsX11_gap wsX11_gapBehind := goodIn_r _ [68, 10, 11, 69, 70, 71, 72, 73, 74, 75, 76, 77, 78, 79, 80, 81, 82, 83, 84, 85, 86, 87, 88, 89, 90, 91, 92, 93, 94, 95, 96, 97, 98, 99, 100, 101, 102, 103, 104, 105, 106, 107, 108] (by decide +kernel) (by decide +kernel)
set_option maxRecDepth 20000 in
theorem gX11_gap_X11_gapBehind : GoodIn wsX11_gap (wsV RX11 401 RX11 yX11_gapBehind wsX11_gapBehind) := goodIn_app (goodIn_of _ (by decide +kernel)) ggX11_gap_X11_gapBehind
theorem dX11_gap_0 : decode cX11_gap 0 = .ok (.aload_n 0, 1) := by decide +kernel
theorem dX11_gap_1 : decode cX11_gap 1 = .ok (.iconst 0, 1) := by decide +kernel
theorem dX11_gap_2 : decode cX11_gap 2 = .ok (.putfield 3, 3) := by decide +kernel
theorem dX11_gap_5 : decode cX11_gap 5 = .ok (.aload_n 0, 1) := by decide +kernel
theorem dX11_gap_6 : decode cX11_gap 6 = .ok (.invokevirtual 144, 3) := by decide +kernel
theorem dX11_gap_9 : decode cX11_gap 9 = .ok (.iconst (-1), 1) := by decide +kernel
theorem dX11_gap_10 : decode cX11_gap 10 = .ok (.istore_n 1, 1) := by decide +kernel
theorem dX11_gap_11 : decode cX11_gap 11 = .ok (.iconst 0, 1) := by decide +kernel
theorem dX11_gap_12 : decode cX11_gap 12 = .ok (.istore_n 2, 1) := by decide +kernel
theorem dX11_gap_13 : decode cX11_gap 13 = .ok (.iload_n 2, 1) := by decide +kernel
theorem dX11_gap_14 : decode cX11_gap 14 = .ok (.iconst 1, 1) := by decide +kernel
theorem dX11_gap_15 : decode cX11_gap 15 = .ok (.iadd, 1) := by decide +kernel
theorem dX11_gap_16 : decode cX11_gap 16 = .ok (.aload_n 0, 1) := by decide +kernel
theorem dX11_gap_17 : decode cX11_gap 17 = .ok (.getfield 130, 3) := by decide +kernel
theorem dX11_gap_20 : decode cX11_gap 20 = .ok (.if_icmp .ge 29, 3) := by decide +kernel
theorem dX11_gap_23 : decode cX11_gap 23 = .ok (.iload_n 1, 1) := by decide +kernel
theorem dX11_gap_24 : decode cX11_gap 24 = .ok (.iconst (-1), 1) := by decide +kernel
theorem dX11_gap_25 : decode cX11_gap 25 = .ok (.if_icmp .eq 16, 3) := by decide +kernel
theorem dX11_gap_28 : decode cX11_gap 28 = .ok (.aload_n 0, 1) := by decide +kernel
theorem dX11_gap_29 : decode cX11_gap 29 = .ok (.iload_n 2, 1) := by decide +kernel
theorem dX11_gap_30 : decode cX11_gap 30 = .ok (.invokevirtual 401, 3) := by decide +kernel
theorem dX11_gap_33 : decode cX11_gap 33 = .ok (.aload_n 0, 1) := by decide +kernel
theorem dX11_gap_34 : decode cX11_gap 34 = .ok (.iload_n 1, 1) := by decide +kernel
theorem dX11_gap_35 : decode cX11_gap 35 = .ok (.invokevirtual 401, 3) := by decide +kernel
theorem dX11_gap_38 : decode cX11_gap 38 = .ok (.if_icmp .le 5, 3) := by decide +kernel
theorem dX11_gap_41 : decode cX11_gap 41 = .ok (.iload_n 2, 1) := by decide +kernel
theorem dX11_gap_42 : decode cX11_gap 42 = .ok (.istore_n 1, 1) := by decide +kernel
theorem dX11_gap_43 : decode cX11_gap 43 = .ok (.iinc 2 1, 3) := by decide +kernel
theorem dX11_gap_46 : decode cX11_gap 46 = .ok (.goto (-33), 3) := by decide +kernel
theorem dX11_gap_49 : decode cX11_gap 49 = .ok (.iload_n 1, 1) := by decide +kernel
theorem dX11_gap_50 : decode cX11_gap 50 = .ok (.ireturn, 1) := by decide +kernel
set_option maxRecDepth 20000 in
theorem ggX11_core_X11_layAll : GoodIn wsX11_core wsX11_layAll := goodIn_r _ [8, 9, 10, 11, 7, 12, 13, 14, 15, 16, 17, 18, 19, 20, 21, 22, 23, 24, 25, 26, 27, 28, 29, 30, 31, 32, 33, 34, 35, 36, 37, 38, 39, 40, 41, 42, 43, 44, 45, 46, 47, 48, 49, 50, 51, 52, 53, 54, 55, 56, 57, 58, 59, 60, 61, 62, 63, 64, 65, 66, 67, 68, 69, 2, 70, 71, 72, 73, 74, 75, 76, 77, 78, 79, 80, 81, 82, 83, 84, 85, 3, 86, 87, 88, 89, 90, 91, 92, 93, 94, 95, 96, 97, 98, 99, 100, 101, 102, 103, 104, 105, 106, 107, 108, 109, 110, 111, 112, 113, 114, 115, 116, 117, 118, 119, 120, 121, 122, 123, 124, 125, 126] (by decide +kernel) (by decide +kernel)
set_option maxRecDepth 20000 in
theorem gX11_core_X11_layAll : GoodIn wsX11_core (wsV RX11 174 RX11 yX11_layAll wsX11_layAll) := goodIn_app (goodIn_of _ (by decide +kernel)) ggX11_core_X11_layAll
set_option maxRecDepth 20000 in
theorem ggX11_core_X11_allSets : GoodIn wsX11_core wsX11_allSets := goodIn_r _ [30, 31, 32, 33, 7, 34, 35, 87, 88, 89, 90, 91, 92, 93, 94, 95, 96, 97, 98, 99, 100, 101, 102, 103, 104, 105, 106, 107, 108, 109, 110, 111, 112, 113, 114, 115, 116, 117, 118, 119, 120, 121, 122, 123, 124, 125, 126] (by decide +kernel) (by decide +kernel)
set_option maxRecDepth 20000 in
theorem gX11_core_X11_allSets : GoodIn wsX11_core (wsV RX11 91 RX11 yX11_allSets wsX11_allSets) := goodIn_app (goodIn_of _ (by decide +kernel)) ggX11_core_X11_allSets
theorem dX11_core_0 : decode cX11_core 0 = .ok (.aload_n 0, 1) := by decide +kernel
theorem dX11_core_1 : decode cX11_core 1 = .ok (.iconst 0, 1) := by decide +kernel
theorem dX11_core_2 : decode cX11_core 2 = .ok (.putfield 3, 3) := by decide +kernel
theorem dX11_core_5 : decode cX11_core 5 = .ok (.aload_n 0, 1) := by decide +kernel
theorem dX11_core_6 : decode cX11_core 6 = .ok (.invokevirtual 174, 3) := by decide +kernel
theorem dX11_core_9 : decode cX11_core 9 = .ok (.aload_n 0, 1) := by decide +kernel
theorem dX11_core_10 : decode cX11_core 10 = .ok (.getfield 130, 3) := by decide +kernel
theorem dX11_core_13 : decode cX11_core 13 = .ok (.ifCond .ne 7, 3) := by decide +kernel
theorem dX11_core_16 : decode cX11_core 16 = .ok (.iconst 0, 1) := by decide +kernel
theorem dX11_core_17 : decode cX11_core 17 = .ok (.goto 9, 3) := by decide +kernel
theorem dX11_core_20 : decode cX11_core 20 = .ok (.aload_n 0, 1) := by decide +kernel
theorem dX11_core_21 : decode cX11_core 21 = .ok (.invokevirtual 91, 3) := by decide +kernel
theorem dX11_core_24 : decode cX11_core 24 = .ok (.iconst 1, 1) := by decide +kernel
theorem dX11_core_25 : decode cX11_core 25 = .ok (.isub, 1) := by decide +kernel
theorem dX11_core_26 : decode cX11_core 26 = .ok (.istore_n 1, 1) := by decide +kernel
theorem dX11_core_27 : decode cX11_core 27 = .ok (.iconst 0, 1) := by decide +kernel
theorem dX11_core_28 : decode cX11_core 28 = .ok (.istore_n 2, 1) := by decide +kernel
theorem dX11_core_29 : decode cX11_core 29 = .ok (.iload_n 2, 1) := by decide +kernel
theorem dX11_core_30 : decode cX11_core 30 = .ok (.aload_n 0, 1) := by decide +kernel
theorem dX11_core_31 : decode cX11_core 31 = .ok (.getfield 130, 3) := by decide +kernel
theorem dX11_core_34 : decode cX11_core 34 = .ok (.if_icmp .ge 18, 3) := by decide +kernel
theorem dX11_core_37 : decode cX11_core 37 = .ok (.iload_n 1, 1) := by decide +kernel
theorem dX11_core_38 : decode cX11_core 38 = .ok (.aload_n 0, 1) := by decide +kernel
theorem dX11_core_39 : decode cX11_core 39 = .ok (.getfield 36, 3) := by decide +kernel
theorem dX11_core_42 : decode cX11_core 42 = .ok (.iload_n 2, 1) := by decide +kernel
theorem dX11_core_43 : decode cX11_core 43 = .ok (.iaload, 1) := by decide +kernel
theorem dX11_core_44 : decode cX11_core 44 = .ok (.iand, 1) := by decide +kernel
theorem dX11_core_45 : decode cX11_core 45 = .ok (.istore_n 1, 1) := by decide +kernel
theorem dX11_core_46 : decode cX11_core 46 = .ok (.iinc 2 1, 3) := by decide +kernel
theorem dX11_core_49 : decode cX11_core 49 = .ok (.goto (-20), 3) := by decide +kernel
theorem dX11_core_52 : decode cX11_core 52 = .ok (.iload_n 1, 1) := by decide +kernel
theorem dX11_core_53 : decode cX11_core 53 = .ok (.ireturn, 1) := by decide +kernel
set_option maxRecDepth 20000 in
theorem ggX11_unused_X11_layAll : GoodIn wsX11_unused wsX11_layAll := goodIn_r _ [8, 9, 10, 11, 7, 12, 13, 14, 15, 16, 17, 18, 19, 20, 21, 22, 23, 24, 25, 26, 27, 28, 29, 30, 31, 32, 33, 34, 35, 36, 37, 38, 39, 40, 41, 42, 43, 44, 45, 46, 47, 48, 49, 50, 51, 52, 53, 54, 55, 56, 57, 58, 59, 60, 61, 62, 63, 64, 65, 66, 67, 68, 69, 2, 70, 71, 72, 73, 74, 75, 76, 77, 78, 79, 80, 81, 82, 83, 84, 85, 3, 86, 87, 88, 89, 90, 91, 92, 93, 94, 95, 96, 97, 98, 99, 100, 101, 102, 103, 104, 105, 106, 107, 108, 109, 110, 111, 112, 113, 114, 115, 116, 117, 118, 119, 120, 121, 122, 123, 124, 125, 126] (by decide +kernel) (by decide +kernel)
set_option maxRecDepth 20000 in
theorem gX11_unused_X11_layAll : GoodIn wsX11_unused (wsV RX11 174 RX11 yX11_layAll wsX11_layAll) := goodIn_app (goodIn_of _ (by decide +kernel)) ggX11_unused_X11_layAll
set_option maxRecDepth 20000 in
theorem ggX11_unused_X11_allSets : GoodIn wsX11_unused wsX11_allSets := goodIn_r _ [30, 31, 32, 33, 7, 34, 35, 87, 88, 89, 90, 91, 92, 93, 94, 95, 96, 97, 98, 99, 100, 101, 102, 103, 104, 105, 106, 107, 108, 109, 110, 111, 112, 113, 114, 115, 116, 117, 118, 119, 120, 121, 122, 123, 124, 125, 126] (by decide +kernel) (by decide +kernel)
set_option maxRecDepth 20000 in
theorem gX11_unused_X11_allSets : GoodIn wsX11_unused (wsV RX11 91 RX11 yX11_allSets wsX11_allSets) := goodIn_app (goodIn_of _ (by decide +kernel)) ggX11_unused_X11_allSets
theorem dX11_unused_0 : decode cX11_unused 0 = .ok (.aload_n 0, 1) := by decide +kernel
theorem dX11_unused_1 : decode cX11_unused 1 = .ok (.iconst 0, 1) := by decide +kernel
theorem dX11_unused_2 : decode cX11_unused 2 = .ok (.putfield 3, 3) := by decide +kernel
theorem dX11_unused_5 : decode cX11_unused 5 = .ok (.aload_n 0, 1) := by decide +kernel
theorem dX11_unused_6 : decode cX11_unused 6 = .ok (.invokevirtual 174, 3) := by decide +kernel
theorem dX11_unused_9 : decode cX11_unused 9 = .ok (.aload_n 0, 1) := by decide +kernel
theorem dX11_unused_10 : decode cX11_unused 10 = .ok (.invokevirtual 91, 3) := by decide +kernel
theorem dX11_unused_13 : decode cX11_unused 13 = .ok (.iconst 1, 1) := by decide +kernel
theorem dX11_unused_14 : decode cX11_unused 14 = .ok (.isub, 1) := by decide +kernel
theorem dX11_unused_15 : decode cX11_unused 15 = .ok (.istore_n 1, 1) := by decide +kernel
theorem dX11_unused_16 : decode cX11_unused 16 = .ok (.iconst 0, 1) := by decide +kernel
theorem dX11_unused_17 : decode cX11_unused 17 = .ok (.istore_n 2, 1) := by decide +kernel
theorem dX11_unused_18 : decode cX11_unused 18 = .ok (.iload_n 2, 1) := by decide +kernel
theorem dX11_unused_19 : decode cX11_unused 19 = .ok (.aload_n 0, 1) := by decide +kernel
theorem dX11_unused_20 : decode cX11_unused 20 = .ok (.getfield 130, 3) := by decide +kernel
theorem dX11_unused_23 : decode cX11_unused 23 = .ok (.if_icmp .ge 20, 3) := by decide +kernel
theorem dX11_unused_26 : decode cX11_unused 26 = .ok (.iload_n 1, 1) := by decide +kernel
theorem dX11_unused_27 : decode cX11_unused 27 = .ok (.aload_n 0, 1) := by decide +kernel
theorem dX11_unused_28 : decode cX11_unused 28 = .ok (.getfield 36, 3) := by decide +kernel
theorem dX11_unused_31 : decode cX11_unused 31 = .ok (.iload_n 2, 1) := by decide +kernel
theorem dX11_unused_32 : decode cX11_unused 32 = .ok (.iaload, 1) := by decide +kernel
theorem dX11_unused_33 : decode cX11_unused 33 = .ok (.iconst (-1), 1) := by decide +kernel
theorem dX11_unused_34 : decode cX11_unused 34 = .ok (.ixor, 1) := by decide +kernel
theorem dX11_unused_35 : decode cX11_unused 35 = .ok (.iand, 1) := by decide +kernel
theorem dX11_unused_36 : decode cX11_unused 36 = .ok (.istore_n 1, 1) := by decide +kernel
theorem dX11_unused_37 : decode cX11_unused 37 = .ok (.iinc 2 1, 3) := by decide +kernel
theorem dX11_unused_40 : decode cX11_unused 40 = .ok (.goto (-22), 3) := by decide +kernel
theorem dX11_unused_43 : decode cX11_unused 43 = .ok (.iload_n 1, 1) := by decide +kernel
theorem dX11_unused_44 : decode cX11_unused 44 = .ok (.ireturn, 1) := by decide +kernel
set_option maxRecDepth 20000 in
theorem ggX11_lostWithout_X11_isItem : GoodIn wsX11_lostWithout wsX11_isItem := goodIn_r _ [7, 8, 9, 10, 6, 11, 12, 13, 14, 15, 89, 90, 91, 92, 93, 94, 95, 96, 97, 98, 99, 100, 101, 102, 103, 104, 105, 106, 107, 108, 109, 110, 111, 112, 113, 114, 115, 116, 117, 118, 119, 120, 121, 122, 123, 124, 125, 126, 127, 128] (by decide +kernel) (by decide +kernel)
set_option maxRecDepth 20000 in
theorem gX11_lostWithout_X11_isItem : GoodIn wsX11_lostWithout (wsV RX11 359 RX11 yX11_isItem wsX11_isItem) := goodIn_app (goodIn_of _ (by decide +kernel)) ggX11_lostWithout_X11_isItem
set_option maxRecDepth 20000 in
theorem ggX11_lostWithout_X11_passes : GoodIn wsX11_lostWithout wsX11_passes := goodIn_r _ [19, 20, 21, 22, 6, 23, 24, 89, 90, 91, 92, 93, 94, 95, 96, 97, 98, 99, 100, 101, 102, 103, 104, 105, 106, 107, 108, 109, 110, 111, 112, 113, 114, 115, 116, 117, 118, 119, 120, 121, 122, 123, 124, 125, 126, 127, 128] (by decide +kernel) (by decide +kernel)
set_option maxRecDepth 20000 in
theorem gX11_lostWithout_X11_passes : GoodIn wsX11_lostWithout (wsV RX11 235 RX11 yX11_passes wsX11_passes) := goodIn_app (goodIn_of _ (by decide +kernel)) ggX11_lostWithout_X11_passes
set_option maxRecDepth 20000 in
theorem ggX11_lostWithout_X11_layPoints : GoodIn wsX11_lostWithout wsX11_layPoints := goodIn_r _ [28, 29, 30, 31, 32, 1, 33, 34, 35, 6, 36, 37, 38, 39, 40, 41, 42, 43, 44, 45, 8, 9, 10, 11, 12, 46, 47, 48, 49, 50, 51, 52, 53, 54, 55, 56, 57, 58, 59, 60, 61, 62, 63, 64, 65, 66, 67, 68, 69, 70, 71, 72, 73, 74, 75, 76, 77, 78, 79, 2, 89, 90, 91, 92, 93, 94, 95, 96, 97, 98, 99, 100, 101, 102, 103, 104, 105, 106, 107, 108, 109, 110, 111, 112, 113, 114, 115, 116, 117, 118, 119, 120, 121, 122, 123, 124, 125, 126, 127, 128] (by decide +kernel) (by decide +kernel)
set_option maxRecDepth 20000 in
theorem gX11_lostWithout_X11_layPoints : GoodIn wsX11_lostWithout (wsV RX11 144 RX11 yX11_layPoints wsX11_layPoints) := goodIn_app (goodIn_of _ (by decide +kernel)) ggX11_lostWithout_X11_layPoints
set_option maxRecDepth 20000 in
theorem ggX11_lostWithout_X11_allSets : GoodIn wsX11_lostWithout wsX11_allSets := goodIn_r _ [45, 8, 9, 10, 6, 11, 12, 89, 90, 91, 92, 93, 94, 95, 96, 97, 98, 99, 100, 101, 102, 103, 104, 105, 106, 107, 108, 109, 110, 111, 112, 113, 114, 115, 116, 117, 118, 119, 120, 121, 122, 123, 124, 125, 126, 127, 128] (by decide +kernel) (by decide +kernel)
set_option maxRecDepth 20000 in
theorem gX11_lostWithout_X11_allSets : GoodIn wsX11_lostWithout (wsV RX11 91 RX11 yX11_allSets wsX11_allSets) := goodIn_app (goodIn_of _ (by decide +kernel)) ggX11_lostWithout_X11_allSets
set_option maxRecDepth 20000 in
theorem ggX11_lostWithout_X11_has : GoodIn wsX11_lostWithout wsX11_has := goodIn_r _ [60] (by decide +kernel) (by decide +kernel)
set_option maxRecDepth 20000 in
theorem gX11_lostWithout_X11_has : GoodIn wsX11_lostWithout (va_wsS RX11 94 yX11_has wsX11_has) := goodIn_app (goodIn_of _ (by decide +kernel)) ggX11_lostWithout_X11_has
set_option maxRecDepth 20000 in
theorem ggX11_lostWithout_X11_pointBy : GoodIn wsX11_lostWithout wsX11_pointBy := goodIn_r _ [83, 54, 55, 56, 6, 57, 8, 9, 10, 11, 12, 58, 59, 60, 61, 62, 63, 64, 84, 85, 86, 87, 88, 29, 32, 13, 14, 15, 89, 90, 91, 92, 93, 94, 95, 96, 97, 98, 99, 100, 101, 102, 103, 104, 105, 106, 107, 108, 109, 110, 111, 112, 113, 114, 115, 116, 117, 118, 119, 120, 121, 122, 123, 124, 125, 126, 127, 128] (by decide +kernel) (by decide +kernel)
set_option maxRecDepth 20000 in
theorem gX11_lostWithout_X11_pointBy : GoodIn wsX11_lostWithout (wsV RX11 147 RX11 yX11_pointBy wsX11_pointBy) := goodIn_app (goodIn_of _ (by decide +kernel)) ggX11_lostWithout_X11_pointBy
set_option maxRecDepth 20000 in
theorem ggX11_lostWithout_X11_isAllowed : GoodIn wsX11_lostWithout wsX11_isAllowed := goodIn_r _ [49, 50, 51, 52, 6, 53, 12, 54, 55, 56, 57, 8, 9, 10, 11, 58, 59, 60, 61, 62, 63, 64, 65, 66, 67, 68, 69, 70, 71, 72, 73, 74, 75, 89, 90, 91, 92, 93, 94, 95, 96, 97, 98, 99, 100, 101, 102, 103, 104, 105, 106, 107, 108, 109, 110, 111, 112, 113, 114, 115, 116, 117, 118, 119, 120, 121, 122, 123, 124, 125, 126, 127, 128] (by decide +kernel) (by decide +kernel)
set_option maxRecDepth 20000 in
theorem gX11_lostWithout_X11_isAllowed : GoodIn wsX11_lostWithout (wsV RX11 122 RX11 yX11_isAllowed wsX11_isAllowed) := goodIn_app (goodIn_of _ (by decide +kernel)) ggX11_lostWithout_X11_isAllowed
theorem dX11_lostWithout_0 : decode cX11_lostWithout 0 = .ok (.aload_n 0, 1) := by decide +kernel
theorem dX11_lostWithout_1 : decode cX11_lostWithout 1 = .ok (.aload_n 0, 1) := by decide +kernel
theorem dX11_lostWithout_2 : decode cX11_lostWithout 2 = .ok (.iload_n 1, 1) := by decide +kernel
theorem dX11_lostWithout_3 : decode cX11_lostWithout 3 = .ok (.invokevirtual 359, 3) := by decide +kernel
theorem dX11_lostWithout_6 : decode cX11_lostWithout 6 = .ok (.invokevirtual 235, 3) := by decide +kernel
theorem dX11_lostWithout_9 : decode cX11_lostWithout 9 = .ok (.ifCond .ne 5, 3) := by decide +kernel
theorem dX11_lostWithout_12 : decode cX11_lostWithout 12 = .ok (.iconst 0, 1) := by decide +kernel
theorem dX11_lostWithout_13 : decode cX11_lostWithout 13 = .ok (.ireturn, 1) := by decide +kernel
theorem dX11_lostWithout_14 : decode cX11_lostWithout 14 = .ok (.aload_n 0, 1) := by decide +kernel
theorem dX11_lostWithout_15 : decode cX11_lostWithout 15 = .ok (.invokevirtual 144, 3) := by decide +kernel
theorem dX11_lostWithout_18 : decode cX11_lostWithout 18 = .ok (.iconst 0, 1) := by decide +kernel
theorem dX11_lostWithout_19 : decode cX11_lostWithout 19 = .ok (.istore_n 2, 1) := by decide +kernel
theorem dX11_lostWithout_20 : decode cX11_lostWithout 20 = .ok (.iload_n 2, 1) := by decide +kernel
theorem dX11_lostWithout_21 : decode cX11_lostWithout 21 = .ok (.aload_n 0, 1) := by decide +kernel
theorem dX11_lostWithout_22 : decode cX11_lostWithout 22 = .ok (.invokevirtual 91, 3) := by decide +kernel
theorem dX11_lostWithout_25 : decode cX11_lostWithout 25 = .ok (.if_icmp .ge 56, 3) := by decide +kernel
theorem dX11_lostWithout_28 : decode cX11_lostWithout 28 = .ok (.iload_n 2, 1) := by decide +kernel
theorem dX11_lostWithout_29 : decode cX11_lostWithout 29 = .ok (.iload_n 1, 1) := by decide +kernel
theorem dX11_lostWithout_30 : decode cX11_lostWithout 30 = .ok (.invokestatic 94, 3) := by decide +kernel
theorem dX11_lostWithout_33 : decode cX11_lostWithout 33 = .ok (.ifCond .eq 7, 3) := by decide +kernel
theorem dX11_lostWithout_36 : decode cX11_lostWithout 36 = .ok (.iconst (-1), 1) := by decide +kernel
theorem dX11_lostWithout_37 : decode cX11_lostWithout 37 = .ok (.goto 8, 3) := by decide +kernel
theorem dX11_lostWithout_40 : decode cX11_lostWithout 40 = .ok (.aload_n 0, 1) := by decide +kernel
theorem dX11_lostWithout_41 : decode cX11_lostWithout 41 = .ok (.iload_n 2, 1) := by decide +kernel
theorem dX11_lostWithout_42 : decode cX11_lostWithout 42 = .ok (.invokevirtual 147, 3) := by decide +kernel
theorem dX11_lostWithout_45 : decode cX11_lostWithout 45 = .ok (.istore_n 3, 1) := by decide +kernel
theorem dX11_lostWithout_46 : decode cX11_lostWithout 46 = .ok (.iload_n 3, 1) := by decide +kernel
theorem dX11_lostWithout_47 : decode cX11_lostWithout 47 = .ok (.iconst (-1), 1) := by decide +kernel
theorem dX11_lostWithout_48 : decode cX11_lostWithout 48 = .ok (.if_icmp .eq 27, 3) := by decide +kernel
theorem dX11_lostWithout_51 : decode cX11_lostWithout 51 = .ok (.aload_n 0, 1) := by decide +kernel
theorem dX11_lostWithout_52 : decode cX11_lostWithout 52 = .ok (.getfield 39, 3) := by decide +kernel
theorem dX11_lostWithout_55 : decode cX11_lostWithout 55 = .ok (.iload_n 3, 1) := by decide +kernel
theorem dX11_lostWithout_56 : decode cX11_lostWithout 56 = .ok (.iaload, 1) := by decide +kernel
theorem dX11_lostWithout_57 : decode cX11_lostWithout 57 = .ok (.ifCond .ne 18, 3) := by decide +kernel
theorem dX11_lostWithout_60 : decode cX11_lostWithout 60 = .ok (.aload_n 0, 1) := by decide +kernel
theorem dX11_lostWithout_61 : decode cX11_lostWithout 61 = .ok (.iload_n 2, 1) := by decide +kernel
theorem dX11_lostWithout_62 : decode cX11_lostWithout 62 = .ok (.invokevirtual 122, 3) := by decide +kernel
theorem dX11_lostWithout_65 : decode cX11_lostWithout 65 = .ok (.ifCond .eq 10, 3) := by decide +kernel
theorem dX11_lostWithout_68 : decode cX11_lostWithout 68 = .ok (.aload_n 0, 1) := by decide +kernel
theorem dX11_lostWithout_69 : decode cX11_lostWithout 69 = .ok (.getfield 39, 3) := by decide +kernel
theorem dX11_lostWithout_72 : decode cX11_lostWithout 72 = .ok (.iload_n 3, 1) := by decide +kernel
theorem dX11_lostWithout_73 : decode cX11_lostWithout 73 = .ok (.iconst 1, 1) := by decide +kernel
theorem dX11_lostWithout_74 : decode cX11_lostWithout 74 = .ok (.iastore, 1) := by decide +kernel
theorem dX11_lostWithout_75 : decode cX11_lostWithout 75 = .ok (.iinc 2 1, 3) := by decide +kernel
theorem dX11_lostWithout_78 : decode cX11_lostWithout 78 = .ok (.goto (-58), 3) := by decide +kernel
theorem dX11_lostWithout_81 : decode cX11_lostWithout 81 = .ok (.iconst 0, 1) := by decide +kernel
theorem dX11_lostWithout_82 : decode cX11_lostWithout 82 = .ok (.istore_n 2, 1) := by decide +kernel
theorem dX11_lostWithout_83 : decode cX11_lostWithout 83 = .ok (.iconst 0, 1) := by decide +kernel
theorem dX11_lostWithout_84 : decode cX11_lostWithout 84 = .ok (.istore_n 3, 1) := by decide +kernel
theorem dX11_lostWithout_85 : decode cX11_lostWithout 85 = .ok (.iload_n 3, 1) := by decide +kernel
theorem dX11_lostWithout_86 : decode cX11_lostWithout 86 = .ok (.aload_n 0, 1) := by decide +kernel
theorem dX11_lostWithout_87 : decode cX11_lostWithout 87 = .ok (.getfield 130, 3) := by decide +kernel
theorem dX11_lostWithout_90 : decode cX11_lostWithout 90 = .ok (.if_icmp .ge 26, 3) := by decide +kernel
theorem dX11_lostWithout_93 : decode cX11_lostWithout 93 = .ok (.iload_n 2, 1) := by decide +kernel
theorem dX11_lostWithout_94 : decode cX11_lostWithout 94 = .ok (.aload_n 0, 1) := by decide +kernel
theorem dX11_lostWithout_95 : decode cX11_lostWithout 95 = .ok (.getfield 39, 3) := by decide +kernel
theorem dX11_lostWithout_98 : decode cX11_lostWithout 98 = .ok (.iload_n 3, 1) := by decide +kernel
theorem dX11_lostWithout_99 : decode cX11_lostWithout 99 = .ok (.iaload, 1) := by decide +kernel
theorem dX11_lostWithout_100 : decode cX11_lostWithout 100 = .ok (.ifCond .ne 7, 3) := by decide +kernel
theorem dX11_lostWithout_103 : decode cX11_lostWithout 103 = .ok (.iconst 1, 1) := by decide +kernel
theorem dX11_lostWithout_104 : decode cX11_lostWithout 104 = .ok (.goto 4, 3) := by decide +kernel
theorem dX11_lostWithout_107 : decode cX11_lostWithout 107 = .ok (.iconst 0, 1) := by decide +kernel
theorem dX11_lostWithout_108 : decode cX11_lostWithout 108 = .ok (.iadd, 1) := by decide +kernel
theorem dX11_lostWithout_109 : decode cX11_lostWithout 109 = .ok (.istore_n 2, 1) := by decide +kernel
theorem dX11_lostWithout_110 : decode cX11_lostWithout 110 = .ok (.iinc 3 1, 3) := by decide +kernel
theorem dX11_lostWithout_113 : decode cX11_lostWithout 113 = .ok (.goto (-28), 3) := by decide +kernel
theorem dX11_lostWithout_116 : decode cX11_lostWithout 116 = .ok (.iload_n 2, 1) := by decide +kernel
theorem dX11_lostWithout_117 : decode cX11_lostWithout 117 = .ok (.ireturn, 1) := by decide +kernel
set_option maxRecDepth 20000 in
theorem ggX11_worth_X11_isItem : GoodIn wsX11_worth wsX11_isItem := goodIn_r _ [7, 8, 9, 10, 6, 11, 12, 13, 14, 15, 85, 86, 87, 88, 89, 90, 91, 92, 93, 94, 95, 96, 97, 98, 99, 100, 101, 102, 103, 104, 105, 106, 107, 108, 109, 110, 111, 112, 113, 114, 115, 116, 117, 118, 119, 120, 121, 122, 123, 124] (by decide +kernel) (by decide +kernel)
set_option maxRecDepth 20000 in
theorem gX11_worth_X11_isItem : GoodIn wsX11_worth (wsV RX11 359 RX11 yX11_isItem wsX11_isItem) := goodIn_app (goodIn_of _ (by decide +kernel)) ggX11_worth_X11_isItem
set_option maxRecDepth 20000 in
theorem ggX11_worth_X11_passes : GoodIn wsX11_worth wsX11_passes := goodIn_r _ [19, 20, 21, 22, 6, 23, 24, 85, 86, 87, 88, 89, 90, 91, 92, 93, 94, 95, 96, 97, 98, 99, 100, 101, 102, 103, 104, 105, 106, 107, 108, 109, 110, 111, 112, 113, 114, 115, 116, 117, 118, 119, 120, 121, 122, 123, 124] (by decide +kernel) (by decide +kernel)
set_option maxRecDepth 20000 in
theorem gX11_worth_X11_passes : GoodIn wsX11_worth (wsV RX11 235 RX11 yX11_passes wsX11_passes) := goodIn_app (goodIn_of _ (by decide +kernel)) ggX11_worth_X11_passes
set_option maxRecDepth 20000 in
theorem ggX11_worth_X11_layPoints : GoodIn wsX11_worth wsX11_layPoints := goodIn_r _ [28, 29, 30, 31, 32, 33, 34, 35, 36, 6, 37, 1, 38, 39, 40, 41, 42, 43, 44, 45, 8, 9, 10, 11, 12, 46, 47, 48, 49, 50, 51, 52, 53, 54, 55, 56, 57, 58, 59, 60, 61, 62, 63, 64, 65, 66, 67, 68, 69, 70, 71, 72, 73, 74, 75, 76, 77, 78, 79, 80, 85, 86, 87, 88, 89, 90, 91, 92, 93, 94, 95, 96, 97, 98, 99, 100, 101, 102, 103, 104, 105, 106, 107, 108, 109, 110, 111, 112, 113, 114, 115, 116, 117, 118, 119, 120, 121, 122, 123, 124] (by decide +kernel) (by decide +kernel)
set_option maxRecDepth 20000 in
theorem gX11_worth_X11_layPoints : GoodIn wsX11_worth (wsV RX11 144 RX11 yX11_layPoints wsX11_layPoints) := goodIn_app (goodIn_of _ (by decide +kernel)) ggX11_worth_X11_layPoints
set_option maxRecDepth 20000 in
theorem ggX11_worth_X11_areaNow : GoodIn wsX11_worth wsX11_areaNow := goodIn_r _ [84, 80, 31, 32, 85, 86, 87, 88, 89, 90, 91, 92, 93, 94, 95, 96, 97, 98, 99, 100, 101, 102, 103, 104, 105, 106, 107, 108, 109, 110, 111, 112, 113, 114, 115, 116, 117, 118, 119, 120, 121, 122, 123, 124] (by decide +kernel) (by decide +kernel)
set_option maxRecDepth 20000 in
theorem gX11_worth_X11_areaNow : GoodIn wsX11_worth (wsV RX11 398 RX11 yX11_areaNow wsX11_areaNow) := goodIn_app (goodIn_of _ (by decide +kernel)) ggX11_worth_X11_areaNow
theorem dX11_worth_0 : decode cX11_worth 0 = .ok (.aload_n 0, 1) := by decide +kernel
theorem dX11_worth_1 : decode cX11_worth 1 = .ok (.aload_n 0, 1) := by decide +kernel
theorem dX11_worth_2 : decode cX11_worth 2 = .ok (.iload_n 1, 1) := by decide +kernel
theorem dX11_worth_3 : decode cX11_worth 3 = .ok (.invokevirtual 359, 3) := by decide +kernel
theorem dX11_worth_6 : decode cX11_worth 6 = .ok (.invokevirtual 235, 3) := by decide +kernel
theorem dX11_worth_9 : decode cX11_worth 9 = .ok (.ifCond .ne 5, 3) := by decide +kernel
theorem dX11_worth_12 : decode cX11_worth 12 = .ok (.iconst 0, 1) := by decide +kernel
theorem dX11_worth_13 : decode cX11_worth 13 = .ok (.ireturn, 1) := by decide +kernel
theorem dX11_worth_14 : decode cX11_worth 14 = .ok (.aload_n 0, 1) := by decide +kernel
theorem dX11_worth_15 : decode cX11_worth 15 = .ok (.invokevirtual 144, 3) := by decide +kernel
theorem dX11_worth_18 : decode cX11_worth 18 = .ok (.aload_n 0, 1) := by decide +kernel
theorem dX11_worth_19 : decode cX11_worth 19 = .ok (.invokevirtual 398, 3) := by decide +kernel
theorem dX11_worth_22 : decode cX11_worth 22 = .ok (.istore_n 2, 1) := by decide +kernel
theorem dX11_worth_23 : decode cX11_worth 23 = .ok (.aload_n 0, 1) := by decide +kernel
theorem dX11_worth_24 : decode cX11_worth 24 = .ok (.getfield 119, 3) := by decide +kernel
theorem dX11_worth_27 : decode cX11_worth 27 = .ok (.ifCond .le 7, 3) := by decide +kernel
theorem dX11_worth_30 : decode cX11_worth 30 = .ok (.iconst 1, 1) := by decide +kernel
theorem dX11_worth_31 : decode cX11_worth 31 = .ok (.goto 4, 3) := by decide +kernel
theorem dX11_worth_34 : decode cX11_worth 34 = .ok (.iconst 0, 1) := by decide +kernel
theorem dX11_worth_35 : decode cX11_worth 35 = .ok (.istore_n 3, 1) := by decide +kernel
theorem dX11_worth_36 : decode cX11_worth 36 = .ok (.aload_n 0, 1) := by decide +kernel
theorem dX11_worth_37 : decode cX11_worth 37 = .ok (.getfield 17, 3) := by decide +kernel
theorem dX11_worth_40 : decode cX11_worth 40 = .ok (.iconst 4, 1) := by decide +kernel
theorem dX11_worth_41 : decode cX11_worth 41 = .ok (.iaload, 1) := by decide +kernel
theorem dX11_worth_42 : decode cX11_worth 42 = .ok (.istore 4, 2) := by decide +kernel
theorem dX11_worth_44 : decode cX11_worth 44 = .ok (.aload_n 0, 1) := by decide +kernel
theorem dX11_worth_45 : decode cX11_worth 45 = .ok (.getfield 17, 3) := by decide +kernel
theorem dX11_worth_48 : decode cX11_worth 48 = .ok (.iconst 4, 1) := by decide +kernel
theorem dX11_worth_49 : decode cX11_worth 49 = .ok (.dup2, 1) := by decide +kernel
theorem dX11_worth_50 : decode cX11_worth 50 = .ok (.iaload, 1) := by decide +kernel
theorem dX11_worth_51 : decode cX11_worth 51 = .ok (.iconst 1, 1) := by decide +kernel
theorem dX11_worth_52 : decode cX11_worth 52 = .ok (.iload_n 1, 1) := by decide +kernel
theorem dX11_worth_53 : decode cX11_worth 53 = .ok (.ishl, 1) := by decide +kernel
theorem dX11_worth_54 : decode cX11_worth 54 = .ok (.ior, 1) := by decide +kernel
theorem dX11_worth_55 : decode cX11_worth 55 = .ok (.iastore, 1) := by decide +kernel
theorem dX11_worth_56 : decode cX11_worth 56 = .ok (.aload_n 0, 1) := by decide +kernel
theorem dX11_worth_57 : decode cX11_worth 57 = .ok (.invokevirtual 144, 3) := by decide +kernel
theorem dX11_worth_60 : decode cX11_worth 60 = .ok (.aload_n 0, 1) := by decide +kernel
theorem dX11_worth_61 : decode cX11_worth 61 = .ok (.getfield 17, 3) := by decide +kernel
theorem dX11_worth_64 : decode cX11_worth 64 = .ok (.iconst 4, 1) := by decide +kernel
theorem dX11_worth_65 : decode cX11_worth 65 = .ok (.iload 4, 2) := by decide +kernel
theorem dX11_worth_67 : decode cX11_worth 67 = .ok (.iastore, 1) := by decide +kernel
theorem dX11_worth_68 : decode cX11_worth 68 = .ok (.iload_n 3, 1) := by decide +kernel
theorem dX11_worth_69 : decode cX11_worth 69 = .ok (.ifCond .eq 14, 3) := by decide +kernel
theorem dX11_worth_72 : decode cX11_worth 72 = .ok (.aload_n 0, 1) := by decide +kernel
theorem dX11_worth_73 : decode cX11_worth 73 = .ok (.getfield 119, 3) := by decide +kernel
theorem dX11_worth_76 : decode cX11_worth 76 = .ok (.ifCond .ne 7, 3) := by decide +kernel
theorem dX11_worth_79 : decode cX11_worth 79 = .ok (.iconst (-1), 1) := by decide +kernel
theorem dX11_worth_80 : decode cX11_worth 80 = .ok (.goto 9, 3) := by decide +kernel
theorem dX11_worth_83 : decode cX11_worth 83 = .ok (.iload_n 2, 1) := by decide +kernel
theorem dX11_worth_84 : decode cX11_worth 84 = .ok (.aload_n 0, 1) := by decide +kernel
theorem dX11_worth_85 : decode cX11_worth 85 = .ok (.invokevirtual 398, 3) := by decide +kernel
theorem dX11_worth_88 : decode cX11_worth 88 = .ok (.isub, 1) := by decide +kernel
theorem dX11_worth_89 : decode cX11_worth 89 = .ok (.ireturn, 1) := by decide +kernel
set_option maxRecDepth 20000 in
theorem ggX11_pointsWith_X11_in : GoodIn wsX11_pointsWith wsX11_in := goodIn_r _ [7] (by decide +kernel) (by decide +kernel)
set_option maxRecDepth 20000 in
theorem gX11_pointsWith_X11_in : GoodIn wsX11_pointsWith (va_wsS RX11 87 yX11_in wsX11_in) := goodIn_app (goodIn_of _ (by decide +kernel)) ggX11_pointsWith_X11_in
set_option maxRecDepth 20000 in
theorem ggX11_pointsWith_X11_passes : GoodIn wsX11_pointsWith wsX11_passes := goodIn_r _ [11, 12, 13, 14, 6, 15, 16, 78, 79, 80, 81, 82, 83, 84, 85, 86, 87, 88, 89, 90, 91, 92, 93, 94, 95, 96, 97, 98, 99, 100, 101, 102, 103, 104, 105, 106, 107, 108, 109, 110, 111, 112, 113, 114, 115, 116, 117] (by decide +kernel) (by decide +kernel)
set_option maxRecDepth 20000 in
theorem gX11_pointsWith_X11_passes : GoodIn wsX11_pointsWith (wsV RX11 235 RX11 yX11_passes wsX11_passes) := goodIn_app (goodIn_of _ (by decide +kernel)) ggX11_pointsWith_X11_passes
set_option maxRecDepth 20000 in
theorem ggX11_pointsWith_X11_layPoints : GoodIn wsX11_pointsWith wsX11_layPoints := goodIn_r _ [20, 21, 22, 23, 24, 25, 26, 27, 28, 6, 29, 30, 31, 32, 33, 34, 35, 36, 37, 38, 39, 40, 41, 42, 43, 44, 45, 46, 47, 48, 49, 50, 51, 52, 53, 54, 55, 56, 57, 58, 59, 60, 61, 62, 63, 64, 65, 66, 67, 68, 69, 70, 71, 72, 73, 74, 75, 76, 77, 3, 78, 79, 80, 81, 82, 83, 84, 85, 86, 87, 88, 89, 90, 91, 92, 93, 94, 95, 96, 97, 98, 99, 100, 101, 102, 103, 104, 105, 106, 107, 108, 109, 110, 111, 112, 113, 114, 115, 116, 117] (by decide +kernel) (by decide +kernel)
set_option maxRecDepth 20000 in
theorem gX11_pointsWith_X11_layPoints : GoodIn wsX11_pointsWith (wsV RX11 144 RX11 yX11_layPoints wsX11_layPoints) := goodIn_app (goodIn_of _ (by decide +kernel)) ggX11_pointsWith_X11_layPoints
theorem dX11_pointsWith_0 : decode cX11_pointsWith 0 = .ok (.aload_n 0, 1) := by decide +kernel
theorem dX11_pointsWith_1 : decode cX11_pointsWith 1 = .ok (.iload_n 1, 1) := by decide +kernel
theorem dX11_pointsWith_2 : decode cX11_pointsWith 2 = .ok (.i2l, 1) := by decide +kernel
theorem dX11_pointsWith_3 : decode cX11_pointsWith 3 = .ok (.lconst 0, 1) := by decide +kernel
theorem dX11_pointsWith_4 : decode cX11_pointsWith 4 = .ok (.ldc2_w 404, 3) := by decide +kernel
theorem dX11_pointsWith_7 : decode cX11_pointsWith 7 = .ok (.invokestatic 87, 3) := by decide +kernel
theorem dX11_pointsWith_10 : decode cX11_pointsWith 10 = .ok (.invokevirtual 235, 3) := by decide +kernel
theorem dX11_pointsWith_13 : decode cX11_pointsWith 13 = .ok (.ifCond .ne 5, 3) := by decide +kernel
theorem dX11_pointsWith_16 : decode cX11_pointsWith 16 = .ok (.iconst 0, 1) := by decide +kernel
theorem dX11_pointsWith_17 : decode cX11_pointsWith 17 = .ok (.ireturn, 1) := by decide +kernel
theorem dX11_pointsWith_18 : decode cX11_pointsWith 18 = .ok (.aload_n 0, 1) := by decide +kernel
theorem dX11_pointsWith_19 : decode cX11_pointsWith 19 = .ok (.getfield 17, 3) := by decide +kernel
theorem dX11_pointsWith_22 : decode cX11_pointsWith 22 = .ok (.iconst 1, 1) := by decide +kernel
theorem dX11_pointsWith_23 : decode cX11_pointsWith 23 = .ok (.iaload, 1) := by decide +kernel
theorem dX11_pointsWith_24 : decode cX11_pointsWith 24 = .ok (.istore_n 2, 1) := by decide +kernel
theorem dX11_pointsWith_25 : decode cX11_pointsWith 25 = .ok (.aload_n 0, 1) := by decide +kernel
theorem dX11_pointsWith_26 : decode cX11_pointsWith 26 = .ok (.getfield 17, 3) := by decide +kernel
theorem dX11_pointsWith_29 : decode cX11_pointsWith 29 = .ok (.iconst 1, 1) := by decide +kernel
theorem dX11_pointsWith_30 : decode cX11_pointsWith 30 = .ok (.iload_n 1, 1) := by decide +kernel
theorem dX11_pointsWith_31 : decode cX11_pointsWith 31 = .ok (.iastore, 1) := by decide +kernel
theorem dX11_pointsWith_32 : decode cX11_pointsWith 32 = .ok (.aload_n 0, 1) := by decide +kernel
theorem dX11_pointsWith_33 : decode cX11_pointsWith 33 = .ok (.invokevirtual 144, 3) := by decide +kernel
theorem dX11_pointsWith_36 : decode cX11_pointsWith 36 = .ok (.aload_n 0, 1) := by decide +kernel
theorem dX11_pointsWith_37 : decode cX11_pointsWith 37 = .ok (.getfield 17, 3) := by decide +kernel
theorem dX11_pointsWith_40 : decode cX11_pointsWith 40 = .ok (.iconst 1, 1) := by decide +kernel
theorem dX11_pointsWith_41 : decode cX11_pointsWith 41 = .ok (.iload_n 2, 1) := by decide +kernel
theorem dX11_pointsWith_42 : decode cX11_pointsWith 42 = .ok (.iastore, 1) := by decide +kernel
theorem dX11_pointsWith_43 : decode cX11_pointsWith 43 = .ok (.aload_n 0, 1) := by decide +kernel
theorem dX11_pointsWith_44 : decode cX11_pointsWith 44 = .ok (.getfield 130, 3) := by decide +kernel
theorem dX11_pointsWith_47 : decode cX11_pointsWith 47 = .ok (.ireturn, 1) := by decide +kernel
set_option maxRecDepth 20000 in
theorem ggX11_lightestFor_X11_allSets : GoodIn wsX11_lightestFor wsX11_allSets := goodIn_r _ [5, 6, 7, 8, 4, 9, 10, 41, 42, 43, 44, 45, 46, 47, 48, 49, 50, 51, 52, 53, 54, 55, 56, 57, 58, 59, 60, 61, 62, 63, 64, 65, 66, 67, 68, 69, 70, 71, 72, 73, 74, 75, 76, 77, 78, 79, 80] (by decide +kernel) (by decide +kernel)
set_option maxRecDepth 20000 in
theorem gX11_lightestFor_X11_allSets : GoodIn wsX11_lightestFor (wsV RX11 91 RX11 yX11_allSets wsX11_allSets) := goodIn_app (goodIn_of _ (by decide +kernel)) ggX11_lightestFor_X11_allSets
set_option maxRecDepth 20000 in
theorem ggX11_lightestFor_X11_sumOf : GoodIn wsX11_lightestFor wsX11_sumOf := goodIn_r _ [14, 6, 7, 8, 4, 9, 10, 15, 16, 17, 18, 19, 20, 21, 41, 42, 43, 44, 45, 46, 47, 48, 49, 50, 51, 52, 53, 54, 55, 56, 57, 58, 59, 60, 61, 62, 63, 64, 65, 66, 67, 68, 69, 70, 71, 72, 73, 74, 75, 76, 77, 78, 79, 80] (by decide +kernel) (by decide +kernel)
set_option maxRecDepth 20000 in
theorem gX11_lightestFor_X11_sumOf : GoodIn wsX11_lightestFor (wsV RX11 102 RX11 yX11_sumOf wsX11_sumOf) := goodIn_app (goodIn_of _ (by decide +kernel)) ggX11_lightestFor_X11_sumOf
set_option maxRecDepth 20000 in
theorem ggX11_lightestFor_X11_isAllowed : GoodIn wsX11_lightestFor wsX11_isAllowed := goodIn_r _ [25, 26, 27, 28, 4, 29, 10, 11, 12, 13, 14, 6, 7, 8, 9, 15, 16, 17, 18, 19, 20, 21, 30, 31, 32, 33, 34, 35, 36, 37, 38, 39, 40, 41, 42, 43, 44, 45, 46, 47, 48, 49, 50, 51, 52, 53, 54, 55, 56, 57, 58, 59, 60, 61, 62, 63, 64, 65, 66, 67, 68, 69, 70, 71, 72, 73, 74, 75, 76, 77, 78, 79, 80] (by decide +kernel) (by decide +kernel)
set_option maxRecDepth 20000 in
theorem gX11_lightestFor_X11_isAllowed : GoodIn wsX11_lightestFor (wsV RX11 122 RX11 yX11_isAllowed wsX11_isAllowed) := goodIn_app (goodIn_of _ (by decide +kernel)) ggX11_lightestFor_X11_isAllowed
theorem dX11_lightestFor_0 : decode cX11_lightestFor 0 = .ok (.sipush 1000, 3) := by decide +kernel
theorem dX11_lightestFor_3 : decode cX11_lightestFor 3 = .ok (.istore_n 3, 1) := by decide +kernel
theorem dX11_lightestFor_4 : decode cX11_lightestFor 4 = .ok (.iconst 0, 1) := by decide +kernel
theorem dX11_lightestFor_5 : decode cX11_lightestFor 5 = .ok (.istore 4, 2) := by decide +kernel
theorem dX11_lightestFor_7 : decode cX11_lightestFor 7 = .ok (.iload 4, 2) := by decide +kernel
theorem dX11_lightestFor_9 : decode cX11_lightestFor 9 = .ok (.aload_n 0, 1) := by decide +kernel
theorem dX11_lightestFor_10 : decode cX11_lightestFor 10 = .ok (.invokevirtual 91, 3) := by decide +kernel
theorem dX11_lightestFor_13 : decode cX11_lightestFor 13 = .ok (.if_icmp .ge 71, 3) := by decide +kernel
theorem dX11_lightestFor_16 : decode cX11_lightestFor 16 = .ok (.aload_n 0, 1) := by decide +kernel
theorem dX11_lightestFor_17 : decode cX11_lightestFor 17 = .ok (.iload 4, 2) := by decide +kernel
theorem dX11_lightestFor_19 : decode cX11_lightestFor 19 = .ok (.iconst 0, 1) := by decide +kernel
theorem dX11_lightestFor_20 : decode cX11_lightestFor 20 = .ok (.invokevirtual 102, 3) := by decide +kernel
theorem dX11_lightestFor_23 : decode cX11_lightestFor 23 = .ok (.iload_n 3, 1) := by decide +kernel
theorem dX11_lightestFor_24 : decode cX11_lightestFor 24 = .ok (.if_icmp .ge 29, 3) := by decide +kernel
theorem dX11_lightestFor_27 : decode cX11_lightestFor 27 = .ok (.aload_n 0, 1) := by decide +kernel
theorem dX11_lightestFor_28 : decode cX11_lightestFor 28 = .ok (.iload 4, 2) := by decide +kernel
theorem dX11_lightestFor_30 : decode cX11_lightestFor 30 = .ok (.iconst 1, 1) := by decide +kernel
theorem dX11_lightestFor_31 : decode cX11_lightestFor 31 = .ok (.invokevirtual 102, 3) := by decide +kernel
theorem dX11_lightestFor_34 : decode cX11_lightestFor 34 = .ok (.iload_n 1, 1) := by decide +kernel
theorem dX11_lightestFor_35 : decode cX11_lightestFor 35 = .ok (.if_icmp .lt 18, 3) := by decide +kernel
theorem dX11_lightestFor_38 : decode cX11_lightestFor 38 = .ok (.aload_n 0, 1) := by decide +kernel
theorem dX11_lightestFor_39 : decode cX11_lightestFor 39 = .ok (.iload 4, 2) := by decide +kernel
theorem dX11_lightestFor_41 : decode cX11_lightestFor 41 = .ok (.iconst 2, 1) := by decide +kernel
theorem dX11_lightestFor_42 : decode cX11_lightestFor 42 = .ok (.invokevirtual 102, 3) := by decide +kernel
theorem dX11_lightestFor_45 : decode cX11_lightestFor 45 = .ok (.iload_n 2, 1) := by decide +kernel
theorem dX11_lightestFor_46 : decode cX11_lightestFor 46 = .ok (.if_icmp .lt 7, 3) := by decide +kernel
theorem dX11_lightestFor_49 : decode cX11_lightestFor 49 = .ok (.iconst 1, 1) := by decide +kernel
theorem dX11_lightestFor_50 : decode cX11_lightestFor 50 = .ok (.goto 4, 3) := by decide +kernel
theorem dX11_lightestFor_53 : decode cX11_lightestFor 53 = .ok (.iconst 0, 1) := by decide +kernel
theorem dX11_lightestFor_54 : decode cX11_lightestFor 54 = .ok (.istore 5, 2) := by decide +kernel
theorem dX11_lightestFor_56 : decode cX11_lightestFor 56 = .ok (.iload 5, 2) := by decide +kernel
theorem dX11_lightestFor_58 : decode cX11_lightestFor 58 = .ok (.ifCond .eq 20, 3) := by decide +kernel
theorem dX11_lightestFor_61 : decode cX11_lightestFor 61 = .ok (.aload_n 0, 1) := by decide +kernel
theorem dX11_lightestFor_62 : decode cX11_lightestFor 62 = .ok (.iload 4, 2) := by decide +kernel
theorem dX11_lightestFor_64 : decode cX11_lightestFor 64 = .ok (.invokevirtual 122, 3) := by decide +kernel
theorem dX11_lightestFor_67 : decode cX11_lightestFor 67 = .ok (.ifCond .eq 11, 3) := by decide +kernel
theorem dX11_lightestFor_70 : decode cX11_lightestFor 70 = .ok (.aload_n 0, 1) := by decide +kernel
theorem dX11_lightestFor_71 : decode cX11_lightestFor 71 = .ok (.iload 4, 2) := by decide +kernel
theorem dX11_lightestFor_73 : decode cX11_lightestFor 73 = .ok (.iconst 0, 1) := by decide +kernel
theorem dX11_lightestFor_74 : decode cX11_lightestFor 74 = .ok (.invokevirtual 102, 3) := by decide +kernel
theorem dX11_lightestFor_77 : decode cX11_lightestFor 77 = .ok (.istore_n 3, 1) := by decide +kernel
theorem dX11_lightestFor_78 : decode cX11_lightestFor 78 = .ok (.iinc 4 1, 3) := by decide +kernel
theorem dX11_lightestFor_81 : decode cX11_lightestFor 81 = .ok (.goto (-74), 3) := by decide +kernel
theorem dX11_lightestFor_84 : decode cX11_lightestFor 84 = .ok (.iload_n 3, 1) := by decide +kernel
theorem dX11_lightestFor_85 : decode cX11_lightestFor 85 = .ok (.ireturn, 1) := by decide +kernel
set_option maxRecDepth 20000 in
theorem ggX11_capacityFor_X11_lightestFor : GoodIn wsX11_capacityFor wsX11_lightestFor := goodIn_r _ [7, 8, 9, 10, 6, 11, 12, 13, 14, 15, 16, 17, 18, 19, 20, 21, 22, 23, 24, 25, 26, 27, 28, 29, 30, 31, 32, 33, 34, 35, 36, 37, 38, 39, 40, 41, 42, 43, 44, 45, 46, 47, 48, 49, 50, 51, 52, 53, 54, 55, 56, 57, 58, 59, 60, 61, 62, 63, 64, 65, 66, 67, 68, 69, 70, 71, 72, 73, 74, 75, 76, 77, 78, 79, 80, 81, 82, 83, 84, 85, 86] (by decide +kernel) (by decide +kernel)
set_option maxRecDepth 20000 in
theorem gX11_capacityFor_X11_lightestFor : GoodIn wsX11_capacityFor (wsV RX11 406 RX11 yX11_lightestFor wsX11_lightestFor) := goodIn_app (goodIn_of _ (by decide +kernel)) ggX11_capacityFor_X11_lightestFor
theorem dX11_capacityFor_0 : decode cX11_capacityFor 0 = .ok (.aload_n 0, 1) := by decide +kernel
theorem dX11_capacityFor_1 : decode cX11_capacityFor 1 = .ok (.iconst 0, 1) := by decide +kernel
theorem dX11_capacityFor_2 : decode cX11_capacityFor 2 = .ok (.putfield 3, 3) := by decide +kernel
theorem dX11_capacityFor_5 : decode cX11_capacityFor 5 = .ok (.aload_n 0, 1) := by decide +kernel
theorem dX11_capacityFor_6 : decode cX11_capacityFor 6 = .ok (.getfield 17, 3) := by decide +kernel
theorem dX11_capacityFor_9 : decode cX11_capacityFor 9 = .ok (.iconst 1, 1) := by decide +kernel
theorem dX11_capacityFor_10 : decode cX11_capacityFor 10 = .ok (.iaload, 1) := by decide +kernel
theorem dX11_capacityFor_11 : decode cX11_capacityFor 11 = .ok (.istore_n 3, 1) := by decide +kernel
theorem dX11_capacityFor_12 : decode cX11_capacityFor 12 = .ok (.aload_n 0, 1) := by decide +kernel
theorem dX11_capacityFor_13 : decode cX11_capacityFor 13 = .ok (.getfield 17, 3) := by decide +kernel
theorem dX11_capacityFor_16 : decode cX11_capacityFor 16 = .ok (.iconst 1, 1) := by decide +kernel
theorem dX11_capacityFor_17 : decode cX11_capacityFor 17 = .ok (.sipush 999, 3) := by decide +kernel
theorem dX11_capacityFor_20 : decode cX11_capacityFor 20 = .ok (.iastore, 1) := by decide +kernel
theorem dX11_capacityFor_21 : decode cX11_capacityFor 21 = .ok (.aload_n 0, 1) := by decide +kernel
theorem dX11_capacityFor_22 : decode cX11_capacityFor 22 = .ok (.iload_n 1, 1) := by decide +kernel
theorem dX11_capacityFor_23 : decode cX11_capacityFor 23 = .ok (.iload_n 2, 1) := by decide +kernel
theorem dX11_capacityFor_24 : decode cX11_capacityFor 24 = .ok (.invokevirtual 406, 3) := by decide +kernel
theorem dX11_capacityFor_27 : decode cX11_capacityFor 27 = .ok (.istore 4, 2) := by decide +kernel
theorem dX11_capacityFor_29 : decode cX11_capacityFor 29 = .ok (.aload_n 0, 1) := by decide +kernel
theorem dX11_capacityFor_30 : decode cX11_capacityFor 30 = .ok (.getfield 17, 3) := by decide +kernel
theorem dX11_capacityFor_33 : decode cX11_capacityFor 33 = .ok (.iconst 1, 1) := by decide +kernel
theorem dX11_capacityFor_34 : decode cX11_capacityFor 34 = .ok (.iload_n 3, 1) := by decide +kernel
theorem dX11_capacityFor_35 : decode cX11_capacityFor 35 = .ok (.iastore, 1) := by decide +kernel
theorem dX11_capacityFor_36 : decode cX11_capacityFor 36 = .ok (.iload 4, 2) := by decide +kernel
theorem dX11_capacityFor_38 : decode cX11_capacityFor 38 = .ok (.sipush 999, 3) := by decide +kernel
theorem dX11_capacityFor_41 : decode cX11_capacityFor 41 = .ok (.if_icmp .le 7, 3) := by decide +kernel
theorem dX11_capacityFor_44 : decode cX11_capacityFor 44 = .ok (.iconst (-1), 1) := by decide +kernel
theorem dX11_capacityFor_45 : decode cX11_capacityFor 45 = .ok (.goto 5, 3) := by decide +kernel
theorem dX11_capacityFor_48 : decode cX11_capacityFor 48 = .ok (.iload 4, 2) := by decide +kernel
theorem dX11_capacityFor_50 : decode cX11_capacityFor 50 = .ok (.ireturn, 1) := by decide +kernel
set_option maxRecDepth 20000 in
theorem ggX11_nearTo_X11_isSet : GoodIn wsX11_nearTo wsX11_isSet := goodIn_r _ [7, 8, 9, 10, 6, 11, 12, 13, 14, 15, 16, 17, 18, 19, 99, 100, 101, 102, 103, 104, 105, 106, 107, 108, 109, 110, 111, 112, 113, 114, 115, 116, 117, 118, 119, 120, 121, 122, 123, 124, 125, 126, 127, 128, 129, 130, 131, 132, 133, 134, 135, 136, 137, 138] (by decide +kernel) (by decide +kernel)
set_option maxRecDepth 20000 in
theorem gX11_nearTo_X11_isSet : GoodIn wsX11_nearTo (wsV RX11 364 RX11 yX11_isSet wsX11_isSet) := goodIn_app (goodIn_of _ (by decide +kernel)) ggX11_nearTo_X11_isSet
set_option maxRecDepth 20000 in
theorem ggX11_nearTo_X11_passes : GoodIn wsX11_nearTo wsX11_passes := goodIn_r _ [23, 24, 25, 26, 6, 27, 28, 99, 100, 101, 102, 103, 104, 105, 106, 107, 108, 109, 110, 111, 112, 113, 114, 115, 116, 117, 118, 119, 120, 121, 122, 123, 124, 125, 126, 127, 128, 129, 130, 131, 132, 133, 134, 135, 136, 137, 138] (by decide +kernel) (by decide +kernel)
set_option maxRecDepth 20000 in
theorem gX11_nearTo_X11_passes : GoodIn wsX11_nearTo (wsV RX11 235 RX11 yX11_passes wsX11_passes) := goodIn_app (goodIn_of _ (by decide +kernel)) ggX11_nearTo_X11_passes
set_option maxRecDepth 20000 in
theorem ggX11_nearTo_X11_layAll : GoodIn wsX11_nearTo wsX11_layAll := goodIn_r _ [32, 33, 34, 35, 6, 36, 37, 38, 39, 40, 41, 42, 43, 44, 45, 46, 47, 48, 49, 50, 8, 9, 10, 11, 12, 13, 14, 15, 16, 51, 52, 53, 54, 55, 56, 57, 58, 59, 60, 61, 62, 63, 64, 65, 66, 67, 68, 69, 70, 71, 72, 73, 74, 75, 76, 77, 78, 79, 80, 81, 82, 83, 84, 1, 85, 86, 87, 88, 89, 90, 91, 92, 93, 17, 18, 19, 94, 95, 96, 97, 2, 98, 99, 100, 101, 102, 103, 104, 105, 106, 107, 108, 109, 110, 111, 112, 113, 114, 115, 116, 117, 118, 119, 120, 121, 122, 123, 124, 125, 126, 127, 128, 129, 130, 131, 132, 133, 134, 135, 136, 137, 138] (by decide +kernel) (by decide +kernel)
set_option maxRecDepth 20000 in
theorem gX11_nearTo_X11_layAll : GoodIn wsX11_nearTo (wsV RX11 174 RX11 yX11_layAll wsX11_layAll) := goodIn_app (goodIn_of _ (by decide +kernel)) ggX11_nearTo_X11_layAll
set_option maxRecDepth 20000 in
theorem ggX11_nearTo_X11_bits : GoodIn wsX11_nearTo wsX11_bits := goodIn_r _ [72] (by decide +kernel) (by decide +kernel)
set_option maxRecDepth 20000 in
theorem gX11_nearTo_X11_bits : GoodIn wsX11_nearTo (va_wsS RX11 105 yX11_bits wsX11_bits) := goodIn_app (goodIn_of _ (by decide +kernel)) ggX11_nearTo_X11_bits
theorem dX11_nearTo_0 : decode cX11_nearTo 0 = .ok (.aload_n 0, 1) := by decide +kernel
theorem dX11_nearTo_1 : decode cX11_nearTo 1 = .ok (.aload_n 0, 1) := by decide +kernel
theorem dX11_nearTo_2 : decode cX11_nearTo 2 = .ok (.iload_n 1, 1) := by decide +kernel
theorem dX11_nearTo_3 : decode cX11_nearTo 3 = .ok (.invokevirtual 364, 3) := by decide +kernel
theorem dX11_nearTo_6 : decode cX11_nearTo 6 = .ok (.invokevirtual 235, 3) := by decide +kernel
theorem dX11_nearTo_9 : decode cX11_nearTo 9 = .ok (.ifCond .ne 5, 3) := by decide +kernel
theorem dX11_nearTo_12 : decode cX11_nearTo 12 = .ok (.iconst 0, 1) := by decide +kernel
theorem dX11_nearTo_13 : decode cX11_nearTo 13 = .ok (.ireturn, 1) := by decide +kernel
theorem dX11_nearTo_14 : decode cX11_nearTo 14 = .ok (.aload_n 0, 1) := by decide +kernel
theorem dX11_nearTo_15 : decode cX11_nearTo 15 = .ok (.invokevirtual 174, 3) := by decide +kernel
theorem dX11_nearTo_18 : decode cX11_nearTo 18 = .ok (.iconst (-1), 1) := by decide +kernel
theorem dX11_nearTo_19 : decode cX11_nearTo 19 = .ok (.istore_n 2, 1) := by decide +kernel
theorem dX11_nearTo_20 : decode cX11_nearTo 20 = .ok (.iconst 0, 1) := by decide +kernel
theorem dX11_nearTo_21 : decode cX11_nearTo 21 = .ok (.istore_n 3, 1) := by decide +kernel
theorem dX11_nearTo_22 : decode cX11_nearTo 22 = .ok (.iload_n 3, 1) := by decide +kernel
theorem dX11_nearTo_23 : decode cX11_nearTo 23 = .ok (.aload_n 0, 1) := by decide +kernel
theorem dX11_nearTo_24 : decode cX11_nearTo 24 = .ok (.getfield 130, 3) := by decide +kernel
theorem dX11_nearTo_27 : decode cX11_nearTo 27 = .ok (.if_icmp .ge 41, 3) := by decide +kernel
theorem dX11_nearTo_30 : decode cX11_nearTo 30 = .ok (.iload_n 2, 1) := by decide +kernel
theorem dX11_nearTo_31 : decode cX11_nearTo 31 = .ok (.iconst (-1), 1) := by decide +kernel
theorem dX11_nearTo_32 : decode cX11_nearTo 32 = .ok (.if_icmp .eq 28, 3) := by decide +kernel
theorem dX11_nearTo_35 : decode cX11_nearTo 35 = .ok (.aload_n 0, 1) := by decide +kernel
theorem dX11_nearTo_36 : decode cX11_nearTo 36 = .ok (.getfield 36, 3) := by decide +kernel
theorem dX11_nearTo_39 : decode cX11_nearTo 39 = .ok (.iload_n 3, 1) := by decide +kernel
theorem dX11_nearTo_40 : decode cX11_nearTo 40 = .ok (.iaload, 1) := by decide +kernel
theorem dX11_nearTo_41 : decode cX11_nearTo 41 = .ok (.iload_n 1, 1) := by decide +kernel
theorem dX11_nearTo_42 : decode cX11_nearTo 42 = .ok (.ixor, 1) := by decide +kernel
theorem dX11_nearTo_43 : decode cX11_nearTo 43 = .ok (.invokestatic 105, 3) := by decide +kernel
theorem dX11_nearTo_46 : decode cX11_nearTo 46 = .ok (.aload_n 0, 1) := by decide +kernel
theorem dX11_nearTo_47 : decode cX11_nearTo 47 = .ok (.getfield 36, 3) := by decide +kernel
theorem dX11_nearTo_50 : decode cX11_nearTo 50 = .ok (.iload_n 2, 1) := by decide +kernel
theorem dX11_nearTo_51 : decode cX11_nearTo 51 = .ok (.iaload, 1) := by decide +kernel
theorem dX11_nearTo_52 : decode cX11_nearTo 52 = .ok (.iload_n 1, 1) := by decide +kernel
theorem dX11_nearTo_53 : decode cX11_nearTo 53 = .ok (.ixor, 1) := by decide +kernel
theorem dX11_nearTo_54 : decode cX11_nearTo 54 = .ok (.invokestatic 105, 3) := by decide +kernel
theorem dX11_nearTo_57 : decode cX11_nearTo 57 = .ok (.if_icmp .ge 5, 3) := by decide +kernel
theorem dX11_nearTo_60 : decode cX11_nearTo 60 = .ok (.iload_n 3, 1) := by decide +kernel
theorem dX11_nearTo_61 : decode cX11_nearTo 61 = .ok (.istore_n 2, 1) := by decide +kernel
theorem dX11_nearTo_62 : decode cX11_nearTo 62 = .ok (.iinc 3 1, 3) := by decide +kernel
theorem dX11_nearTo_65 : decode cX11_nearTo 65 = .ok (.goto (-43), 3) := by decide +kernel
theorem dX11_nearTo_68 : decode cX11_nearTo 68 = .ok (.iload_n 2, 1) := by decide +kernel
theorem dX11_nearTo_69 : decode cX11_nearTo 69 = .ok (.ireturn, 1) := by decide +kernel
set_option maxRecDepth 20000 in
theorem ggX11_apart_X11_layAll : GoodIn wsX11_apart wsX11_layAll := goodIn_r _ [6, 7, 8, 9, 5, 10, 11, 12, 13, 14, 15, 16, 17, 18, 19, 20, 21, 22, 23, 24, 25, 26, 27, 28, 29, 30, 31, 32, 33, 34, 35, 36, 37, 38, 39, 40, 41, 42, 43, 44, 45, 46, 47, 48, 49, 50, 51, 52, 53, 54, 55, 56, 57, 58, 59, 60, 61, 62, 63, 64, 65, 66, 67, 68, 69, 70, 71, 72, 73, 74, 75, 76, 77, 78, 79, 80, 81, 82, 83, 84, 1, 85, 99, 100, 101, 102, 103, 104, 105, 106, 107, 108, 109, 110, 111, 112, 113, 114, 115, 116, 117, 118, 119, 120, 121, 122, 123, 124, 125, 126, 127, 128, 129, 130, 131, 132, 133, 134, 135, 136, 137, 138] (by decide +kernel) (by decide +kernel)
set_option maxRecDepth 20000 in
theorem gX11_apart_X11_layAll : GoodIn wsX11_apart (wsV RX11 174 RX11 yX11_layAll wsX11_layAll) := goodIn_app (goodIn_of _ (by decide +kernel)) ggX11_apart_X11_layAll
set_option maxRecDepth 20000 in
theorem ggX11_apart_X11_isPoint : GoodIn wsX11_apart wsX11_isPoint := goodIn_r _ [89, 68, 78, 79, 5, 80, 99, 100, 101, 102, 103, 104, 105, 106, 107, 108, 109, 110, 111, 112, 113, 114, 115, 116, 117, 118, 119, 120, 121, 122, 123, 124, 125, 126, 127, 128, 129, 130, 131, 132, 133, 134, 135, 136, 137, 138] (by decide +kernel) (by decide +kernel)
set_option maxRecDepth 20000 in
theorem gX11_apart_X11_isPoint : GoodIn wsX11_apart (wsV RX11 372 RX11 yX11_isPoint wsX11_isPoint) := goodIn_app (goodIn_of _ (by decide +kernel)) ggX11_apart_X11_isPoint
set_option maxRecDepth 20000 in
theorem ggX11_apart_X11_passes : GoodIn wsX11_apart wsX11_passes := goodIn_r _ [93, 94, 95, 96, 5, 97, 98, 99, 100, 101, 102, 103, 104, 105, 106, 107, 108, 109, 110, 111, 112, 113, 114, 115, 116, 117, 118, 119, 120, 121, 122, 123, 124, 125, 126, 127, 128, 129, 130, 131, 132, 133, 134, 135, 136, 137, 138] (by decide +kernel) (by decide +kernel)
set_option maxRecDepth 20000 in
theorem gX11_apart_X11_passes : GoodIn wsX11_apart (wsV RX11 235 RX11 yX11_passes wsX11_passes) := goodIn_app (goodIn_of _ (by decide +kernel)) ggX11_apart_X11_passes
set_option maxRecDepth 20000 in
theorem ggX11_apart_X11_bits : GoodIn wsX11_apart wsX11_bits := goodIn_r _ [55] (by decide +kernel) (by decide +kernel)
set_option maxRecDepth 20000 in
theorem gX11_apart_X11_bits : GoodIn wsX11_apart (va_wsS RX11 105 yX11_bits wsX11_bits) := goodIn_app (goodIn_of _ (by decide +kernel)) ggX11_apart_X11_bits
theorem dX11_apart_0 : decode cX11_apart 0 = .ok (.aload_n 0, 1) := by decide +kernel
theorem dX11_apart_1 : decode cX11_apart 1 = .ok (.invokevirtual 174, 3) := by decide +kernel
theorem dX11_apart_4 : decode cX11_apart 4 = .ok (.aload_n 0, 1) := by decide +kernel
theorem dX11_apart_5 : decode cX11_apart 5 = .ok (.aload_n 0, 1) := by decide +kernel
theorem dX11_apart_6 : decode cX11_apart 6 = .ok (.iload_n 1, 1) := by decide +kernel
theorem dX11_apart_7 : decode cX11_apart 7 = .ok (.invokevirtual 372, 3) := by decide +kernel
theorem dX11_apart_10 : decode cX11_apart 10 = .ok (.ifCond .eq 15, 3) := by decide +kernel
theorem dX11_apart_13 : decode cX11_apart 13 = .ok (.aload_n 0, 1) := by decide +kernel
theorem dX11_apart_14 : decode cX11_apart 14 = .ok (.iload_n 2, 1) := by decide +kernel
theorem dX11_apart_15 : decode cX11_apart 15 = .ok (.invokevirtual 372, 3) := by decide +kernel
theorem dX11_apart_18 : decode cX11_apart 18 = .ok (.ifCond .eq 7, 3) := by decide +kernel
theorem dX11_apart_21 : decode cX11_apart 21 = .ok (.iconst 1, 1) := by decide +kernel
theorem dX11_apart_22 : decode cX11_apart 22 = .ok (.goto 4, 3) := by decide +kernel
theorem dX11_apart_25 : decode cX11_apart 25 = .ok (.iconst 0, 1) := by decide +kernel
theorem dX11_apart_26 : decode cX11_apart 26 = .ok (.invokevirtual 235, 3) := by decide +kernel
theorem dX11_apart_29 : decode cX11_apart 29 = .ok (.ifCond .eq 22, 3) := by decide +kernel
theorem dX11_apart_32 : decode cX11_apart 32 = .ok (.aload_n 0, 1) := by decide +kernel
theorem dX11_apart_33 : decode cX11_apart 33 = .ok (.getfield 36, 3) := by decide +kernel
theorem dX11_apart_36 : decode cX11_apart 36 = .ok (.iload_n 1, 1) := by decide +kernel
theorem dX11_apart_37 : decode cX11_apart 37 = .ok (.iaload, 1) := by decide +kernel
theorem dX11_apart_38 : decode cX11_apart 38 = .ok (.aload_n 0, 1) := by decide +kernel
theorem dX11_apart_39 : decode cX11_apart 39 = .ok (.getfield 36, 3) := by decide +kernel
theorem dX11_apart_42 : decode cX11_apart 42 = .ok (.iload_n 2, 1) := by decide +kernel
theorem dX11_apart_43 : decode cX11_apart 43 = .ok (.iaload, 1) := by decide +kernel
theorem dX11_apart_44 : decode cX11_apart 44 = .ok (.ixor, 1) := by decide +kernel
theorem dX11_apart_45 : decode cX11_apart 45 = .ok (.invokestatic 105, 3) := by decide +kernel
theorem dX11_apart_48 : decode cX11_apart 48 = .ok (.goto 4, 3) := by decide +kernel
theorem dX11_apart_51 : decode cX11_apart 51 = .ok (.iconst 0, 1) := by decide +kernel
theorem dX11_apart_52 : decode cX11_apart 52 = .ok (.ireturn, 1) := by decide +kernel
set_option maxRecDepth 20000 in
theorem ggX11_layers_X11_layLayers : GoodIn wsX11_layers wsX11_layLayers := goodIn_r _ [7, 2, 8, 9, 10, 11, 12, 13, 14, 6, 15, 16, 17, 18, 19, 20, 21, 22, 23, 24, 25, 26, 27, 28, 29, 30, 31, 32, 33, 34, 35, 36, 37, 38, 39, 40, 41, 42, 43, 44, 45, 46, 47, 48, 49, 50, 51, 52, 53, 54, 55, 56, 57, 58, 59, 60, 61, 62, 63, 64, 65, 66, 67, 68, 69, 70, 71, 72, 73, 74, 75, 76, 77, 78, 79, 80, 81, 82, 83, 84, 85, 86, 87, 88, 89, 90, 91, 92, 93, 94, 95, 96, 97, 98, 99, 100, 101] (by decide +kernel) (by decide +kernel)
set_option maxRecDepth 20000 in
theorem gX11_layers_X11_layLayers : GoodIn wsX11_layers (wsV RX11 409 RX11 yX11_layLayers wsX11_layLayers) := goodIn_app (goodIn_of _ (by decide +kernel)) ggX11_layers_X11_layLayers
theorem dX11_layers_0 : decode cX11_layers 0 = .ok (.aload_n 0, 1) := by decide +kernel
theorem dX11_layers_1 : decode cX11_layers 1 = .ok (.iconst 0, 1) := by decide +kernel
theorem dX11_layers_2 : decode cX11_layers 2 = .ok (.putfield 3, 3) := by decide +kernel
theorem dX11_layers_5 : decode cX11_layers 5 = .ok (.aload_n 0, 1) := by decide +kernel
theorem dX11_layers_6 : decode cX11_layers 6 = .ok (.invokevirtual 409, 3) := by decide +kernel
theorem dX11_layers_9 : decode cX11_layers 9 = .ok (.aload_n 0, 1) := by decide +kernel
theorem dX11_layers_10 : decode cX11_layers 10 = .ok (.getfield 211, 3) := by decide +kernel
theorem dX11_layers_13 : decode cX11_layers 13 = .ok (.ireturn, 1) := by decide +kernel
set_option maxRecDepth 20000 in
theorem ggX11_layerSize_X11_layLayers : GoodIn wsX11_layerSize wsX11_layLayers := goodIn_r _ [8, 1, 2, 9, 10, 3, 11, 12, 13, 7, 14, 15, 16, 17, 18, 19, 20, 21, 22, 23, 24, 25, 26, 27, 28, 29, 30, 31, 32, 33, 34, 35, 36, 37, 38, 39, 40, 41, 42, 43, 44, 45, 46, 47, 48, 49, 50, 51, 52, 53, 54, 55, 56, 57, 58, 59, 60, 73, 74, 75, 76, 77, 78, 79, 80, 81, 82, 83, 84, 85, 86, 87, 88, 89, 90, 91, 92, 93, 94, 95, 96, 97, 98, 99, 100, 101, 102, 103, 104, 105, 106, 107, 108, 109, 110, 111, 112] (by decide +kernel) (by decide +kernel)
set_option maxRecDepth 20000 in
theorem gX11_layerSize_X11_layLayers : GoodIn wsX11_layerSize (wsV RX11 409 RX11 yX11_layLayers wsX11_layLayers) := goodIn_app (goodIn_of _ (by decide +kernel)) ggX11_layerSize_X11_layLayers
set_option maxRecDepth 20000 in
theorem ggX11_layerSize_X11_in : GoodIn wsX11_layerSize wsX11_in := goodIn_r _ [63] (by decide +kernel) (by decide +kernel)
set_option maxRecDepth 20000 in
theorem gX11_layerSize_X11_in : GoodIn wsX11_layerSize (va_wsS RX11 87 yX11_in wsX11_in) := goodIn_app (goodIn_of _ (by decide +kernel)) ggX11_layerSize_X11_in
set_option maxRecDepth 20000 in
theorem ggX11_layerSize_X11_passes : GoodIn wsX11_layerSize wsX11_passes := goodIn_r _ [67, 68, 69, 70, 7, 71, 72, 73, 74, 75, 76, 77, 78, 79, 80, 81, 82, 83, 84, 85, 86, 87, 88, 89, 90, 91, 92, 93, 94, 95, 96, 97, 98, 99, 100, 101, 102, 103, 104, 105, 106, 107, 108, 109, 110, 111, 112] (by decide +kernel) (by decide +kernel)
set_option maxRecDepth 20000 in
theorem gX11_layerSize_X11_passes : GoodIn wsX11_layerSize (wsV RX11 235 RX11 yX11_passes wsX11_passes) := goodIn_app (goodIn_of _ (by decide +kernel)) ggX11_layerSize_X11_passes
theorem dX11_layerSize_0 : decode cX11_layerSize 0 = .ok (.aload_n 0, 1) := by decide +kernel
theorem dX11_layerSize_1 : decode cX11_layerSize 1 = .ok (.invokevirtual 409, 3) := by decide +kernel
theorem dX11_layerSize_4 : decode cX11_layerSize 4 = .ok (.aload_n 0, 1) := by decide +kernel
theorem dX11_layerSize_5 : decode cX11_layerSize 5 = .ok (.iload_n 1, 1) := by decide +kernel
theorem dX11_layerSize_6 : decode cX11_layerSize 6 = .ok (.i2l, 1) := by decide +kernel
theorem dX11_layerSize_7 : decode cX11_layerSize 7 = .ok (.lconst 0, 1) := by decide +kernel
theorem dX11_layerSize_8 : decode cX11_layerSize 8 = .ok (.aload_n 0, 1) := by decide +kernel
theorem dX11_layerSize_9 : decode cX11_layerSize 9 = .ok (.getfield 211, 3) := by decide +kernel
theorem dX11_layerSize_12 : decode cX11_layerSize 12 = .ok (.iconst 1, 1) := by decide +kernel
theorem dX11_layerSize_13 : decode cX11_layerSize 13 = .ok (.isub, 1) := by decide +kernel
theorem dX11_layerSize_14 : decode cX11_layerSize 14 = .ok (.i2l, 1) := by decide +kernel
theorem dX11_layerSize_15 : decode cX11_layerSize 15 = .ok (.invokestatic 87, 3) := by decide +kernel
theorem dX11_layerSize_18 : decode cX11_layerSize 18 = .ok (.invokevirtual 235, 3) := by decide +kernel
theorem dX11_layerSize_21 : decode cX11_layerSize 21 = .ok (.ifCond .ne 5, 3) := by decide +kernel
theorem dX11_layerSize_24 : decode cX11_layerSize 24 = .ok (.iconst 0, 1) := by decide +kernel
theorem dX11_layerSize_25 : decode cX11_layerSize 25 = .ok (.ireturn, 1) := by decide +kernel
theorem dX11_layerSize_26 : decode cX11_layerSize 26 = .ok (.iconst 0, 1) := by decide +kernel
theorem dX11_layerSize_27 : decode cX11_layerSize 27 = .ok (.istore_n 2, 1) := by decide +kernel
theorem dX11_layerSize_28 : decode cX11_layerSize 28 = .ok (.iconst 0, 1) := by decide +kernel
theorem dX11_layerSize_29 : decode cX11_layerSize 29 = .ok (.istore_n 3, 1) := by decide +kernel
theorem dX11_layerSize_30 : decode cX11_layerSize 30 = .ok (.iload_n 3, 1) := by decide +kernel
theorem dX11_layerSize_31 : decode cX11_layerSize 31 = .ok (.aload_n 0, 1) := by decide +kernel
theorem dX11_layerSize_32 : decode cX11_layerSize 32 = .ok (.getfield 205, 3) := by decide +kernel
theorem dX11_layerSize_35 : decode cX11_layerSize 35 = .ok (.if_icmp .ge 27, 3) := by decide +kernel
theorem dX11_layerSize_38 : decode cX11_layerSize 38 = .ok (.iload_n 2, 1) := by decide +kernel
theorem dX11_layerSize_39 : decode cX11_layerSize 39 = .ok (.aload_n 0, 1) := by decide +kernel
theorem dX11_layerSize_40 : decode cX11_layerSize 40 = .ok (.getfield 57, 3) := by decide +kernel
theorem dX11_layerSize_43 : decode cX11_layerSize 43 = .ok (.iload_n 3, 1) := by decide +kernel
theorem dX11_layerSize_44 : decode cX11_layerSize 44 = .ok (.iaload, 1) := by decide +kernel
theorem dX11_layerSize_45 : decode cX11_layerSize 45 = .ok (.iload_n 1, 1) := by decide +kernel
theorem dX11_layerSize_46 : decode cX11_layerSize 46 = .ok (.if_icmp .ne 7, 3) := by decide +kernel
theorem dX11_layerSize_49 : decode cX11_layerSize 49 = .ok (.iconst 1, 1) := by decide +kernel
theorem dX11_layerSize_50 : decode cX11_layerSize 50 = .ok (.goto 4, 3) := by decide +kernel
theorem dX11_layerSize_53 : decode cX11_layerSize 53 = .ok (.iconst 0, 1) := by decide +kernel
theorem dX11_layerSize_54 : decode cX11_layerSize 54 = .ok (.iadd, 1) := by decide +kernel
theorem dX11_layerSize_55 : decode cX11_layerSize 55 = .ok (.istore_n 2, 1) := by decide +kernel
theorem dX11_layerSize_56 : decode cX11_layerSize 56 = .ok (.iinc 3 1, 3) := by decide +kernel
theorem dX11_layerSize_59 : decode cX11_layerSize 59 = .ok (.goto (-29), 3) := by decide +kernel
theorem dX11_layerSize_62 : decode cX11_layerSize 62 = .ok (.iload_n 2, 1) := by decide +kernel
theorem dX11_layerSize_63 : decode cX11_layerSize 63 = .ok (.ireturn, 1) := by decide +kernel
set_option maxRecDepth 20000 in
theorem ggX11_layerOf_X11_isSet : GoodIn wsX11_layerOf wsX11_isSet := goodIn_r _ [8, 9, 10, 11, 7, 12, 13, 14, 15, 16, 17, 18, 19, 20, 77, 78, 79, 80, 81, 82, 83, 84, 85, 86, 87, 88, 89, 90, 91, 92, 93, 94, 95, 96, 97, 98, 99, 100, 101, 102, 103, 104, 105, 106, 107, 108, 109, 110, 111, 112, 113, 114, 115, 116] (by decide +kernel) (by decide +kernel)
set_option maxRecDepth 20000 in
theorem gX11_layerOf_X11_isSet : GoodIn wsX11_layerOf (wsV RX11 364 RX11 yX11_isSet wsX11_isSet) := goodIn_app (goodIn_of _ (by decide +kernel)) ggX11_layerOf_X11_isSet
set_option maxRecDepth 20000 in
theorem ggX11_layerOf_X11_passes : GoodIn wsX11_layerOf wsX11_passes := goodIn_r _ [24, 25, 26, 27, 7, 28, 1, 77, 78, 79, 80, 81, 82, 83, 84, 85, 86, 87, 88, 89, 90, 91, 92, 93, 94, 95, 96, 97, 98, 99, 100, 101, 102, 103, 104, 105, 106, 107, 108, 109, 110, 111, 112, 113, 114, 115, 116] (by decide +kernel) (by decide +kernel)
set_option maxRecDepth 20000 in
theorem gX11_layerOf_X11_passes : GoodIn wsX11_layerOf (wsV RX11 235 RX11 yX11_passes wsX11_passes) := goodIn_app (goodIn_of _ (by decide +kernel)) ggX11_layerOf_X11_passes
set_option maxRecDepth 20000 in
theorem ggX11_layerOf_X11_isAllowed : GoodIn wsX11_layerOf wsX11_isAllowed := goodIn_r _ [32, 33, 34, 35, 7, 36, 17, 37, 38, 39, 40, 13, 14, 15, 16, 41, 42, 43, 44, 45, 46, 47, 48, 49, 50, 51, 52, 53, 54, 55, 56, 57, 58, 77, 78, 79, 80, 81, 82, 83, 84, 85, 86, 87, 88, 89, 90, 91, 92, 93, 94, 95, 96, 97, 98, 99, 100, 101, 102, 103, 104, 105, 106, 107, 108, 109, 110, 111, 112, 113, 114, 115, 116] (by decide +kernel) (by decide +kernel)
set_option maxRecDepth 20000 in
theorem gX11_layerOf_X11_isAllowed : GoodIn wsX11_layerOf (wsV RX11 122 RX11 yX11_isAllowed wsX11_isAllowed) := goodIn_app (goodIn_of _ (by decide +kernel)) ggX11_layerOf_X11_isAllowed
set_option maxRecDepth 20000 in
theorem ggX11_layerOf_X11_layLayers : GoodIn wsX11_layerOf wsX11_layLayers := goodIn_r _ [62, 63, 64, 2, 65, 3, 66, 67, 68, 7, 69, 9, 10, 11, 12, 13, 14, 15, 16, 17, 29, 30, 31, 32, 33, 34, 35, 36, 37, 38, 39, 40, 41, 42, 43, 44, 45, 46, 47, 48, 49, 50, 51, 52, 53, 54, 55, 56, 57, 58, 70, 71, 72, 73, 74, 75, 76, 77, 78, 79, 80, 81, 82, 83, 84, 85, 86, 87, 88, 89, 90, 91, 92, 93, 94, 95, 96, 97, 98, 99, 100, 101, 102, 103, 104, 105, 106, 107, 108, 109, 110, 111, 112, 113, 114, 115, 116] (by decide +kernel) (by decide +kernel)
set_option maxRecDepth 20000 in
theorem gX11_layerOf_X11_layLayers : GoodIn wsX11_layerOf (wsV RX11 409 RX11 yX11_layLayers wsX11_layLayers) := goodIn_app (goodIn_of _ (by decide +kernel)) ggX11_layerOf_X11_layLayers
set_option maxRecDepth 20000 in
theorem ggX11_layerOf_X11_sumOf : GoodIn wsX11_layerOf wsX11_sumOf := goodIn_r _ [40, 13, 14, 15, 7, 16, 17, 41, 42, 43, 44, 45, 46, 47, 77, 78, 79, 80, 81, 82, 83, 84, 85, 86, 87, 88, 89, 90, 91, 92, 93, 94, 95, 96, 97, 98, 99, 100, 101, 102, 103, 104, 105, 106, 107, 108, 109, 110, 111, 112, 113, 114, 115, 116] (by decide +kernel) (by decide +kernel)
set_option maxRecDepth 20000 in
theorem gX11_layerOf_X11_sumOf : GoodIn wsX11_layerOf (wsV RX11 102 RX11 yX11_sumOf wsX11_sumOf) := goodIn_app (goodIn_of _ (by decide +kernel)) ggX11_layerOf_X11_sumOf
set_option maxRecDepth 20000 in
theorem ggX11_layerOf_X11_pairOf : GoodIn wsX11_layerOf wsX11_pairOf := goodIn_r _ [72] (by decide +kernel) (by decide +kernel)
set_option maxRecDepth 20000 in
theorem gX11_layerOf_X11_pairOf : GoodIn wsX11_layerOf (va_wsS RX11 198 yX11_pairOf wsX11_pairOf) := goodIn_app (goodIn_of _ (by decide +kernel)) ggX11_layerOf_X11_pairOf
theorem dX11_layerOf_0 : decode cX11_layerOf 0 = .ok (.aload_n 0, 1) := by decide +kernel
theorem dX11_layerOf_1 : decode cX11_layerOf 1 = .ok (.aload_n 0, 1) := by decide +kernel
theorem dX11_layerOf_2 : decode cX11_layerOf 2 = .ok (.iload_n 1, 1) := by decide +kernel
theorem dX11_layerOf_3 : decode cX11_layerOf 3 = .ok (.invokevirtual 364, 3) := by decide +kernel
theorem dX11_layerOf_6 : decode cX11_layerOf 6 = .ok (.invokevirtual 235, 3) := by decide +kernel
theorem dX11_layerOf_9 : decode cX11_layerOf 9 = .ok (.ifCond .eq 11, 3) := by decide +kernel
theorem dX11_layerOf_12 : decode cX11_layerOf 12 = .ok (.aload_n 0, 1) := by decide +kernel
theorem dX11_layerOf_13 : decode cX11_layerOf 13 = .ok (.iload_n 1, 1) := by decide +kernel
theorem dX11_layerOf_14 : decode cX11_layerOf 14 = .ok (.invokevirtual 122, 3) := by decide +kernel
theorem dX11_layerOf_17 : decode cX11_layerOf 17 = .ok (.ifCond .ne 16, 3) := by decide +kernel
theorem dX11_layerOf_20 : decode cX11_layerOf 20 = .ok (.aload_n 0, 1) := by decide +kernel
theorem dX11_layerOf_21 : decode cX11_layerOf 21 = .ok (.getfield 3, 3) := by decide +kernel
theorem dX11_layerOf_24 : decode cX11_layerOf 24 = .ok (.ifCond .ne 7, 3) := by decide +kernel
theorem dX11_layerOf_27 : decode cX11_layerOf 27 = .ok (.iconst (-1), 1) := by decide +kernel
theorem dX11_layerOf_28 : decode cX11_layerOf 28 = .ok (.goto 4, 3) := by decide +kernel
theorem dX11_layerOf_31 : decode cX11_layerOf 31 = .ok (.iconst 0, 1) := by decide +kernel
theorem dX11_layerOf_32 : decode cX11_layerOf 32 = .ok (.ireturn, 1) := by decide +kernel
theorem dX11_layerOf_33 : decode cX11_layerOf 33 = .ok (.aload_n 0, 1) := by decide +kernel
theorem dX11_layerOf_34 : decode cX11_layerOf 34 = .ok (.invokevirtual 409, 3) := by decide +kernel
theorem dX11_layerOf_37 : decode cX11_layerOf 37 = .ok (.aload_n 0, 1) := by decide +kernel
theorem dX11_layerOf_38 : decode cX11_layerOf 38 = .ok (.iload_n 1, 1) := by decide +kernel
theorem dX11_layerOf_39 : decode cX11_layerOf 39 = .ok (.iconst 1, 1) := by decide +kernel
theorem dX11_layerOf_40 : decode cX11_layerOf 40 = .ok (.invokevirtual 102, 3) := by decide +kernel
theorem dX11_layerOf_43 : decode cX11_layerOf 43 = .ok (.aload_n 0, 1) := by decide +kernel
theorem dX11_layerOf_44 : decode cX11_layerOf 44 = .ok (.iload_n 1, 1) := by decide +kernel
theorem dX11_layerOf_45 : decode cX11_layerOf 45 = .ok (.iconst 2, 1) := by decide +kernel
theorem dX11_layerOf_46 : decode cX11_layerOf 46 = .ok (.invokevirtual 102, 3) := by decide +kernel
theorem dX11_layerOf_49 : decode cX11_layerOf 49 = .ok (.invokestatic 198, 3) := by decide +kernel
theorem dX11_layerOf_52 : decode cX11_layerOf 52 = .ok (.istore_n 2, 1) := by decide +kernel
theorem dX11_layerOf_53 : decode cX11_layerOf 53 = .ok (.iconst 0, 1) := by decide +kernel
theorem dX11_layerOf_54 : decode cX11_layerOf 54 = .ok (.istore_n 3, 1) := by decide +kernel
theorem dX11_layerOf_55 : decode cX11_layerOf 55 = .ok (.aload_n 0, 1) := by decide +kernel
theorem dX11_layerOf_56 : decode cX11_layerOf 56 = .ok (.getfield 54, 3) := by decide +kernel
theorem dX11_layerOf_59 : decode cX11_layerOf 59 = .ok (.iload_n 3, 1) := by decide +kernel
theorem dX11_layerOf_60 : decode cX11_layerOf 60 = .ok (.iaload, 1) := by decide +kernel
theorem dX11_layerOf_61 : decode cX11_layerOf 61 = .ok (.iload_n 2, 1) := by decide +kernel
theorem dX11_layerOf_62 : decode cX11_layerOf 62 = .ok (.if_icmp .eq 9, 3) := by decide +kernel
theorem dX11_layerOf_65 : decode cX11_layerOf 65 = .ok (.iinc 3 1, 3) := by decide +kernel
theorem dX11_layerOf_68 : decode cX11_layerOf 68 = .ok (.goto (-13), 3) := by decide +kernel
theorem dX11_layerOf_71 : decode cX11_layerOf 71 = .ok (.aload_n 0, 1) := by decide +kernel
theorem dX11_layerOf_72 : decode cX11_layerOf 72 = .ok (.getfield 57, 3) := by decide +kernel
theorem dX11_layerOf_75 : decode cX11_layerOf 75 = .ok (.iload_n 3, 1) := by decide +kernel
theorem dX11_layerOf_76 : decode cX11_layerOf 76 = .ok (.iaload, 1) := by decide +kernel
theorem dX11_layerOf_77 : decode cX11_layerOf 77 = .ok (.ireturn, 1) := by decide +kernel
set_option maxRecDepth 20000 in
theorem ggX11_climb_X11_areWeights : GoodIn wsX11_climb wsX11_areWeights := goodIn_r _ [4, 5, 6, 7, 3, 8] (by decide +kernel) (by decide +kernel)
set_option maxRecDepth 20000 in
theorem gX11_climb_X11_areWeights : GoodIn wsX11_climb (va_wsS RX11 383 yX11_areWeights wsX11_areWeights) := goodIn_app (goodIn_of _ (by decide +kernel)) ggX11_climb_X11_areWeights
set_option maxRecDepth 20000 in
theorem ggX11_climb_X11_passes : GoodIn wsX11_climb wsX11_passes := goodIn_r _ [12, 13, 14, 15, 3, 16, 17, 71, 72, 73, 74, 75, 76, 77, 78, 79, 80, 81, 82, 83, 84, 85, 86, 87, 88, 89, 90, 91, 92, 93, 94, 95, 96, 97, 98, 99, 100, 101, 102, 103, 104, 105, 106, 107, 108, 109, 110] (by decide +kernel) (by decide +kernel)
set_option maxRecDepth 20000 in
theorem gX11_climb_X11_passes : GoodIn wsX11_climb (wsV RX11 235 RX11 yX11_passes wsX11_passes) := goodIn_app (goodIn_of _ (by decide +kernel)) ggX11_climb_X11_passes
set_option maxRecDepth 20000 in
theorem ggX11_climb_X11_climbed : GoodIn wsX11_climb wsX11_climbed := goodIn_r _ [21, 22, 23, 24, 25, 26, 3, 27, 28, 29, 30, 31, 32, 33, 34, 35, 36, 37, 38, 39, 40, 41, 42, 43, 44, 45, 46, 47, 48, 49, 50, 51, 52, 53, 54, 55, 56, 57, 58, 59, 60, 61, 62, 63, 64, 65, 66, 67, 68, 69, 70, 71, 72, 73, 74, 75, 76, 77, 78, 79, 80, 81, 82, 83, 84, 85, 86, 87, 88, 89, 90, 91, 92, 93, 94, 95, 96, 97, 98, 99, 100, 101, 102, 103, 104, 105, 106, 107, 108, 109, 110] (by decide +kernel) (by decide +kernel)
set_option maxRecDepth 20000 in
theorem gX11_climb_X11_climbed : GoodIn wsX11_climb (wsV RX11 412 RX11 yX11_climbed wsX11_climbed) := goodIn_app (goodIn_of _ (by decide +kernel)) ggX11_climb_X11_climbed
theorem dX11_climb_0 : decode cX11_climb 0 = .ok (.aload_n 0, 1) := by decide +kernel
theorem dX11_climb_1 : decode cX11_climb 1 = .ok (.iload_n 1, 1) := by decide +kernel
theorem dX11_climb_2 : decode cX11_climb 2 = .ok (.iload_n 2, 1) := by decide +kernel
theorem dX11_climb_3 : decode cX11_climb 3 = .ok (.invokestatic 383, 3) := by decide +kernel
theorem dX11_climb_6 : decode cX11_climb 6 = .ok (.invokevirtual 235, 3) := by decide +kernel
theorem dX11_climb_9 : decode cX11_climb 9 = .ok (.ifCond .eq 12, 3) := by decide +kernel
theorem dX11_climb_12 : decode cX11_climb 12 = .ok (.aload_n 0, 1) := by decide +kernel
theorem dX11_climb_13 : decode cX11_climb 13 = .ok (.iload_n 1, 1) := by decide +kernel
theorem dX11_climb_14 : decode cX11_climb 14 = .ok (.iload_n 2, 1) := by decide +kernel
theorem dX11_climb_15 : decode cX11_climb 15 = .ok (.invokevirtual 412, 3) := by decide +kernel
theorem dX11_climb_18 : decode cX11_climb 18 = .ok (.goto 4, 3) := by decide +kernel
theorem dX11_climb_21 : decode cX11_climb 21 = .ok (.iconst 0, 1) := by decide +kernel
theorem dX11_climb_22 : decode cX11_climb 22 = .ok (.ireturn, 1) := by decide +kernel
set_option maxRecDepth 20000 in
theorem ggX11_share_X11_layPoints : GoodIn wsX11_share wsX11_layPoints := goodIn_r _ [8, 9, 10, 11, 12, 13, 14, 15, 16, 7, 17, 2, 18, 19, 20, 21, 22, 23, 24, 25, 26, 27, 28, 29, 30, 31, 32, 33, 34, 35, 36, 37, 38, 39, 40, 41, 42, 43, 44, 45, 46, 47, 48, 49, 50, 51, 52, 53, 54, 55, 56, 57, 58, 59, 60, 61, 62, 63, 64, 3, 65, 66, 67, 68, 69, 70, 71, 72, 73, 74, 75, 76, 77, 78, 79, 80, 81, 82, 83, 84, 85, 86, 87, 88, 89, 90, 91, 92, 93, 94, 95, 96, 97, 98, 99, 100, 101, 102, 103, 104] (by decide +kernel) (by decide +kernel)
set_option maxRecDepth 20000 in
theorem gX11_share_X11_layPoints : GoodIn wsX11_share (wsV RX11 144 RX11 yX11_layPoints wsX11_layPoints) := goodIn_app (goodIn_of _ (by decide +kernel)) ggX11_share_X11_layPoints
theorem dX11_share_0 : decode cX11_share 0 = .ok (.aload_n 0, 1) := by decide +kernel
theorem dX11_share_1 : decode cX11_share 1 = .ok (.iconst 0, 1) := by decide +kernel
theorem dX11_share_2 : decode cX11_share 2 = .ok (.putfield 3, 3) := by decide +kernel
theorem dX11_share_5 : decode cX11_share 5 = .ok (.aload_n 0, 1) := by decide +kernel
theorem dX11_share_6 : decode cX11_share 6 = .ok (.invokevirtual 144, 3) := by decide +kernel
theorem dX11_share_9 : decode cX11_share 9 = .ok (.aload_n 0, 1) := by decide +kernel
theorem dX11_share_10 : decode cX11_share 10 = .ok (.getfield 119, 3) := by decide +kernel
theorem dX11_share_13 : decode cX11_share 13 = .ok (.ifCond .ne 7, 3) := by decide +kernel
theorem dX11_share_16 : decode cX11_share 16 = .ok (.dconst 0, 1) := by decide +kernel
theorem dX11_share_17 : decode cX11_share 17 = .ok (.goto 14, 3) := by decide +kernel
theorem dX11_share_20 : decode cX11_share 20 = .ok (.aload_n 0, 1) := by decide +kernel
theorem dX11_share_21 : decode cX11_share 21 = .ok (.getfield 130, 3) := by decide +kernel
theorem dX11_share_24 : decode cX11_share 24 = .ok (.i2d, 1) := by decide +kernel
theorem dX11_share_25 : decode cX11_share 25 = .ok (.aload_n 0, 1) := by decide +kernel
theorem dX11_share_26 : decode cX11_share 26 = .ok (.getfield 119, 3) := by decide +kernel
theorem dX11_share_29 : decode cX11_share 29 = .ok (.i2d, 1) := by decide +kernel
theorem dX11_share_30 : decode cX11_share 30 = .ok (.ddiv, 1) := by decide +kernel
theorem dX11_share_31 : decode cX11_share 31 = .ok (.dreturn, 1) := by decide +kernel
set_option maxRecDepth 20000 in
theorem ggX11_addItem_X11_in : GoodIn wsX11_addItem wsX11_in := goodIn_r _ [6] (by decide +kernel) (by decide +kernel)
set_option maxRecDepth 20000 in
theorem gX11_addItem_X11_in : GoodIn wsX11_addItem (va_wsS RX11 87 yX11_in wsX11_in) := goodIn_app (goodIn_of _ (by decide +kernel)) ggX11_addItem_X11_in
set_option maxRecDepth 20000 in
theorem ggX11_addItem_X11_many : GoodIn wsX11_addItem wsX11_many := goodIn_r _ [10, 11, 27, 28, 29, 30, 31, 32, 33, 34, 35, 36, 37, 38, 39, 40, 41, 42, 43, 44, 45, 46, 47, 48, 49, 50, 51, 52, 53, 54, 55, 56, 57, 58, 59, 60, 61, 62, 63, 64, 65, 66] (by decide +kernel) (by decide +kernel)
set_option maxRecDepth 20000 in
theorem gX11_addItem_X11_many : GoodIn wsX11_addItem (wsV RX11 83 RX11 yX11_many wsX11_many) := goodIn_app (goodIn_of _ (by decide +kernel)) ggX11_addItem_X11_many
set_option maxRecDepth 20000 in
theorem ggX11_addItem_X11_passes2 : GoodIn wsX11_addItem wsX11_passes2 := goodIn_r _ [15, 16, 27, 28, 29, 30, 31, 32, 33, 34, 35, 36, 37, 38, 39, 40, 41, 42, 43, 44, 45, 46, 47, 48, 49, 50, 51, 52, 53, 54, 55, 56, 57, 58, 59, 60, 61, 62, 63, 64, 65, 66] (by decide +kernel) (by decide +kernel)
set_option maxRecDepth 20000 in
theorem gX11_addItem_X11_passes2 : GoodIn wsX11_addItem (wsV RX11 7 RX11 yX11_passes2 wsX11_passes2) := goodIn_app (goodIn_of _ (by decide +kernel)) ggX11_addItem_X11_passes2
set_option maxRecDepth 20000 in
theorem ggX11_addItem_X11_remember : GoodIn wsX11_addItem wsX11_remember := goodIn_r _ [20, 21, 22, 2, 27, 28, 29, 30, 31, 32, 33, 34, 35, 36, 37, 38, 39, 40, 41, 42, 43, 44, 45, 46, 47, 48, 49, 50, 51, 52, 53, 54, 55, 56, 57, 58, 59, 60, 61, 62, 63, 64, 65, 66] (by decide +kernel) (by decide +kernel)
set_option maxRecDepth 20000 in
theorem gX11_addItem_X11_remember : GoodIn wsX11_addItem (wsV RX11 351 RX11 yX11_remember wsX11_remember) := goodIn_app (goodIn_of _ (by decide +kernel)) ggX11_addItem_X11_remember
set_option maxRecDepth 20000 in
theorem ggX11_addItem_X11_put : GoodIn wsX11_addItem wsX11_put := goodIn_r _ [26, 11, 27, 28, 29, 30, 31, 32, 33, 34, 35, 36, 37, 38, 39, 40, 41, 42, 43, 44, 45, 46, 47, 48, 49, 50, 51, 52, 53, 54, 55, 56, 57, 58, 59, 60, 61, 62, 63, 64, 65, 66] (by decide +kernel) (by decide +kernel)
set_option maxRecDepth 20000 in
theorem gX11_addItem_X11_put : GoodIn wsX11_addItem (wsV RX11 320 RX11 yX11_put wsX11_put) := goodIn_app (goodIn_of _ (by decide +kernel)) ggX11_addItem_X11_put
theorem dX11_addItem_0 : decode cX11_addItem 0 = .ok (.iload_n 1, 1) := by decide +kernel
theorem dX11_addItem_1 : decode cX11_addItem 1 = .ok (.i2l, 1) := by decide +kernel
theorem dX11_addItem_2 : decode cX11_addItem 2 = .ok (.lconst 0, 1) := by decide +kernel
theorem dX11_addItem_3 : decode cX11_addItem 3 = .ok (.ldc2_w 230, 3) := by decide +kernel
theorem dX11_addItem_6 : decode cX11_addItem 6 = .ok (.invokestatic 87, 3) := by decide +kernel
theorem dX11_addItem_9 : decode cX11_addItem 9 = .ok (.ifCond .eq 31, 3) := by decide +kernel
theorem dX11_addItem_12 : decode cX11_addItem 12 = .ok (.iload_n 2, 1) := by decide +kernel
theorem dX11_addItem_13 : decode cX11_addItem 13 = .ok (.i2l, 1) := by decide +kernel
theorem dX11_addItem_14 : decode cX11_addItem 14 = .ok (.lconst 0, 1) := by decide +kernel
theorem dX11_addItem_15 : decode cX11_addItem 15 = .ok (.ldc2_w 230, 3) := by decide +kernel
theorem dX11_addItem_18 : decode cX11_addItem 18 = .ok (.invokestatic 87, 3) := by decide +kernel
theorem dX11_addItem_21 : decode cX11_addItem 21 = .ok (.ifCond .eq 19, 3) := by decide +kernel
theorem dX11_addItem_24 : decode cX11_addItem 24 = .ok (.iload_n 3, 1) := by decide +kernel
theorem dX11_addItem_25 : decode cX11_addItem 25 = .ok (.i2l, 1) := by decide +kernel
theorem dX11_addItem_26 : decode cX11_addItem 26 = .ok (.lconst 0, 1) := by decide +kernel
theorem dX11_addItem_27 : decode cX11_addItem 27 = .ok (.ldc2_w 230, 3) := by decide +kernel
theorem dX11_addItem_30 : decode cX11_addItem 30 = .ok (.invokestatic 87, 3) := by decide +kernel
theorem dX11_addItem_33 : decode cX11_addItem 33 = .ok (.ifCond .eq 7, 3) := by decide +kernel
theorem dX11_addItem_36 : decode cX11_addItem 36 = .ok (.iconst 1, 1) := by decide +kernel
theorem dX11_addItem_37 : decode cX11_addItem 37 = .ok (.goto 4, 3) := by decide +kernel
theorem dX11_addItem_40 : decode cX11_addItem 40 = .ok (.iconst 0, 1) := by decide +kernel
theorem dX11_addItem_41 : decode cX11_addItem 41 = .ok (.istore 4, 2) := by decide +kernel
theorem dX11_addItem_43 : decode cX11_addItem 43 = .ok (.aload_n 0, 1) := by decide +kernel
theorem dX11_addItem_44 : decode cX11_addItem 44 = .ok (.iload 4, 2) := by decide +kernel
theorem dX11_addItem_46 : decode cX11_addItem 46 = .ok (.aload_n 0, 1) := by decide +kernel
theorem dX11_addItem_47 : decode cX11_addItem 47 = .ok (.invokevirtual 83, 3) := by decide +kernel
theorem dX11_addItem_50 : decode cX11_addItem 50 = .ok (.bipush 12, 2) := by decide +kernel
theorem dX11_addItem_52 : decode cX11_addItem 52 = .ok (.if_icmp .ge 7, 3) := by decide +kernel
theorem dX11_addItem_55 : decode cX11_addItem 55 = .ok (.iconst 1, 1) := by decide +kernel
theorem dX11_addItem_56 : decode cX11_addItem 56 = .ok (.goto 4, 3) := by decide +kernel
theorem dX11_addItem_59 : decode cX11_addItem 59 = .ok (.iconst 0, 1) := by decide +kernel
theorem dX11_addItem_60 : decode cX11_addItem 60 = .ok (.invokevirtual 7, 3) := by decide +kernel
theorem dX11_addItem_63 : decode cX11_addItem 63 = .ok (.ifCond .ne 5, 3) := by decide +kernel
theorem dX11_addItem_66 : decode cX11_addItem 66 = .ok (.iconst 0, 1) := by decide +kernel
theorem dX11_addItem_67 : decode cX11_addItem 67 = .ok (.ireturn, 1) := by decide +kernel
theorem dX11_addItem_68 : decode cX11_addItem 68 = .ok (.aload_n 0, 1) := by decide +kernel
theorem dX11_addItem_69 : decode cX11_addItem 69 = .ok (.invokevirtual 351, 3) := by decide +kernel
theorem dX11_addItem_72 : decode cX11_addItem 72 = .ok (.aload_n 0, 1) := by decide +kernel
theorem dX11_addItem_73 : decode cX11_addItem 73 = .ok (.invokevirtual 83, 3) := by decide +kernel
theorem dX11_addItem_76 : decode cX11_addItem 76 = .ok (.istore 5, 2) := by decide +kernel
theorem dX11_addItem_78 : decode cX11_addItem 78 = .ok (.aload_n 0, 1) := by decide +kernel
theorem dX11_addItem_79 : decode cX11_addItem 79 = .ok (.getfield 17, 3) := by decide +kernel
theorem dX11_addItem_82 : decode cX11_addItem 82 = .ok (.iconst 0, 1) := by decide +kernel
theorem dX11_addItem_83 : decode cX11_addItem 83 = .ok (.dup2, 1) := by decide +kernel
theorem dX11_addItem_84 : decode cX11_addItem 84 = .ok (.iaload, 1) := by decide +kernel
theorem dX11_addItem_85 : decode cX11_addItem 85 = .ok (.iconst 1, 1) := by decide +kernel
theorem dX11_addItem_86 : decode cX11_addItem 86 = .ok (.iadd, 1) := by decide +kernel
theorem dX11_addItem_87 : decode cX11_addItem 87 = .ok (.iastore, 1) := by decide +kernel
theorem dX11_addItem_88 : decode cX11_addItem 88 = .ok (.iconst 0, 1) := by decide +kernel
theorem dX11_addItem_89 : decode cX11_addItem 89 = .ok (.istore 6, 2) := by decide +kernel
theorem dX11_addItem_91 : decode cX11_addItem 91 = .ok (.iload 6, 2) := by decide +kernel
theorem dX11_addItem_93 : decode cX11_addItem 93 = .ok (.iconst 5, 1) := by decide +kernel
theorem dX11_addItem_94 : decode cX11_addItem 94 = .ok (.if_icmp .ge 18, 3) := by decide +kernel
theorem dX11_addItem_97 : decode cX11_addItem 97 = .ok (.aload_n 0, 1) := by decide +kernel
theorem dX11_addItem_98 : decode cX11_addItem 98 = .ok (.iload 5, 2) := by decide +kernel
theorem dX11_addItem_100 : decode cX11_addItem 100 = .ok (.iload 6, 2) := by decide +kernel
theorem dX11_addItem_102 : decode cX11_addItem 102 = .ok (.iconst 0, 1) := by decide +kernel
theorem dX11_addItem_103 : decode cX11_addItem 103 = .ok (.invokevirtual 320, 3) := by decide +kernel
theorem dX11_addItem_106 : decode cX11_addItem 106 = .ok (.iinc 6 1, 3) := by decide +kernel
theorem dX11_addItem_109 : decode cX11_addItem 109 = .ok (.goto (-18), 3) := by decide +kernel
theorem dX11_addItem_112 : decode cX11_addItem 112 = .ok (.aload_n 0, 1) := by decide +kernel
theorem dX11_addItem_113 : decode cX11_addItem 113 = .ok (.iload 5, 2) := by decide +kernel
theorem dX11_addItem_115 : decode cX11_addItem 115 = .ok (.iconst 0, 1) := by decide +kernel
theorem dX11_addItem_116 : decode cX11_addItem 116 = .ok (.iload_n 1, 1) := by decide +kernel
theorem dX11_addItem_117 : decode cX11_addItem 117 = .ok (.invokevirtual 320, 3) := by decide +kernel
theorem dX11_addItem_120 : decode cX11_addItem 120 = .ok (.aload_n 0, 1) := by decide +kernel
theorem dX11_addItem_121 : decode cX11_addItem 121 = .ok (.iload 5, 2) := by decide +kernel
theorem dX11_addItem_123 : decode cX11_addItem 123 = .ok (.iconst 1, 1) := by decide +kernel
theorem dX11_addItem_124 : decode cX11_addItem 124 = .ok (.iload_n 2, 1) := by decide +kernel
theorem dX11_addItem_125 : decode cX11_addItem 125 = .ok (.invokevirtual 320, 3) := by decide +kernel
theorem dX11_addItem_128 : decode cX11_addItem 128 = .ok (.aload_n 0, 1) := by decide +kernel
theorem dX11_addItem_129 : decode cX11_addItem 129 = .ok (.iload 5, 2) := by decide +kernel
theorem dX11_addItem_131 : decode cX11_addItem 131 = .ok (.iconst 2, 1) := by decide +kernel
theorem dX11_addItem_132 : decode cX11_addItem 132 = .ok (.iload_n 3, 1) := by decide +kernel
theorem dX11_addItem_133 : decode cX11_addItem 133 = .ok (.invokevirtual 320, 3) := by decide +kernel
theorem dX11_addItem_136 : decode cX11_addItem 136 = .ok (.iload 5, 2) := by decide +kernel
theorem dX11_addItem_138 : decode cX11_addItem 138 = .ok (.ireturn, 1) := by decide +kernel
theorem dX11_without_0 : decode cX11_without 0 = .ok (.iload_n 0, 1) := by decide +kernel
theorem dX11_without_1 : decode cX11_without 1 = .ok (.iconst 1, 1) := by decide +kernel
theorem dX11_without_2 : decode cX11_without 2 = .ok (.iload_n 1, 1) := by decide +kernel
theorem dX11_without_3 : decode cX11_without 3 = .ok (.ishl, 1) := by decide +kernel
theorem dX11_without_4 : decode cX11_without 4 = .ok (.iconst 1, 1) := by decide +kernel
theorem dX11_without_5 : decode cX11_without 5 = .ok (.isub, 1) := by decide +kernel
theorem dX11_without_6 : decode cX11_without 6 = .ok (.iand, 1) := by decide +kernel
theorem dX11_without_7 : decode cX11_without 7 = .ok (.istore_n 2, 1) := by decide +kernel
theorem dX11_without_8 : decode cX11_without 8 = .ok (.iload_n 2, 1) := by decide +kernel
theorem dX11_without_9 : decode cX11_without 9 = .ok (.iload_n 0, 1) := by decide +kernel
theorem dX11_without_10 : decode cX11_without 10 = .ok (.iload_n 1, 1) := by decide +kernel
theorem dX11_without_11 : decode cX11_without 11 = .ok (.iconst 1, 1) := by decide +kernel
theorem dX11_without_12 : decode cX11_without 12 = .ok (.iadd, 1) := by decide +kernel
theorem dX11_without_13 : decode cX11_without 13 = .ok (.ishr, 1) := by decide +kernel
theorem dX11_without_14 : decode cX11_without 14 = .ok (.iload_n 1, 1) := by decide +kernel
theorem dX11_without_15 : decode cX11_without 15 = .ok (.ishl, 1) := by decide +kernel
theorem dX11_without_16 : decode cX11_without 16 = .ok (.ior, 1) := by decide +kernel
theorem dX11_without_17 : decode cX11_without 17 = .ok (.ireturn, 1) := by decide +kernel
set_option maxRecDepth 20000 in
theorem ggX11_dropItem_X11_isItem : GoodIn wsX11_dropItem wsX11_isItem := goodIn_r _ [6, 7, 8, 9, 5, 10, 11, 12, 13, 14, 41, 42, 43, 44, 45, 46, 47, 48, 49, 50, 51, 52, 53, 54, 55, 56, 57, 58, 59, 60, 61, 62, 63, 64, 65, 66, 67, 68, 69, 70, 71, 72, 73, 74, 75, 76, 77, 78, 79, 80] (by decide +kernel) (by decide +kernel)
set_option maxRecDepth 20000 in
theorem gX11_dropItem_X11_isItem : GoodIn wsX11_dropItem (wsV RX11 359 RX11 yX11_isItem wsX11_isItem) := goodIn_app (goodIn_of _ (by decide +kernel)) ggX11_dropItem_X11_isItem
set_option maxRecDepth 20000 in
theorem ggX11_dropItem_X11_passes : GoodIn wsX11_dropItem wsX11_passes := goodIn_r _ [18, 19, 20, 21, 5, 22, 23, 41, 42, 43, 44, 45, 46, 47, 48, 49, 50, 51, 52, 53, 54, 55, 56, 57, 58, 59, 60, 61, 62, 63, 64, 65, 66, 67, 68, 69, 70, 71, 72, 73, 74, 75, 76, 77, 78, 79, 80] (by decide +kernel) (by decide +kernel)
set_option maxRecDepth 20000 in
theorem gX11_dropItem_X11_passes : GoodIn wsX11_dropItem (wsV RX11 235 RX11 yX11_passes wsX11_passes) := goodIn_app (goodIn_of _ (by decide +kernel)) ggX11_dropItem_X11_passes
set_option maxRecDepth 20000 in
theorem ggX11_dropItem_X11_remember : GoodIn wsX11_dropItem wsX11_remember := goodIn_r _ [27, 28, 29, 1, 41, 42, 43, 44, 45, 46, 47, 48, 49, 50, 51, 52, 53, 54, 55, 56, 57, 58, 59, 60, 61, 62, 63, 64, 65, 66, 67, 68, 69, 70, 71, 72, 73, 74, 75, 76, 77, 78, 79, 80] (by decide +kernel) (by decide +kernel)
set_option maxRecDepth 20000 in
theorem gX11_dropItem_X11_remember : GoodIn wsX11_dropItem (wsV RX11 351 RX11 yX11_remember wsX11_remember) := goodIn_app (goodIn_of _ (by decide +kernel)) ggX11_dropItem_X11_remember
set_option maxRecDepth 20000 in
theorem ggX11_dropItem_X11_many : GoodIn wsX11_dropItem wsX11_many := goodIn_r _ [10, 11, 41, 42, 43, 44, 45, 46, 47, 48, 49, 50, 51, 52, 53, 54, 55, 56, 57, 58, 59, 60, 61, 62, 63, 64, 65, 66, 67, 68, 69, 70, 71, 72, 73, 74, 75, 76, 77, 78, 79, 80] (by decide +kernel) (by decide +kernel)
set_option maxRecDepth 20000 in
theorem gX11_dropItem_X11_many : GoodIn wsX11_dropItem (wsV RX11 83 RX11 yX11_many wsX11_many) := goodIn_app (goodIn_of _ (by decide +kernel)) ggX11_dropItem_X11_many
set_option maxRecDepth 20000 in
theorem ggX11_dropItem_X11_ofItem : GoodIn wsX11_dropItem wsX11_ofItem := goodIn_r _ [33, 11, 41, 42, 43, 44, 45, 46, 47, 48, 49, 50, 51, 52, 53, 54, 55, 56, 57, 58, 59, 60, 61, 62, 63, 64, 65, 66, 67, 68, 69, 70, 71, 72, 73, 74, 75, 76, 77, 78, 79, 80] (by decide +kernel) (by decide +kernel)
set_option maxRecDepth 20000 in
theorem gX11_dropItem_X11_ofItem : GoodIn wsX11_dropItem (wsV RX11 98 RX11 yX11_ofItem wsX11_ofItem) := goodIn_app (goodIn_of _ (by decide +kernel)) ggX11_dropItem_X11_ofItem
set_option maxRecDepth 20000 in
theorem ggX11_dropItem_X11_put : GoodIn wsX11_dropItem wsX11_put := goodIn_r _ [37, 11, 41, 42, 43, 44, 45, 46, 47, 48, 49, 50, 51, 52, 53, 54, 55, 56, 57, 58, 59, 60, 61, 62, 63, 64, 65, 66, 67, 68, 69, 70, 71, 72, 73, 74, 75, 76, 77, 78, 79, 80] (by decide +kernel) (by decide +kernel)
set_option maxRecDepth 20000 in
theorem gX11_dropItem_X11_put : GoodIn wsX11_dropItem (wsV RX11 320 RX11 yX11_put wsX11_put) := goodIn_app (goodIn_of _ (by decide +kernel)) ggX11_dropItem_X11_put
set_option maxRecDepth 20000 in
theorem ggX11_dropItem_X11_without : GoodIn wsX11_dropItem wsX11_without := goodIn_r _ [40] (by decide +kernel) (by decide +kernel)
set_option maxRecDepth 20000 in
theorem gX11_dropItem_X11_without : GoodIn wsX11_dropItem (va_wsS RX11 415 yX11_without wsX11_without) := goodIn_app (goodIn_of _ (by decide +kernel)) ggX11_dropItem_X11_without
theorem dX11_dropItem_0 : decode cX11_dropItem 0 = .ok (.aload_n 0, 1) := by decide +kernel
theorem dX11_dropItem_1 : decode cX11_dropItem 1 = .ok (.aload_n 0, 1) := by decide +kernel
theorem dX11_dropItem_2 : decode cX11_dropItem 2 = .ok (.iload_n 1, 1) := by decide +kernel
theorem dX11_dropItem_3 : decode cX11_dropItem 3 = .ok (.invokevirtual 359, 3) := by decide +kernel
theorem dX11_dropItem_6 : decode cX11_dropItem 6 = .ok (.invokevirtual 235, 3) := by decide +kernel
theorem dX11_dropItem_9 : decode cX11_dropItem 9 = .ok (.ifCond .ne 5, 3) := by decide +kernel
theorem dX11_dropItem_12 : decode cX11_dropItem 12 = .ok (.iconst 0, 1) := by decide +kernel
theorem dX11_dropItem_13 : decode cX11_dropItem 13 = .ok (.ireturn, 1) := by decide +kernel
theorem dX11_dropItem_14 : decode cX11_dropItem 14 = .ok (.aload_n 0, 1) := by decide +kernel
theorem dX11_dropItem_15 : decode cX11_dropItem 15 = .ok (.invokevirtual 351, 3) := by decide +kernel
theorem dX11_dropItem_18 : decode cX11_dropItem 18 = .ok (.aload_n 0, 1) := by decide +kernel
theorem dX11_dropItem_19 : decode cX11_dropItem 19 = .ok (.getfield 17, 3) := by decide +kernel
theorem dX11_dropItem_22 : decode cX11_dropItem 22 = .ok (.iconst 0, 1) := by decide +kernel
theorem dX11_dropItem_23 : decode cX11_dropItem 23 = .ok (.dup2, 1) := by decide +kernel
theorem dX11_dropItem_24 : decode cX11_dropItem 24 = .ok (.iaload, 1) := by decide +kernel
theorem dX11_dropItem_25 : decode cX11_dropItem 25 = .ok (.iconst 1, 1) := by decide +kernel
theorem dX11_dropItem_26 : decode cX11_dropItem 26 = .ok (.isub, 1) := by decide +kernel
theorem dX11_dropItem_27 : decode cX11_dropItem 27 = .ok (.iastore, 1) := by decide +kernel
theorem dX11_dropItem_28 : decode cX11_dropItem 28 = .ok (.iload_n 1, 1) := by decide +kernel
theorem dX11_dropItem_29 : decode cX11_dropItem 29 = .ok (.istore_n 2, 1) := by decide +kernel
theorem dX11_dropItem_30 : decode cX11_dropItem 30 = .ok (.iload_n 2, 1) := by decide +kernel
theorem dX11_dropItem_31 : decode cX11_dropItem 31 = .ok (.aload_n 0, 1) := by decide +kernel
theorem dX11_dropItem_32 : decode cX11_dropItem 32 = .ok (.invokevirtual 83, 3) := by decide +kernel
theorem dX11_dropItem_35 : decode cX11_dropItem 35 = .ok (.if_icmp .ge 36, 3) := by decide +kernel
theorem dX11_dropItem_38 : decode cX11_dropItem 38 = .ok (.iconst 0, 1) := by decide +kernel
theorem dX11_dropItem_39 : decode cX11_dropItem 39 = .ok (.istore_n 3, 1) := by decide +kernel
theorem dX11_dropItem_40 : decode cX11_dropItem 40 = .ok (.iload_n 3, 1) := by decide +kernel
theorem dX11_dropItem_41 : decode cX11_dropItem 41 = .ok (.iconst 5, 1) := by decide +kernel
theorem dX11_dropItem_42 : decode cX11_dropItem 42 = .ok (.if_icmp .ge 23, 3) := by decide +kernel
theorem dX11_dropItem_45 : decode cX11_dropItem 45 = .ok (.aload_n 0, 1) := by decide +kernel
theorem dX11_dropItem_46 : decode cX11_dropItem 46 = .ok (.iload_n 2, 1) := by decide +kernel
theorem dX11_dropItem_47 : decode cX11_dropItem 47 = .ok (.iload_n 3, 1) := by decide +kernel
theorem dX11_dropItem_48 : decode cX11_dropItem 48 = .ok (.aload_n 0, 1) := by decide +kernel
theorem dX11_dropItem_49 : decode cX11_dropItem 49 = .ok (.iload_n 2, 1) := by decide +kernel
theorem dX11_dropItem_50 : decode cX11_dropItem 50 = .ok (.iconst 1, 1) := by decide +kernel
theorem dX11_dropItem_51 : decode cX11_dropItem 51 = .ok (.iadd, 1) := by decide +kernel
theorem dX11_dropItem_52 : decode cX11_dropItem 52 = .ok (.iload_n 3, 1) := by decide +kernel
theorem dX11_dropItem_53 : decode cX11_dropItem 53 = .ok (.invokevirtual 98, 3) := by decide +kernel
theorem dX11_dropItem_56 : decode cX11_dropItem 56 = .ok (.invokevirtual 320, 3) := by decide +kernel
theorem dX11_dropItem_59 : decode cX11_dropItem 59 = .ok (.iinc 3 1, 3) := by decide +kernel
theorem dX11_dropItem_62 : decode cX11_dropItem 62 = .ok (.goto (-22), 3) := by decide +kernel
theorem dX11_dropItem_65 : decode cX11_dropItem 65 = .ok (.iinc 2 1, 3) := by decide +kernel
theorem dX11_dropItem_68 : decode cX11_dropItem 68 = .ok (.goto (-38), 3) := by decide +kernel
theorem dX11_dropItem_71 : decode cX11_dropItem 71 = .ok (.iconst 0, 1) := by decide +kernel
theorem dX11_dropItem_72 : decode cX11_dropItem 72 = .ok (.istore_n 2, 1) := by decide +kernel
theorem dX11_dropItem_73 : decode cX11_dropItem 73 = .ok (.iload_n 2, 1) := by decide +kernel
theorem dX11_dropItem_74 : decode cX11_dropItem 74 = .ok (.aload_n 0, 1) := by decide +kernel
theorem dX11_dropItem_75 : decode cX11_dropItem 75 = .ok (.invokevirtual 83, 3) := by decide +kernel
theorem dX11_dropItem_78 : decode cX11_dropItem 78 = .ok (.if_icmp .ge 41, 3) := by decide +kernel
theorem dX11_dropItem_81 : decode cX11_dropItem 81 = .ok (.aload_n 0, 1) := by decide +kernel
theorem dX11_dropItem_82 : decode cX11_dropItem 82 = .ok (.iload_n 2, 1) := by decide +kernel
theorem dX11_dropItem_83 : decode cX11_dropItem 83 = .ok (.iconst 3, 1) := by decide +kernel
theorem dX11_dropItem_84 : decode cX11_dropItem 84 = .ok (.aload_n 0, 1) := by decide +kernel
theorem dX11_dropItem_85 : decode cX11_dropItem 85 = .ok (.iload_n 2, 1) := by decide +kernel
theorem dX11_dropItem_86 : decode cX11_dropItem 86 = .ok (.iconst 3, 1) := by decide +kernel
theorem dX11_dropItem_87 : decode cX11_dropItem 87 = .ok (.invokevirtual 98, 3) := by decide +kernel
theorem dX11_dropItem_90 : decode cX11_dropItem 90 = .ok (.iload_n 1, 1) := by decide +kernel
theorem dX11_dropItem_91 : decode cX11_dropItem 91 = .ok (.invokestatic 415, 3) := by decide +kernel
theorem dX11_dropItem_94 : decode cX11_dropItem 94 = .ok (.invokevirtual 320, 3) := by decide +kernel
theorem dX11_dropItem_97 : decode cX11_dropItem 97 = .ok (.aload_n 0, 1) := by decide +kernel
theorem dX11_dropItem_98 : decode cX11_dropItem 98 = .ok (.iload_n 2, 1) := by decide +kernel
theorem dX11_dropItem_99 : decode cX11_dropItem 99 = .ok (.iconst 4, 1) := by decide +kernel
theorem dX11_dropItem_100 : decode cX11_dropItem 100 = .ok (.aload_n 0, 1) := by decide +kernel
theorem dX11_dropItem_101 : decode cX11_dropItem 101 = .ok (.iload_n 2, 1) := by decide +kernel
theorem dX11_dropItem_102 : decode cX11_dropItem 102 = .ok (.iconst 4, 1) := by decide +kernel
theorem dX11_dropItem_103 : decode cX11_dropItem 103 = .ok (.invokevirtual 98, 3) := by decide +kernel
theorem dX11_dropItem_106 : decode cX11_dropItem 106 = .ok (.iload_n 1, 1) := by decide +kernel
theorem dX11_dropItem_107 : decode cX11_dropItem 107 = .ok (.invokestatic 415, 3) := by decide +kernel
theorem dX11_dropItem_110 : decode cX11_dropItem 110 = .ok (.invokevirtual 320, 3) := by decide +kernel
theorem dX11_dropItem_113 : decode cX11_dropItem 113 = .ok (.iinc 2 1, 3) := by decide +kernel
theorem dX11_dropItem_116 : decode cX11_dropItem 116 = .ok (.goto (-43), 3) := by decide +kernel
theorem dX11_dropItem_119 : decode cX11_dropItem 119 = .ok (.aload_n 0, 1) := by decide +kernel
theorem dX11_dropItem_120 : decode cX11_dropItem 120 = .ok (.getfield 17, 3) := by decide +kernel
theorem dX11_dropItem_123 : decode cX11_dropItem 123 = .ok (.iconst 3, 1) := by decide +kernel
theorem dX11_dropItem_124 : decode cX11_dropItem 124 = .ok (.aload_n 0, 1) := by decide +kernel
theorem dX11_dropItem_125 : decode cX11_dropItem 125 = .ok (.getfield 17, 3) := by decide +kernel
theorem dX11_dropItem_128 : decode cX11_dropItem 128 = .ok (.iconst 3, 1) := by decide +kernel
theorem dX11_dropItem_129 : decode cX11_dropItem 129 = .ok (.iaload, 1) := by decide +kernel
theorem dX11_dropItem_130 : decode cX11_dropItem 130 = .ok (.iload_n 1, 1) := by decide +kernel
theorem dX11_dropItem_131 : decode cX11_dropItem 131 = .ok (.invokestatic 415, 3) := by decide +kernel
theorem dX11_dropItem_134 : decode cX11_dropItem 134 = .ok (.iastore, 1) := by decide +kernel
theorem dX11_dropItem_135 : decode cX11_dropItem 135 = .ok (.aload_n 0, 1) := by decide +kernel
theorem dX11_dropItem_136 : decode cX11_dropItem 136 = .ok (.getfield 17, 3) := by decide +kernel
theorem dX11_dropItem_139 : decode cX11_dropItem 139 = .ok (.iconst 4, 1) := by decide +kernel
theorem dX11_dropItem_140 : decode cX11_dropItem 140 = .ok (.aload_n 0, 1) := by decide +kernel
theorem dX11_dropItem_141 : decode cX11_dropItem 141 = .ok (.getfield 17, 3) := by decide +kernel
theorem dX11_dropItem_144 : decode cX11_dropItem 144 = .ok (.iconst 4, 1) := by decide +kernel
theorem dX11_dropItem_145 : decode cX11_dropItem 145 = .ok (.iaload, 1) := by decide +kernel
theorem dX11_dropItem_146 : decode cX11_dropItem 146 = .ok (.iload_n 1, 1) := by decide +kernel
theorem dX11_dropItem_147 : decode cX11_dropItem 147 = .ok (.invokestatic 415, 3) := by decide +kernel
theorem dX11_dropItem_150 : decode cX11_dropItem 150 = .ok (.iastore, 1) := by decide +kernel
theorem dX11_dropItem_151 : decode cX11_dropItem 151 = .ok (.aload_n 0, 1) := by decide +kernel
theorem dX11_dropItem_152 : decode cX11_dropItem 152 = .ok (.getfield 17, 3) := by decide +kernel
theorem dX11_dropItem_155 : decode cX11_dropItem 155 = .ok (.iconst 5, 1) := by decide +kernel
theorem dX11_dropItem_156 : decode cX11_dropItem 156 = .ok (.aload_n 0, 1) := by decide +kernel
theorem dX11_dropItem_157 : decode cX11_dropItem 157 = .ok (.getfield 17, 3) := by decide +kernel
theorem dX11_dropItem_160 : decode cX11_dropItem 160 = .ok (.iconst 5, 1) := by decide +kernel
theorem dX11_dropItem_161 : decode cX11_dropItem 161 = .ok (.iaload, 1) := by decide +kernel
theorem dX11_dropItem_162 : decode cX11_dropItem 162 = .ok (.iload_n 1, 1) := by decide +kernel
theorem dX11_dropItem_163 : decode cX11_dropItem 163 = .ok (.invokestatic 415, 3) := by decide +kernel
theorem dX11_dropItem_166 : decode cX11_dropItem 166 = .ok (.iastore, 1) := by decide +kernel
theorem dX11_dropItem_167 : decode cX11_dropItem 167 = .ok (.aload_n 0, 1) := by decide +kernel
theorem dX11_dropItem_168 : decode cX11_dropItem 168 = .ok (.invokevirtual 83, 3) := by decide +kernel
theorem dX11_dropItem_171 : decode cX11_dropItem 171 = .ok (.ireturn, 1) := by decide +kernel
set_option maxRecDepth 20000 in
theorem ggX11_setItem_X11_isItem : GoodIn wsX11_setItem wsX11_isItem := goodIn_r _ [7, 8, 9, 10, 6, 11, 12, 13, 14, 15, 36, 37, 38, 39, 40, 41, 42, 43, 44, 45, 46, 47, 48, 49, 50, 51, 52, 53, 54, 55, 56, 57, 58, 59, 60, 61, 62, 63, 64, 65, 66, 67, 68, 69, 70, 71, 72, 73, 74, 75] (by decide +kernel) (by decide +kernel)
set_option maxRecDepth 20000 in
theorem gX11_setItem_X11_isItem : GoodIn wsX11_setItem (wsV RX11 359 RX11 yX11_isItem wsX11_isItem) := goodIn_app (goodIn_of _ (by decide +kernel)) ggX11_setItem_X11_isItem
set_option maxRecDepth 20000 in
theorem ggX11_setItem_X11_in : GoodIn wsX11_setItem wsX11_in := goodIn_r _ [15] (by decide +kernel) (by decide +kernel)
set_option maxRecDepth 20000 in
theorem gX11_setItem_X11_in : GoodIn wsX11_setItem (va_wsS RX11 87 yX11_in wsX11_in) := goodIn_app (goodIn_of _ (by decide +kernel)) ggX11_setItem_X11_in
set_option maxRecDepth 20000 in
theorem ggX11_setItem_X11_passes2 : GoodIn wsX11_setItem wsX11_passes2 := goodIn_r _ [19, 20, 36, 37, 38, 39, 40, 41, 42, 43, 44, 45, 46, 47, 48, 49, 50, 51, 52, 53, 54, 55, 56, 57, 58, 59, 60, 61, 62, 63, 64, 65, 66, 67, 68, 69, 70, 71, 72, 73, 74, 75] (by decide +kernel) (by decide +kernel)
set_option maxRecDepth 20000 in
theorem gX11_setItem_X11_passes2 : GoodIn wsX11_setItem (wsV RX11 7 RX11 yX11_passes2 wsX11_passes2) := goodIn_app (goodIn_of _ (by decide +kernel)) ggX11_setItem_X11_passes2
set_option maxRecDepth 20000 in
theorem ggX11_setItem_X11_remember : GoodIn wsX11_setItem wsX11_remember := goodIn_r _ [24, 25, 26, 27, 36, 37, 38, 39, 40, 41, 42, 43, 44, 45, 46, 47, 48, 49, 50, 51, 52, 53, 54, 55, 56, 57, 58, 59, 60, 61, 62, 63, 64, 65, 66, 67, 68, 69, 70, 71, 72, 73, 74, 75] (by decide +kernel) (by decide +kernel)
set_option maxRecDepth 20000 in
theorem gX11_setItem_X11_remember : GoodIn wsX11_setItem (wsV RX11 351 RX11 yX11_remember wsX11_remember) := goodIn_app (goodIn_of _ (by decide +kernel)) ggX11_setItem_X11_remember
set_option maxRecDepth 20000 in
theorem ggX11_setItem_X11_ofItem : GoodIn wsX11_setItem wsX11_ofItem := goodIn_r _ [31, 12, 36, 37, 38, 39, 40, 41, 42, 43, 44, 45, 46, 47, 48, 49, 50, 51, 52, 53, 54, 55, 56, 57, 58, 59, 60, 61, 62, 63, 64, 65, 66, 67, 68, 69, 70, 71, 72, 73, 74, 75] (by decide +kernel) (by decide +kernel)
set_option maxRecDepth 20000 in
theorem gX11_setItem_X11_ofItem : GoodIn wsX11_setItem (wsV RX11 98 RX11 yX11_ofItem wsX11_ofItem) := goodIn_app (goodIn_of _ (by decide +kernel)) ggX11_setItem_X11_ofItem
set_option maxRecDepth 20000 in
theorem ggX11_setItem_X11_put : GoodIn wsX11_setItem wsX11_put := goodIn_r _ [35, 12, 36, 37, 38, 39, 40, 41, 42, 43, 44, 45, 46, 47, 48, 49, 50, 51, 52, 53, 54, 55, 56, 57, 58, 59, 60, 61, 62, 63, 64, 65, 66, 67, 68, 69, 70, 71, 72, 73, 74, 75] (by decide +kernel) (by decide +kernel)
set_option maxRecDepth 20000 in
theorem gX11_setItem_X11_put : GoodIn wsX11_setItem (wsV RX11 320 RX11 yX11_put wsX11_put) := goodIn_app (goodIn_of _ (by decide +kernel)) ggX11_setItem_X11_put
theorem dX11_setItem_0 : decode cX11_setItem 0 = .ok (.aload_n 0, 1) := by decide +kernel
theorem dX11_setItem_1 : decode cX11_setItem 1 = .ok (.aload_n 0, 1) := by decide +kernel
theorem dX11_setItem_2 : decode cX11_setItem 2 = .ok (.iload_n 1, 1) := by decide +kernel
theorem dX11_setItem_3 : decode cX11_setItem 3 = .ok (.invokevirtual 359, 3) := by decide +kernel
theorem dX11_setItem_6 : decode cX11_setItem 6 = .ok (.iload_n 2, 1) := by decide +kernel
theorem dX11_setItem_7 : decode cX11_setItem 7 = .ok (.i2l, 1) := by decide +kernel
theorem dX11_setItem_8 : decode cX11_setItem 8 = .ok (.lconst 0, 1) := by decide +kernel
theorem dX11_setItem_9 : decode cX11_setItem 9 = .ok (.ldc2_w 367, 3) := by decide +kernel
theorem dX11_setItem_12 : decode cX11_setItem 12 = .ok (.invokestatic 87, 3) := by decide +kernel
theorem dX11_setItem_15 : decode cX11_setItem 15 = .ok (.ifCond .eq 19, 3) := by decide +kernel
theorem dX11_setItem_18 : decode cX11_setItem 18 = .ok (.iload_n 3, 1) := by decide +kernel
theorem dX11_setItem_19 : decode cX11_setItem 19 = .ok (.i2l, 1) := by decide +kernel
theorem dX11_setItem_20 : decode cX11_setItem 20 = .ok (.lconst 0, 1) := by decide +kernel
theorem dX11_setItem_21 : decode cX11_setItem 21 = .ok (.ldc2_w 230, 3) := by decide +kernel
theorem dX11_setItem_24 : decode cX11_setItem 24 = .ok (.invokestatic 87, 3) := by decide +kernel
theorem dX11_setItem_27 : decode cX11_setItem 27 = .ok (.ifCond .eq 7, 3) := by decide +kernel
theorem dX11_setItem_30 : decode cX11_setItem 30 = .ok (.iconst 1, 1) := by decide +kernel
theorem dX11_setItem_31 : decode cX11_setItem 31 = .ok (.goto 4, 3) := by decide +kernel
theorem dX11_setItem_34 : decode cX11_setItem 34 = .ok (.iconst 0, 1) := by decide +kernel
theorem dX11_setItem_35 : decode cX11_setItem 35 = .ok (.invokevirtual 7, 3) := by decide +kernel
theorem dX11_setItem_38 : decode cX11_setItem 38 = .ok (.ifCond .ne 5, 3) := by decide +kernel
theorem dX11_setItem_41 : decode cX11_setItem 41 = .ok (.iconst 0, 1) := by decide +kernel
theorem dX11_setItem_42 : decode cX11_setItem 42 = .ok (.ireturn, 1) := by decide +kernel
theorem dX11_setItem_43 : decode cX11_setItem 43 = .ok (.aload_n 0, 1) := by decide +kernel
theorem dX11_setItem_44 : decode cX11_setItem 44 = .ok (.invokevirtual 351, 3) := by decide +kernel
theorem dX11_setItem_47 : decode cX11_setItem 47 = .ok (.aload_n 0, 1) := by decide +kernel
theorem dX11_setItem_48 : decode cX11_setItem 48 = .ok (.iload_n 1, 1) := by decide +kernel
theorem dX11_setItem_49 : decode cX11_setItem 49 = .ok (.iload_n 2, 1) := by decide +kernel
theorem dX11_setItem_50 : decode cX11_setItem 50 = .ok (.invokevirtual 98, 3) := by decide +kernel
theorem dX11_setItem_53 : decode cX11_setItem 53 = .ok (.istore 4, 2) := by decide +kernel
theorem dX11_setItem_55 : decode cX11_setItem 55 = .ok (.aload_n 0, 1) := by decide +kernel
theorem dX11_setItem_56 : decode cX11_setItem 56 = .ok (.iload_n 1, 1) := by decide +kernel
theorem dX11_setItem_57 : decode cX11_setItem 57 = .ok (.iload_n 2, 1) := by decide +kernel
theorem dX11_setItem_58 : decode cX11_setItem 58 = .ok (.iload_n 3, 1) := by decide +kernel
theorem dX11_setItem_59 : decode cX11_setItem 59 = .ok (.invokevirtual 320, 3) := by decide +kernel
theorem dX11_setItem_62 : decode cX11_setItem 62 = .ok (.iload 4, 2) := by decide +kernel
theorem dX11_setItem_64 : decode cX11_setItem 64 = .ok (.ireturn, 1) := by decide +kernel
set_option maxRecDepth 20000 in
theorem ggX11_set_X11_remember : GoodIn wsX11_set wsX11_remember := goodIn_r _ [6, 7, 8, 1, 9, 10, 11, 12, 13, 14, 15, 16, 17, 18, 19, 20, 21, 22, 23, 24, 25, 26, 27, 28, 29, 30, 31, 32, 33, 34, 35, 36, 37, 38, 39, 40, 41, 42, 43, 44, 45, 46, 47, 48] (by decide +kernel) (by decide +kernel)
set_option maxRecDepth 20000 in
theorem gX11_set_X11_remember : GoodIn wsX11_set (wsV RX11 351 RX11 yX11_remember wsX11_remember) := goodIn_app (goodIn_of _ (by decide +kernel)) ggX11_set_X11_remember
theorem dX11_set_0 : decode cX11_set 0 = .ok (.aload_n 0, 1) := by decide +kernel
theorem dX11_set_1 : decode cX11_set 1 = .ok (.invokevirtual 351, 3) := by decide +kernel
theorem dX11_set_4 : decode cX11_set 4 = .ok (.aload_n 0, 1) := by decide +kernel
theorem dX11_set_5 : decode cX11_set 5 = .ok (.getfield 17, 3) := by decide +kernel
theorem dX11_set_8 : decode cX11_set 8 = .ok (.iload_n 1, 1) := by decide +kernel
theorem dX11_set_9 : decode cX11_set 9 = .ok (.iaload, 1) := by decide +kernel
theorem dX11_set_10 : decode cX11_set 10 = .ok (.istore_n 3, 1) := by decide +kernel
theorem dX11_set_11 : decode cX11_set 11 = .ok (.aload_n 0, 1) := by decide +kernel
theorem dX11_set_12 : decode cX11_set 12 = .ok (.getfield 17, 3) := by decide +kernel
theorem dX11_set_15 : decode cX11_set 15 = .ok (.iload_n 1, 1) := by decide +kernel
theorem dX11_set_16 : decode cX11_set 16 = .ok (.iload_n 2, 1) := by decide +kernel
theorem dX11_set_17 : decode cX11_set 17 = .ok (.iastore, 1) := by decide +kernel
theorem dX11_set_18 : decode cX11_set 18 = .ok (.iload_n 3, 1) := by decide +kernel
theorem dX11_set_19 : decode cX11_set 19 = .ok (.ireturn, 1) := by decide +kernel
set_option maxRecDepth 20000 in
theorem ggX11_setCapacity_X11_in : GoodIn wsX11_setCapacity wsX11_in := goodIn_r _ [5] (by decide +kernel) (by decide +kernel)
set_option maxRecDepth 20000 in
theorem gX11_setCapacity_X11_in : GoodIn wsX11_setCapacity (va_wsS RX11 87 yX11_in wsX11_in) := goodIn_app (goodIn_of _ (by decide +kernel)) ggX11_setCapacity_X11_in
set_option maxRecDepth 20000 in
theorem ggX11_setCapacity_X11_passes : GoodIn wsX11_setCapacity wsX11_passes := goodIn_r _ [9, 10, 11, 12, 4, 13, 14, 26, 27, 28, 29, 30, 31, 32, 33, 34, 35, 36, 37, 38, 39, 40, 41, 42, 43, 44, 45, 46, 47, 48, 49, 50, 51, 52, 53, 54, 55, 56, 57, 58, 59, 60, 61, 62, 63, 64, 65] (by decide +kernel) (by decide +kernel)
set_option maxRecDepth 20000 in
theorem gX11_setCapacity_X11_passes : GoodIn wsX11_setCapacity (wsV RX11 235 RX11 yX11_passes wsX11_passes) := goodIn_app (goodIn_of _ (by decide +kernel)) ggX11_setCapacity_X11_passes
set_option maxRecDepth 20000 in
theorem ggX11_setCapacity_X11_set : GoodIn wsX11_setCapacity wsX11_set := goodIn_r _ [18, 19, 20, 21, 22, 4, 23, 24, 25, 26, 27, 28, 29, 30, 31, 32, 33, 34, 35, 36, 37, 38, 39, 40, 41, 42, 43, 44, 45, 46, 47, 48, 49, 50, 51, 52, 53, 54, 55, 56, 57, 58, 59, 60, 61, 62, 63, 64, 65] (by decide +kernel) (by decide +kernel)
set_option maxRecDepth 20000 in
theorem gX11_setCapacity_X11_set : GoodIn wsX11_setCapacity (wsV RX11 418 RX11 yX11_set wsX11_set) := goodIn_app (goodIn_of _ (by decide +kernel)) ggX11_setCapacity_X11_set
theorem dX11_setCapacity_0 : decode cX11_setCapacity 0 = .ok (.aload_n 0, 1) := by decide +kernel
theorem dX11_setCapacity_1 : decode cX11_setCapacity 1 = .ok (.iload_n 1, 1) := by decide +kernel
theorem dX11_setCapacity_2 : decode cX11_setCapacity 2 = .ok (.i2l, 1) := by decide +kernel
theorem dX11_setCapacity_3 : decode cX11_setCapacity 3 = .ok (.lconst 0, 1) := by decide +kernel
theorem dX11_setCapacity_4 : decode cX11_setCapacity 4 = .ok (.ldc2_w 404, 3) := by decide +kernel
theorem dX11_setCapacity_7 : decode cX11_setCapacity 7 = .ok (.invokestatic 87, 3) := by decide +kernel
theorem dX11_setCapacity_10 : decode cX11_setCapacity 10 = .ok (.invokevirtual 235, 3) := by decide +kernel
theorem dX11_setCapacity_13 : decode cX11_setCapacity 13 = .ok (.ifCond .eq 12, 3) := by decide +kernel
theorem dX11_setCapacity_16 : decode cX11_setCapacity 16 = .ok (.aload_n 0, 1) := by decide +kernel
theorem dX11_setCapacity_17 : decode cX11_setCapacity 17 = .ok (.iconst 1, 1) := by decide +kernel
theorem dX11_setCapacity_18 : decode cX11_setCapacity 18 = .ok (.iload_n 1, 1) := by decide +kernel
theorem dX11_setCapacity_19 : decode cX11_setCapacity 19 = .ok (.invokevirtual 418, 3) := by decide +kernel
theorem dX11_setCapacity_22 : decode cX11_setCapacity 22 = .ok (.goto 4, 3) := by decide +kernel
theorem dX11_setCapacity_25 : decode cX11_setCapacity 25 = .ok (.iconst 0, 1) := by decide +kernel
theorem dX11_setCapacity_26 : decode cX11_setCapacity 26 = .ok (.ireturn, 1) := by decide +kernel
set_option maxRecDepth 20000 in
theorem ggX11_setLimit_X11_in : GoodIn wsX11_setLimit wsX11_in := goodIn_r _ [5] (by decide +kernel) (by decide +kernel)
set_option maxRecDepth 20000 in
theorem gX11_setLimit_X11_in : GoodIn wsX11_setLimit (va_wsS RX11 87 yX11_in wsX11_in) := goodIn_app (goodIn_of _ (by decide +kernel)) ggX11_setLimit_X11_in
set_option maxRecDepth 20000 in
theorem ggX11_setLimit_X11_passes : GoodIn wsX11_setLimit wsX11_passes := goodIn_r _ [9, 10, 11, 12, 4, 13, 14, 26, 27, 28, 29, 30, 31, 32, 33, 34, 35, 36, 37, 38, 39, 40, 41, 42, 43, 44, 45, 46, 47, 48, 49, 50, 51, 52, 53, 54, 55, 56, 57, 58, 59, 60, 61, 62, 63, 64, 65] (by decide +kernel) (by decide +kernel)
set_option maxRecDepth 20000 in
theorem gX11_setLimit_X11_passes : GoodIn wsX11_setLimit (wsV RX11 235 RX11 yX11_passes wsX11_passes) := goodIn_app (goodIn_of _ (by decide +kernel)) ggX11_setLimit_X11_passes
set_option maxRecDepth 20000 in
theorem ggX11_setLimit_X11_set : GoodIn wsX11_setLimit wsX11_set := goodIn_r _ [18, 19, 20, 21, 22, 4, 23, 24, 25, 26, 27, 28, 29, 30, 31, 32, 33, 34, 35, 36, 37, 38, 39, 40, 41, 42, 43, 44, 45, 46, 47, 48, 49, 50, 51, 52, 53, 54, 55, 56, 57, 58, 59, 60, 61, 62, 63, 64, 65] (by decide +kernel) (by decide +kernel)
set_option maxRecDepth 20000 in
theorem gX11_setLimit_X11_set : GoodIn wsX11_setLimit (wsV RX11 418 RX11 yX11_set wsX11_set) := goodIn_app (goodIn_of _ (by decide +kernel)) ggX11_setLimit_X11_set
theorem dX11_setLimit_0 : decode cX11_setLimit 0 = .ok (.aload_n 0, 1) := by decide +kernel
theorem dX11_setLimit_1 : decode cX11_setLimit 1 = .ok (.iload_n 1, 1) := by decide +kernel
theorem dX11_setLimit_2 : decode cX11_setLimit 2 = .ok (.i2l, 1) := by decide +kernel
theorem dX11_setLimit_3 : decode cX11_setLimit 3 = .ok (.lconst 0, 1) := by decide +kernel
theorem dX11_setLimit_4 : decode cX11_setLimit 4 = .ok (.ldc2_w 421, 3) := by decide +kernel
theorem dX11_setLimit_7 : decode cX11_setLimit 7 = .ok (.invokestatic 87, 3) := by decide +kernel
theorem dX11_setLimit_10 : decode cX11_setLimit 10 = .ok (.invokevirtual 235, 3) := by decide +kernel
theorem dX11_setLimit_13 : decode cX11_setLimit 13 = .ok (.ifCond .eq 12, 3) := by decide +kernel
theorem dX11_setLimit_16 : decode cX11_setLimit 16 = .ok (.aload_n 0, 1) := by decide +kernel
theorem dX11_setLimit_17 : decode cX11_setLimit 17 = .ok (.iconst 2, 1) := by decide +kernel
theorem dX11_setLimit_18 : decode cX11_setLimit 18 = .ok (.iload_n 1, 1) := by decide +kernel
theorem dX11_setLimit_19 : decode cX11_setLimit 19 = .ok (.invokevirtual 418, 3) := by decide +kernel
theorem dX11_setLimit_22 : decode cX11_setLimit 22 = .ok (.goto 4, 3) := by decide +kernel
theorem dX11_setLimit_25 : decode cX11_setLimit 25 = .ok (.iconst 0, 1) := by decide +kernel
theorem dX11_setLimit_26 : decode cX11_setLimit 26 = .ok (.ireturn, 1) := by decide +kernel
theorem dX11_turned_0 : decode cX11_turned 0 = .ok (.iload_n 2, 1) := by decide +kernel
theorem dX11_turned_1 : decode cX11_turned 1 = .ok (.ifCond .eq 11, 3) := by decide +kernel
theorem dX11_turned_4 : decode cX11_turned 4 = .ok (.iload_n 0, 1) := by decide +kernel
theorem dX11_turned_5 : decode cX11_turned 5 = .ok (.iconst 1, 1) := by decide +kernel
theorem dX11_turned_6 : decode cX11_turned 6 = .ok (.iload_n 1, 1) := by decide +kernel
theorem dX11_turned_7 : decode cX11_turned 7 = .ok (.ishl, 1) := by decide +kernel
theorem dX11_turned_8 : decode cX11_turned 8 = .ok (.ior, 1) := by decide +kernel
theorem dX11_turned_9 : decode cX11_turned 9 = .ok (.goto 10, 3) := by decide +kernel
theorem dX11_turned_12 : decode cX11_turned 12 = .ok (.iload_n 0, 1) := by decide +kernel
theorem dX11_turned_13 : decode cX11_turned 13 = .ok (.iconst 1, 1) := by decide +kernel
theorem dX11_turned_14 : decode cX11_turned 14 = .ok (.iload_n 1, 1) := by decide +kernel
theorem dX11_turned_15 : decode cX11_turned 15 = .ok (.ishl, 1) := by decide +kernel
theorem dX11_turned_16 : decode cX11_turned 16 = .ok (.iconst (-1), 1) := by decide +kernel
theorem dX11_turned_17 : decode cX11_turned 17 = .ok (.ixor, 1) := by decide +kernel
theorem dX11_turned_18 : decode cX11_turned 18 = .ok (.iand, 1) := by decide +kernel
theorem dX11_turned_19 : decode cX11_turned 19 = .ok (.ireturn, 1) := by decide +kernel
set_option maxRecDepth 20000 in
theorem ggX11_arePair_X11_isItem : GoodIn wsX11_arePair wsX11_isItem := goodIn_r _ [5, 6, 7, 8, 4, 9, 10, 11, 12, 13, 19, 20, 21, 22, 23, 24, 25, 26, 27, 28, 29, 30, 31, 32, 33, 34, 35, 36, 37, 38, 39, 40, 41, 42, 43, 44, 45, 46, 47, 48, 49, 50, 51, 52, 53, 54, 55, 56, 57, 58] (by decide +kernel) (by decide +kernel)
set_option maxRecDepth 20000 in
theorem gX11_arePair_X11_isItem : GoodIn wsX11_arePair (wsV RX11 359 RX11 yX11_isItem wsX11_isItem) := goodIn_app (goodIn_of _ (by decide +kernel)) ggX11_arePair_X11_isItem
set_option maxRecDepth 20000 in
theorem ggX11_arePair_X11_passes2 : GoodIn wsX11_arePair wsX11_passes2 := goodIn_r _ [17, 18, 19, 20, 21, 22, 23, 24, 25, 26, 27, 28, 29, 30, 31, 32, 33, 34, 35, 36, 37, 38, 39, 40, 41, 42, 43, 44, 45, 46, 47, 48, 49, 50, 51, 52, 53, 54, 55, 56, 57, 58] (by decide +kernel) (by decide +kernel)
set_option maxRecDepth 20000 in
theorem gX11_arePair_X11_passes2 : GoodIn wsX11_arePair (wsV RX11 7 RX11 yX11_passes2 wsX11_passes2) := goodIn_app (goodIn_of _ (by decide +kernel)) ggX11_arePair_X11_passes2
theorem dX11_arePair_0 : decode cX11_arePair 0 = .ok (.aload_n 0, 1) := by decide +kernel
theorem dX11_arePair_1 : decode cX11_arePair 1 = .ok (.aload_n 0, 1) := by decide +kernel
theorem dX11_arePair_2 : decode cX11_arePair 2 = .ok (.iload_n 1, 1) := by decide +kernel
theorem dX11_arePair_3 : decode cX11_arePair 3 = .ok (.invokevirtual 359, 3) := by decide +kernel
theorem dX11_arePair_6 : decode cX11_arePair 6 = .ok (.ifCond .eq 15, 3) := by decide +kernel
theorem dX11_arePair_9 : decode cX11_arePair 9 = .ok (.aload_n 0, 1) := by decide +kernel
theorem dX11_arePair_10 : decode cX11_arePair 10 = .ok (.iload_n 2, 1) := by decide +kernel
theorem dX11_arePair_11 : decode cX11_arePair 11 = .ok (.invokevirtual 359, 3) := by decide +kernel
theorem dX11_arePair_14 : decode cX11_arePair 14 = .ok (.ifCond .eq 7, 3) := by decide +kernel
theorem dX11_arePair_17 : decode cX11_arePair 17 = .ok (.iconst 1, 1) := by decide +kernel
theorem dX11_arePair_18 : decode cX11_arePair 18 = .ok (.goto 4, 3) := by decide +kernel
theorem dX11_arePair_21 : decode cX11_arePair 21 = .ok (.iconst 0, 1) := by decide +kernel
theorem dX11_arePair_22 : decode cX11_arePair 22 = .ok (.iload_n 1, 1) := by decide +kernel
theorem dX11_arePair_23 : decode cX11_arePair 23 = .ok (.iload_n 2, 1) := by decide +kernel
theorem dX11_arePair_24 : decode cX11_arePair 24 = .ok (.if_icmp .eq 7, 3) := by decide +kernel
theorem dX11_arePair_27 : decode cX11_arePair 27 = .ok (.iconst 1, 1) := by decide +kernel
theorem dX11_arePair_28 : decode cX11_arePair 28 = .ok (.goto 4, 3) := by decide +kernel
theorem dX11_arePair_31 : decode cX11_arePair 31 = .ok (.iconst 0, 1) := by decide +kernel
theorem dX11_arePair_32 : decode cX11_arePair 32 = .ok (.invokevirtual 7, 3) := by decide +kernel
theorem dX11_arePair_35 : decode cX11_arePair 35 = .ok (.ireturn, 1) := by decide +kernel
set_option maxRecDepth 20000 in
theorem ggX11_bar_X11_arePair : GoodIn wsX11_bar wsX11_arePair := goodIn_r _ [5, 6, 7, 8, 4, 9, 10, 11, 12, 13, 14, 15, 16, 17, 18, 19, 20, 21, 22, 44, 45, 46, 47, 48, 49, 50, 51, 52, 53, 54, 55, 56, 57, 58, 59, 60, 61, 62, 63, 64, 65, 66, 67, 68, 69, 70, 71, 72, 73, 74, 75, 76, 77, 78, 79, 80, 81, 82, 83] (by decide +kernel) (by decide +kernel)
set_option maxRecDepth 20000 in
theorem gX11_bar_X11_arePair : GoodIn wsX11_bar (wsV RX11 423 RX11 yX11_arePair wsX11_arePair) := goodIn_app (goodIn_of _ (by decide +kernel)) ggX11_bar_X11_arePair
set_option maxRecDepth 20000 in
theorem ggX11_bar_X11_remember : GoodIn wsX11_bar wsX11_remember := goodIn_r _ [26, 27, 28, 29, 44, 45, 46, 47, 48, 49, 50, 51, 52, 53, 54, 55, 56, 57, 58, 59, 60, 61, 62, 63, 64, 65, 66, 67, 68, 69, 70, 71, 72, 73, 74, 75, 76, 77, 78, 79, 80, 81, 82, 83] (by decide +kernel) (by decide +kernel)
set_option maxRecDepth 20000 in
theorem gX11_bar_X11_remember : GoodIn wsX11_bar (wsV RX11 351 RX11 yX11_remember wsX11_remember) := goodIn_app (goodIn_of _ (by decide +kernel)) ggX11_bar_X11_remember
set_option maxRecDepth 20000 in
theorem ggX11_bar_X11_ofItem : GoodIn wsX11_bar wsX11_ofItem := goodIn_r _ [33, 14, 44, 45, 46, 47, 48, 49, 50, 51, 52, 53, 54, 55, 56, 57, 58, 59, 60, 61, 62, 63, 64, 65, 66, 67, 68, 69, 70, 71, 72, 73, 74, 75, 76, 77, 78, 79, 80, 81, 82, 83] (by decide +kernel) (by decide +kernel)
set_option maxRecDepth 20000 in
theorem gX11_bar_X11_ofItem : GoodIn wsX11_bar (wsV RX11 98 RX11 yX11_ofItem wsX11_ofItem) := goodIn_app (goodIn_of _ (by decide +kernel)) ggX11_bar_X11_ofItem
set_option maxRecDepth 20000 in
theorem ggX11_bar_X11_has : GoodIn wsX11_bar wsX11_has := goodIn_r _ [36] (by decide +kernel) (by decide +kernel)
set_option maxRecDepth 20000 in
theorem gX11_bar_X11_has : GoodIn wsX11_bar (va_wsS RX11 94 yX11_has wsX11_has) := goodIn_app (goodIn_of _ (by decide +kernel)) ggX11_bar_X11_has
set_option maxRecDepth 20000 in
theorem ggX11_bar_X11_turned : GoodIn wsX11_bar wsX11_turned := goodIn_r _ [39] (by decide +kernel) (by decide +kernel)
set_option maxRecDepth 20000 in
theorem gX11_bar_X11_turned : GoodIn wsX11_bar (va_wsS RX11 426 yX11_turned wsX11_turned) := goodIn_app (goodIn_of _ (by decide +kernel)) ggX11_bar_X11_turned
set_option maxRecDepth 20000 in
theorem ggX11_bar_X11_put : GoodIn wsX11_bar wsX11_put := goodIn_r _ [43, 14, 44, 45, 46, 47, 48, 49, 50, 51, 52, 53, 54, 55, 56, 57, 58, 59, 60, 61, 62, 63, 64, 65, 66, 67, 68, 69, 70, 71, 72, 73, 74, 75, 76, 77, 78, 79, 80, 81, 82, 83] (by decide +kernel) (by decide +kernel)
set_option maxRecDepth 20000 in
theorem gX11_bar_X11_put : GoodIn wsX11_bar (wsV RX11 320 RX11 yX11_put wsX11_put) := goodIn_app (goodIn_of _ (by decide +kernel)) ggX11_bar_X11_put
theorem dX11_bar_0 : decode cX11_bar 0 = .ok (.aload_n 0, 1) := by decide +kernel
theorem dX11_bar_1 : decode cX11_bar 1 = .ok (.iload_n 1, 1) := by decide +kernel
theorem dX11_bar_2 : decode cX11_bar 2 = .ok (.iload_n 2, 1) := by decide +kernel
theorem dX11_bar_3 : decode cX11_bar 3 = .ok (.invokevirtual 423, 3) := by decide +kernel
theorem dX11_bar_6 : decode cX11_bar 6 = .ok (.ifCond .ne 5, 3) := by decide +kernel
theorem dX11_bar_9 : decode cX11_bar 9 = .ok (.iconst 0, 1) := by decide +kernel
theorem dX11_bar_10 : decode cX11_bar 10 = .ok (.ireturn, 1) := by decide +kernel
theorem dX11_bar_11 : decode cX11_bar 11 = .ok (.aload_n 0, 1) := by decide +kernel
theorem dX11_bar_12 : decode cX11_bar 12 = .ok (.invokevirtual 351, 3) := by decide +kernel
theorem dX11_bar_15 : decode cX11_bar 15 = .ok (.aload_n 0, 1) := by decide +kernel
theorem dX11_bar_16 : decode cX11_bar 16 = .ok (.iload_n 1, 1) := by decide +kernel
theorem dX11_bar_17 : decode cX11_bar 17 = .ok (.iconst 3, 1) := by decide +kernel
theorem dX11_bar_18 : decode cX11_bar 18 = .ok (.invokevirtual 98, 3) := by decide +kernel
theorem dX11_bar_21 : decode cX11_bar 21 = .ok (.iload_n 2, 1) := by decide +kernel
theorem dX11_bar_22 : decode cX11_bar 22 = .ok (.invokestatic 94, 3) := by decide +kernel
theorem dX11_bar_25 : decode cX11_bar 25 = .ok (.istore 4, 2) := by decide +kernel
theorem dX11_bar_27 : decode cX11_bar 27 = .ok (.aload_n 0, 1) := by decide +kernel
theorem dX11_bar_28 : decode cX11_bar 28 = .ok (.iload_n 1, 1) := by decide +kernel
theorem dX11_bar_29 : decode cX11_bar 29 = .ok (.iconst 3, 1) := by decide +kernel
theorem dX11_bar_30 : decode cX11_bar 30 = .ok (.aload_n 0, 1) := by decide +kernel
theorem dX11_bar_31 : decode cX11_bar 31 = .ok (.iload_n 1, 1) := by decide +kernel
theorem dX11_bar_32 : decode cX11_bar 32 = .ok (.iconst 3, 1) := by decide +kernel
theorem dX11_bar_33 : decode cX11_bar 33 = .ok (.invokevirtual 98, 3) := by decide +kernel
theorem dX11_bar_36 : decode cX11_bar 36 = .ok (.iload_n 2, 1) := by decide +kernel
theorem dX11_bar_37 : decode cX11_bar 37 = .ok (.iload_n 3, 1) := by decide +kernel
theorem dX11_bar_38 : decode cX11_bar 38 = .ok (.invokestatic 426, 3) := by decide +kernel
theorem dX11_bar_41 : decode cX11_bar 41 = .ok (.invokevirtual 320, 3) := by decide +kernel
theorem dX11_bar_44 : decode cX11_bar 44 = .ok (.aload_n 0, 1) := by decide +kernel
theorem dX11_bar_45 : decode cX11_bar 45 = .ok (.iload_n 2, 1) := by decide +kernel
theorem dX11_bar_46 : decode cX11_bar 46 = .ok (.iconst 3, 1) := by decide +kernel
theorem dX11_bar_47 : decode cX11_bar 47 = .ok (.aload_n 0, 1) := by decide +kernel
theorem dX11_bar_48 : decode cX11_bar 48 = .ok (.iload_n 2, 1) := by decide +kernel
theorem dX11_bar_49 : decode cX11_bar 49 = .ok (.iconst 3, 1) := by decide +kernel
theorem dX11_bar_50 : decode cX11_bar 50 = .ok (.invokevirtual 98, 3) := by decide +kernel
theorem dX11_bar_53 : decode cX11_bar 53 = .ok (.iload_n 1, 1) := by decide +kernel
theorem dX11_bar_54 : decode cX11_bar 54 = .ok (.iload_n 3, 1) := by decide +kernel
theorem dX11_bar_55 : decode cX11_bar 55 = .ok (.invokestatic 426, 3) := by decide +kernel
theorem dX11_bar_58 : decode cX11_bar 58 = .ok (.invokevirtual 320, 3) := by decide +kernel
theorem dX11_bar_61 : decode cX11_bar 61 = .ok (.iload 4, 2) := by decide +kernel
theorem dX11_bar_63 : decode cX11_bar 63 = .ok (.ireturn, 1) := by decide +kernel
set_option maxRecDepth 20000 in
theorem ggX11_need_X11_arePair : GoodIn wsX11_need wsX11_arePair := goodIn_r _ [5, 6, 7, 8, 4, 9, 10, 11, 12, 13, 14, 15, 16, 17, 18, 19, 20, 21, 22, 44, 45, 46, 47, 48, 49, 50, 51, 52, 53, 54, 55, 56, 57, 58, 59, 60, 61, 62, 63, 64, 65, 66, 67, 68, 69, 70, 71, 72, 73, 74, 75, 76, 77, 78, 79, 80, 81, 82, 83] (by decide +kernel) (by decide +kernel)
set_option maxRecDepth 20000 in
theorem gX11_need_X11_arePair : GoodIn wsX11_need (wsV RX11 423 RX11 yX11_arePair wsX11_arePair) := goodIn_app (goodIn_of _ (by decide +kernel)) ggX11_need_X11_arePair
set_option maxRecDepth 20000 in
theorem ggX11_need_X11_remember : GoodIn wsX11_need wsX11_remember := goodIn_r _ [26, 27, 28, 29, 44, 45, 46, 47, 48, 49, 50, 51, 52, 53, 54, 55, 56, 57, 58, 59, 60, 61, 62, 63, 64, 65, 66, 67, 68, 69, 70, 71, 72, 73, 74, 75, 76, 77, 78, 79, 80, 81, 82, 83] (by decide +kernel) (by decide +kernel)
set_option maxRecDepth 20000 in
theorem gX11_need_X11_remember : GoodIn wsX11_need (wsV RX11 351 RX11 yX11_remember wsX11_remember) := goodIn_app (goodIn_of _ (by decide +kernel)) ggX11_need_X11_remember
set_option maxRecDepth 20000 in
theorem ggX11_need_X11_ofItem : GoodIn wsX11_need wsX11_ofItem := goodIn_r _ [33, 14, 44, 45, 46, 47, 48, 49, 50, 51, 52, 53, 54, 55, 56, 57, 58, 59, 60, 61, 62, 63, 64, 65, 66, 67, 68, 69, 70, 71, 72, 73, 74, 75, 76, 77, 78, 79, 80, 81, 82, 83] (by decide +kernel) (by decide +kernel)
set_option maxRecDepth 20000 in
theorem gX11_need_X11_ofItem : GoodIn wsX11_need (wsV RX11 98 RX11 yX11_ofItem wsX11_ofItem) := goodIn_app (goodIn_of _ (by decide +kernel)) ggX11_need_X11_ofItem
set_option maxRecDepth 20000 in
theorem ggX11_need_X11_has : GoodIn wsX11_need wsX11_has := goodIn_r _ [36] (by decide +kernel) (by decide +kernel)
set_option maxRecDepth 20000 in
theorem gX11_need_X11_has : GoodIn wsX11_need (va_wsS RX11 94 yX11_has wsX11_has) := goodIn_app (goodIn_of _ (by decide +kernel)) ggX11_need_X11_has
set_option maxRecDepth 20000 in
theorem ggX11_need_X11_turned : GoodIn wsX11_need wsX11_turned := goodIn_r _ [39] (by decide +kernel) (by decide +kernel)
set_option maxRecDepth 20000 in
theorem gX11_need_X11_turned : GoodIn wsX11_need (va_wsS RX11 426 yX11_turned wsX11_turned) := goodIn_app (goodIn_of _ (by decide +kernel)) ggX11_need_X11_turned
set_option maxRecDepth 20000 in
theorem ggX11_need_X11_put : GoodIn wsX11_need wsX11_put := goodIn_r _ [43, 14, 44, 45, 46, 47, 48, 49, 50, 51, 52, 53, 54, 55, 56, 57, 58, 59, 60, 61, 62, 63, 64, 65, 66, 67, 68, 69, 70, 71, 72, 73, 74, 75, 76, 77, 78, 79, 80, 81, 82, 83] (by decide +kernel) (by decide +kernel)
set_option maxRecDepth 20000 in
theorem gX11_need_X11_put : GoodIn wsX11_need (wsV RX11 320 RX11 yX11_put wsX11_put) := goodIn_app (goodIn_of _ (by decide +kernel)) ggX11_need_X11_put
theorem dX11_need_0 : decode cX11_need 0 = .ok (.aload_n 0, 1) := by decide +kernel
theorem dX11_need_1 : decode cX11_need 1 = .ok (.iload_n 1, 1) := by decide +kernel
theorem dX11_need_2 : decode cX11_need 2 = .ok (.iload_n 2, 1) := by decide +kernel
theorem dX11_need_3 : decode cX11_need 3 = .ok (.invokevirtual 423, 3) := by decide +kernel
theorem dX11_need_6 : decode cX11_need 6 = .ok (.ifCond .ne 5, 3) := by decide +kernel
theorem dX11_need_9 : decode cX11_need 9 = .ok (.iconst 0, 1) := by decide +kernel
theorem dX11_need_10 : decode cX11_need 10 = .ok (.ireturn, 1) := by decide +kernel
theorem dX11_need_11 : decode cX11_need 11 = .ok (.aload_n 0, 1) := by decide +kernel
theorem dX11_need_12 : decode cX11_need 12 = .ok (.invokevirtual 351, 3) := by decide +kernel
theorem dX11_need_15 : decode cX11_need 15 = .ok (.aload_n 0, 1) := by decide +kernel
theorem dX11_need_16 : decode cX11_need 16 = .ok (.iload_n 1, 1) := by decide +kernel
theorem dX11_need_17 : decode cX11_need 17 = .ok (.iconst 4, 1) := by decide +kernel
theorem dX11_need_18 : decode cX11_need 18 = .ok (.invokevirtual 98, 3) := by decide +kernel
theorem dX11_need_21 : decode cX11_need 21 = .ok (.iload_n 2, 1) := by decide +kernel
theorem dX11_need_22 : decode cX11_need 22 = .ok (.invokestatic 94, 3) := by decide +kernel
theorem dX11_need_25 : decode cX11_need 25 = .ok (.istore 4, 2) := by decide +kernel
theorem dX11_need_27 : decode cX11_need 27 = .ok (.aload_n 0, 1) := by decide +kernel
theorem dX11_need_28 : decode cX11_need 28 = .ok (.iload_n 1, 1) := by decide +kernel
theorem dX11_need_29 : decode cX11_need 29 = .ok (.iconst 4, 1) := by decide +kernel
theorem dX11_need_30 : decode cX11_need 30 = .ok (.aload_n 0, 1) := by decide +kernel
theorem dX11_need_31 : decode cX11_need 31 = .ok (.iload_n 1, 1) := by decide +kernel
theorem dX11_need_32 : decode cX11_need 32 = .ok (.iconst 4, 1) := by decide +kernel
theorem dX11_need_33 : decode cX11_need 33 = .ok (.invokevirtual 98, 3) := by decide +kernel
theorem dX11_need_36 : decode cX11_need 36 = .ok (.iload_n 2, 1) := by decide +kernel
theorem dX11_need_37 : decode cX11_need 37 = .ok (.iload_n 3, 1) := by decide +kernel
theorem dX11_need_38 : decode cX11_need 38 = .ok (.invokestatic 426, 3) := by decide +kernel
theorem dX11_need_41 : decode cX11_need 41 = .ok (.invokevirtual 320, 3) := by decide +kernel
theorem dX11_need_44 : decode cX11_need 44 = .ok (.iload 4, 2) := by decide +kernel
theorem dX11_need_46 : decode cX11_need 46 = .ok (.ireturn, 1) := by decide +kernel
set_option maxRecDepth 20000 in
theorem ggX11_must_X11_isItem : GoodIn wsX11_must wsX11_isItem := goodIn_r _ [6, 7, 8, 9, 5, 10, 11, 12, 13, 14, 40, 41, 42, 43, 44, 45, 46, 47, 48, 49, 50, 51, 52, 53, 54, 55, 56, 57, 58, 59, 60, 61, 62, 63, 64, 65, 66, 67, 68, 69, 70, 71, 72, 73, 74, 75, 76, 77, 78, 79] (by decide +kernel) (by decide +kernel)
set_option maxRecDepth 20000 in
theorem gX11_must_X11_isItem : GoodIn wsX11_must (wsV RX11 359 RX11 yX11_isItem wsX11_isItem) := goodIn_app (goodIn_of _ (by decide +kernel)) ggX11_must_X11_isItem
set_option maxRecDepth 20000 in
theorem ggX11_must_X11_passes : GoodIn wsX11_must wsX11_passes := goodIn_r _ [18, 19, 20, 21, 5, 22, 23, 40, 41, 42, 43, 44, 45, 46, 47, 48, 49, 50, 51, 52, 53, 54, 55, 56, 57, 58, 59, 60, 61, 62, 63, 64, 65, 66, 67, 68, 69, 70, 71, 72, 73, 74, 75, 76, 77, 78, 79] (by decide +kernel) (by decide +kernel)
set_option maxRecDepth 20000 in
theorem gX11_must_X11_passes : GoodIn wsX11_must (wsV RX11 235 RX11 yX11_passes wsX11_passes) := goodIn_app (goodIn_of _ (by decide +kernel)) ggX11_must_X11_passes
set_option maxRecDepth 20000 in
theorem ggX11_must_X11_turned : GoodIn wsX11_must wsX11_turned := goodIn_r _ [26] (by decide +kernel) (by decide +kernel)
set_option maxRecDepth 20000 in
theorem gX11_must_X11_turned : GoodIn wsX11_must (va_wsS RX11 426 yX11_turned wsX11_turned) := goodIn_app (goodIn_of _ (by decide +kernel)) ggX11_must_X11_turned
set_option maxRecDepth 20000 in
theorem ggX11_must_X11_set : GoodIn wsX11_must wsX11_set := goodIn_r _ [30, 1, 31, 32, 33, 5, 34, 35, 36, 40, 41, 42, 43, 44, 45, 46, 47, 48, 49, 50, 51, 52, 53, 54, 55, 56, 57, 58, 59, 60, 61, 62, 63, 64, 65, 66, 67, 68, 69, 70, 71, 72, 73, 74, 75, 76, 77, 78, 79] (by decide +kernel) (by decide +kernel)
set_option maxRecDepth 20000 in
theorem gX11_must_X11_set : GoodIn wsX11_must (wsV RX11 418 RX11 yX11_set wsX11_set) := goodIn_app (goodIn_of _ (by decide +kernel)) ggX11_must_X11_set
set_option maxRecDepth 20000 in
theorem ggX11_must_X11_has : GoodIn wsX11_must wsX11_has := goodIn_r _ [39] (by decide +kernel) (by decide +kernel)
set_option maxRecDepth 20000 in
theorem gX11_must_X11_has : GoodIn wsX11_must (va_wsS RX11 94 yX11_has wsX11_has) := goodIn_app (goodIn_of _ (by decide +kernel)) ggX11_must_X11_has
theorem dX11_must_0 : decode cX11_must 0 = .ok (.aload_n 0, 1) := by decide +kernel
theorem dX11_must_1 : decode cX11_must 1 = .ok (.aload_n 0, 1) := by decide +kernel
theorem dX11_must_2 : decode cX11_must 2 = .ok (.iload_n 1, 1) := by decide +kernel
theorem dX11_must_3 : decode cX11_must 3 = .ok (.invokevirtual 359, 3) := by decide +kernel
theorem dX11_must_6 : decode cX11_must 6 = .ok (.invokevirtual 235, 3) := by decide +kernel
theorem dX11_must_9 : decode cX11_must 9 = .ok (.ifCond .eq 30, 3) := by decide +kernel
theorem dX11_must_12 : decode cX11_must 12 = .ok (.aload_n 0, 1) := by decide +kernel
theorem dX11_must_13 : decode cX11_must 13 = .ok (.iconst 3, 1) := by decide +kernel
theorem dX11_must_14 : decode cX11_must 14 = .ok (.aload_n 0, 1) := by decide +kernel
theorem dX11_must_15 : decode cX11_must 15 = .ok (.getfield 17, 3) := by decide +kernel
theorem dX11_must_18 : decode cX11_must 18 = .ok (.iconst 3, 1) := by decide +kernel
theorem dX11_must_19 : decode cX11_must 19 = .ok (.iaload, 1) := by decide +kernel
theorem dX11_must_20 : decode cX11_must 20 = .ok (.iload_n 1, 1) := by decide +kernel
theorem dX11_must_21 : decode cX11_must 21 = .ok (.iload_n 2, 1) := by decide +kernel
theorem dX11_must_22 : decode cX11_must 22 = .ok (.invokestatic 426, 3) := by decide +kernel
theorem dX11_must_25 : decode cX11_must 25 = .ok (.invokevirtual 418, 3) := by decide +kernel
theorem dX11_must_28 : decode cX11_must 28 = .ok (.iload_n 1, 1) := by decide +kernel
theorem dX11_must_29 : decode cX11_must 29 = .ok (.invokestatic 94, 3) := by decide +kernel
theorem dX11_must_32 : decode cX11_must 32 = .ok (.ifCond .eq 7, 3) := by decide +kernel
theorem dX11_must_35 : decode cX11_must 35 = .ok (.iconst 1, 1) := by decide +kernel
theorem dX11_must_36 : decode cX11_must 36 = .ok (.goto 4, 3) := by decide +kernel
theorem dX11_must_39 : decode cX11_must 39 = .ok (.iconst 0, 1) := by decide +kernel
theorem dX11_must_40 : decode cX11_must 40 = .ok (.ireturn, 1) := by decide +kernel
set_option maxRecDepth 20000 in
theorem ggX11_never_X11_isItem : GoodIn wsX11_never wsX11_isItem := goodIn_r _ [6, 7, 8, 9, 5, 10, 11, 12, 13, 14, 40, 41, 42, 43, 44, 45, 46, 47, 48, 49, 50, 51, 52, 53, 54, 55, 56, 57, 58, 59, 60, 61, 62, 63, 64, 65, 66, 67, 68, 69, 70, 71, 72, 73, 74, 75, 76, 77, 78, 79] (by decide +kernel) (by decide +kernel)
set_option maxRecDepth 20000 in
theorem gX11_never_X11_isItem : GoodIn wsX11_never (wsV RX11 359 RX11 yX11_isItem wsX11_isItem) := goodIn_app (goodIn_of _ (by decide +kernel)) ggX11_never_X11_isItem
set_option maxRecDepth 20000 in
theorem ggX11_never_X11_passes : GoodIn wsX11_never wsX11_passes := goodIn_r _ [18, 19, 20, 21, 5, 22, 23, 40, 41, 42, 43, 44, 45, 46, 47, 48, 49, 50, 51, 52, 53, 54, 55, 56, 57, 58, 59, 60, 61, 62, 63, 64, 65, 66, 67, 68, 69, 70, 71, 72, 73, 74, 75, 76, 77, 78, 79] (by decide +kernel) (by decide +kernel)
set_option maxRecDepth 20000 in
theorem gX11_never_X11_passes : GoodIn wsX11_never (wsV RX11 235 RX11 yX11_passes wsX11_passes) := goodIn_app (goodIn_of _ (by decide +kernel)) ggX11_never_X11_passes
set_option maxRecDepth 20000 in
theorem ggX11_never_X11_turned : GoodIn wsX11_never wsX11_turned := goodIn_r _ [26] (by decide +kernel) (by decide +kernel)
set_option maxRecDepth 20000 in
theorem gX11_never_X11_turned : GoodIn wsX11_never (va_wsS RX11 426 yX11_turned wsX11_turned) := goodIn_app (goodIn_of _ (by decide +kernel)) ggX11_never_X11_turned
set_option maxRecDepth 20000 in
theorem ggX11_never_X11_set : GoodIn wsX11_never wsX11_set := goodIn_r _ [30, 1, 31, 32, 33, 5, 34, 35, 36, 40, 41, 42, 43, 44, 45, 46, 47, 48, 49, 50, 51, 52, 53, 54, 55, 56, 57, 58, 59, 60, 61, 62, 63, 64, 65, 66, 67, 68, 69, 70, 71, 72, 73, 74, 75, 76, 77, 78, 79] (by decide +kernel) (by decide +kernel)
set_option maxRecDepth 20000 in
theorem gX11_never_X11_set : GoodIn wsX11_never (wsV RX11 418 RX11 yX11_set wsX11_set) := goodIn_app (goodIn_of _ (by decide +kernel)) ggX11_never_X11_set
set_option maxRecDepth 20000 in
theorem ggX11_never_X11_has : GoodIn wsX11_never wsX11_has := goodIn_r _ [39] (by decide +kernel) (by decide +kernel)
set_option maxRecDepth 20000 in
theorem gX11_never_X11_has : GoodIn wsX11_never (va_wsS RX11 94 yX11_has wsX11_has) := goodIn_app (goodIn_of _ (by decide +kernel)) ggX11_never_X11_has
theorem dX11_never_0 : decode cX11_never 0 = .ok (.aload_n 0, 1) := by decide +kernel
theorem dX11_never_1 : decode cX11_never 1 = .ok (.aload_n 0, 1) := by decide +kernel
theorem dX11_never_2 : decode cX11_never 2 = .ok (.iload_n 1, 1) := by decide +kernel
theorem dX11_never_3 : decode cX11_never 3 = .ok (.invokevirtual 359, 3) := by decide +kernel
theorem dX11_never_6 : decode cX11_never 6 = .ok (.invokevirtual 235, 3) := by decide +kernel
theorem dX11_never_9 : decode cX11_never 9 = .ok (.ifCond .eq 30, 3) := by decide +kernel
theorem dX11_never_12 : decode cX11_never 12 = .ok (.aload_n 0, 1) := by decide +kernel
theorem dX11_never_13 : decode cX11_never 13 = .ok (.iconst 4, 1) := by decide +kernel
theorem dX11_never_14 : decode cX11_never 14 = .ok (.aload_n 0, 1) := by decide +kernel
theorem dX11_never_15 : decode cX11_never 15 = .ok (.getfield 17, 3) := by decide +kernel
